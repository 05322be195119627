theorem zd_Mo_good_0 : decode zb_Mo_good 0 = .ok (.aload_n 0, 1) := by decide +kernel
theorem zd_Mo_good_1 : decode zb_Mo_good 1 = .ok (.getfield 66, 3) := by decide +kernel
theorem zd_Mo_good_4 : decode zb_Mo_good 4 = .ok (.bipush 8, 2) := by decide +kernel
theorem zd_Mo_good_6 : decode zb_Mo_good 6 = .ok (.if_icmp .ne 5, 3) := by decide +kernel
theorem zd_Mo_good_9 : decode zb_Mo_good 9 = .ok (.iconst (-1), 1) := by decide +kernel
theorem zd_Mo_good_10 : decode zb_Mo_good 10 = .ok (.ireturn, 1) := by decide +kernel
theorem zd_Mo_good_11 : decode zb_Mo_good 11 = .ok (.aload_n 0, 1) := by decide +kernel
theorem zd_Mo_good_12 : decode zb_Mo_good 12 = .ok (.dup, 1) := by decide +kernel
theorem zd_Mo_good_13 : decode zb_Mo_good 13 = .ok (.getfield 66, 3) := by decide +kernel
theorem zd_Mo_good_16 : decode zb_Mo_good 16 = .ok (.iconst 1, 1) := by decide +kernel
theorem zd_Mo_good_17 : decode zb_Mo_good 17 = .ok (.iadd, 1) := by decide +kernel
theorem zd_Mo_good_18 : decode zb_Mo_good 18 = .ok (.putfield 66, 3) := by decide +kernel
theorem zd_Mo_good_21 : decode zb_Mo_good 21 = .ok (.aload_n 0, 1) := by decide +kernel
theorem zd_Mo_good_22 : decode zb_Mo_good 22 = .ok (.getfield 66, 3) := by decide +kernel
theorem zd_Mo_good_25 : decode zb_Mo_good 25 = .ok (.iconst 1, 1) := by decide +kernel
theorem zd_Mo_good_26 : decode zb_Mo_good 26 = .ok (.isub, 1) := by decide +kernel
theorem zd_Mo_good_27 : decode zb_Mo_good 27 = .ok (.ireturn, 1) := by decide +kernel
theorem zd_Mo_isGood_0 : decode zb_Mo_isGood 0 = .ok (.iload_n 1, 1) := by decide +kernel
theorem zd_Mo_isGood_1 : decode zb_Mo_isGood 1 = .ok (.ifCond .lt 15, 3) := by decide +kernel
theorem zd_Mo_isGood_4 : decode zb_Mo_isGood 4 = .ok (.iload_n 1, 1) := by decide +kernel
theorem zd_Mo_isGood_5 : decode zb_Mo_isGood 5 = .ok (.aload_n 0, 1) := by decide +kernel
theorem zd_Mo_isGood_6 : decode zb_Mo_isGood 6 = .ok (.getfield 66, 3) := by decide +kernel
theorem zd_Mo_isGood_9 : decode zb_Mo_isGood 9 = .ok (.if_icmp .ge 7, 3) := by decide +kernel
theorem zd_Mo_isGood_12 : decode zb_Mo_isGood 12 = .ok (.iconst 1, 1) := by decide +kernel
theorem zd_Mo_isGood_13 : decode zb_Mo_isGood 13 = .ok (.goto 4, 3) := by decide +kernel
theorem zd_Mo_isGood_16 : decode zb_Mo_isGood 16 = .ok (.iconst 0, 1) := by decide +kernel
theorem zd_Mo_isGood_17 : decode zb_Mo_isGood 17 = .ok (.ireturn, 1) := by decide +kernel
theorem zd_Mo_isKind_0 : decode zb_Mo_isKind 0 = .ok (.iload_n 0, 1) := by decide +kernel
theorem zd_Mo_isKind_1 : decode zb_Mo_isKind 1 = .ok (.ifCond .lt 12, 3) := by decide +kernel
theorem zd_Mo_isKind_4 : decode zb_Mo_isKind 4 = .ok (.iload_n 0, 1) := by decide +kernel
theorem zd_Mo_isKind_5 : decode zb_Mo_isKind 5 = .ok (.iconst 5, 1) := by decide +kernel
theorem zd_Mo_isKind_6 : decode zb_Mo_isKind 6 = .ok (.if_icmp .ge 7, 3) := by decide +kernel
theorem zd_Mo_isKind_9 : decode zb_Mo_isKind 9 = .ok (.iconst 1, 1) := by decide +kernel
theorem zd_Mo_isKind_10 : decode zb_Mo_isKind 10 = .ok (.goto 4, 3) := by decide +kernel
theorem zd_Mo_isKind_13 : decode zb_Mo_isKind 13 = .ok (.iconst 0, 1) := by decide +kernel
theorem zd_Mo_isKind_14 : decode zb_Mo_isKind 14 = .ok (.ireturn, 1) := by decide +kernel
theorem zd_Mo_isIn_0 : decode zb_Mo_isIn 0 = .ok (.lload_n 0, 1) := by decide +kernel
theorem zd_Mo_isIn_1 : decode zb_Mo_isIn 1 = .ok (.lload_n 2, 1) := by decide +kernel
theorem zd_Mo_isIn_2 : decode zb_Mo_isIn 2 = .ok (.lcmp, 1) := by decide +kernel
theorem zd_Mo_isIn_3 : decode zb_Mo_isIn 3 = .ok (.ifCond .lt 14, 3) := by decide +kernel
theorem zd_Mo_isIn_6 : decode zb_Mo_isIn 6 = .ok (.lload_n 0, 1) := by decide +kernel
theorem zd_Mo_isIn_7 : decode zb_Mo_isIn 7 = .ok (.lload 4, 2) := by decide +kernel
theorem zd_Mo_isIn_9 : decode zb_Mo_isIn 9 = .ok (.lcmp, 1) := by decide +kernel
theorem zd_Mo_isIn_10 : decode zb_Mo_isIn 10 = .ok (.ifCond .gt 7, 3) := by decide +kernel
theorem zd_Mo_isIn_13 : decode zb_Mo_isIn 13 = .ok (.iconst 1, 1) := by decide +kernel
theorem zd_Mo_isIn_14 : decode zb_Mo_isIn 14 = .ok (.goto 4, 3) := by decide +kernel
theorem zd_Mo_isIn_17 : decode zb_Mo_isIn 17 = .ok (.iconst 0, 1) := by decide +kernel
theorem zd_Mo_isIn_18 : decode zb_Mo_isIn 18 = .ok (.ireturn, 1) := by decide +kernel
theorem zd_Mo_part_0 : decode zb_Mo_part 0 = .ok (.aload_n 0, 1) := by decide +kernel
theorem zd_Mo_part_1 : decode zb_Mo_part 1 = .ok (.getfield 70, 3) := by decide +kernel
theorem zd_Mo_part_4 : decode zb_Mo_part 4 = .ok (.bipush 24, 2) := by decide +kernel
theorem zd_Mo_part_6 : decode zb_Mo_part 6 = .ok (.if_icmp .eq 42, 3) := by decide +kernel
theorem zd_Mo_part_9 : decode zb_Mo_part 9 = .ok (.aload_n 0, 1) := by decide +kernel
theorem zd_Mo_part_10 : decode zb_Mo_part 10 = .ok (.iload_n 1, 1) := by decide +kernel
theorem zd_Mo_part_11 : decode zb_Mo_part 11 = .ok (.invokevirtual 73, 3) := by decide +kernel
theorem zd_Mo_part_14 : decode zb_Mo_part 14 = .ok (.ifCond .eq 34, 3) := by decide +kernel
theorem zd_Mo_part_17 : decode zb_Mo_part 17 = .ok (.iload_n 2, 1) := by decide +kernel
theorem zd_Mo_part_18 : decode zb_Mo_part 18 = .ok (.invokestatic 77, 3) := by decide +kernel
theorem zd_Mo_part_21 : decode zb_Mo_part 21 = .ok (.ifCond .eq 27, 3) := by decide +kernel
theorem zd_Mo_part_24 : decode zb_Mo_part 24 = .ok (.lload_n 3, 1) := by decide +kernel
theorem zd_Mo_part_25 : decode zb_Mo_part 25 = .ok (.lconst 0, 1) := by decide +kernel
theorem zd_Mo_part_26 : decode zb_Mo_part 26 = .ok (.ldc2_w 80, 3) := by decide +kernel
theorem zd_Mo_part_29 : decode zb_Mo_part 29 = .ok (.invokestatic 82, 3) := by decide +kernel
theorem zd_Mo_part_32 : decode zb_Mo_part 32 = .ok (.ifCond .eq 16, 3) := by decide +kernel
theorem zd_Mo_part_35 : decode zb_Mo_part 35 = .ok (.iload 5, 2) := by decide +kernel
theorem zd_Mo_part_37 : decode zb_Mo_part 37 = .ok (.i2l, 1) := by decide +kernel
theorem zd_Mo_part_38 : decode zb_Mo_part 38 = .ok (.lconst 0, 1) := by decide +kernel
theorem zd_Mo_part_39 : decode zb_Mo_part 39 = .ok (.ldc2_w 86, 3) := by decide +kernel
theorem zd_Mo_part_42 : decode zb_Mo_part 42 = .ok (.invokestatic 82, 3) := by decide +kernel
theorem zd_Mo_part_45 : decode zb_Mo_part 45 = .ok (.ifCond .ne 5, 3) := by decide +kernel
theorem zd_Mo_part_48 : decode zb_Mo_part 48 = .ok (.iconst (-1), 1) := by decide +kernel
theorem zd_Mo_part_49 : decode zb_Mo_part 49 = .ok (.ireturn, 1) := by decide +kernel
theorem zd_Mo_part_50 : decode zb_Mo_part 50 = .ok (.aload_n 0, 1) := by decide +kernel
theorem zd_Mo_part_51 : decode zb_Mo_part 51 = .ok (.getfield 13, 3) := by decide +kernel
theorem zd_Mo_part_54 : decode zb_Mo_part 54 = .ok (.aload_n 0, 1) := by decide +kernel
theorem zd_Mo_part_55 : decode zb_Mo_part 55 = .ok (.getfield 70, 3) := by decide +kernel
theorem zd_Mo_part_58 : decode zb_Mo_part 58 = .ok (.iload_n 1, 1) := by decide +kernel
theorem zd_Mo_part_59 : decode zb_Mo_part 59 = .ok (.iastore, 1) := by decide +kernel
theorem zd_Mo_part_60 : decode zb_Mo_part 60 = .ok (.aload_n 0, 1) := by decide +kernel
theorem zd_Mo_part_61 : decode zb_Mo_part 61 = .ok (.getfield 16, 3) := by decide +kernel
theorem zd_Mo_part_64 : decode zb_Mo_part 64 = .ok (.aload_n 0, 1) := by decide +kernel
theorem zd_Mo_part_65 : decode zb_Mo_part 65 = .ok (.getfield 70, 3) := by decide +kernel
theorem zd_Mo_part_68 : decode zb_Mo_part 68 = .ok (.iload_n 2, 1) := by decide +kernel
theorem zd_Mo_part_69 : decode zb_Mo_part 69 = .ok (.iastore, 1) := by decide +kernel
theorem zd_Mo_part_70 : decode zb_Mo_part 70 = .ok (.aload_n 0, 1) := by decide +kernel
theorem zd_Mo_part_71 : decode zb_Mo_part 71 = .ok (.getfield 19, 3) := by decide +kernel
theorem zd_Mo_part_74 : decode zb_Mo_part 74 = .ok (.aload_n 0, 1) := by decide +kernel
theorem zd_Mo_part_75 : decode zb_Mo_part 75 = .ok (.getfield 70, 3) := by decide +kernel
theorem zd_Mo_part_78 : decode zb_Mo_part 78 = .ok (.lload_n 3, 1) := by decide +kernel
theorem zd_Mo_part_79 : decode zb_Mo_part 79 = .ok (.lastore, 1) := by decide +kernel
theorem zd_Mo_part_80 : decode zb_Mo_part 80 = .ok (.aload_n 0, 1) := by decide +kernel
theorem zd_Mo_part_81 : decode zb_Mo_part 81 = .ok (.getfield 23, 3) := by decide +kernel
theorem zd_Mo_part_84 : decode zb_Mo_part 84 = .ok (.aload_n 0, 1) := by decide +kernel
theorem zd_Mo_part_85 : decode zb_Mo_part 85 = .ok (.getfield 70, 3) := by decide +kernel
theorem zd_Mo_part_88 : decode zb_Mo_part 88 = .ok (.iload 5, 2) := by decide +kernel
theorem zd_Mo_part_90 : decode zb_Mo_part 90 = .ok (.iastore, 1) := by decide +kernel
theorem zd_Mo_part_91 : decode zb_Mo_part 91 = .ok (.aload_n 0, 1) := by decide +kernel
theorem zd_Mo_part_92 : decode zb_Mo_part 92 = .ok (.getfield 26, 3) := by decide +kernel
theorem zd_Mo_part_95 : decode zb_Mo_part 95 = .ok (.aload_n 0, 1) := by decide +kernel
theorem zd_Mo_part_96 : decode zb_Mo_part 96 = .ok (.getfield 70, 3) := by decide +kernel
theorem zd_Mo_part_99 : decode zb_Mo_part 99 = .ok (.iconst (-1), 1) := by decide +kernel
theorem zd_Mo_part_100 : decode zb_Mo_part 100 = .ok (.iastore, 1) := by decide +kernel
theorem zd_Mo_part_101 : decode zb_Mo_part 101 = .ok (.aload_n 0, 1) := by decide +kernel
theorem zd_Mo_part_102 : decode zb_Mo_part 102 = .ok (.dup, 1) := by decide +kernel
theorem zd_Mo_part_103 : decode zb_Mo_part 103 = .ok (.getfield 70, 3) := by decide +kernel
theorem zd_Mo_part_106 : decode zb_Mo_part 106 = .ok (.iconst 1, 1) := by decide +kernel
theorem zd_Mo_part_107 : decode zb_Mo_part 107 = .ok (.iadd, 1) := by decide +kernel
theorem zd_Mo_part_108 : decode zb_Mo_part 108 = .ok (.putfield 70, 3) := by decide +kernel
theorem zd_Mo_part_111 : decode zb_Mo_part 111 = .ok (.aload_n 0, 1) := by decide +kernel
theorem zd_Mo_part_112 : decode zb_Mo_part 112 = .ok (.getfield 7, 3) := by decide +kernel
theorem zd_Mo_part_115 : decode zb_Mo_part 115 = .ok (.iload_n 1, 1) := by decide +kernel
theorem zd_Mo_part_116 : decode zb_Mo_part 116 = .ok (.dup2, 1) := by decide +kernel
theorem zd_Mo_part_117 : decode zb_Mo_part 117 = .ok (.iaload, 1) := by decide +kernel
theorem zd_Mo_part_118 : decode zb_Mo_part 118 = .ok (.iconst 1, 1) := by decide +kernel
theorem zd_Mo_part_119 : decode zb_Mo_part 119 = .ok (.iadd, 1) := by decide +kernel
theorem zd_Mo_part_120 : decode zb_Mo_part 120 = .ok (.iastore, 1) := by decide +kernel
theorem zd_Mo_part_121 : decode zb_Mo_part 121 = .ok (.aload_n 0, 1) := by decide +kernel
theorem zd_Mo_part_122 : decode zb_Mo_part 122 = .ok (.getfield 70, 3) := by decide +kernel
theorem zd_Mo_part_125 : decode zb_Mo_part 125 = .ok (.iconst 1, 1) := by decide +kernel
theorem zd_Mo_part_126 : decode zb_Mo_part 126 = .ok (.isub, 1) := by decide +kernel
theorem zd_Mo_part_127 : decode zb_Mo_part 127 = .ok (.ireturn, 1) := by decide +kernel
theorem zd_Mo_isPart_0 : decode zb_Mo_isPart 0 = .ok (.iload_n 1, 1) := by decide +kernel
theorem zd_Mo_isPart_1 : decode zb_Mo_isPart 1 = .ok (.ifCond .lt 15, 3) := by decide +kernel
theorem zd_Mo_isPart_4 : decode zb_Mo_isPart 4 = .ok (.iload_n 1, 1) := by decide +kernel
theorem zd_Mo_isPart_5 : decode zb_Mo_isPart 5 = .ok (.aload_n 0, 1) := by decide +kernel
theorem zd_Mo_isPart_6 : decode zb_Mo_isPart 6 = .ok (.getfield 70, 3) := by decide +kernel
theorem zd_Mo_isPart_9 : decode zb_Mo_isPart 9 = .ok (.if_icmp .ge 7, 3) := by decide +kernel
theorem zd_Mo_isPart_12 : decode zb_Mo_isPart 12 = .ok (.iconst 1, 1) := by decide +kernel
theorem zd_Mo_isPart_13 : decode zb_Mo_isPart 13 = .ok (.goto 4, 3) := by decide +kernel
theorem zd_Mo_isPart_16 : decode zb_Mo_isPart 16 = .ok (.iconst 0, 1) := by decide +kernel
theorem zd_Mo_isPart_17 : decode zb_Mo_isPart 17 = .ok (.ireturn, 1) := by decide +kernel
theorem zd_Mo_inside_0 : decode zb_Mo_inside 0 = .ok (.iconst 1, 1) := by decide +kernel
theorem zd_Mo_inside_1 : decode zb_Mo_inside 1 = .ok (.iload_n 1, 1) := by decide +kernel
theorem zd_Mo_inside_2 : decode zb_Mo_inside 2 = .ok (.ishl, 1) := by decide +kernel
theorem zd_Mo_inside_3 : decode zb_Mo_inside 3 = .ok (.istore_n 2, 1) := by decide +kernel
theorem zd_Mo_inside_4 : decode zb_Mo_inside 4 = .ok (.iconst 0, 1) := by decide +kernel
theorem zd_Mo_inside_5 : decode zb_Mo_inside 5 = .ok (.istore_n 3, 1) := by decide +kernel
theorem zd_Mo_inside_6 : decode zb_Mo_inside 6 = .ok (.iload_n 3, 1) := by decide +kernel
theorem zd_Mo_inside_7 : decode zb_Mo_inside 7 = .ok (.bipush 8, 2) := by decide +kernel
theorem zd_Mo_inside_9 : decode zb_Mo_inside 9 = .ok (.if_icmp .ge 68, 3) := by decide +kernel
theorem zd_Mo_inside_12 : decode zb_Mo_inside 12 = .ok (.iconst 0, 1) := by decide +kernel
theorem zd_Mo_inside_13 : decode zb_Mo_inside 13 = .ok (.istore 4, 2) := by decide +kernel
theorem zd_Mo_inside_15 : decode zb_Mo_inside 15 = .ok (.iload 4, 2) := by decide +kernel
theorem zd_Mo_inside_17 : decode zb_Mo_inside 17 = .ok (.aload_n 0, 1) := by decide +kernel
theorem zd_Mo_inside_18 : decode zb_Mo_inside 18 = .ok (.getfield 70, 3) := by decide +kernel
theorem zd_Mo_inside_21 : decode zb_Mo_inside 21 = .ok (.if_icmp .ge 50, 3) := by decide +kernel
theorem zd_Mo_inside_24 : decode zb_Mo_inside 24 = .ok (.iload_n 2, 1) := by decide +kernel
theorem zd_Mo_inside_25 : decode zb_Mo_inside 25 = .ok (.iload_n 2, 1) := by decide +kernel
theorem zd_Mo_inside_26 : decode zb_Mo_inside 26 = .ok (.aload_n 0, 1) := by decide +kernel
theorem zd_Mo_inside_27 : decode zb_Mo_inside 27 = .ok (.getfield 13, 3) := by decide +kernel
theorem zd_Mo_inside_30 : decode zb_Mo_inside 30 = .ok (.iload 4, 2) := by decide +kernel
theorem zd_Mo_inside_32 : decode zb_Mo_inside 32 = .ok (.iaload, 1) := by decide +kernel
theorem zd_Mo_inside_33 : decode zb_Mo_inside 33 = .ok (.ishr, 1) := by decide +kernel
theorem zd_Mo_inside_34 : decode zb_Mo_inside 34 = .ok (.iconst 1, 1) := by decide +kernel
theorem zd_Mo_inside_35 : decode zb_Mo_inside 35 = .ok (.iand, 1) := by decide +kernel
theorem zd_Mo_inside_36 : decode zb_Mo_inside 36 = .ok (.iconst 1, 1) := by decide +kernel
theorem zd_Mo_inside_37 : decode zb_Mo_inside 37 = .ok (.if_icmp .ne 25, 3) := by decide +kernel
theorem zd_Mo_inside_40 : decode zb_Mo_inside 40 = .ok (.aload_n 0, 1) := by decide +kernel
theorem zd_Mo_inside_41 : decode zb_Mo_inside 41 = .ok (.getfield 26, 3) := by decide +kernel
theorem zd_Mo_inside_44 : decode zb_Mo_inside 44 = .ok (.iload 4, 2) := by decide +kernel
theorem zd_Mo_inside_46 : decode zb_Mo_inside 46 = .ok (.iaload, 1) := by decide +kernel
theorem zd_Mo_inside_47 : decode zb_Mo_inside 47 = .ok (.ifCond .lt 15, 3) := by decide +kernel
theorem zd_Mo_inside_50 : decode zb_Mo_inside 50 = .ok (.iconst 1, 1) := by decide +kernel
theorem zd_Mo_inside_51 : decode zb_Mo_inside 51 = .ok (.aload_n 0, 1) := by decide +kernel
theorem zd_Mo_inside_52 : decode zb_Mo_inside 52 = .ok (.getfield 26, 3) := by decide +kernel
theorem zd_Mo_inside_55 : decode zb_Mo_inside 55 = .ok (.iload 4, 2) := by decide +kernel
theorem zd_Mo_inside_57 : decode zb_Mo_inside 57 = .ok (.iaload, 1) := by decide +kernel
theorem zd_Mo_inside_58 : decode zb_Mo_inside 58 = .ok (.ishl, 1) := by decide +kernel
theorem zd_Mo_inside_59 : decode zb_Mo_inside 59 = .ok (.goto 4, 3) := by decide +kernel
theorem zd_Mo_inside_62 : decode zb_Mo_inside 62 = .ok (.iconst 0, 1) := by decide +kernel
theorem zd_Mo_inside_63 : decode zb_Mo_inside 63 = .ok (.ior, 1) := by decide +kernel
theorem zd_Mo_inside_64 : decode zb_Mo_inside 64 = .ok (.istore_n 2, 1) := by decide +kernel
theorem zd_Mo_inside_65 : decode zb_Mo_inside 65 = .ok (.iinc 4 1, 3) := by decide +kernel
theorem zd_Mo_inside_68 : decode zb_Mo_inside 68 = .ok (.goto (-53), 3) := by decide +kernel
theorem zd_Mo_inside_71 : decode zb_Mo_inside 71 = .ok (.iinc 3 1, 3) := by decide +kernel
theorem zd_Mo_inside_74 : decode zb_Mo_inside 74 = .ok (.goto (-68), 3) := by decide +kernel
theorem zd_Mo_inside_77 : decode zb_Mo_inside 77 = .ok (.iload_n 2, 1) := by decide +kernel
theorem zd_Mo_inside_78 : decode zb_Mo_inside 78 = .ok (.ireturn, 1) := by decide +kernel
theorem zd_Mo_into_0 : decode zb_Mo_into 0 = .ok (.aload_n 0, 1) := by decide +kernel
theorem zd_Mo_into_1 : decode zb_Mo_into 1 = .ok (.iload_n 1, 1) := by decide +kernel
theorem zd_Mo_into_2 : decode zb_Mo_into 2 = .ok (.invokevirtual 88, 3) := by decide +kernel
theorem zd_Mo_into_5 : decode zb_Mo_into 5 = .ok (.ifCond .eq 38, 3) := by decide +kernel
theorem zd_Mo_into_8 : decode zb_Mo_into 8 = .ok (.aload_n 0, 1) := by decide +kernel
theorem zd_Mo_into_9 : decode zb_Mo_into 9 = .ok (.iload_n 2, 1) := by decide +kernel
theorem zd_Mo_into_10 : decode zb_Mo_into 10 = .ok (.invokevirtual 73, 3) := by decide +kernel
theorem zd_Mo_into_13 : decode zb_Mo_into 13 = .ok (.ifCond .eq 30, 3) := by decide +kernel
theorem zd_Mo_into_16 : decode zb_Mo_into 16 = .ok (.aload_n 0, 1) := by decide +kernel
theorem zd_Mo_into_17 : decode zb_Mo_into 17 = .ok (.getfield 26, 3) := by decide +kernel
theorem zd_Mo_into_20 : decode zb_Mo_into 20 = .ok (.iload_n 1, 1) := by decide +kernel
theorem zd_Mo_into_21 : decode zb_Mo_into 21 = .ok (.iaload, 1) := by decide +kernel
theorem zd_Mo_into_22 : decode zb_Mo_into 22 = .ok (.ifCond .ge 21, 3) := by decide +kernel
theorem zd_Mo_into_25 : decode zb_Mo_into 25 = .ok (.aload_n 0, 1) := by decide +kernel
theorem zd_Mo_into_26 : decode zb_Mo_into 26 = .ok (.iload_n 2, 1) := by decide +kernel
theorem zd_Mo_into_27 : decode zb_Mo_into 27 = .ok (.invokevirtual 91, 3) := by decide +kernel
theorem zd_Mo_into_30 : decode zb_Mo_into 30 = .ok (.aload_n 0, 1) := by decide +kernel
theorem zd_Mo_into_31 : decode zb_Mo_into 31 = .ok (.getfield 13, 3) := by decide +kernel
theorem zd_Mo_into_34 : decode zb_Mo_into 34 = .ok (.iload_n 1, 1) := by decide +kernel
theorem zd_Mo_into_35 : decode zb_Mo_into 35 = .ok (.iaload, 1) := by decide +kernel
theorem zd_Mo_into_36 : decode zb_Mo_into 36 = .ok (.ishr, 1) := by decide +kernel
theorem zd_Mo_into_37 : decode zb_Mo_into 37 = .ok (.iconst 1, 1) := by decide +kernel
theorem zd_Mo_into_38 : decode zb_Mo_into 38 = .ok (.iand, 1) := by decide +kernel
theorem zd_Mo_into_39 : decode zb_Mo_into 39 = .ok (.iconst 1, 1) := by decide +kernel
theorem zd_Mo_into_40 : decode zb_Mo_into 40 = .ok (.if_icmp .ne 5, 3) := by decide +kernel
theorem zd_Mo_into_43 : decode zb_Mo_into 43 = .ok (.iconst 0, 1) := by decide +kernel
theorem zd_Mo_into_44 : decode zb_Mo_into 44 = .ok (.ireturn, 1) := by decide +kernel
theorem zd_Mo_into_45 : decode zb_Mo_into 45 = .ok (.aload_n 0, 1) := by decide +kernel
theorem zd_Mo_into_46 : decode zb_Mo_into 46 = .ok (.getfield 26, 3) := by decide +kernel
theorem zd_Mo_into_49 : decode zb_Mo_into 49 = .ok (.iload_n 1, 1) := by decide +kernel
theorem zd_Mo_into_50 : decode zb_Mo_into 50 = .ok (.iload_n 2, 1) := by decide +kernel
theorem zd_Mo_into_51 : decode zb_Mo_into 51 = .ok (.iastore, 1) := by decide +kernel
theorem zd_Mo_into_52 : decode zb_Mo_into 52 = .ok (.aload_n 0, 1) := by decide +kernel
theorem zd_Mo_into_53 : decode zb_Mo_into 53 = .ok (.getfield 7, 3) := by decide +kernel
theorem zd_Mo_into_56 : decode zb_Mo_into 56 = .ok (.aload_n 0, 1) := by decide +kernel
theorem zd_Mo_into_57 : decode zb_Mo_into 57 = .ok (.getfield 13, 3) := by decide +kernel
theorem zd_Mo_into_60 : decode zb_Mo_into 60 = .ok (.iload_n 1, 1) := by decide +kernel
theorem zd_Mo_into_61 : decode zb_Mo_into 61 = .ok (.iaload, 1) := by decide +kernel
theorem zd_Mo_into_62 : decode zb_Mo_into 62 = .ok (.dup2, 1) := by decide +kernel
theorem zd_Mo_into_63 : decode zb_Mo_into 63 = .ok (.iaload, 1) := by decide +kernel
theorem zd_Mo_into_64 : decode zb_Mo_into 64 = .ok (.iconst 1, 1) := by decide +kernel
theorem zd_Mo_into_65 : decode zb_Mo_into 65 = .ok (.iadd, 1) := by decide +kernel
theorem zd_Mo_into_66 : decode zb_Mo_into 66 = .ok (.iastore, 1) := by decide +kernel
theorem zd_Mo_into_67 : decode zb_Mo_into 67 = .ok (.iconst 1, 1) := by decide +kernel
theorem zd_Mo_into_68 : decode zb_Mo_into 68 = .ok (.ireturn, 1) := by decide +kernel
theorem zd_Mo_life_0 : decode zb_Mo_life 0 = .ok (.aload_n 0, 1) := by decide +kernel
theorem zd_Mo_life_1 : decode zb_Mo_life 1 = .ok (.iload_n 1, 1) := by decide +kernel
theorem zd_Mo_life_2 : decode zb_Mo_life 2 = .ok (.invokevirtual 88, 3) := by decide +kernel
theorem zd_Mo_life_5 : decode zb_Mo_life 5 = .ok (.ifCond .eq 15, 3) := by decide +kernel
theorem zd_Mo_life_8 : decode zb_Mo_life 8 = .ok (.iload_n 2, 1) := by decide +kernel
theorem zd_Mo_life_9 : decode zb_Mo_life 9 = .ok (.i2l, 1) := by decide +kernel
theorem zd_Mo_life_10 : decode zb_Mo_life 10 = .ok (.lconst 0, 1) := by decide +kernel
theorem zd_Mo_life_11 : decode zb_Mo_life 11 = .ok (.ldc2_w 86, 3) := by decide +kernel
theorem zd_Mo_life_14 : decode zb_Mo_life 14 = .ok (.invokestatic 82, 3) := by decide +kernel
theorem zd_Mo_life_17 : decode zb_Mo_life 17 = .ok (.ifCond .ne 5, 3) := by decide +kernel
theorem zd_Mo_life_20 : decode zb_Mo_life 20 = .ok (.iconst 0, 1) := by decide +kernel
theorem zd_Mo_life_21 : decode zb_Mo_life 21 = .ok (.ireturn, 1) := by decide +kernel
theorem zd_Mo_life_22 : decode zb_Mo_life 22 = .ok (.aload_n 0, 1) := by decide +kernel
theorem zd_Mo_life_23 : decode zb_Mo_life 23 = .ok (.getfield 23, 3) := by decide +kernel
theorem zd_Mo_life_26 : decode zb_Mo_life 26 = .ok (.iload_n 1, 1) := by decide +kernel
theorem zd_Mo_life_27 : decode zb_Mo_life 27 = .ok (.iload_n 2, 1) := by decide +kernel
theorem zd_Mo_life_28 : decode zb_Mo_life 28 = .ok (.iastore, 1) := by decide +kernel
theorem zd_Mo_life_29 : decode zb_Mo_life 29 = .ok (.aload_n 0, 1) := by decide +kernel
theorem zd_Mo_life_30 : decode zb_Mo_life 30 = .ok (.getfield 7, 3) := by decide +kernel
theorem zd_Mo_life_33 : decode zb_Mo_life 33 = .ok (.aload_n 0, 1) := by decide +kernel
theorem zd_Mo_life_34 : decode zb_Mo_life 34 = .ok (.getfield 13, 3) := by decide +kernel
theorem zd_Mo_life_37 : decode zb_Mo_life 37 = .ok (.iload_n 1, 1) := by decide +kernel
theorem zd_Mo_life_38 : decode zb_Mo_life 38 = .ok (.iaload, 1) := by decide +kernel
theorem zd_Mo_life_39 : decode zb_Mo_life 39 = .ok (.dup2, 1) := by decide +kernel
theorem zd_Mo_life_40 : decode zb_Mo_life 40 = .ok (.iaload, 1) := by decide +kernel
theorem zd_Mo_life_41 : decode zb_Mo_life 41 = .ok (.iconst 1, 1) := by decide +kernel
theorem zd_Mo_life_42 : decode zb_Mo_life 42 = .ok (.iadd, 1) := by decide +kernel
theorem zd_Mo_life_43 : decode zb_Mo_life 43 = .ok (.iastore, 1) := by decide +kernel
theorem zd_Mo_life_44 : decode zb_Mo_life 44 = .ok (.iconst 1, 1) := by decide +kernel
theorem zd_Mo_life_45 : decode zb_Mo_life 45 = .ok (.ireturn, 1) := by decide +kernel
theorem zd_Mo_add_0 : decode zb_Mo_add 0 = .ok (.aload_n 0, 1) := by decide +kernel
theorem zd_Mo_add_1 : decode zb_Mo_add 1 = .ok (.getfield 29, 3) := by decide +kernel
theorem zd_Mo_add_4 : decode zb_Mo_add 4 = .ok (.aload_n 0, 1) := by decide +kernel
theorem zd_Mo_add_5 : decode zb_Mo_add 5 = .ok (.getfield 95, 3) := by decide +kernel
theorem zd_Mo_add_8 : decode zb_Mo_add 8 = .ok (.iload_n 1, 1) := by decide +kernel
theorem zd_Mo_add_9 : decode zb_Mo_add 9 = .ok (.iastore, 1) := by decide +kernel
theorem zd_Mo_add_10 : decode zb_Mo_add 10 = .ok (.aload_n 0, 1) := by decide +kernel
theorem zd_Mo_add_11 : decode zb_Mo_add 11 = .ok (.getfield 32, 3) := by decide +kernel
theorem zd_Mo_add_14 : decode zb_Mo_add 14 = .ok (.aload_n 0, 1) := by decide +kernel
theorem zd_Mo_add_15 : decode zb_Mo_add 15 = .ok (.getfield 95, 3) := by decide +kernel
theorem zd_Mo_add_18 : decode zb_Mo_add 18 = .ok (.lload_n 2, 1) := by decide +kernel
theorem zd_Mo_add_19 : decode zb_Mo_add 19 = .ok (.lastore, 1) := by decide +kernel
theorem zd_Mo_add_20 : decode zb_Mo_add 20 = .ok (.aload_n 0, 1) := by decide +kernel
theorem zd_Mo_add_21 : decode zb_Mo_add 21 = .ok (.getfield 35, 3) := by decide +kernel
theorem zd_Mo_add_24 : decode zb_Mo_add 24 = .ok (.aload_n 0, 1) := by decide +kernel
theorem zd_Mo_add_25 : decode zb_Mo_add 25 = .ok (.getfield 95, 3) := by decide +kernel
theorem zd_Mo_add_28 : decode zb_Mo_add 28 = .ok (.iload 4, 2) := by decide +kernel
theorem zd_Mo_add_30 : decode zb_Mo_add 30 = .ok (.iastore, 1) := by decide +kernel
theorem zd_Mo_add_31 : decode zb_Mo_add 31 = .ok (.aload_n 0, 1) := by decide +kernel
theorem zd_Mo_add_32 : decode zb_Mo_add 32 = .ok (.getfield 38, 3) := by decide +kernel
theorem zd_Mo_add_35 : decode zb_Mo_add 35 = .ok (.aload_n 0, 1) := by decide +kernel
theorem zd_Mo_add_36 : decode zb_Mo_add 36 = .ok (.getfield 95, 3) := by decide +kernel
theorem zd_Mo_add_39 : decode zb_Mo_add 39 = .ok (.lload 5, 2) := by decide +kernel
theorem zd_Mo_add_41 : decode zb_Mo_add 41 = .ok (.lastore, 1) := by decide +kernel
theorem zd_Mo_add_42 : decode zb_Mo_add 42 = .ok (.aload_n 0, 1) := by decide +kernel
theorem zd_Mo_add_43 : decode zb_Mo_add 43 = .ok (.dup, 1) := by decide +kernel
theorem zd_Mo_add_44 : decode zb_Mo_add 44 = .ok (.getfield 95, 3) := by decide +kernel
theorem zd_Mo_add_47 : decode zb_Mo_add 47 = .ok (.iconst 1, 1) := by decide +kernel
theorem zd_Mo_add_48 : decode zb_Mo_add 48 = .ok (.iadd, 1) := by decide +kernel
theorem zd_Mo_add_49 : decode zb_Mo_add 49 = .ok (.putfield 95, 3) := by decide +kernel
theorem zd_Mo_add_52 : decode zb_Mo_add 52 = .ok (.return_, 1) := by decide +kernel
theorem zd_Mo_change_0 : decode zb_Mo_change 0 = .ok (.aload_n 0, 1) := by decide +kernel
theorem zd_Mo_change_1 : decode zb_Mo_change 1 = .ok (.getfield 95, 3) := by decide +kernel
theorem zd_Mo_change_4 : decode zb_Mo_change 4 = .ok (.bipush 20, 2) := by decide +kernel
theorem zd_Mo_change_6 : decode zb_Mo_change 6 = .ok (.if_icmp .eq 42, 3) := by decide +kernel
theorem zd_Mo_change_9 : decode zb_Mo_change 9 = .ok (.aload_n 0, 1) := by decide +kernel
theorem zd_Mo_change_10 : decode zb_Mo_change 10 = .ok (.iload_n 1, 1) := by decide +kernel
theorem zd_Mo_change_11 : decode zb_Mo_change 11 = .ok (.invokevirtual 88, 3) := by decide +kernel
theorem zd_Mo_change_14 : decode zb_Mo_change 14 = .ok (.ifCond .eq 34, 3) := by decide +kernel
theorem zd_Mo_change_17 : decode zb_Mo_change 17 = .ok (.lload_n 2, 1) := by decide +kernel
theorem zd_Mo_change_18 : decode zb_Mo_change 18 = .ok (.lconst 0, 1) := by decide +kernel
theorem zd_Mo_change_19 : decode zb_Mo_change 19 = .ok (.ldc2_w 98, 3) := by decide +kernel
theorem zd_Mo_change_22 : decode zb_Mo_change 22 = .ok (.invokestatic 82, 3) := by decide +kernel
theorem zd_Mo_change_25 : decode zb_Mo_change 25 = .ok (.ifCond .eq 23, 3) := by decide +kernel
theorem zd_Mo_change_28 : decode zb_Mo_change 28 = .ok (.iload 4, 2) := by decide +kernel
theorem zd_Mo_change_30 : decode zb_Mo_change 30 = .ok (.invokestatic 77, 3) := by decide +kernel
theorem zd_Mo_change_33 : decode zb_Mo_change 33 = .ok (.ifCond .eq 15, 3) := by decide +kernel
theorem zd_Mo_change_36 : decode zb_Mo_change 36 = .ok (.lload 5, 2) := by decide +kernel
theorem zd_Mo_change_38 : decode zb_Mo_change 38 = .ok (.lconst 0, 1) := by decide +kernel
theorem zd_Mo_change_39 : decode zb_Mo_change 39 = .ok (.ldc2_w 80, 3) := by decide +kernel
theorem zd_Mo_change_42 : decode zb_Mo_change 42 = .ok (.invokestatic 82, 3) := by decide +kernel
theorem zd_Mo_change_45 : decode zb_Mo_change 45 = .ok (.ifCond .ne 5, 3) := by decide +kernel
theorem zd_Mo_change_48 : decode zb_Mo_change 48 = .ok (.iconst 0, 1) := by decide +kernel
theorem zd_Mo_change_49 : decode zb_Mo_change 49 = .ok (.ireturn, 1) := by decide +kernel
theorem zd_Mo_change_50 : decode zb_Mo_change 50 = .ok (.aload_n 0, 1) := by decide +kernel
theorem zd_Mo_change_51 : decode zb_Mo_change 51 = .ok (.iload_n 1, 1) := by decide +kernel
theorem zd_Mo_change_52 : decode zb_Mo_change 52 = .ok (.lload_n 2, 1) := by decide +kernel
theorem zd_Mo_change_53 : decode zb_Mo_change 53 = .ok (.iload 4, 2) := by decide +kernel
theorem zd_Mo_change_55 : decode zb_Mo_change 55 = .ok (.lload 5, 2) := by decide +kernel
theorem zd_Mo_change_57 : decode zb_Mo_change 57 = .ok (.invokevirtual 100, 3) := by decide +kernel
theorem zd_Mo_change_60 : decode zb_Mo_change 60 = .ok (.aload_n 0, 1) := by decide +kernel
theorem zd_Mo_change_61 : decode zb_Mo_change 61 = .ok (.getfield 7, 3) := by decide +kernel
theorem zd_Mo_change_64 : decode zb_Mo_change 64 = .ok (.aload_n 0, 1) := by decide +kernel
theorem zd_Mo_change_65 : decode zb_Mo_change 65 = .ok (.getfield 13, 3) := by decide +kernel
theorem zd_Mo_change_68 : decode zb_Mo_change 68 = .ok (.iload_n 1, 1) := by decide +kernel
theorem zd_Mo_change_69 : decode zb_Mo_change 69 = .ok (.iaload, 1) := by decide +kernel
theorem zd_Mo_change_70 : decode zb_Mo_change 70 = .ok (.dup2, 1) := by decide +kernel
theorem zd_Mo_change_71 : decode zb_Mo_change 71 = .ok (.iaload, 1) := by decide +kernel
theorem zd_Mo_change_72 : decode zb_Mo_change 72 = .ok (.iconst 1, 1) := by decide +kernel
theorem zd_Mo_change_73 : decode zb_Mo_change 73 = .ok (.iadd, 1) := by decide +kernel
theorem zd_Mo_change_74 : decode zb_Mo_change 74 = .ok (.iastore, 1) := by decide +kernel
theorem zd_Mo_change_75 : decode zb_Mo_change 75 = .ok (.iconst 1, 1) := by decide +kernel
theorem zd_Mo_change_76 : decode zb_Mo_change 76 = .ok (.ireturn, 1) := by decide +kernel
theorem zd_Mo_changeOf_0 : decode zb_Mo_changeOf 0 = .ok (.iconst (-1), 1) := by decide +kernel
theorem zd_Mo_changeOf_1 : decode zb_Mo_changeOf 1 = .ok (.istore 4, 2) := by decide +kernel
theorem zd_Mo_changeOf_3 : decode zb_Mo_changeOf 3 = .ok (.iconst 0, 1) := by decide +kernel
theorem zd_Mo_changeOf_4 : decode zb_Mo_changeOf 4 = .ok (.istore 5, 2) := by decide +kernel
theorem zd_Mo_changeOf_6 : decode zb_Mo_changeOf 6 = .ok (.iload 5, 2) := by decide +kernel
theorem zd_Mo_changeOf_8 : decode zb_Mo_changeOf 8 = .ok (.aload_n 0, 1) := by decide +kernel
theorem zd_Mo_changeOf_9 : decode zb_Mo_changeOf 9 = .ok (.getfield 95, 3) := by decide +kernel
theorem zd_Mo_changeOf_12 : decode zb_Mo_changeOf 12 = .ok (.if_icmp .ge 76, 3) := by decide +kernel
theorem zd_Mo_changeOf_15 : decode zb_Mo_changeOf 15 = .ok (.aload_n 0, 1) := by decide +kernel
theorem zd_Mo_changeOf_16 : decode zb_Mo_changeOf 16 = .ok (.getfield 29, 3) := by decide +kernel
theorem zd_Mo_changeOf_19 : decode zb_Mo_changeOf 19 = .ok (.iload 5, 2) := by decide +kernel
theorem zd_Mo_changeOf_21 : decode zb_Mo_changeOf 21 = .ok (.iaload, 1) := by decide +kernel
theorem zd_Mo_changeOf_22 : decode zb_Mo_changeOf 22 = .ok (.iload_n 1, 1) := by decide +kernel
theorem zd_Mo_changeOf_23 : decode zb_Mo_changeOf 23 = .ok (.if_icmp .ne 19, 3) := by decide +kernel
theorem zd_Mo_changeOf_26 : decode zb_Mo_changeOf 26 = .ok (.aload_n 0, 1) := by decide +kernel
theorem zd_Mo_changeOf_27 : decode zb_Mo_changeOf 27 = .ok (.getfield 32, 3) := by decide +kernel
theorem zd_Mo_changeOf_30 : decode zb_Mo_changeOf 30 = .ok (.iload 5, 2) := by decide +kernel
theorem zd_Mo_changeOf_32 : decode zb_Mo_changeOf 32 = .ok (.laload, 1) := by decide +kernel
theorem zd_Mo_changeOf_33 : decode zb_Mo_changeOf 33 = .ok (.lload_n 2, 1) := by decide +kernel
theorem zd_Mo_changeOf_34 : decode zb_Mo_changeOf 34 = .ok (.lcmp, 1) := by decide +kernel
theorem zd_Mo_changeOf_35 : decode zb_Mo_changeOf 35 = .ok (.ifCond .gt 7, 3) := by decide +kernel
theorem zd_Mo_changeOf_38 : decode zb_Mo_changeOf 38 = .ok (.iconst 1, 1) := by decide +kernel
theorem zd_Mo_changeOf_39 : decode zb_Mo_changeOf 39 = .ok (.goto 4, 3) := by decide +kernel
theorem zd_Mo_changeOf_42 : decode zb_Mo_changeOf 42 = .ok (.iconst 0, 1) := by decide +kernel
theorem zd_Mo_changeOf_43 : decode zb_Mo_changeOf 43 = .ok (.istore 6, 2) := by decide +kernel
theorem zd_Mo_changeOf_45 : decode zb_Mo_changeOf 45 = .ok (.iload 6, 2) := by decide +kernel
theorem zd_Mo_changeOf_47 : decode zb_Mo_changeOf 47 = .ok (.ifCond .eq 31, 3) := by decide +kernel
theorem zd_Mo_changeOf_50 : decode zb_Mo_changeOf 50 = .ok (.iload 4, 2) := by decide +kernel
theorem zd_Mo_changeOf_52 : decode zb_Mo_changeOf 52 = .ok (.ifCond .lt 21, 3) := by decide +kernel
theorem zd_Mo_changeOf_55 : decode zb_Mo_changeOf 55 = .ok (.aload_n 0, 1) := by decide +kernel
theorem zd_Mo_changeOf_56 : decode zb_Mo_changeOf 56 = .ok (.getfield 32, 3) := by decide +kernel
theorem zd_Mo_changeOf_59 : decode zb_Mo_changeOf 59 = .ok (.iload 5, 2) := by decide +kernel
theorem zd_Mo_changeOf_61 : decode zb_Mo_changeOf 61 = .ok (.laload, 1) := by decide +kernel
theorem zd_Mo_changeOf_62 : decode zb_Mo_changeOf 62 = .ok (.aload_n 0, 1) := by decide +kernel
theorem zd_Mo_changeOf_63 : decode zb_Mo_changeOf 63 = .ok (.getfield 32, 3) := by decide +kernel
theorem zd_Mo_changeOf_66 : decode zb_Mo_changeOf 66 = .ok (.iload 4, 2) := by decide +kernel
theorem zd_Mo_changeOf_68 : decode zb_Mo_changeOf 68 = .ok (.laload, 1) := by decide +kernel
theorem zd_Mo_changeOf_69 : decode zb_Mo_changeOf 69 = .ok (.lcmp, 1) := by decide +kernel
theorem zd_Mo_changeOf_70 : decode zb_Mo_changeOf 70 = .ok (.ifCond .lt 8, 3) := by decide +kernel
theorem zd_Mo_changeOf_73 : decode zb_Mo_changeOf 73 = .ok (.iload 5, 2) := by decide +kernel
theorem zd_Mo_changeOf_75 : decode zb_Mo_changeOf 75 = .ok (.goto 5, 3) := by decide +kernel
theorem zd_Mo_changeOf_78 : decode zb_Mo_changeOf 78 = .ok (.iload 4, 2) := by decide +kernel
theorem zd_Mo_changeOf_80 : decode zb_Mo_changeOf 80 = .ok (.istore 4, 2) := by decide +kernel
theorem zd_Mo_changeOf_82 : decode zb_Mo_changeOf 82 = .ok (.iinc 5 1, 3) := by decide +kernel
theorem zd_Mo_changeOf_85 : decode zb_Mo_changeOf 85 = .ok (.goto (-79), 3) := by decide +kernel
theorem zd_Mo_changeOf_88 : decode zb_Mo_changeOf 88 = .ok (.iload 4, 2) := by decide +kernel
theorem zd_Mo_changeOf_90 : decode zb_Mo_changeOf 90 = .ok (.ireturn, 1) := by decide +kernel
theorem zd_Mo_kindOn_0 : decode zb_Mo_kindOn 0 = .ok (.aload_n 0, 1) := by decide +kernel
theorem zd_Mo_kindOn_1 : decode zb_Mo_kindOn 1 = .ok (.iload_n 1, 1) := by decide +kernel
theorem zd_Mo_kindOn_2 : decode zb_Mo_kindOn 2 = .ok (.lload_n 2, 1) := by decide +kernel
theorem zd_Mo_kindOn_3 : decode zb_Mo_kindOn 3 = .ok (.invokevirtual 104, 3) := by decide +kernel
theorem zd_Mo_kindOn_6 : decode zb_Mo_kindOn 6 = .ok (.istore 4, 2) := by decide +kernel
theorem zd_Mo_kindOn_8 : decode zb_Mo_kindOn 8 = .ok (.iload 4, 2) := by decide +kernel
theorem zd_Mo_kindOn_10 : decode zb_Mo_kindOn 10 = .ok (.ifCond .ge 12, 3) := by decide +kernel
theorem zd_Mo_kindOn_13 : decode zb_Mo_kindOn 13 = .ok (.aload_n 0, 1) := by decide +kernel
theorem zd_Mo_kindOn_14 : decode zb_Mo_kindOn 14 = .ok (.getfield 16, 3) := by decide +kernel
theorem zd_Mo_kindOn_17 : decode zb_Mo_kindOn 17 = .ok (.iload_n 1, 1) := by decide +kernel
theorem zd_Mo_kindOn_18 : decode zb_Mo_kindOn 18 = .ok (.iaload, 1) := by decide +kernel
theorem zd_Mo_kindOn_19 : decode zb_Mo_kindOn 19 = .ok (.goto 10, 3) := by decide +kernel
theorem zd_Mo_kindOn_22 : decode zb_Mo_kindOn 22 = .ok (.aload_n 0, 1) := by decide +kernel
theorem zd_Mo_kindOn_23 : decode zb_Mo_kindOn 23 = .ok (.getfield 35, 3) := by decide +kernel
theorem zd_Mo_kindOn_26 : decode zb_Mo_kindOn 26 = .ok (.iload 4, 2) := by decide +kernel
theorem zd_Mo_kindOn_28 : decode zb_Mo_kindOn 28 = .ok (.iaload, 1) := by decide +kernel
theorem zd_Mo_kindOn_29 : decode zb_Mo_kindOn 29 = .ok (.ireturn, 1) := by decide +kernel
theorem zd_Mo_gramsOn_0 : decode zb_Mo_gramsOn 0 = .ok (.aload_n 0, 1) := by decide +kernel
theorem zd_Mo_gramsOn_1 : decode zb_Mo_gramsOn 1 = .ok (.iload_n 1, 1) := by decide +kernel
theorem zd_Mo_gramsOn_2 : decode zb_Mo_gramsOn 2 = .ok (.lload_n 2, 1) := by decide +kernel
theorem zd_Mo_gramsOn_3 : decode zb_Mo_gramsOn 3 = .ok (.invokevirtual 104, 3) := by decide +kernel
theorem zd_Mo_gramsOn_6 : decode zb_Mo_gramsOn 6 = .ok (.istore 4, 2) := by decide +kernel
theorem zd_Mo_gramsOn_8 : decode zb_Mo_gramsOn 8 = .ok (.iload 4, 2) := by decide +kernel
theorem zd_Mo_gramsOn_10 : decode zb_Mo_gramsOn 10 = .ok (.ifCond .ge 12, 3) := by decide +kernel
theorem zd_Mo_gramsOn_13 : decode zb_Mo_gramsOn 13 = .ok (.aload_n 0, 1) := by decide +kernel
theorem zd_Mo_gramsOn_14 : decode zb_Mo_gramsOn 14 = .ok (.getfield 19, 3) := by decide +kernel
theorem zd_Mo_gramsOn_17 : decode zb_Mo_gramsOn 17 = .ok (.iload_n 1, 1) := by decide +kernel
theorem zd_Mo_gramsOn_18 : decode zb_Mo_gramsOn 18 = .ok (.laload, 1) := by decide +kernel
theorem zd_Mo_gramsOn_19 : decode zb_Mo_gramsOn 19 = .ok (.goto 10, 3) := by decide +kernel
theorem zd_Mo_gramsOn_22 : decode zb_Mo_gramsOn 22 = .ok (.aload_n 0, 1) := by decide +kernel
theorem zd_Mo_gramsOn_23 : decode zb_Mo_gramsOn 23 = .ok (.getfield 38, 3) := by decide +kernel
theorem zd_Mo_gramsOn_26 : decode zb_Mo_gramsOn 26 = .ok (.iload 4, 2) := by decide +kernel
theorem zd_Mo_gramsOn_28 : decode zb_Mo_gramsOn 28 = .ok (.laload, 1) := by decide +kernel
theorem zd_Mo_gramsOn_29 : decode zb_Mo_gramsOn 29 = .ok (.lreturn, 1) := by decide +kernel
theorem zd_Mo_sum_0 : decode zb_Mo_sum 0 = .ok (.iconst 0, 1) := by decide +kernel
theorem zd_Mo_sum_1 : decode zb_Mo_sum 1 = .ok (.istore 4, 2) := by decide +kernel
theorem zd_Mo_sum_3 : decode zb_Mo_sum 3 = .ok (.iload 4, 2) := by decide +kernel
theorem zd_Mo_sum_5 : decode zb_Mo_sum 5 = .ok (.bipush 8, 2) := by decide +kernel
theorem zd_Mo_sum_7 : decode zb_Mo_sum 7 = .ok (.if_icmp .ge 25, 3) := by decide +kernel
theorem zd_Mo_sum_10 : decode zb_Mo_sum 10 = .ok (.aload_n 0, 1) := by decide +kernel
theorem zd_Mo_sum_11 : decode zb_Mo_sum 11 = .ok (.getfield 57, 3) := by decide +kernel
theorem zd_Mo_sum_14 : decode zb_Mo_sum 14 = .ok (.iload 4, 2) := by decide +kernel
theorem zd_Mo_sum_16 : decode zb_Mo_sum 16 = .ok (.lconst 0, 1) := by decide +kernel
theorem zd_Mo_sum_17 : decode zb_Mo_sum 17 = .ok (.lastore, 1) := by decide +kernel
theorem zd_Mo_sum_18 : decode zb_Mo_sum 18 = .ok (.aload_n 0, 1) := by decide +kernel
theorem zd_Mo_sum_19 : decode zb_Mo_sum 19 = .ok (.getfield 60, 3) := by decide +kernel
theorem zd_Mo_sum_22 : decode zb_Mo_sum 22 = .ok (.iload 4, 2) := by decide +kernel
theorem zd_Mo_sum_24 : decode zb_Mo_sum 24 = .ok (.lconst 0, 1) := by decide +kernel
theorem zd_Mo_sum_25 : decode zb_Mo_sum 25 = .ok (.lastore, 1) := by decide +kernel
theorem zd_Mo_sum_26 : decode zb_Mo_sum 26 = .ok (.iinc 4 1, 3) := by decide +kernel
theorem zd_Mo_sum_29 : decode zb_Mo_sum 29 = .ok (.goto (-26), 3) := by decide +kernel
theorem zd_Mo_sum_32 : decode zb_Mo_sum 32 = .ok (.iconst 0, 1) := by decide +kernel
theorem zd_Mo_sum_33 : decode zb_Mo_sum 33 = .ok (.istore 4, 2) := by decide +kernel
theorem zd_Mo_sum_35 : decode zb_Mo_sum 35 = .ok (.iload 4, 2) := by decide +kernel
theorem zd_Mo_sum_37 : decode zb_Mo_sum 37 = .ok (.aload_n 0, 1) := by decide +kernel
theorem zd_Mo_sum_38 : decode zb_Mo_sum 38 = .ok (.getfield 70, 3) := by decide +kernel
theorem zd_Mo_sum_41 : decode zb_Mo_sum 41 = .ok (.if_icmp .ge 46, 3) := by decide +kernel
theorem zd_Mo_sum_44 : decode zb_Mo_sum 44 = .ok (.aload_n 0, 1) := by decide +kernel
theorem zd_Mo_sum_45 : decode zb_Mo_sum 45 = .ok (.getfield 57, 3) := by decide +kernel
theorem zd_Mo_sum_48 : decode zb_Mo_sum 48 = .ok (.aload_n 0, 1) := by decide +kernel
theorem zd_Mo_sum_49 : decode zb_Mo_sum 49 = .ok (.getfield 13, 3) := by decide +kernel
theorem zd_Mo_sum_52 : decode zb_Mo_sum 52 = .ok (.iload 4, 2) := by decide +kernel
theorem zd_Mo_sum_54 : decode zb_Mo_sum 54 = .ok (.iaload, 1) := by decide +kernel
theorem zd_Mo_sum_55 : decode zb_Mo_sum 55 = .ok (.dup2, 1) := by decide +kernel
theorem zd_Mo_sum_56 : decode zb_Mo_sum 56 = .ok (.laload, 1) := by decide +kernel
theorem zd_Mo_sum_57 : decode zb_Mo_sum 57 = .ok (.aload_n 0, 1) := by decide +kernel
theorem zd_Mo_sum_58 : decode zb_Mo_sum 58 = .ok (.iload 4, 2) := by decide +kernel
theorem zd_Mo_sum_60 : decode zb_Mo_sum 60 = .ok (.lload_n 2, 1) := by decide +kernel
theorem zd_Mo_sum_61 : decode zb_Mo_sum 61 = .ok (.invokevirtual 108, 3) := by decide +kernel
theorem zd_Mo_sum_64 : decode zb_Mo_sum 64 = .ok (.iload_n 1, 1) := by decide +kernel
theorem zd_Mo_sum_65 : decode zb_Mo_sum 65 = .ok (.if_icmp .ne 13, 3) := by decide +kernel
theorem zd_Mo_sum_68 : decode zb_Mo_sum 68 = .ok (.aload_n 0, 1) := by decide +kernel
theorem zd_Mo_sum_69 : decode zb_Mo_sum 69 = .ok (.iload 4, 2) := by decide +kernel
theorem zd_Mo_sum_71 : decode zb_Mo_sum 71 = .ok (.lload_n 2, 1) := by decide +kernel
theorem zd_Mo_sum_72 : decode zb_Mo_sum 72 = .ok (.invokevirtual 111, 3) := by decide +kernel
theorem zd_Mo_sum_75 : decode zb_Mo_sum 75 = .ok (.goto 4, 3) := by decide +kernel
theorem zd_Mo_sum_78 : decode zb_Mo_sum 78 = .ok (.lconst 0, 1) := by decide +kernel
theorem zd_Mo_sum_79 : decode zb_Mo_sum 79 = .ok (.ladd, 1) := by decide +kernel
theorem zd_Mo_sum_80 : decode zb_Mo_sum 80 = .ok (.lastore, 1) := by decide +kernel
theorem zd_Mo_sum_81 : decode zb_Mo_sum 81 = .ok (.iinc 4 1, 3) := by decide +kernel
theorem zd_Mo_sum_84 : decode zb_Mo_sum 84 = .ok (.goto (-49), 3) := by decide +kernel
theorem zd_Mo_sum_87 : decode zb_Mo_sum 87 = .ok (.iconst 0, 1) := by decide +kernel
theorem zd_Mo_sum_88 : decode zb_Mo_sum 88 = .ok (.istore 4, 2) := by decide +kernel
theorem zd_Mo_sum_90 : decode zb_Mo_sum 90 = .ok (.iload 4, 2) := by decide +kernel
theorem zd_Mo_sum_92 : decode zb_Mo_sum 92 = .ok (.bipush 8, 2) := by decide +kernel
theorem zd_Mo_sum_94 : decode zb_Mo_sum 94 = .ok (.if_icmp .ge 128, 3) := by decide +kernel
theorem zd_Mo_sum_97 : decode zb_Mo_sum 97 = .ok (.iconst 0, 1) := by decide +kernel
theorem zd_Mo_sum_98 : decode zb_Mo_sum 98 = .ok (.istore 5, 2) := by decide +kernel
theorem zd_Mo_sum_100 : decode zb_Mo_sum 100 = .ok (.iload 5, 2) := by decide +kernel
theorem zd_Mo_sum_102 : decode zb_Mo_sum 102 = .ok (.bipush 8, 2) := by decide +kernel
theorem zd_Mo_sum_104 : decode zb_Mo_sum 104 = .ok (.if_icmp .ge 23, 3) := by decide +kernel
theorem zd_Mo_sum_107 : decode zb_Mo_sum 107 = .ok (.aload_n 0, 1) := by decide +kernel
theorem zd_Mo_sum_108 : decode zb_Mo_sum 108 = .ok (.getfield 63, 3) := by decide +kernel
theorem zd_Mo_sum_111 : decode zb_Mo_sum 111 = .ok (.iload 5, 2) := by decide +kernel
theorem zd_Mo_sum_113 : decode zb_Mo_sum 113 = .ok (.aload_n 0, 1) := by decide +kernel
theorem zd_Mo_sum_114 : decode zb_Mo_sum 114 = .ok (.getfield 57, 3) := by decide +kernel
theorem zd_Mo_sum_117 : decode zb_Mo_sum 117 = .ok (.iload 5, 2) := by decide +kernel
theorem zd_Mo_sum_119 : decode zb_Mo_sum 119 = .ok (.laload, 1) := by decide +kernel
theorem zd_Mo_sum_120 : decode zb_Mo_sum 120 = .ok (.lastore, 1) := by decide +kernel
theorem zd_Mo_sum_121 : decode zb_Mo_sum 121 = .ok (.iinc 5 1, 3) := by decide +kernel
theorem zd_Mo_sum_124 : decode zb_Mo_sum 124 = .ok (.goto (-24), 3) := by decide +kernel
theorem zd_Mo_sum_127 : decode zb_Mo_sum 127 = .ok (.iconst 0, 1) := by decide +kernel
theorem zd_Mo_sum_128 : decode zb_Mo_sum 128 = .ok (.istore 5, 2) := by decide +kernel
theorem zd_Mo_sum_130 : decode zb_Mo_sum 130 = .ok (.iload 5, 2) := by decide +kernel
theorem zd_Mo_sum_132 : decode zb_Mo_sum 132 = .ok (.aload_n 0, 1) := by decide +kernel
theorem zd_Mo_sum_133 : decode zb_Mo_sum 133 = .ok (.getfield 70, 3) := by decide +kernel
theorem zd_Mo_sum_136 : decode zb_Mo_sum 136 = .ok (.if_icmp .ge 50, 3) := by decide +kernel
theorem zd_Mo_sum_139 : decode zb_Mo_sum 139 = .ok (.aload_n 0, 1) := by decide +kernel
theorem zd_Mo_sum_140 : decode zb_Mo_sum 140 = .ok (.getfield 63, 3) := by decide +kernel
theorem zd_Mo_sum_143 : decode zb_Mo_sum 143 = .ok (.aload_n 0, 1) := by decide +kernel
theorem zd_Mo_sum_144 : decode zb_Mo_sum 144 = .ok (.getfield 13, 3) := by decide +kernel
theorem zd_Mo_sum_147 : decode zb_Mo_sum 147 = .ok (.iload 5, 2) := by decide +kernel
theorem zd_Mo_sum_149 : decode zb_Mo_sum 149 = .ok (.iaload, 1) := by decide +kernel
theorem zd_Mo_sum_150 : decode zb_Mo_sum 150 = .ok (.dup2, 1) := by decide +kernel
theorem zd_Mo_sum_151 : decode zb_Mo_sum 151 = .ok (.laload, 1) := by decide +kernel
theorem zd_Mo_sum_152 : decode zb_Mo_sum 152 = .ok (.aload_n 0, 1) := by decide +kernel
theorem zd_Mo_sum_153 : decode zb_Mo_sum 153 = .ok (.getfield 26, 3) := by decide +kernel
theorem zd_Mo_sum_156 : decode zb_Mo_sum 156 = .ok (.iload 5, 2) := by decide +kernel
theorem zd_Mo_sum_158 : decode zb_Mo_sum 158 = .ok (.iaload, 1) := by decide +kernel
theorem zd_Mo_sum_159 : decode zb_Mo_sum 159 = .ok (.ifCond .ge 7, 3) := by decide +kernel
theorem zd_Mo_sum_162 : decode zb_Mo_sum 162 = .ok (.lconst 0, 1) := by decide +kernel
theorem zd_Mo_sum_163 : decode zb_Mo_sum 163 = .ok (.goto 15, 3) := by decide +kernel
theorem zd_Mo_sum_166 : decode zb_Mo_sum 166 = .ok (.aload_n 0, 1) := by decide +kernel
theorem zd_Mo_sum_167 : decode zb_Mo_sum 167 = .ok (.getfield 60, 3) := by decide +kernel
theorem zd_Mo_sum_170 : decode zb_Mo_sum 170 = .ok (.aload_n 0, 1) := by decide +kernel
theorem zd_Mo_sum_171 : decode zb_Mo_sum 171 = .ok (.getfield 26, 3) := by decide +kernel
theorem zd_Mo_sum_174 : decode zb_Mo_sum 174 = .ok (.iload 5, 2) := by decide +kernel
theorem zd_Mo_sum_176 : decode zb_Mo_sum 176 = .ok (.iaload, 1) := by decide +kernel
theorem zd_Mo_sum_177 : decode zb_Mo_sum 177 = .ok (.laload, 1) := by decide +kernel
theorem zd_Mo_sum_178 : decode zb_Mo_sum 178 = .ok (.ladd, 1) := by decide +kernel
theorem zd_Mo_sum_179 : decode zb_Mo_sum 179 = .ok (.lastore, 1) := by decide +kernel
theorem zd_Mo_sum_180 : decode zb_Mo_sum 180 = .ok (.iinc 5 1, 3) := by decide +kernel
theorem zd_Mo_sum_183 : decode zb_Mo_sum 183 = .ok (.goto (-53), 3) := by decide +kernel
theorem zd_Mo_sum_186 : decode zb_Mo_sum 186 = .ok (.iconst 0, 1) := by decide +kernel
theorem zd_Mo_sum_187 : decode zb_Mo_sum 187 = .ok (.istore 5, 2) := by decide +kernel
theorem zd_Mo_sum_189 : decode zb_Mo_sum 189 = .ok (.iload 5, 2) := by decide +kernel
theorem zd_Mo_sum_191 : decode zb_Mo_sum 191 = .ok (.bipush 8, 2) := by decide +kernel
theorem zd_Mo_sum_193 : decode zb_Mo_sum 193 = .ok (.if_icmp .ge 23, 3) := by decide +kernel
theorem zd_Mo_sum_196 : decode zb_Mo_sum 196 = .ok (.aload_n 0, 1) := by decide +kernel
theorem zd_Mo_sum_197 : decode zb_Mo_sum 197 = .ok (.getfield 60, 3) := by decide +kernel
theorem zd_Mo_sum_200 : decode zb_Mo_sum 200 = .ok (.iload 5, 2) := by decide +kernel
theorem zd_Mo_sum_202 : decode zb_Mo_sum 202 = .ok (.aload_n 0, 1) := by decide +kernel
theorem zd_Mo_sum_203 : decode zb_Mo_sum 203 = .ok (.getfield 63, 3) := by decide +kernel
theorem zd_Mo_sum_206 : decode zb_Mo_sum 206 = .ok (.iload 5, 2) := by decide +kernel
theorem zd_Mo_sum_208 : decode zb_Mo_sum 208 = .ok (.laload, 1) := by decide +kernel
theorem zd_Mo_sum_209 : decode zb_Mo_sum 209 = .ok (.lastore, 1) := by decide +kernel
theorem zd_Mo_sum_210 : decode zb_Mo_sum 210 = .ok (.iinc 5 1, 3) := by decide +kernel
theorem zd_Mo_sum_213 : decode zb_Mo_sum 213 = .ok (.goto (-24), 3) := by decide +kernel
theorem zd_Mo_sum_216 : decode zb_Mo_sum 216 = .ok (.iinc 4 1, 3) := by decide +kernel
theorem zd_Mo_sum_219 : decode zb_Mo_sum 219 = .ok (.goto (-129), 3) := by decide +kernel
theorem zd_Mo_sum_222 : decode zb_Mo_sum 222 = .ok (.return_, 1) := by decide +kernel
theorem zd_Mo_totalOn_0 : decode zb_Mo_totalOn 0 = .ok (.aload_n 0, 1) := by decide +kernel
theorem zd_Mo_totalOn_1 : decode zb_Mo_totalOn 1 = .ok (.iload_n 1, 1) := by decide +kernel
theorem zd_Mo_totalOn_2 : decode zb_Mo_totalOn 2 = .ok (.invokevirtual 73, 3) := by decide +kernel
theorem zd_Mo_totalOn_5 : decode zb_Mo_totalOn 5 = .ok (.ifCond .eq 21, 3) := by decide +kernel
theorem zd_Mo_totalOn_8 : decode zb_Mo_totalOn 8 = .ok (.iload_n 2, 1) := by decide +kernel
theorem zd_Mo_totalOn_9 : decode zb_Mo_totalOn 9 = .ok (.invokestatic 77, 3) := by decide +kernel
theorem zd_Mo_totalOn_12 : decode zb_Mo_totalOn 12 = .ok (.ifCond .eq 14, 3) := by decide +kernel
theorem zd_Mo_totalOn_15 : decode zb_Mo_totalOn 15 = .ok (.lload_n 3, 1) := by decide +kernel
theorem zd_Mo_totalOn_16 : decode zb_Mo_totalOn 16 = .ok (.lconst 0, 1) := by decide +kernel
theorem zd_Mo_totalOn_17 : decode zb_Mo_totalOn 17 = .ok (.ldc2_w 98, 3) := by decide +kernel
theorem zd_Mo_totalOn_20 : decode zb_Mo_totalOn 20 = .ok (.invokestatic 82, 3) := by decide +kernel
theorem zd_Mo_totalOn_23 : decode zb_Mo_totalOn 23 = .ok (.ifCond .ne 7, 3) := by decide +kernel
theorem zd_Mo_totalOn_26 : decode zb_Mo_totalOn 26 = .ok (.ldc2_w 119, 3) := by decide +kernel
theorem zd_Mo_totalOn_29 : decode zb_Mo_totalOn 29 = .ok (.lreturn, 1) := by decide +kernel
theorem zd_Mo_totalOn_30 : decode zb_Mo_totalOn 30 = .ok (.aload_n 0, 1) := by decide +kernel
theorem zd_Mo_totalOn_31 : decode zb_Mo_totalOn 31 = .ok (.iload_n 2, 1) := by decide +kernel
theorem zd_Mo_totalOn_32 : decode zb_Mo_totalOn 32 = .ok (.lload_n 3, 1) := by decide +kernel
theorem zd_Mo_totalOn_33 : decode zb_Mo_totalOn 33 = .ok (.invokevirtual 121, 3) := by decide +kernel
theorem zd_Mo_totalOn_36 : decode zb_Mo_totalOn 36 = .ok (.aload_n 0, 1) := by decide +kernel
theorem zd_Mo_totalOn_37 : decode zb_Mo_totalOn 37 = .ok (.getfield 60, 3) := by decide +kernel
theorem zd_Mo_totalOn_40 : decode zb_Mo_totalOn 40 = .ok (.iload_n 1, 1) := by decide +kernel
theorem zd_Mo_totalOn_41 : decode zb_Mo_totalOn 41 = .ok (.laload, 1) := by decide +kernel
theorem zd_Mo_totalOn_42 : decode zb_Mo_totalOn 42 = .ok (.lreturn, 1) := by decide +kernel
theorem zd_Mo_total_0 : decode zb_Mo_total 0 = .ok (.aload_n 0, 1) := by decide +kernel
theorem zd_Mo_total_1 : decode zb_Mo_total 1 = .ok (.iload_n 1, 1) := by decide +kernel
theorem zd_Mo_total_2 : decode zb_Mo_total 2 = .ok (.iload_n 2, 1) := by decide +kernel
theorem zd_Mo_total_3 : decode zb_Mo_total 3 = .ok (.ldc2_w 98, 3) := by decide +kernel
theorem zd_Mo_total_6 : decode zb_Mo_total 6 = .ok (.invokevirtual 115, 3) := by decide +kernel
theorem zd_Mo_total_9 : decode zb_Mo_total 9 = .ok (.lreturn, 1) := by decide +kernel
theorem zd_Mo_frees_0 : decode zb_Mo_frees 0 = .ok (.iload_n 1, 1) := by decide +kernel
theorem zd_Mo_frees_1 : decode zb_Mo_frees 1 = .ok (.invokestatic 77, 3) := by decide +kernel
theorem zd_Mo_frees_4 : decode zb_Mo_frees 4 = .ok (.ifCond .eq 15, 3) := by decide +kernel
theorem zd_Mo_frees_7 : decode zb_Mo_frees 7 = .ok (.iload_n 2, 1) := by decide +kernel
theorem zd_Mo_frees_8 : decode zb_Mo_frees 8 = .ok (.i2l, 1) := by decide +kernel
theorem zd_Mo_frees_9 : decode zb_Mo_frees 9 = .ok (.lconst 0, 1) := by decide +kernel
theorem zd_Mo_frees_10 : decode zb_Mo_frees 10 = .ok (.ldc2_w 86, 3) := by decide +kernel
theorem zd_Mo_frees_13 : decode zb_Mo_frees 13 = .ok (.invokestatic 82, 3) := by decide +kernel
theorem zd_Mo_frees_16 : decode zb_Mo_frees 16 = .ok (.ifCond .ne 7, 3) := by decide +kernel
theorem zd_Mo_frees_19 : decode zb_Mo_frees 19 = .ok (.ldc2_w 119, 3) := by decide +kernel
theorem zd_Mo_frees_22 : decode zb_Mo_frees 22 = .ok (.lreturn, 1) := by decide +kernel
theorem zd_Mo_frees_23 : decode zb_Mo_frees 23 = .ok (.lconst 0, 1) := by decide +kernel
theorem zd_Mo_frees_24 : decode zb_Mo_frees 24 = .ok (.lstore_n 3, 1) := by decide +kernel
theorem zd_Mo_frees_25 : decode zb_Mo_frees 25 = .ok (.iconst 0, 1) := by decide +kernel
theorem zd_Mo_frees_26 : decode zb_Mo_frees 26 = .ok (.istore 5, 2) := by decide +kernel
theorem zd_Mo_frees_28 : decode zb_Mo_frees 28 = .ok (.iload 5, 2) := by decide +kernel
theorem zd_Mo_frees_30 : decode zb_Mo_frees 30 = .ok (.aload_n 0, 1) := by decide +kernel
theorem zd_Mo_frees_31 : decode zb_Mo_frees 31 = .ok (.getfield 70, 3) := by decide +kernel
theorem zd_Mo_frees_34 : decode zb_Mo_frees 34 = .ok (.if_icmp .ge 49, 3) := by decide +kernel
theorem zd_Mo_frees_37 : decode zb_Mo_frees 37 = .ok (.lload_n 3, 1) := by decide +kernel
theorem zd_Mo_frees_38 : decode zb_Mo_frees 38 = .ok (.aload_n 0, 1) := by decide +kernel
theorem zd_Mo_frees_39 : decode zb_Mo_frees 39 = .ok (.getfield 23, 3) := by decide +kernel
theorem zd_Mo_frees_42 : decode zb_Mo_frees 42 = .ok (.iload 5, 2) := by decide +kernel
theorem zd_Mo_frees_44 : decode zb_Mo_frees 44 = .ok (.iaload, 1) := by decide +kernel
theorem zd_Mo_frees_45 : decode zb_Mo_frees 45 = .ok (.iload_n 2, 1) := by decide +kernel
theorem zd_Mo_frees_46 : decode zb_Mo_frees 46 = .ok (.if_icmp .ne 28, 3) := by decide +kernel
theorem zd_Mo_frees_49 : decode zb_Mo_frees 49 = .ok (.aload_n 0, 1) := by decide +kernel
theorem zd_Mo_frees_50 : decode zb_Mo_frees 50 = .ok (.iload 5, 2) := by decide +kernel
theorem zd_Mo_frees_52 : decode zb_Mo_frees 52 = .ok (.ldc2_w 98, 3) := by decide +kernel
theorem zd_Mo_frees_55 : decode zb_Mo_frees 55 = .ok (.invokevirtual 108, 3) := by decide +kernel
theorem zd_Mo_frees_58 : decode zb_Mo_frees 58 = .ok (.iload_n 1, 1) := by decide +kernel
theorem zd_Mo_frees_59 : decode zb_Mo_frees 59 = .ok (.if_icmp .ne 15, 3) := by decide +kernel
theorem zd_Mo_frees_62 : decode zb_Mo_frees 62 = .ok (.aload_n 0, 1) := by decide +kernel
theorem zd_Mo_frees_63 : decode zb_Mo_frees 63 = .ok (.iload 5, 2) := by decide +kernel
theorem zd_Mo_frees_65 : decode zb_Mo_frees 65 = .ok (.ldc2_w 98, 3) := by decide +kernel
theorem zd_Mo_frees_68 : decode zb_Mo_frees 68 = .ok (.invokevirtual 111, 3) := by decide +kernel
theorem zd_Mo_frees_71 : decode zb_Mo_frees 71 = .ok (.goto 4, 3) := by decide +kernel
theorem zd_Mo_frees_74 : decode zb_Mo_frees 74 = .ok (.lconst 0, 1) := by decide +kernel
theorem zd_Mo_frees_75 : decode zb_Mo_frees 75 = .ok (.ladd, 1) := by decide +kernel
theorem zd_Mo_frees_76 : decode zb_Mo_frees 76 = .ok (.lstore_n 3, 1) := by decide +kernel
theorem zd_Mo_frees_77 : decode zb_Mo_frees 77 = .ok (.iinc 5 1, 3) := by decide +kernel
theorem zd_Mo_frees_80 : decode zb_Mo_frees 80 = .ok (.goto (-52), 3) := by decide +kernel
theorem zd_Mo_frees_83 : decode zb_Mo_frees 83 = .ok (.lload_n 3, 1) := by decide +kernel
theorem zd_Mo_frees_84 : decode zb_Mo_frees 84 = .ok (.lreturn, 1) := by decide +kernel
theorem zd_Mo_version_0 : decode zb_Mo_version 0 = .ok (.aload_n 0, 1) := by decide +kernel
theorem zd_Mo_version_1 : decode zb_Mo_version 1 = .ok (.iload_n 1, 1) := by decide +kernel
theorem zd_Mo_version_2 : decode zb_Mo_version 2 = .ok (.invokevirtual 73, 3) := by decide +kernel
theorem zd_Mo_version_5 : decode zb_Mo_version 5 = .ok (.ifCond .eq 12, 3) := by decide +kernel
theorem zd_Mo_version_8 : decode zb_Mo_version 8 = .ok (.aload_n 0, 1) := by decide +kernel
theorem zd_Mo_version_9 : decode zb_Mo_version 9 = .ok (.getfield 7, 3) := by decide +kernel
theorem zd_Mo_version_12 : decode zb_Mo_version 12 = .ok (.iload_n 1, 1) := by decide +kernel
theorem zd_Mo_version_13 : decode zb_Mo_version 13 = .ok (.iaload, 1) := by decide +kernel
theorem zd_Mo_version_14 : decode zb_Mo_version 14 = .ok (.goto 4, 3) := by decide +kernel
theorem zd_Mo_version_17 : decode zb_Mo_version 17 = .ok (.iconst (-1), 1) := by decide +kernel
theorem zd_Mo_version_18 : decode zb_Mo_version 18 = .ok (.ireturn, 1) := by decide +kernel
theorem zd_Mo_right_0 : decode zb_Mo_right 0 = .ok (.iload_n 1, 1) := by decide +kernel
theorem zd_Mo_right_1 : decode zb_Mo_right 1 = .ok (.i2l, 1) := by decide +kernel
theorem zd_Mo_right_2 : decode zb_Mo_right 2 = .ok (.lconst 0, 1) := by decide +kernel
theorem zd_Mo_right_3 : decode zb_Mo_right 3 = .ok (.ldc2_w 125, 3) := by decide +kernel
theorem zd_Mo_right_6 : decode zb_Mo_right 6 = .ok (.invokestatic 82, 3) := by decide +kernel
theorem zd_Mo_right_9 : decode zb_Mo_right 9 = .ok (.ifCond .eq 11, 3) := by decide +kernel
theorem zd_Mo_right_12 : decode zb_Mo_right 12 = .ok (.aload_n 0, 1) := by decide +kernel
theorem zd_Mo_right_13 : decode zb_Mo_right 13 = .ok (.iload_n 2, 1) := by decide +kernel
theorem zd_Mo_right_14 : decode zb_Mo_right 14 = .ok (.invokevirtual 73, 3) := by decide +kernel
theorem zd_Mo_right_17 : decode zb_Mo_right 17 = .ok (.ifCond .ne 5, 3) := by decide +kernel
theorem zd_Mo_right_20 : decode zb_Mo_right 20 = .ok (.iconst 0, 1) := by decide +kernel
theorem zd_Mo_right_21 : decode zb_Mo_right 21 = .ok (.ireturn, 1) := by decide +kernel
theorem zd_Mo_right_22 : decode zb_Mo_right 22 = .ok (.aload_n 0, 1) := by decide +kernel
theorem zd_Mo_right_23 : decode zb_Mo_right 23 = .ok (.getfield 41, 3) := by decide +kernel
theorem zd_Mo_right_26 : decode zb_Mo_right 26 = .ok (.bipush 8, 2) := by decide +kernel
theorem zd_Mo_right_28 : decode zb_Mo_right 28 = .ok (.iload_n 1, 1) := by decide +kernel
theorem zd_Mo_right_29 : decode zb_Mo_right 29 = .ok (.imul, 1) := by decide +kernel
theorem zd_Mo_right_30 : decode zb_Mo_right 30 = .ok (.iload_n 2, 1) := by decide +kernel
theorem zd_Mo_right_31 : decode zb_Mo_right 31 = .ok (.iadd, 1) := by decide +kernel
theorem zd_Mo_right_32 : decode zb_Mo_right 32 = .ok (.iload_n 3, 1) := by decide +kernel
theorem zd_Mo_right_33 : decode zb_Mo_right 33 = .ok (.bastore, 1) := by decide +kernel
theorem zd_Mo_right_34 : decode zb_Mo_right 34 = .ok (.iconst 1, 1) := by decide +kernel
theorem zd_Mo_right_35 : decode zb_Mo_right 35 = .ok (.ireturn, 1) := by decide +kernel
theorem zd_Mo_partOf_0 : decode zb_Mo_partOf 0 = .ok (.iconst 0, 1) := by decide +kernel
theorem zd_Mo_partOf_1 : decode zb_Mo_partOf 1 = .ok (.istore_n 3, 1) := by decide +kernel
theorem zd_Mo_partOf_2 : decode zb_Mo_partOf 2 = .ok (.iconst 0, 1) := by decide +kernel
theorem zd_Mo_partOf_3 : decode zb_Mo_partOf 3 = .ok (.istore 4, 2) := by decide +kernel
theorem zd_Mo_partOf_5 : decode zb_Mo_partOf 5 = .ok (.iload 4, 2) := by decide +kernel
theorem zd_Mo_partOf_7 : decode zb_Mo_partOf 7 = .ok (.aload_n 0, 1) := by decide +kernel
theorem zd_Mo_partOf_8 : decode zb_Mo_partOf 8 = .ok (.getfield 70, 3) := by decide +kernel
theorem zd_Mo_partOf_11 : decode zb_Mo_partOf 11 = .ok (.if_icmp .ge 31, 3) := by decide +kernel
theorem zd_Mo_partOf_14 : decode zb_Mo_partOf 14 = .ok (.aload_n 0, 1) := by decide +kernel
theorem zd_Mo_partOf_15 : decode zb_Mo_partOf 15 = .ok (.getfield 13, 3) := by decide +kernel
theorem zd_Mo_partOf_18 : decode zb_Mo_partOf 18 = .ok (.iload 4, 2) := by decide +kernel
theorem zd_Mo_partOf_20 : decode zb_Mo_partOf 20 = .ok (.iaload, 1) := by decide +kernel
theorem zd_Mo_partOf_21 : decode zb_Mo_partOf 21 = .ok (.iload_n 1, 1) := by decide +kernel
theorem zd_Mo_partOf_22 : decode zb_Mo_partOf 22 = .ok (.if_icmp .ne 14, 3) := by decide +kernel
theorem zd_Mo_partOf_25 : decode zb_Mo_partOf 25 = .ok (.iload_n 3, 1) := by decide +kernel
theorem zd_Mo_partOf_26 : decode zb_Mo_partOf 26 = .ok (.iload_n 2, 1) := by decide +kernel
theorem zd_Mo_partOf_27 : decode zb_Mo_partOf 27 = .ok (.if_icmp .ne 6, 3) := by decide +kernel
theorem zd_Mo_partOf_30 : decode zb_Mo_partOf 30 = .ok (.iload 4, 2) := by decide +kernel
theorem zd_Mo_partOf_32 : decode zb_Mo_partOf 32 = .ok (.ireturn, 1) := by decide +kernel
theorem zd_Mo_partOf_33 : decode zb_Mo_partOf 33 = .ok (.iinc 3 1, 3) := by decide +kernel
theorem zd_Mo_partOf_36 : decode zb_Mo_partOf 36 = .ok (.iinc 4 1, 3) := by decide +kernel
theorem zd_Mo_partOf_39 : decode zb_Mo_partOf 39 = .ok (.goto (-34), 3) := by decide +kernel
theorem zd_Mo_partOf_42 : decode zb_Mo_partOf 42 = .ok (.iconst (-1), 1) := by decide +kernel
theorem zd_Mo_partOf_43 : decode zb_Mo_partOf 43 = .ok (.ireturn, 1) := by decide +kernel
theorem zd_Mo_seen_0 : decode zb_Mo_seen 0 = .ok (.iload_n 1, 1) := by decide +kernel
theorem zd_Mo_seen_1 : decode zb_Mo_seen 1 = .ok (.i2l, 1) := by decide +kernel
theorem zd_Mo_seen_2 : decode zb_Mo_seen 2 = .ok (.lconst 0, 1) := by decide +kernel
theorem zd_Mo_seen_3 : decode zb_Mo_seen 3 = .ok (.ldc2_w 125, 3) := by decide +kernel
theorem zd_Mo_seen_6 : decode zb_Mo_seen 6 = .ok (.invokestatic 82, 3) := by decide +kernel
theorem zd_Mo_seen_9 : decode zb_Mo_seen 9 = .ok (.ifCond .eq 33, 3) := by decide +kernel
theorem zd_Mo_seen_12 : decode zb_Mo_seen 12 = .ok (.aload_n 0, 1) := by decide +kernel
theorem zd_Mo_seen_13 : decode zb_Mo_seen 13 = .ok (.iload_n 2, 1) := by decide +kernel
theorem zd_Mo_seen_14 : decode zb_Mo_seen 14 = .ok (.invokevirtual 73, 3) := by decide +kernel
theorem zd_Mo_seen_17 : decode zb_Mo_seen 17 = .ok (.ifCond .eq 25, 3) := by decide +kernel
theorem zd_Mo_seen_20 : decode zb_Mo_seen 20 = .ok (.iload 4, 2) := by decide +kernel
theorem zd_Mo_seen_22 : decode zb_Mo_seen 22 = .ok (.i2l, 1) := by decide +kernel
theorem zd_Mo_seen_23 : decode zb_Mo_seen 23 = .ok (.lconst 0, 1) := by decide +kernel
theorem zd_Mo_seen_24 : decode zb_Mo_seen 24 = .ok (.ldc2_w 127, 3) := by decide +kernel
theorem zd_Mo_seen_27 : decode zb_Mo_seen 27 = .ok (.invokestatic 82, 3) := by decide +kernel
theorem zd_Mo_seen_30 : decode zb_Mo_seen 30 = .ok (.ifCond .eq 12, 3) := by decide +kernel
theorem zd_Mo_seen_33 : decode zb_Mo_seen 33 = .ok (.aload_n 0, 1) := by decide +kernel
theorem zd_Mo_seen_34 : decode zb_Mo_seen 34 = .ok (.iload_n 2, 1) := by decide +kernel
theorem zd_Mo_seen_35 : decode zb_Mo_seen 35 = .ok (.iload_n 3, 1) := by decide +kernel
theorem zd_Mo_seen_36 : decode zb_Mo_seen 36 = .ok (.invokevirtual 129, 3) := by decide +kernel
theorem zd_Mo_seen_39 : decode zb_Mo_seen 39 = .ok (.ifCond .ge 7, 3) := by decide +kernel
theorem zd_Mo_seen_42 : decode zb_Mo_seen 42 = .ok (.ldc2_w 119, 3) := by decide +kernel
theorem zd_Mo_seen_45 : decode zb_Mo_seen 45 = .ok (.lreturn, 1) := by decide +kernel
theorem zd_Mo_seen_46 : decode zb_Mo_seen 46 = .ok (.aload_n 0, 1) := by decide +kernel
theorem zd_Mo_seen_47 : decode zb_Mo_seen 47 = .ok (.iload_n 2, 1) := by decide +kernel
theorem zd_Mo_seen_48 : decode zb_Mo_seen 48 = .ok (.iload_n 3, 1) := by decide +kernel
theorem zd_Mo_seen_49 : decode zb_Mo_seen 49 = .ok (.invokevirtual 129, 3) := by decide +kernel
theorem zd_Mo_seen_52 : decode zb_Mo_seen 52 = .ok (.istore 5, 2) := by decide +kernel
theorem zd_Mo_seen_54 : decode zb_Mo_seen 54 = .ok (.aload_n 0, 1) := by decide +kernel
theorem zd_Mo_seen_55 : decode zb_Mo_seen 55 = .ok (.getfield 41, 3) := by decide +kernel
theorem zd_Mo_seen_58 : decode zb_Mo_seen 58 = .ok (.bipush 8, 2) := by decide +kernel
theorem zd_Mo_seen_60 : decode zb_Mo_seen 60 = .ok (.iload_n 1, 1) := by decide +kernel
theorem zd_Mo_seen_61 : decode zb_Mo_seen 61 = .ok (.imul, 1) := by decide +kernel
theorem zd_Mo_seen_62 : decode zb_Mo_seen 62 = .ok (.iload_n 2, 1) := by decide +kernel
theorem zd_Mo_seen_63 : decode zb_Mo_seen 63 = .ok (.iadd, 1) := by decide +kernel
theorem zd_Mo_seen_64 : decode zb_Mo_seen 64 = .ok (.baload, 1) := by decide +kernel
theorem zd_Mo_seen_65 : decode zb_Mo_seen 65 = .ok (.istore 6, 2) := by decide +kernel
theorem zd_Mo_seen_67 : decode zb_Mo_seen 67 = .ok (.iload 4, 2) := by decide +kernel
theorem zd_Mo_seen_69 : decode zb_Mo_seen 69 = .ok (.ifCond .ne 14, 3) := by decide +kernel
theorem zd_Mo_seen_72 : decode zb_Mo_seen 72 = .ok (.aload_n 0, 1) := by decide +kernel
theorem zd_Mo_seen_73 : decode zb_Mo_seen 73 = .ok (.iload 5, 2) := by decide +kernel
theorem zd_Mo_seen_75 : decode zb_Mo_seen 75 = .ok (.ldc2_w 98, 3) := by decide +kernel
theorem zd_Mo_seen_78 : decode zb_Mo_seen 78 = .ok (.invokevirtual 108, 3) := by decide +kernel
theorem zd_Mo_seen_81 : decode zb_Mo_seen 81 = .ok (.i2l, 1) := by decide +kernel
theorem zd_Mo_seen_82 : decode zb_Mo_seen 82 = .ok (.lreturn, 1) := by decide +kernel
theorem zd_Mo_seen_83 : decode zb_Mo_seen 83 = .ok (.iload 4, 2) := by decide +kernel
theorem zd_Mo_seen_85 : decode zb_Mo_seen 85 = .ok (.iconst 2, 1) := by decide +kernel
theorem zd_Mo_seen_86 : decode zb_Mo_seen 86 = .ok (.if_icmp .ne 23, 3) := by decide +kernel
theorem zd_Mo_seen_89 : decode zb_Mo_seen 89 = .ok (.iload 6, 2) := by decide +kernel
theorem zd_Mo_seen_91 : decode zb_Mo_seen 91 = .ok (.ifCond .eq 14, 3) := by decide +kernel
theorem zd_Mo_seen_94 : decode zb_Mo_seen 94 = .ok (.aload_n 0, 1) := by decide +kernel
theorem zd_Mo_seen_95 : decode zb_Mo_seen 95 = .ok (.getfield 23, 3) := by decide +kernel
theorem zd_Mo_seen_98 : decode zb_Mo_seen 98 = .ok (.iload 5, 2) := by decide +kernel
theorem zd_Mo_seen_100 : decode zb_Mo_seen 100 = .ok (.iaload, 1) := by decide +kernel
theorem zd_Mo_seen_101 : decode zb_Mo_seen 101 = .ok (.i2l, 1) := by decide +kernel
theorem zd_Mo_seen_102 : decode zb_Mo_seen 102 = .ok (.goto 6, 3) := by decide +kernel
theorem zd_Mo_seen_105 : decode zb_Mo_seen 105 = .ok (.ldc2_w 133, 3) := by decide +kernel
theorem zd_Mo_seen_108 : decode zb_Mo_seen 108 = .ok (.lreturn, 1) := by decide +kernel
theorem zd_Mo_seen_109 : decode zb_Mo_seen 109 = .ok (.iload 6, 2) := by decide +kernel
theorem zd_Mo_seen_111 : decode zb_Mo_seen 111 = .ok (.ifCond .eq 13, 3) := by decide +kernel
theorem zd_Mo_seen_114 : decode zb_Mo_seen 114 = .ok (.aload_n 0, 1) := by decide +kernel
theorem zd_Mo_seen_115 : decode zb_Mo_seen 115 = .ok (.iload 5, 2) := by decide +kernel
theorem zd_Mo_seen_117 : decode zb_Mo_seen 117 = .ok (.ldc2_w 98, 3) := by decide +kernel
theorem zd_Mo_seen_120 : decode zb_Mo_seen 120 = .ok (.invokevirtual 111, 3) := by decide +kernel
theorem zd_Mo_seen_123 : decode zb_Mo_seen 123 = .ok (.lreturn, 1) := by decide +kernel
theorem zd_Mo_seen_124 : decode zb_Mo_seen 124 = .ok (.lconst 0, 1) := by decide +kernel
theorem zd_Mo_seen_125 : decode zb_Mo_seen 125 = .ok (.lstore 7, 2) := by decide +kernel
theorem zd_Mo_seen_127 : decode zb_Mo_seen 127 = .ok (.iconst 0, 1) := by decide +kernel
theorem zd_Mo_seen_128 : decode zb_Mo_seen 128 = .ok (.istore 9, 2) := by decide +kernel
theorem zd_Mo_seen_130 : decode zb_Mo_seen 130 = .ok (.iload 9, 2) := by decide +kernel
theorem zd_Mo_seen_132 : decode zb_Mo_seen 132 = .ok (.aload_n 0, 1) := by decide +kernel
theorem zd_Mo_seen_133 : decode zb_Mo_seen 133 = .ok (.getfield 70, 3) := by decide +kernel
theorem zd_Mo_seen_136 : decode zb_Mo_seen 136 = .ok (.if_icmp .ge 71, 3) := by decide +kernel
theorem zd_Mo_seen_139 : decode zb_Mo_seen 139 = .ok (.aload_n 0, 1) := by decide +kernel
theorem zd_Mo_seen_140 : decode zb_Mo_seen 140 = .ok (.getfield 13, 3) := by decide +kernel
theorem zd_Mo_seen_143 : decode zb_Mo_seen 143 = .ok (.iload 9, 2) := by decide +kernel
theorem zd_Mo_seen_145 : decode zb_Mo_seen 145 = .ok (.iaload, 1) := by decide +kernel
theorem zd_Mo_seen_146 : decode zb_Mo_seen 146 = .ok (.iload_n 2, 1) := by decide +kernel
theorem zd_Mo_seen_147 : decode zb_Mo_seen 147 = .ok (.if_icmp .ne 28, 3) := by decide +kernel
theorem zd_Mo_seen_150 : decode zb_Mo_seen 150 = .ok (.aload_n 0, 1) := by decide +kernel
theorem zd_Mo_seen_151 : decode zb_Mo_seen 151 = .ok (.iload 9, 2) := by decide +kernel
theorem zd_Mo_seen_153 : decode zb_Mo_seen 153 = .ok (.ldc2_w 98, 3) := by decide +kernel
theorem zd_Mo_seen_156 : decode zb_Mo_seen 156 = .ok (.invokevirtual 108, 3) := by decide +kernel
theorem zd_Mo_seen_159 : decode zb_Mo_seen 159 = .ok (.aload_n 0, 1) := by decide +kernel
theorem zd_Mo_seen_160 : decode zb_Mo_seen 160 = .ok (.iload 5, 2) := by decide +kernel
theorem zd_Mo_seen_162 : decode zb_Mo_seen 162 = .ok (.ldc2_w 98, 3) := by decide +kernel
theorem zd_Mo_seen_165 : decode zb_Mo_seen 165 = .ok (.invokevirtual 108, 3) := by decide +kernel
theorem zd_Mo_seen_168 : decode zb_Mo_seen 168 = .ok (.if_icmp .ne 7, 3) := by decide +kernel
theorem zd_Mo_seen_171 : decode zb_Mo_seen 171 = .ok (.iconst 1, 1) := by decide +kernel
theorem zd_Mo_seen_172 : decode zb_Mo_seen 172 = .ok (.goto 4, 3) := by decide +kernel
theorem zd_Mo_seen_175 : decode zb_Mo_seen 175 = .ok (.iconst 0, 1) := by decide +kernel
theorem zd_Mo_seen_176 : decode zb_Mo_seen 176 = .ok (.istore 10, 2) := by decide +kernel
theorem zd_Mo_seen_178 : decode zb_Mo_seen 178 = .ok (.lload 7, 2) := by decide +kernel
theorem zd_Mo_seen_180 : decode zb_Mo_seen 180 = .ok (.iload 10, 2) := by decide +kernel
theorem zd_Mo_seen_182 : decode zb_Mo_seen 182 = .ok (.ifCond .eq 15, 3) := by decide +kernel
theorem zd_Mo_seen_185 : decode zb_Mo_seen 185 = .ok (.aload_n 0, 1) := by decide +kernel
theorem zd_Mo_seen_186 : decode zb_Mo_seen 186 = .ok (.iload 9, 2) := by decide +kernel
theorem zd_Mo_seen_188 : decode zb_Mo_seen 188 = .ok (.ldc2_w 98, 3) := by decide +kernel
theorem zd_Mo_seen_191 : decode zb_Mo_seen 191 = .ok (.invokevirtual 111, 3) := by decide +kernel
theorem zd_Mo_seen_194 : decode zb_Mo_seen 194 = .ok (.goto 4, 3) := by decide +kernel
theorem zd_Mo_seen_197 : decode zb_Mo_seen 197 = .ok (.lconst 0, 1) := by decide +kernel
theorem zd_Mo_seen_198 : decode zb_Mo_seen 198 = .ok (.ladd, 1) := by decide +kernel
theorem zd_Mo_seen_199 : decode zb_Mo_seen 199 = .ok (.lstore 7, 2) := by decide +kernel
theorem zd_Mo_seen_201 : decode zb_Mo_seen 201 = .ok (.iinc 9 1, 3) := by decide +kernel
theorem zd_Mo_seen_204 : decode zb_Mo_seen 204 = .ok (.goto (-74), 3) := by decide +kernel
theorem zd_Mo_seen_207 : decode zb_Mo_seen 207 = .ok (.lload 7, 2) := by decide +kernel
theorem zd_Mo_seen_209 : decode zb_Mo_seen 209 = .ok (.lreturn, 1) := by decide +kernel
theorem zd_Mo_unit_0 : decode zb_Mo_unit 0 = .ok (.iload_n 1, 1) := by decide +kernel
theorem zd_Mo_unit_1 : decode zb_Mo_unit 1 = .ok (.i2l, 1) := by decide +kernel
theorem zd_Mo_unit_2 : decode zb_Mo_unit 2 = .ok (.lconst 0, 1) := by decide +kernel
theorem zd_Mo_unit_3 : decode zb_Mo_unit 3 = .ok (.ldc2_w 135, 3) := by decide +kernel
theorem zd_Mo_unit_6 : decode zb_Mo_unit 6 = .ok (.invokestatic 82, 3) := by decide +kernel
theorem zd_Mo_unit_9 : decode zb_Mo_unit 9 = .ok (.ifCond .eq 13, 3) := by decide +kernel
theorem zd_Mo_unit_12 : decode zb_Mo_unit 12 = .ok (.aload_n 0, 1) := by decide +kernel
theorem zd_Mo_unit_13 : decode zb_Mo_unit 13 = .ok (.getfield 137, 3) := by decide +kernel
theorem zd_Mo_unit_16 : decode zb_Mo_unit 16 = .ok (.sipush 300, 3) := by decide +kernel
theorem zd_Mo_unit_19 : decode zb_Mo_unit 19 = .ok (.if_icmp .ne 5, 3) := by decide +kernel
theorem zd_Mo_unit_22 : decode zb_Mo_unit 22 = .ok (.iconst 0, 1) := by decide +kernel
theorem zd_Mo_unit_23 : decode zb_Mo_unit 23 = .ok (.ireturn, 1) := by decide +kernel
theorem zd_Mo_unit_24 : decode zb_Mo_unit 24 = .ok (.aload_n 0, 1) := by decide +kernel
theorem zd_Mo_unit_25 : decode zb_Mo_unit 25 = .ok (.getfield 45, 3) := by decide +kernel
theorem zd_Mo_unit_28 : decode zb_Mo_unit 28 = .ok (.aload_n 0, 1) := by decide +kernel
theorem zd_Mo_unit_29 : decode zb_Mo_unit 29 = .ok (.getfield 137, 3) := by decide +kernel
theorem zd_Mo_unit_32 : decode zb_Mo_unit 32 = .ok (.iload_n 1, 1) := by decide +kernel
theorem zd_Mo_unit_33 : decode zb_Mo_unit 33 = .ok (.iastore, 1) := by decide +kernel
theorem zd_Mo_unit_34 : decode zb_Mo_unit 34 = .ok (.aload_n 0, 1) := by decide +kernel
theorem zd_Mo_unit_35 : decode zb_Mo_unit 35 = .ok (.dup, 1) := by decide +kernel
theorem zd_Mo_unit_36 : decode zb_Mo_unit 36 = .ok (.getfield 137, 3) := by decide +kernel
theorem zd_Mo_unit_39 : decode zb_Mo_unit 39 = .ok (.iconst 1, 1) := by decide +kernel
theorem zd_Mo_unit_40 : decode zb_Mo_unit 40 = .ok (.iadd, 1) := by decide +kernel
theorem zd_Mo_unit_41 : decode zb_Mo_unit 41 = .ok (.putfield 137, 3) := by decide +kernel
theorem zd_Mo_unit_44 : decode zb_Mo_unit 44 = .ok (.iconst 1, 1) := by decide +kernel
theorem zd_Mo_unit_45 : decode zb_Mo_unit 45 = .ok (.ireturn, 1) := by decide +kernel
theorem zd_Mo_isBlank_0 : decode zb_Mo_isBlank 0 = .ok (.iload_n 0, 1) := by decide +kernel
theorem zd_Mo_isBlank_1 : decode zb_Mo_isBlank 1 = .ok (.bipush 32, 2) := by decide +kernel
theorem zd_Mo_isBlank_3 : decode zb_Mo_isBlank 3 = .ok (.if_icmp .eq 9, 3) := by decide +kernel
theorem zd_Mo_isBlank_6 : decode zb_Mo_isBlank 6 = .ok (.iload_n 0, 1) := by decide +kernel
theorem zd_Mo_isBlank_7 : decode zb_Mo_isBlank 7 = .ok (.bipush 10, 2) := by decide +kernel
theorem zd_Mo_isBlank_9 : decode zb_Mo_isBlank 9 = .ok (.if_icmp .ne 7, 3) := by decide +kernel
theorem zd_Mo_isBlank_12 : decode zb_Mo_isBlank 12 = .ok (.iconst 1, 1) := by decide +kernel
theorem zd_Mo_isBlank_13 : decode zb_Mo_isBlank 13 = .ok (.goto 4, 3) := by decide +kernel
theorem zd_Mo_isBlank_16 : decode zb_Mo_isBlank 16 = .ok (.iconst 0, 1) := by decide +kernel
theorem zd_Mo_isBlank_17 : decode zb_Mo_isBlank 17 = .ok (.ireturn, 1) := by decide +kernel
theorem zd_Mo_is_0 : decode zb_Mo_is 0 = .ok (.aload_n 0, 1) := by decide +kernel
theorem zd_Mo_is_1 : decode zb_Mo_is 1 = .ok (.getfield 45, 3) := by decide +kernel
theorem zd_Mo_is_4 : decode zb_Mo_is 4 = .ok (.iload_n 1, 1) := by decide +kernel
theorem zd_Mo_is_5 : decode zb_Mo_is 5 = .ok (.iaload, 1) := by decide +kernel
theorem zd_Mo_is_6 : decode zb_Mo_is 6 = .ok (.iload_n 2, 1) := by decide +kernel
theorem zd_Mo_is_7 : decode zb_Mo_is 7 = .ok (.if_icmp .ne 32, 3) := by decide +kernel
theorem zd_Mo_is_10 : decode zb_Mo_is 10 = .ok (.aload_n 0, 1) := by decide +kernel
theorem zd_Mo_is_11 : decode zb_Mo_is 11 = .ok (.getfield 45, 3) := by decide +kernel
theorem zd_Mo_is_14 : decode zb_Mo_is 14 = .ok (.iload_n 1, 1) := by decide +kernel
theorem zd_Mo_is_15 : decode zb_Mo_is 15 = .ok (.iconst 1, 1) := by decide +kernel
theorem zd_Mo_is_16 : decode zb_Mo_is 16 = .ok (.iadd, 1) := by decide +kernel
theorem zd_Mo_is_17 : decode zb_Mo_is 17 = .ok (.iaload, 1) := by decide +kernel
theorem zd_Mo_is_18 : decode zb_Mo_is 18 = .ok (.iload_n 3, 1) := by decide +kernel
theorem zd_Mo_is_19 : decode zb_Mo_is 19 = .ok (.if_icmp .ne 20, 3) := by decide +kernel
theorem zd_Mo_is_22 : decode zb_Mo_is 22 = .ok (.aload_n 0, 1) := by decide +kernel
theorem zd_Mo_is_23 : decode zb_Mo_is 23 = .ok (.getfield 45, 3) := by decide +kernel
theorem zd_Mo_is_26 : decode zb_Mo_is 26 = .ok (.iload_n 1, 1) := by decide +kernel
theorem zd_Mo_is_27 : decode zb_Mo_is 27 = .ok (.iconst 2, 1) := by decide +kernel
theorem zd_Mo_is_28 : decode zb_Mo_is 28 = .ok (.iadd, 1) := by decide +kernel
theorem zd_Mo_is_29 : decode zb_Mo_is 29 = .ok (.iaload, 1) := by decide +kernel
theorem zd_Mo_is_30 : decode zb_Mo_is 30 = .ok (.iload 4, 2) := by decide +kernel
theorem zd_Mo_is_32 : decode zb_Mo_is 32 = .ok (.if_icmp .ne 7, 3) := by decide +kernel
theorem zd_Mo_is_35 : decode zb_Mo_is 35 = .ok (.iconst 1, 1) := by decide +kernel
theorem zd_Mo_is_36 : decode zb_Mo_is 36 = .ok (.goto 4, 3) := by decide +kernel
theorem zd_Mo_is_39 : decode zb_Mo_is 39 = .ok (.iconst 0, 1) := by decide +kernel
theorem zd_Mo_is_40 : decode zb_Mo_is 40 = .ok (.ireturn, 1) := by decide +kernel
theorem zd_Mo_wordAt_0 : decode zb_Mo_wordAt 0 = .ok (.aload_n 0, 1) := by decide +kernel
theorem zd_Mo_wordAt_1 : decode zb_Mo_wordAt 1 = .ok (.getfield 45, 3) := by decide +kernel
theorem zd_Mo_wordAt_4 : decode zb_Mo_wordAt 4 = .ok (.iload_n 1, 1) := by decide +kernel
theorem zd_Mo_wordAt_5 : decode zb_Mo_wordAt 5 = .ok (.iaload, 1) := by decide +kernel
theorem zd_Mo_wordAt_6 : decode zb_Mo_wordAt 6 = .ok (.istore_n 3, 1) := by decide +kernel
theorem zd_Mo_wordAt_7 : decode zb_Mo_wordAt 7 = .ok (.iload_n 2, 1) := by decide +kernel
theorem zd_Mo_wordAt_8 : decode zb_Mo_wordAt 8 = .ok (.iconst 1, 1) := by decide +kernel
theorem zd_Mo_wordAt_9 : decode zb_Mo_wordAt 9 = .ok (.if_icmp .ne 63, 3) := by decide +kernel
theorem zd_Mo_wordAt_12 : decode zb_Mo_wordAt 12 = .ok (.iload_n 3, 1) := by decide +kernel
theorem zd_Mo_wordAt_13 : decode zb_Mo_wordAt 13 = .ok (.bipush 110, 2) := by decide +kernel
theorem zd_Mo_wordAt_15 : decode zb_Mo_wordAt 15 = .ok (.if_icmp .eq 21, 3) := by decide +kernel
theorem zd_Mo_wordAt_18 : decode zb_Mo_wordAt 18 = .ok (.iload_n 3, 1) := by decide +kernel
theorem zd_Mo_wordAt_19 : decode zb_Mo_wordAt 19 = .ok (.bipush 43, 2) := by decide +kernel
theorem zd_Mo_wordAt_21 : decode zb_Mo_wordAt 21 = .ok (.if_icmp .eq 15, 3) := by decide +kernel
theorem zd_Mo_wordAt_24 : decode zb_Mo_wordAt 24 = .ok (.iload_n 3, 1) := by decide +kernel
theorem zd_Mo_wordAt_25 : decode zb_Mo_wordAt 25 = .ok (.bipush 45, 2) := by decide +kernel
theorem zd_Mo_wordAt_27 : decode zb_Mo_wordAt 27 = .ok (.if_icmp .eq 9, 3) := by decide +kernel
theorem zd_Mo_wordAt_30 : decode zb_Mo_wordAt 30 = .ok (.iload_n 3, 1) := by decide +kernel
theorem zd_Mo_wordAt_31 : decode zb_Mo_wordAt 31 = .ok (.bipush 42, 2) := by decide +kernel
theorem zd_Mo_wordAt_33 : decode zb_Mo_wordAt 33 = .ok (.if_icmp .ne 39, 3) := by decide +kernel
theorem zd_Mo_wordAt_36 : decode zb_Mo_wordAt 36 = .ok (.iload_n 3, 1) := by decide +kernel
theorem zd_Mo_wordAt_37 : decode zb_Mo_wordAt 37 = .ok (.bipush 110, 2) := by decide +kernel
theorem zd_Mo_wordAt_39 : decode zb_Mo_wordAt 39 = .ok (.if_icmp .ne 8, 3) := by decide +kernel
theorem zd_Mo_wordAt_42 : decode zb_Mo_wordAt 42 = .ok (.bipush (-6), 2) := by decide +kernel
theorem zd_Mo_wordAt_44 : decode zb_Mo_wordAt 44 = .ok (.goto 27, 3) := by decide +kernel
theorem zd_Mo_wordAt_47 : decode zb_Mo_wordAt 47 = .ok (.iload_n 3, 1) := by decide +kernel
theorem zd_Mo_wordAt_48 : decode zb_Mo_wordAt 48 = .ok (.bipush 43, 2) := by decide +kernel
theorem zd_Mo_wordAt_50 : decode zb_Mo_wordAt 50 = .ok (.if_icmp .ne 8, 3) := by decide +kernel
theorem zd_Mo_wordAt_53 : decode zb_Mo_wordAt 53 = .ok (.bipush (-7), 2) := by decide +kernel
theorem zd_Mo_wordAt_55 : decode zb_Mo_wordAt 55 = .ok (.goto 16, 3) := by decide +kernel
theorem zd_Mo_wordAt_58 : decode zb_Mo_wordAt 58 = .ok (.iload_n 3, 1) := by decide +kernel
theorem zd_Mo_wordAt_59 : decode zb_Mo_wordAt 59 = .ok (.bipush 45, 2) := by decide +kernel
theorem zd_Mo_wordAt_61 : decode zb_Mo_wordAt 61 = .ok (.if_icmp .ne 8, 3) := by decide +kernel
theorem zd_Mo_wordAt_64 : decode zb_Mo_wordAt 64 = .ok (.bipush (-8), 2) := by decide +kernel
theorem zd_Mo_wordAt_66 : decode zb_Mo_wordAt 66 = .ok (.goto 5, 3) := by decide +kernel
theorem zd_Mo_wordAt_69 : decode zb_Mo_wordAt 69 = .ok (.bipush (-9), 2) := by decide +kernel
theorem zd_Mo_wordAt_71 : decode zb_Mo_wordAt 71 = .ok (.ireturn, 1) := by decide +kernel
theorem zd_Mo_wordAt_72 : decode zb_Mo_wordAt 72 = .ok (.iload_n 2, 1) := by decide +kernel
theorem zd_Mo_wordAt_73 : decode zb_Mo_wordAt 73 = .ok (.iconst 2, 1) := by decide +kernel
theorem zd_Mo_wordAt_74 : decode zb_Mo_wordAt 74 = .ok (.if_icmp .ne 49, 3) := by decide +kernel
theorem zd_Mo_wordAt_77 : decode zb_Mo_wordAt 77 = .ok (.iload_n 3, 1) := by decide +kernel
theorem zd_Mo_wordAt_78 : decode zb_Mo_wordAt 78 = .ok (.bipush 107, 2) := by decide +kernel
theorem zd_Mo_wordAt_80 : decode zb_Mo_wordAt 80 = .ok (.if_icmp .ne 43, 3) := by decide +kernel
theorem zd_Mo_wordAt_83 : decode zb_Mo_wordAt 83 = .ok (.aload_n 0, 1) := by decide +kernel
theorem zd_Mo_wordAt_84 : decode zb_Mo_wordAt 84 = .ok (.getfield 45, 3) := by decide +kernel
theorem zd_Mo_wordAt_87 : decode zb_Mo_wordAt 87 = .ok (.iload_n 1, 1) := by decide +kernel
theorem zd_Mo_wordAt_88 : decode zb_Mo_wordAt 88 = .ok (.iconst 1, 1) := by decide +kernel
theorem zd_Mo_wordAt_89 : decode zb_Mo_wordAt 89 = .ok (.iadd, 1) := by decide +kernel
theorem zd_Mo_wordAt_90 : decode zb_Mo_wordAt 90 = .ok (.iaload, 1) := by decide +kernel
theorem zd_Mo_wordAt_91 : decode zb_Mo_wordAt 91 = .ok (.bipush 48, 2) := by decide +kernel
theorem zd_Mo_wordAt_93 : decode zb_Mo_wordAt 93 = .ok (.if_icmp .lt 30, 3) := by decide +kernel
theorem zd_Mo_wordAt_96 : decode zb_Mo_wordAt 96 = .ok (.aload_n 0, 1) := by decide +kernel
theorem zd_Mo_wordAt_97 : decode zb_Mo_wordAt 97 = .ok (.getfield 45, 3) := by decide +kernel
theorem zd_Mo_wordAt_100 : decode zb_Mo_wordAt 100 = .ok (.iload_n 1, 1) := by decide +kernel
theorem zd_Mo_wordAt_101 : decode zb_Mo_wordAt 101 = .ok (.iconst 1, 1) := by decide +kernel
theorem zd_Mo_wordAt_102 : decode zb_Mo_wordAt 102 = .ok (.iadd, 1) := by decide +kernel
theorem zd_Mo_wordAt_103 : decode zb_Mo_wordAt 103 = .ok (.iaload, 1) := by decide +kernel
theorem zd_Mo_wordAt_104 : decode zb_Mo_wordAt 104 = .ok (.bipush 52, 2) := by decide +kernel
theorem zd_Mo_wordAt_106 : decode zb_Mo_wordAt 106 = .ok (.if_icmp .gt 17, 3) := by decide +kernel
theorem zd_Mo_wordAt_109 : decode zb_Mo_wordAt 109 = .ok (.iconst (-1), 1) := by decide +kernel
theorem zd_Mo_wordAt_110 : decode zb_Mo_wordAt 110 = .ok (.aload_n 0, 1) := by decide +kernel
theorem zd_Mo_wordAt_111 : decode zb_Mo_wordAt 111 = .ok (.getfield 45, 3) := by decide +kernel
theorem zd_Mo_wordAt_114 : decode zb_Mo_wordAt 114 = .ok (.iload_n 1, 1) := by decide +kernel
theorem zd_Mo_wordAt_115 : decode zb_Mo_wordAt 115 = .ok (.iconst 1, 1) := by decide +kernel
theorem zd_Mo_wordAt_116 : decode zb_Mo_wordAt 116 = .ok (.iadd, 1) := by decide +kernel
theorem zd_Mo_wordAt_117 : decode zb_Mo_wordAt 117 = .ok (.iaload, 1) := by decide +kernel
theorem zd_Mo_wordAt_118 : decode zb_Mo_wordAt 118 = .ok (.bipush 48, 2) := by decide +kernel
theorem zd_Mo_wordAt_120 : decode zb_Mo_wordAt 120 = .ok (.isub, 1) := by decide +kernel
theorem zd_Mo_wordAt_121 : decode zb_Mo_wordAt 121 = .ok (.isub, 1) := by decide +kernel
theorem zd_Mo_wordAt_122 : decode zb_Mo_wordAt 122 = .ok (.ireturn, 1) := by decide +kernel
theorem zd_Mo_wordAt_123 : decode zb_Mo_wordAt 123 = .ok (.iload_n 2, 1) := by decide +kernel
theorem zd_Mo_wordAt_124 : decode zb_Mo_wordAt 124 = .ok (.iconst 3, 1) := by decide +kernel
theorem zd_Mo_wordAt_125 : decode zb_Mo_wordAt 125 = .ok (.if_icmp .ne 20, 3) := by decide +kernel
theorem zd_Mo_wordAt_128 : decode zb_Mo_wordAt 128 = .ok (.aload_n 0, 1) := by decide +kernel
theorem zd_Mo_wordAt_129 : decode zb_Mo_wordAt 129 = .ok (.iload_n 1, 1) := by decide +kernel
theorem zd_Mo_wordAt_130 : decode zb_Mo_wordAt 130 = .ok (.bipush 109, 2) := by decide +kernel
theorem zd_Mo_wordAt_132 : decode zb_Mo_wordAt 132 = .ok (.bipush 105, 2) := by decide +kernel
theorem zd_Mo_wordAt_134 : decode zb_Mo_wordAt 134 = .ok (.bipush 110, 2) := by decide +kernel
theorem zd_Mo_wordAt_136 : decode zb_Mo_wordAt 136 = .ok (.invokevirtual 140, 3) := by decide +kernel
theorem zd_Mo_wordAt_139 : decode zb_Mo_wordAt 139 = .ok (.ifCond .eq 6, 3) := by decide +kernel
theorem zd_Mo_wordAt_142 : decode zb_Mo_wordAt 142 = .ok (.bipush (-10), 2) := by decide +kernel
theorem zd_Mo_wordAt_144 : decode zb_Mo_wordAt 144 = .ok (.ireturn, 1) := by decide +kernel
theorem zd_Mo_wordAt_145 : decode zb_Mo_wordAt 145 = .ok (.iload_n 2, 1) := by decide +kernel
theorem zd_Mo_wordAt_146 : decode zb_Mo_wordAt 146 = .ok (.iconst 3, 1) := by decide +kernel
theorem zd_Mo_wordAt_147 : decode zb_Mo_wordAt 147 = .ok (.if_icmp .ne 20, 3) := by decide +kernel
theorem zd_Mo_wordAt_150 : decode zb_Mo_wordAt 150 = .ok (.aload_n 0, 1) := by decide +kernel
theorem zd_Mo_wordAt_151 : decode zb_Mo_wordAt 151 = .ok (.iload_n 1, 1) := by decide +kernel
theorem zd_Mo_wordAt_152 : decode zb_Mo_wordAt 152 = .ok (.bipush 109, 2) := by decide +kernel
theorem zd_Mo_wordAt_154 : decode zb_Mo_wordAt 154 = .ok (.bipush 97, 2) := by decide +kernel
theorem zd_Mo_wordAt_156 : decode zb_Mo_wordAt 156 = .ok (.bipush 120, 2) := by decide +kernel
theorem zd_Mo_wordAt_158 : decode zb_Mo_wordAt 158 = .ok (.invokevirtual 140, 3) := by decide +kernel
theorem zd_Mo_wordAt_161 : decode zb_Mo_wordAt 161 = .ok (.ifCond .eq 6, 3) := by decide +kernel
theorem zd_Mo_wordAt_164 : decode zb_Mo_wordAt 164 = .ok (.bipush (-11), 2) := by decide +kernel
theorem zd_Mo_wordAt_166 : decode zb_Mo_wordAt 166 = .ok (.ireturn, 1) := by decide +kernel
theorem zd_Mo_wordAt_167 : decode zb_Mo_wordAt 167 = .ok (.iload_n 2, 1) := by decide +kernel
theorem zd_Mo_wordAt_168 : decode zb_Mo_wordAt 168 = .ok (.bipush 6, 2) := by decide +kernel
theorem zd_Mo_wordAt_170 : decode zb_Mo_wordAt 170 = .ok (.if_icmp .gt 7, 3) := by decide +kernel
theorem zd_Mo_wordAt_173 : decode zb_Mo_wordAt 173 = .ok (.iconst 0, 1) := by decide +kernel
theorem zd_Mo_wordAt_174 : decode zb_Mo_wordAt 174 = .ok (.goto 5, 3) := by decide +kernel
theorem zd_Mo_wordAt_177 : decode zb_Mo_wordAt 177 = .ok (.bipush (-12), 2) := by decide +kernel
theorem zd_Mo_wordAt_179 : decode zb_Mo_wordAt 179 = .ok (.istore 4, 2) := by decide +kernel
theorem zd_Mo_wordAt_181 : decode zb_Mo_wordAt 181 = .ok (.iload_n 1, 1) := by decide +kernel
theorem zd_Mo_wordAt_182 : decode zb_Mo_wordAt 182 = .ok (.istore 5, 2) := by decide +kernel
theorem zd_Mo_wordAt_184 : decode zb_Mo_wordAt 184 = .ok (.iload 5, 2) := by decide +kernel
theorem zd_Mo_wordAt_186 : decode zb_Mo_wordAt 186 = .ok (.iload_n 1, 1) := by decide +kernel
theorem zd_Mo_wordAt_187 : decode zb_Mo_wordAt 187 = .ok (.iload_n 2, 1) := by decide +kernel
theorem zd_Mo_wordAt_188 : decode zb_Mo_wordAt 188 = .ok (.iadd, 1) := by decide +kernel
theorem zd_Mo_wordAt_189 : decode zb_Mo_wordAt 189 = .ok (.if_icmp .ge 61, 3) := by decide +kernel
theorem zd_Mo_wordAt_192 : decode zb_Mo_wordAt 192 = .ok (.iload 4, 2) := by decide +kernel
theorem zd_Mo_wordAt_194 : decode zb_Mo_wordAt 194 = .ok (.ifCond .lt 56, 3) := by decide +kernel
theorem zd_Mo_wordAt_197 : decode zb_Mo_wordAt 197 = .ok (.aload_n 0, 1) := by decide +kernel
theorem zd_Mo_wordAt_198 : decode zb_Mo_wordAt 198 = .ok (.getfield 45, 3) := by decide +kernel
theorem zd_Mo_wordAt_201 : decode zb_Mo_wordAt 201 = .ok (.iload 5, 2) := by decide +kernel
theorem zd_Mo_wordAt_203 : decode zb_Mo_wordAt 203 = .ok (.iaload, 1) := by decide +kernel
theorem zd_Mo_wordAt_204 : decode zb_Mo_wordAt 204 = .ok (.bipush 48, 2) := by decide +kernel
theorem zd_Mo_wordAt_206 : decode zb_Mo_wordAt 206 = .ok (.if_icmp .lt 34, 3) := by decide +kernel
theorem zd_Mo_wordAt_209 : decode zb_Mo_wordAt 209 = .ok (.aload_n 0, 1) := by decide +kernel
theorem zd_Mo_wordAt_210 : decode zb_Mo_wordAt 210 = .ok (.getfield 45, 3) := by decide +kernel
theorem zd_Mo_wordAt_213 : decode zb_Mo_wordAt 213 = .ok (.iload 5, 2) := by decide +kernel
theorem zd_Mo_wordAt_215 : decode zb_Mo_wordAt 215 = .ok (.iaload, 1) := by decide +kernel
theorem zd_Mo_wordAt_216 : decode zb_Mo_wordAt 216 = .ok (.bipush 57, 2) := by decide +kernel
theorem zd_Mo_wordAt_218 : decode zb_Mo_wordAt 218 = .ok (.if_icmp .gt 22, 3) := by decide +kernel
theorem zd_Mo_wordAt_221 : decode zb_Mo_wordAt 221 = .ok (.bipush 10, 2) := by decide +kernel
theorem zd_Mo_wordAt_223 : decode zb_Mo_wordAt 223 = .ok (.iload 4, 2) := by decide +kernel
theorem zd_Mo_wordAt_225 : decode zb_Mo_wordAt 225 = .ok (.imul, 1) := by decide +kernel
theorem zd_Mo_wordAt_226 : decode zb_Mo_wordAt 226 = .ok (.aload_n 0, 1) := by decide +kernel
theorem zd_Mo_wordAt_227 : decode zb_Mo_wordAt 227 = .ok (.getfield 45, 3) := by decide +kernel
theorem zd_Mo_wordAt_230 : decode zb_Mo_wordAt 230 = .ok (.iload 5, 2) := by decide +kernel
theorem zd_Mo_wordAt_232 : decode zb_Mo_wordAt 232 = .ok (.iaload, 1) := by decide +kernel
theorem zd_Mo_wordAt_233 : decode zb_Mo_wordAt 233 = .ok (.iadd, 1) := by decide +kernel
theorem zd_Mo_wordAt_234 : decode zb_Mo_wordAt 234 = .ok (.bipush 48, 2) := by decide +kernel
theorem zd_Mo_wordAt_236 : decode zb_Mo_wordAt 236 = .ok (.isub, 1) := by decide +kernel
theorem zd_Mo_wordAt_237 : decode zb_Mo_wordAt 237 = .ok (.goto 5, 3) := by decide +kernel
theorem zd_Mo_wordAt_240 : decode zb_Mo_wordAt 240 = .ok (.bipush (-12), 2) := by decide +kernel
theorem zd_Mo_wordAt_242 : decode zb_Mo_wordAt 242 = .ok (.istore 4, 2) := by decide +kernel
theorem zd_Mo_wordAt_244 : decode zb_Mo_wordAt 244 = .ok (.iinc 5 1, 3) := by decide +kernel
theorem zd_Mo_wordAt_247 : decode zb_Mo_wordAt 247 = .ok (.goto (-63), 3) := by decide +kernel
theorem zd_Mo_wordAt_250 : decode zb_Mo_wordAt 250 = .ok (.iload 4, 2) := by decide +kernel
theorem zd_Mo_wordAt_252 : decode zb_Mo_wordAt 252 = .ok (.ireturn, 1) := by decide +kernel
theorem zd_Mo_isOfTwo_0 : decode zb_Mo_isOfTwo 0 = .ok (.iload_n 0, 1) := by decide +kernel
theorem zd_Mo_isOfTwo_1 : decode zb_Mo_isOfTwo 1 = .ok (.bipush (-7), 2) := by decide +kernel
theorem zd_Mo_isOfTwo_3 : decode zb_Mo_isOfTwo 3 = .ok (.if_icmp .gt 7, 3) := by decide +kernel
theorem zd_Mo_isOfTwo_6 : decode zb_Mo_isOfTwo 6 = .ok (.iconst 1, 1) := by decide +kernel
theorem zd_Mo_isOfTwo_7 : decode zb_Mo_isOfTwo 7 = .ok (.goto 4, 3) := by decide +kernel
theorem zd_Mo_isOfTwo_10 : decode zb_Mo_isOfTwo 10 = .ok (.iconst 0, 1) := by decide +kernel
theorem zd_Mo_isOfTwo_11 : decode zb_Mo_isOfTwo 11 = .ok (.ireturn, 1) := by decide +kernel
theorem zd_Mo_score_0 : decode zb_Mo_score 0 = .ok (.iconst 0, 1) := by decide +kernel
theorem zd_Mo_score_1 : decode zb_Mo_score 1 = .ok (.istore_n 1, 1) := by decide +kernel
theorem zd_Mo_score_2 : decode zb_Mo_score 2 = .ok (.iconst 0, 1) := by decide +kernel
theorem zd_Mo_score_3 : decode zb_Mo_score 3 = .ok (.istore_n 2, 1) := by decide +kernel
theorem zd_Mo_score_4 : decode zb_Mo_score 4 = .ok (.iconst (-1), 1) := by decide +kernel
theorem zd_Mo_score_5 : decode zb_Mo_score 5 = .ok (.istore_n 3, 1) := by decide +kernel
theorem zd_Mo_score_6 : decode zb_Mo_score 6 = .ok (.iconst 0, 1) := by decide +kernel
theorem zd_Mo_score_7 : decode zb_Mo_score 7 = .ok (.istore 4, 2) := by decide +kernel
theorem zd_Mo_score_9 : decode zb_Mo_score 9 = .ok (.iload 4, 2) := by decide +kernel
theorem zd_Mo_score_11 : decode zb_Mo_score 11 = .ok (.aload_n 0, 1) := by decide +kernel
theorem zd_Mo_score_12 : decode zb_Mo_score 12 = .ok (.getfield 137, 3) := by decide +kernel
theorem zd_Mo_score_15 : decode zb_Mo_score 15 = .ok (.if_icmp .ge 126, 3) := by decide +kernel
theorem zd_Mo_score_18 : decode zb_Mo_score 18 = .ok (.iload_n 3, 1) := by decide +kernel
theorem zd_Mo_score_19 : decode zb_Mo_score 19 = .ok (.ifCond .ge 122, 3) := by decide +kernel
theorem zd_Mo_score_22 : decode zb_Mo_score 22 = .ok (.aload_n 0, 1) := by decide +kernel
theorem zd_Mo_score_23 : decode zb_Mo_score 23 = .ok (.getfield 45, 3) := by decide +kernel
theorem zd_Mo_score_26 : decode zb_Mo_score 26 = .ok (.iload 4, 2) := by decide +kernel
theorem zd_Mo_score_28 : decode zb_Mo_score 28 = .ok (.iaload, 1) := by decide +kernel
theorem zd_Mo_score_29 : decode zb_Mo_score 29 = .ok (.invokestatic 144, 3) := by decide +kernel
theorem zd_Mo_score_32 : decode zb_Mo_score 32 = .ok (.ifCond .eq 9, 3) := by decide +kernel
theorem zd_Mo_score_35 : decode zb_Mo_score 35 = .ok (.iinc 4 1, 3) := by decide +kernel
theorem zd_Mo_score_38 : decode zb_Mo_score 38 = .ok (.goto (-29), 3) := by decide +kernel
theorem zd_Mo_score_41 : decode zb_Mo_score 41 = .ok (.iload 4, 2) := by decide +kernel
theorem zd_Mo_score_43 : decode zb_Mo_score 43 = .ok (.istore 5, 2) := by decide +kernel
theorem zd_Mo_score_45 : decode zb_Mo_score 45 = .ok (.iload 4, 2) := by decide +kernel
theorem zd_Mo_score_47 : decode zb_Mo_score 47 = .ok (.aload_n 0, 1) := by decide +kernel
theorem zd_Mo_score_48 : decode zb_Mo_score 48 = .ok (.getfield 137, 3) := by decide +kernel
theorem zd_Mo_score_51 : decode zb_Mo_score 51 = .ok (.if_icmp .ge 22, 3) := by decide +kernel
theorem zd_Mo_score_54 : decode zb_Mo_score 54 = .ok (.aload_n 0, 1) := by decide +kernel
theorem zd_Mo_score_55 : decode zb_Mo_score 55 = .ok (.getfield 45, 3) := by decide +kernel
theorem zd_Mo_score_58 : decode zb_Mo_score 58 = .ok (.iload 4, 2) := by decide +kernel
theorem zd_Mo_score_60 : decode zb_Mo_score 60 = .ok (.iaload, 1) := by decide +kernel
theorem zd_Mo_score_61 : decode zb_Mo_score 61 = .ok (.invokestatic 144, 3) := by decide +kernel
theorem zd_Mo_score_64 : decode zb_Mo_score 64 = .ok (.ifCond .ne 9, 3) := by decide +kernel
theorem zd_Mo_score_67 : decode zb_Mo_score 67 = .ok (.iinc 4 1, 3) := by decide +kernel
theorem zd_Mo_score_70 : decode zb_Mo_score 70 = .ok (.goto (-25), 3) := by decide +kernel
theorem zd_Mo_score_73 : decode zb_Mo_score 73 = .ok (.aload_n 0, 1) := by decide +kernel
theorem zd_Mo_score_74 : decode zb_Mo_score 74 = .ok (.iload 5, 2) := by decide +kernel
theorem zd_Mo_score_76 : decode zb_Mo_score 76 = .ok (.iload 4, 2) := by decide +kernel
theorem zd_Mo_score_78 : decode zb_Mo_score 78 = .ok (.iload 5, 2) := by decide +kernel
theorem zd_Mo_score_80 : decode zb_Mo_score 80 = .ok (.isub, 1) := by decide +kernel
theorem zd_Mo_score_81 : decode zb_Mo_score 81 = .ok (.invokevirtual 147, 3) := by decide +kernel
theorem zd_Mo_score_84 : decode zb_Mo_score 84 = .ok (.istore 6, 2) := by decide +kernel
theorem zd_Mo_score_86 : decode zb_Mo_score 86 = .ok (.iload 6, 2) := by decide +kernel
theorem zd_Mo_score_88 : decode zb_Mo_score 88 = .ok (.bipush (-12), 2) := by decide +kernel
theorem zd_Mo_score_90 : decode zb_Mo_score 90 = .ok (.if_icmp .eq 16, 3) := by decide +kernel
theorem zd_Mo_score_93 : decode zb_Mo_score 93 = .ok (.iload 6, 2) := by decide +kernel
theorem zd_Mo_score_95 : decode zb_Mo_score 95 = .ok (.invokestatic 150, 3) := by decide +kernel
theorem zd_Mo_score_98 : decode zb_Mo_score 98 = .ok (.ifCond .eq 13, 3) := by decide +kernel
theorem zd_Mo_score_101 : decode zb_Mo_score 101 = .ok (.iload_n 2, 1) := by decide +kernel
theorem zd_Mo_score_102 : decode zb_Mo_score 102 = .ok (.iconst 2, 1) := by decide +kernel
theorem zd_Mo_score_103 : decode zb_Mo_score 103 = .ok (.if_icmp .ge 8, 3) := by decide +kernel
theorem zd_Mo_score_106 : decode zb_Mo_score 106 = .ok (.iload_n 1, 1) := by decide +kernel
theorem zd_Mo_score_107 : decode zb_Mo_score 107 = .ok (.istore_n 3, 1) := by decide +kernel
theorem zd_Mo_score_108 : decode zb_Mo_score 108 = .ok (.goto 30, 3) := by decide +kernel
theorem zd_Mo_score_111 : decode zb_Mo_score 111 = .ok (.aload_n 0, 1) := by decide +kernel
theorem zd_Mo_score_112 : decode zb_Mo_score 112 = .ok (.getfield 51, 3) := by decide +kernel
theorem zd_Mo_score_115 : decode zb_Mo_score 115 = .ok (.iload_n 1, 1) := by decide +kernel
theorem zd_Mo_score_116 : decode zb_Mo_score 116 = .ok (.iload 6, 2) := by decide +kernel
theorem zd_Mo_score_118 : decode zb_Mo_score 118 = .ok (.iastore, 1) := by decide +kernel
theorem zd_Mo_score_119 : decode zb_Mo_score 119 = .ok (.iload_n 2, 1) := by decide +kernel
theorem zd_Mo_score_120 : decode zb_Mo_score 120 = .ok (.iload 6, 2) := by decide +kernel
theorem zd_Mo_score_122 : decode zb_Mo_score 122 = .ok (.invokestatic 150, 3) := by decide +kernel
theorem zd_Mo_score_125 : decode zb_Mo_score 125 = .ok (.ifCond .eq 7, 3) := by decide +kernel
theorem zd_Mo_score_128 : decode zb_Mo_score 128 = .ok (.iconst (-1), 1) := by decide +kernel
theorem zd_Mo_score_129 : decode zb_Mo_score 129 = .ok (.goto 4, 3) := by decide +kernel
theorem zd_Mo_score_132 : decode zb_Mo_score 132 = .ok (.iconst 1, 1) := by decide +kernel
theorem zd_Mo_score_133 : decode zb_Mo_score 133 = .ok (.iadd, 1) := by decide +kernel
theorem zd_Mo_score_134 : decode zb_Mo_score 134 = .ok (.istore_n 2, 1) := by decide +kernel
theorem zd_Mo_score_135 : decode zb_Mo_score 135 = .ok (.iinc 1 1, 3) := by decide +kernel
theorem zd_Mo_score_138 : decode zb_Mo_score 138 = .ok (.goto (-129), 3) := by decide +kernel
theorem zd_Mo_score_141 : decode zb_Mo_score 141 = .ok (.aload_n 0, 1) := by decide +kernel
theorem zd_Mo_score_142 : decode zb_Mo_score 142 = .ok (.iconst 0, 1) := by decide +kernel
theorem zd_Mo_score_143 : decode zb_Mo_score 143 = .ok (.putfield 137, 3) := by decide +kernel
theorem zd_Mo_score_146 : decode zb_Mo_score 146 = .ok (.iload_n 3, 1) := by decide +kernel
theorem zd_Mo_score_147 : decode zb_Mo_score 147 = .ok (.ifCond .ge 10, 3) := by decide +kernel
theorem zd_Mo_score_150 : decode zb_Mo_score 150 = .ok (.iload_n 2, 1) := by decide +kernel
theorem zd_Mo_score_151 : decode zb_Mo_score 151 = .ok (.iconst 1, 1) := by decide +kernel
theorem zd_Mo_score_152 : decode zb_Mo_score 152 = .ok (.if_icmp .eq 5, 3) := by decide +kernel
theorem zd_Mo_score_155 : decode zb_Mo_score 155 = .ok (.iload_n 1, 1) := by decide +kernel
theorem zd_Mo_score_156 : decode zb_Mo_score 156 = .ok (.istore_n 3, 1) := by decide +kernel
theorem zd_Mo_score_157 : decode zb_Mo_score 157 = .ok (.iload_n 3, 1) := by decide +kernel
theorem zd_Mo_score_158 : decode zb_Mo_score 158 = .ok (.ifCond .lt 7, 3) := by decide +kernel
theorem zd_Mo_score_161 : decode zb_Mo_score 161 = .ok (.iconst (-1), 1) := by decide +kernel
theorem zd_Mo_score_162 : decode zb_Mo_score 162 = .ok (.iload_n 3, 1) := by decide +kernel
theorem zd_Mo_score_163 : decode zb_Mo_score 163 = .ok (.isub, 1) := by decide +kernel
theorem zd_Mo_score_164 : decode zb_Mo_score 164 = .ok (.ireturn, 1) := by decide +kernel
theorem zd_Mo_score_165 : decode zb_Mo_score 165 = .ok (.iconst 0, 1) := by decide +kernel
theorem zd_Mo_score_166 : decode zb_Mo_score 166 = .ok (.istore 5, 2) := by decide +kernel
theorem zd_Mo_score_168 : decode zb_Mo_score 168 = .ok (.iload 5, 2) := by decide +kernel
theorem zd_Mo_score_170 : decode zb_Mo_score 170 = .ok (.iload_n 1, 1) := by decide +kernel
theorem zd_Mo_score_171 : decode zb_Mo_score 171 = .ok (.if_icmp .ge 23, 3) := by decide +kernel
theorem zd_Mo_score_174 : decode zb_Mo_score 174 = .ok (.aload_n 0, 1) := by decide +kernel
theorem zd_Mo_score_175 : decode zb_Mo_score 175 = .ok (.getfield 48, 3) := by decide +kernel
theorem zd_Mo_score_178 : decode zb_Mo_score 178 = .ok (.iload 5, 2) := by decide +kernel
theorem zd_Mo_score_180 : decode zb_Mo_score 180 = .ok (.aload_n 0, 1) := by decide +kernel
theorem zd_Mo_score_181 : decode zb_Mo_score 181 = .ok (.getfield 51, 3) := by decide +kernel
theorem zd_Mo_score_184 : decode zb_Mo_score 184 = .ok (.iload 5, 2) := by decide +kernel
theorem zd_Mo_score_186 : decode zb_Mo_score 186 = .ok (.iaload, 1) := by decide +kernel
theorem zd_Mo_score_187 : decode zb_Mo_score 187 = .ok (.iastore, 1) := by decide +kernel
theorem zd_Mo_score_188 : decode zb_Mo_score 188 = .ok (.iinc 5 1, 3) := by decide +kernel
theorem zd_Mo_score_191 : decode zb_Mo_score 191 = .ok (.goto (-23), 3) := by decide +kernel
theorem zd_Mo_score_194 : decode zb_Mo_score 194 = .ok (.aload_n 0, 1) := by decide +kernel
theorem zd_Mo_score_195 : decode zb_Mo_score 195 = .ok (.iload_n 1, 1) := by decide +kernel
theorem zd_Mo_score_196 : decode zb_Mo_score 196 = .ok (.putfield 153, 3) := by decide +kernel
theorem zd_Mo_score_199 : decode zb_Mo_score 199 = .ok (.aload_n 0, 1) := by decide +kernel
theorem zd_Mo_score_200 : decode zb_Mo_score 200 = .ok (.iconst 1, 1) := by decide +kernel
theorem zd_Mo_score_201 : decode zb_Mo_score 201 = .ok (.putfield 156, 3) := by decide +kernel
theorem zd_Mo_score_204 : decode zb_Mo_score 204 = .ok (.iload_n 1, 1) := by decide +kernel
theorem zd_Mo_score_205 : decode zb_Mo_score 205 = .ok (.ireturn, 1) := by decide +kernel
theorem zd_Mo_shareOf_0 : decode zb_Mo_shareOf 0 = .ok (.lconst 0, 1) := by decide +kernel
theorem zd_Mo_shareOf_1 : decode zb_Mo_shareOf 1 = .ok (.lstore_n 3, 1) := by decide +kernel
theorem zd_Mo_shareOf_2 : decode zb_Mo_shareOf 2 = .ok (.lconst 0, 1) := by decide +kernel
theorem zd_Mo_shareOf_3 : decode zb_Mo_shareOf 3 = .ok (.lstore 5, 2) := by decide +kernel
theorem zd_Mo_shareOf_5 : decode zb_Mo_shareOf 5 = .ok (.iconst 0, 1) := by decide +kernel
theorem zd_Mo_shareOf_6 : decode zb_Mo_shareOf 6 = .ok (.istore 7, 2) := by decide +kernel
theorem zd_Mo_shareOf_8 : decode zb_Mo_shareOf 8 = .ok (.iload 7, 2) := by decide +kernel
theorem zd_Mo_shareOf_10 : decode zb_Mo_shareOf 10 = .ok (.iconst 5, 1) := by decide +kernel
theorem zd_Mo_shareOf_11 : decode zb_Mo_shareOf 11 = .ok (.if_icmp .ge 46, 3) := by decide +kernel
theorem zd_Mo_shareOf_14 : decode zb_Mo_shareOf 14 = .ok (.aload_n 0, 1) := by decide +kernel
theorem zd_Mo_shareOf_15 : decode zb_Mo_shareOf 15 = .ok (.iload 7, 2) := by decide +kernel
theorem zd_Mo_shareOf_17 : decode zb_Mo_shareOf 17 = .ok (.ldc2_w 98, 3) := by decide +kernel
theorem zd_Mo_shareOf_20 : decode zb_Mo_shareOf 20 = .ok (.invokevirtual 121, 3) := by decide +kernel
theorem zd_Mo_shareOf_23 : decode zb_Mo_shareOf 23 = .ok (.lload_n 3, 1) := by decide +kernel
theorem zd_Mo_shareOf_24 : decode zb_Mo_shareOf 24 = .ok (.aload_n 0, 1) := by decide +kernel
theorem zd_Mo_shareOf_25 : decode zb_Mo_shareOf 25 = .ok (.getfield 60, 3) := by decide +kernel
theorem zd_Mo_shareOf_28 : decode zb_Mo_shareOf 28 = .ok (.iload_n 1, 1) := by decide +kernel
theorem zd_Mo_shareOf_29 : decode zb_Mo_shareOf 29 = .ok (.laload, 1) := by decide +kernel
theorem zd_Mo_shareOf_30 : decode zb_Mo_shareOf 30 = .ok (.ladd, 1) := by decide +kernel
theorem zd_Mo_shareOf_31 : decode zb_Mo_shareOf 31 = .ok (.lstore_n 3, 1) := by decide +kernel
theorem zd_Mo_shareOf_32 : decode zb_Mo_shareOf 32 = .ok (.iload 7, 2) := by decide +kernel
theorem zd_Mo_shareOf_34 : decode zb_Mo_shareOf 34 = .ok (.iload_n 2, 1) := by decide +kernel
theorem zd_Mo_shareOf_35 : decode zb_Mo_shareOf 35 = .ok (.if_icmp .ne 12, 3) := by decide +kernel
theorem zd_Mo_shareOf_38 : decode zb_Mo_shareOf 38 = .ok (.aload_n 0, 1) := by decide +kernel
theorem zd_Mo_shareOf_39 : decode zb_Mo_shareOf 39 = .ok (.getfield 60, 3) := by decide +kernel
theorem zd_Mo_shareOf_42 : decode zb_Mo_shareOf 42 = .ok (.iload_n 1, 1) := by decide +kernel
theorem zd_Mo_shareOf_43 : decode zb_Mo_shareOf 43 = .ok (.laload, 1) := by decide +kernel
theorem zd_Mo_shareOf_44 : decode zb_Mo_shareOf 44 = .ok (.goto 5, 3) := by decide +kernel
theorem zd_Mo_shareOf_47 : decode zb_Mo_shareOf 47 = .ok (.lload 5, 2) := by decide +kernel
theorem zd_Mo_shareOf_49 : decode zb_Mo_shareOf 49 = .ok (.lstore 5, 2) := by decide +kernel
theorem zd_Mo_shareOf_51 : decode zb_Mo_shareOf 51 = .ok (.iinc 7 1, 3) := by decide +kernel
theorem zd_Mo_shareOf_54 : decode zb_Mo_shareOf 54 = .ok (.goto (-46), 3) := by decide +kernel
theorem zd_Mo_shareOf_57 : decode zb_Mo_shareOf 57 = .ok (.lload_n 3, 1) := by decide +kernel
theorem zd_Mo_shareOf_58 : decode zb_Mo_shareOf 58 = .ok (.lconst 0, 1) := by decide +kernel
theorem zd_Mo_shareOf_59 : decode zb_Mo_shareOf 59 = .ok (.lcmp, 1) := by decide +kernel
theorem zd_Mo_shareOf_60 : decode zb_Mo_shareOf 60 = .ok (.ifCond .ne 7, 3) := by decide +kernel
theorem zd_Mo_shareOf_63 : decode zb_Mo_shareOf 63 = .ok (.lconst 0, 1) := by decide +kernel
theorem zd_Mo_shareOf_64 : decode zb_Mo_shareOf 64 = .ok (.goto 11, 3) := by decide +kernel
theorem zd_Mo_shareOf_67 : decode zb_Mo_shareOf 67 = .ok (.ldc2_w 164, 3) := by decide +kernel
theorem zd_Mo_shareOf_70 : decode zb_Mo_shareOf 70 = .ok (.lload 5, 2) := by decide +kernel
theorem zd_Mo_shareOf_72 : decode zb_Mo_shareOf 72 = .ok (.lmul, 1) := by decide +kernel
theorem zd_Mo_shareOf_73 : decode zb_Mo_shareOf 73 = .ok (.lload_n 3, 1) := by decide +kernel
theorem zd_Mo_shareOf_74 : decode zb_Mo_shareOf 74 = .ok (.ldiv, 1) := by decide +kernel
theorem zd_Mo_shareOf_75 : decode zb_Mo_shareOf 75 = .ok (.lreturn, 1) := by decide +kernel
theorem zd_Mo_countOf_0 : decode zb_Mo_countOf 0 = .ok (.iconst 0, 1) := by decide +kernel
theorem zd_Mo_countOf_1 : decode zb_Mo_countOf 1 = .ok (.istore_n 2, 1) := by decide +kernel
theorem zd_Mo_countOf_2 : decode zb_Mo_countOf 2 = .ok (.iconst 0, 1) := by decide +kernel
theorem zd_Mo_countOf_3 : decode zb_Mo_countOf 3 = .ok (.istore_n 3, 1) := by decide +kernel
theorem zd_Mo_countOf_4 : decode zb_Mo_countOf 4 = .ok (.iload_n 3, 1) := by decide +kernel
theorem zd_Mo_countOf_5 : decode zb_Mo_countOf 5 = .ok (.aload_n 0, 1) := by decide +kernel
theorem zd_Mo_countOf_6 : decode zb_Mo_countOf 6 = .ok (.getfield 70, 3) := by decide +kernel
theorem zd_Mo_countOf_9 : decode zb_Mo_countOf 9 = .ok (.if_icmp .ge 27, 3) := by decide +kernel
theorem zd_Mo_countOf_12 : decode zb_Mo_countOf 12 = .ok (.iload_n 2, 1) := by decide +kernel
theorem zd_Mo_countOf_13 : decode zb_Mo_countOf 13 = .ok (.aload_n 0, 1) := by decide +kernel
theorem zd_Mo_countOf_14 : decode zb_Mo_countOf 14 = .ok (.getfield 13, 3) := by decide +kernel
theorem zd_Mo_countOf_17 : decode zb_Mo_countOf 17 = .ok (.iload_n 3, 1) := by decide +kernel
theorem zd_Mo_countOf_18 : decode zb_Mo_countOf 18 = .ok (.iaload, 1) := by decide +kernel
theorem zd_Mo_countOf_19 : decode zb_Mo_countOf 19 = .ok (.iload_n 1, 1) := by decide +kernel
theorem zd_Mo_countOf_20 : decode zb_Mo_countOf 20 = .ok (.if_icmp .ne 7, 3) := by decide +kernel
theorem zd_Mo_countOf_23 : decode zb_Mo_countOf 23 = .ok (.iconst 1, 1) := by decide +kernel
theorem zd_Mo_countOf_24 : decode zb_Mo_countOf 24 = .ok (.goto 4, 3) := by decide +kernel
theorem zd_Mo_countOf_27 : decode zb_Mo_countOf 27 = .ok (.iconst 0, 1) := by decide +kernel
theorem zd_Mo_countOf_28 : decode zb_Mo_countOf 28 = .ok (.iadd, 1) := by decide +kernel
theorem zd_Mo_countOf_29 : decode zb_Mo_countOf 29 = .ok (.istore_n 2, 1) := by decide +kernel
theorem zd_Mo_countOf_30 : decode zb_Mo_countOf 30 = .ok (.iinc 3 1, 3) := by decide +kernel
theorem zd_Mo_countOf_33 : decode zb_Mo_countOf 33 = .ok (.goto (-29), 3) := by decide +kernel
theorem zd_Mo_countOf_36 : decode zb_Mo_countOf 36 = .ok (.iload_n 2, 1) := by decide +kernel
theorem zd_Mo_countOf_37 : decode zb_Mo_countOf 37 = .ok (.i2l, 1) := by decide +kernel
theorem zd_Mo_countOf_38 : decode zb_Mo_countOf 38 = .ok (.lreturn, 1) := by decide +kernel
theorem zd_Mo_product_0 : decode zb_Mo_product 0 = .ok (.lload_n 0, 1) := by decide +kernel
theorem zd_Mo_product_1 : decode zb_Mo_product 1 = .ok (.lconst 0, 1) := by decide +kernel
theorem zd_Mo_product_2 : decode zb_Mo_product 2 = .ok (.lcmp, 1) := by decide +kernel
theorem zd_Mo_product_3 : decode zb_Mo_product 3 = .ok (.ifCond .eq 9, 3) := by decide +kernel
theorem zd_Mo_product_6 : decode zb_Mo_product 6 = .ok (.lload_n 2, 1) := by decide +kernel
theorem zd_Mo_product_7 : decode zb_Mo_product 7 = .ok (.lconst 0, 1) := by decide +kernel
theorem zd_Mo_product_8 : decode zb_Mo_product 8 = .ok (.lcmp, 1) := by decide +kernel
theorem zd_Mo_product_9 : decode zb_Mo_product 9 = .ok (.ifCond .ne 5, 3) := by decide +kernel
theorem zd_Mo_product_12 : decode zb_Mo_product 12 = .ok (.lconst 0, 1) := by decide +kernel
theorem zd_Mo_product_13 : decode zb_Mo_product 13 = .ok (.lreturn, 1) := by decide +kernel
theorem zd_Mo_product_14 : decode zb_Mo_product 14 = .ok (.lload_n 0, 1) := by decide +kernel
theorem zd_Mo_product_15 : decode zb_Mo_product 15 = .ok (.lconst 0, 1) := by decide +kernel
theorem zd_Mo_product_16 : decode zb_Mo_product 16 = .ok (.lcmp, 1) := by decide +kernel
theorem zd_Mo_product_17 : decode zb_Mo_product 17 = .ok (.ifCond .ge 8, 3) := by decide +kernel
theorem zd_Mo_product_20 : decode zb_Mo_product 20 = .ok (.lload_n 0, 1) := by decide +kernel
theorem zd_Mo_product_21 : decode zb_Mo_product 21 = .ok (.lneg, 1) := by decide +kernel
theorem zd_Mo_product_22 : decode zb_Mo_product 22 = .ok (.goto 4, 3) := by decide +kernel
theorem zd_Mo_product_25 : decode zb_Mo_product 25 = .ok (.lload_n 0, 1) := by decide +kernel
theorem zd_Mo_product_26 : decode zb_Mo_product 26 = .ok (.lstore 4, 2) := by decide +kernel
theorem zd_Mo_product_28 : decode zb_Mo_product 28 = .ok (.lload_n 2, 1) := by decide +kernel
theorem zd_Mo_product_29 : decode zb_Mo_product 29 = .ok (.lconst 0, 1) := by decide +kernel
theorem zd_Mo_product_30 : decode zb_Mo_product 30 = .ok (.lcmp, 1) := by decide +kernel
theorem zd_Mo_product_31 : decode zb_Mo_product 31 = .ok (.ifCond .ge 8, 3) := by decide +kernel
theorem zd_Mo_product_34 : decode zb_Mo_product 34 = .ok (.lload_n 2, 1) := by decide +kernel
theorem zd_Mo_product_35 : decode zb_Mo_product 35 = .ok (.lneg, 1) := by decide +kernel
theorem zd_Mo_product_36 : decode zb_Mo_product 36 = .ok (.goto 4, 3) := by decide +kernel
theorem zd_Mo_product_39 : decode zb_Mo_product 39 = .ok (.lload_n 2, 1) := by decide +kernel
theorem zd_Mo_product_40 : decode zb_Mo_product 40 = .ok (.lstore 6, 2) := by decide +kernel
theorem zd_Mo_product_42 : decode zb_Mo_product 42 = .ok (.lload 6, 2) := by decide +kernel
theorem zd_Mo_product_44 : decode zb_Mo_product 44 = .ok (.ldc2_w 160, 3) := by decide +kernel
theorem zd_Mo_product_47 : decode zb_Mo_product 47 = .ok (.lload 4, 2) := by decide +kernel
theorem zd_Mo_product_49 : decode zb_Mo_product 49 = .ok (.ldiv, 1) := by decide +kernel
theorem zd_Mo_product_50 : decode zb_Mo_product 50 = .ok (.lcmp, 1) := by decide +kernel
theorem zd_Mo_product_51 : decode zb_Mo_product 51 = .ok (.ifCond .le 9, 3) := by decide +kernel
theorem zd_Mo_product_54 : decode zb_Mo_product 54 = .ok (.ldc2_w 160, 3) := by decide +kernel
theorem zd_Mo_product_57 : decode zb_Mo_product 57 = .ok (.goto 8, 3) := by decide +kernel
theorem zd_Mo_product_60 : decode zb_Mo_product 60 = .ok (.lload 4, 2) := by decide +kernel
theorem zd_Mo_product_62 : decode zb_Mo_product 62 = .ok (.lload 6, 2) := by decide +kernel
theorem zd_Mo_product_64 : decode zb_Mo_product 64 = .ok (.lmul, 1) := by decide +kernel
theorem zd_Mo_product_65 : decode zb_Mo_product 65 = .ok (.lstore 8, 2) := by decide +kernel
theorem zd_Mo_product_67 : decode zb_Mo_product 67 = .ok (.lload_n 0, 1) := by decide +kernel
theorem zd_Mo_product_68 : decode zb_Mo_product 68 = .ok (.lconst 0, 1) := by decide +kernel
theorem zd_Mo_product_69 : decode zb_Mo_product 69 = .ok (.lcmp, 1) := by decide +kernel
theorem zd_Mo_product_70 : decode zb_Mo_product 70 = .ok (.ifCond .ge 7, 3) := by decide +kernel
theorem zd_Mo_product_73 : decode zb_Mo_product 73 = .ok (.iconst 1, 1) := by decide +kernel
theorem zd_Mo_product_74 : decode zb_Mo_product 74 = .ok (.goto 4, 3) := by decide +kernel
theorem zd_Mo_product_77 : decode zb_Mo_product 77 = .ok (.iconst 0, 1) := by decide +kernel
theorem zd_Mo_product_78 : decode zb_Mo_product 78 = .ok (.lload_n 2, 1) := by decide +kernel
theorem zd_Mo_product_79 : decode zb_Mo_product 79 = .ok (.lconst 0, 1) := by decide +kernel
theorem zd_Mo_product_80 : decode zb_Mo_product 80 = .ok (.lcmp, 1) := by decide +kernel
theorem zd_Mo_product_81 : decode zb_Mo_product 81 = .ok (.ifCond .ge 7, 3) := by decide +kernel
theorem zd_Mo_product_84 : decode zb_Mo_product 84 = .ok (.iconst 1, 1) := by decide +kernel
theorem zd_Mo_product_85 : decode zb_Mo_product 85 = .ok (.goto 4, 3) := by decide +kernel
theorem zd_Mo_product_88 : decode zb_Mo_product 88 = .ok (.iconst 0, 1) := by decide +kernel
theorem zd_Mo_product_89 : decode zb_Mo_product 89 = .ok (.if_icmp .ne 8, 3) := by decide +kernel
theorem zd_Mo_product_92 : decode zb_Mo_product 92 = .ok (.lload 8, 2) := by decide +kernel
theorem zd_Mo_product_94 : decode zb_Mo_product 94 = .ok (.goto 6, 3) := by decide +kernel
theorem zd_Mo_product_97 : decode zb_Mo_product 97 = .ok (.lload 8, 2) := by decide +kernel
theorem zd_Mo_product_99 : decode zb_Mo_product 99 = .ok (.lneg, 1) := by decide +kernel
theorem zd_Mo_product_100 : decode zb_Mo_product 100 = .ok (.lreturn, 1) := by decide +kernel
theorem zd_Mo_cut_0 : decode zb_Mo_cut 0 = .ok (.lload_n 0, 1) := by decide +kernel
theorem zd_Mo_cut_1 : decode zb_Mo_cut 1 = .ok (.ldc2_w 160, 3) := by decide +kernel
theorem zd_Mo_cut_4 : decode zb_Mo_cut 4 = .ok (.lcmp, 1) := by decide +kernel
theorem zd_Mo_cut_5 : decode zb_Mo_cut 5 = .ok (.ifCond .le 9, 3) := by decide +kernel
theorem zd_Mo_cut_8 : decode zb_Mo_cut 8 = .ok (.ldc2_w 160, 3) := by decide +kernel
theorem zd_Mo_cut_11 : decode zb_Mo_cut 11 = .ok (.goto 18, 3) := by decide +kernel
theorem zd_Mo_cut_14 : decode zb_Mo_cut 14 = .ok (.lload_n 0, 1) := by decide +kernel
theorem zd_Mo_cut_15 : decode zb_Mo_cut 15 = .ok (.ldc2_w 162, 3) := by decide +kernel
theorem zd_Mo_cut_18 : decode zb_Mo_cut 18 = .ok (.lcmp, 1) := by decide +kernel
theorem zd_Mo_cut_19 : decode zb_Mo_cut 19 = .ok (.ifCond .ge 9, 3) := by decide +kernel
theorem zd_Mo_cut_22 : decode zb_Mo_cut 22 = .ok (.ldc2_w 162, 3) := by decide +kernel
theorem zd_Mo_cut_25 : decode zb_Mo_cut 25 = .ok (.goto 4, 3) := by decide +kernel
theorem zd_Mo_cut_28 : decode zb_Mo_cut 28 = .ok (.lload_n 0, 1) := by decide +kernel
theorem zd_Mo_cut_29 : decode zb_Mo_cut 29 = .ok (.lreturn, 1) := by decide +kernel
theorem zd_Mo_ofTwo_0 : decode zb_Mo_ofTwo 0 = .ok (.iload_n 0, 1) := by decide +kernel
theorem zd_Mo_ofTwo_1 : decode zb_Mo_ofTwo 1 = .ok (.tableswitch 63 (-10) (-7) #[51, 45, 38, 31], 31) := by decide +kernel
theorem zd_Mo_ofTwo_32 : decode zb_Mo_ofTwo 32 = .ok (.lload_n 1, 1) := by decide +kernel
theorem zd_Mo_ofTwo_33 : decode zb_Mo_ofTwo 33 = .ok (.lload_n 3, 1) := by decide +kernel
theorem zd_Mo_ofTwo_34 : decode zb_Mo_ofTwo 34 = .ok (.ladd, 1) := by decide +kernel
theorem zd_Mo_ofTwo_35 : decode zb_Mo_ofTwo 35 = .ok (.invokestatic 166, 3) := by decide +kernel
theorem zd_Mo_ofTwo_38 : decode zb_Mo_ofTwo 38 = .ok (.lreturn, 1) := by decide +kernel
theorem zd_Mo_ofTwo_39 : decode zb_Mo_ofTwo 39 = .ok (.lload_n 1, 1) := by decide +kernel
theorem zd_Mo_ofTwo_40 : decode zb_Mo_ofTwo 40 = .ok (.lload_n 3, 1) := by decide +kernel
theorem zd_Mo_ofTwo_41 : decode zb_Mo_ofTwo 41 = .ok (.lsub, 1) := by decide +kernel
theorem zd_Mo_ofTwo_42 : decode zb_Mo_ofTwo 42 = .ok (.invokestatic 166, 3) := by decide +kernel
theorem zd_Mo_ofTwo_45 : decode zb_Mo_ofTwo 45 = .ok (.lreturn, 1) := by decide +kernel
theorem zd_Mo_ofTwo_46 : decode zb_Mo_ofTwo 46 = .ok (.lload_n 1, 1) := by decide +kernel
theorem zd_Mo_ofTwo_47 : decode zb_Mo_ofTwo 47 = .ok (.lload_n 3, 1) := by decide +kernel
theorem zd_Mo_ofTwo_48 : decode zb_Mo_ofTwo 48 = .ok (.invokestatic 170, 3) := by decide +kernel
theorem zd_Mo_ofTwo_51 : decode zb_Mo_ofTwo 51 = .ok (.lreturn, 1) := by decide +kernel
theorem zd_Mo_ofTwo_52 : decode zb_Mo_ofTwo 52 = .ok (.lload_n 1, 1) := by decide +kernel
theorem zd_Mo_ofTwo_53 : decode zb_Mo_ofTwo 53 = .ok (.lload_n 3, 1) := by decide +kernel
theorem zd_Mo_ofTwo_54 : decode zb_Mo_ofTwo 54 = .ok (.lcmp, 1) := by decide +kernel
theorem zd_Mo_ofTwo_55 : decode zb_Mo_ofTwo 55 = .ok (.ifCond .ge 7, 3) := by decide +kernel
theorem zd_Mo_ofTwo_58 : decode zb_Mo_ofTwo 58 = .ok (.lload_n 1, 1) := by decide +kernel
theorem zd_Mo_ofTwo_59 : decode zb_Mo_ofTwo 59 = .ok (.goto 4, 3) := by decide +kernel
theorem zd_Mo_ofTwo_62 : decode zb_Mo_ofTwo 62 = .ok (.lload_n 3, 1) := by decide +kernel
theorem zd_Mo_ofTwo_63 : decode zb_Mo_ofTwo 63 = .ok (.lreturn, 1) := by decide +kernel
theorem zd_Mo_ofTwo_64 : decode zb_Mo_ofTwo 64 = .ok (.lload_n 1, 1) := by decide +kernel
theorem zd_Mo_ofTwo_65 : decode zb_Mo_ofTwo 65 = .ok (.lload_n 3, 1) := by decide +kernel
theorem zd_Mo_ofTwo_66 : decode zb_Mo_ofTwo 66 = .ok (.lcmp, 1) := by decide +kernel
theorem zd_Mo_ofTwo_67 : decode zb_Mo_ofTwo 67 = .ok (.ifCond .le 7, 3) := by decide +kernel
theorem zd_Mo_ofTwo_70 : decode zb_Mo_ofTwo 70 = .ok (.lload_n 1, 1) := by decide +kernel
theorem zd_Mo_ofTwo_71 : decode zb_Mo_ofTwo 71 = .ok (.goto 4, 3) := by decide +kernel
theorem zd_Mo_ofTwo_74 : decode zb_Mo_ofTwo 74 = .ok (.lload_n 3, 1) := by decide +kernel
theorem zd_Mo_ofTwo_75 : decode zb_Mo_ofTwo 75 = .ok (.lreturn, 1) := by decide +kernel
theorem zd_Mo_valueOf_0 : decode zb_Mo_valueOf 0 = .ok (.iconst 0, 1) := by decide +kernel
theorem zd_Mo_valueOf_1 : decode zb_Mo_valueOf 1 = .ok (.istore_n 2, 1) := by decide +kernel
theorem zd_Mo_valueOf_2 : decode zb_Mo_valueOf 2 = .ok (.iconst 0, 1) := by decide +kernel
theorem zd_Mo_valueOf_3 : decode zb_Mo_valueOf 3 = .ok (.istore_n 3, 1) := by decide +kernel
theorem zd_Mo_valueOf_4 : decode zb_Mo_valueOf 4 = .ok (.iload_n 3, 1) := by decide +kernel
theorem zd_Mo_valueOf_5 : decode zb_Mo_valueOf 5 = .ok (.aload_n 0, 1) := by decide +kernel
theorem zd_Mo_valueOf_6 : decode zb_Mo_valueOf 6 = .ok (.getfield 153, 3) := by decide +kernel
theorem zd_Mo_valueOf_9 : decode zb_Mo_valueOf 9 = .ok (.if_icmp .ge 102, 3) := by decide +kernel
theorem zd_Mo_valueOf_12 : decode zb_Mo_valueOf 12 = .ok (.aload_n 0, 1) := by decide +kernel
theorem zd_Mo_valueOf_13 : decode zb_Mo_valueOf 13 = .ok (.getfield 48, 3) := by decide +kernel
theorem zd_Mo_valueOf_16 : decode zb_Mo_valueOf 16 = .ok (.iload_n 3, 1) := by decide +kernel
theorem zd_Mo_valueOf_17 : decode zb_Mo_valueOf 17 = .ok (.iaload, 1) := by decide +kernel
theorem zd_Mo_valueOf_18 : decode zb_Mo_valueOf 18 = .ok (.istore 4, 2) := by decide +kernel
theorem zd_Mo_valueOf_20 : decode zb_Mo_valueOf 20 = .ok (.iload 4, 2) := by decide +kernel
theorem zd_Mo_valueOf_22 : decode zb_Mo_valueOf 22 = .ok (.invokestatic 150, 3) := by decide +kernel
theorem zd_Mo_valueOf_25 : decode zb_Mo_valueOf 25 = .ok (.ifCond .eq 36, 3) := by decide +kernel
theorem zd_Mo_valueOf_28 : decode zb_Mo_valueOf 28 = .ok (.iinc 2 (-1), 3) := by decide +kernel
theorem zd_Mo_valueOf_31 : decode zb_Mo_valueOf 31 = .ok (.aload_n 0, 1) := by decide +kernel
theorem zd_Mo_valueOf_32 : decode zb_Mo_valueOf 32 = .ok (.getfield 54, 3) := by decide +kernel
theorem zd_Mo_valueOf_35 : decode zb_Mo_valueOf 35 = .ok (.iload_n 2, 1) := by decide +kernel
theorem zd_Mo_valueOf_36 : decode zb_Mo_valueOf 36 = .ok (.iconst 1, 1) := by decide +kernel
theorem zd_Mo_valueOf_37 : decode zb_Mo_valueOf 37 = .ok (.isub, 1) := by decide +kernel
theorem zd_Mo_valueOf_38 : decode zb_Mo_valueOf 38 = .ok (.iload 4, 2) := by decide +kernel
theorem zd_Mo_valueOf_40 : decode zb_Mo_valueOf 40 = .ok (.aload_n 0, 1) := by decide +kernel
theorem zd_Mo_valueOf_41 : decode zb_Mo_valueOf 41 = .ok (.getfield 54, 3) := by decide +kernel
theorem zd_Mo_valueOf_44 : decode zb_Mo_valueOf 44 = .ok (.iload_n 2, 1) := by decide +kernel
theorem zd_Mo_valueOf_45 : decode zb_Mo_valueOf 45 = .ok (.iconst 1, 1) := by decide +kernel
theorem zd_Mo_valueOf_46 : decode zb_Mo_valueOf 46 = .ok (.isub, 1) := by decide +kernel
theorem zd_Mo_valueOf_47 : decode zb_Mo_valueOf 47 = .ok (.laload, 1) := by decide +kernel
theorem zd_Mo_valueOf_48 : decode zb_Mo_valueOf 48 = .ok (.aload_n 0, 1) := by decide +kernel
theorem zd_Mo_valueOf_49 : decode zb_Mo_valueOf 49 = .ok (.getfield 54, 3) := by decide +kernel
theorem zd_Mo_valueOf_52 : decode zb_Mo_valueOf 52 = .ok (.iload_n 2, 1) := by decide +kernel
theorem zd_Mo_valueOf_53 : decode zb_Mo_valueOf 53 = .ok (.laload, 1) := by decide +kernel
theorem zd_Mo_valueOf_54 : decode zb_Mo_valueOf 54 = .ok (.invokestatic 174, 3) := by decide +kernel
theorem zd_Mo_valueOf_57 : decode zb_Mo_valueOf 57 = .ok (.lastore, 1) := by decide +kernel
theorem zd_Mo_valueOf_58 : decode zb_Mo_valueOf 58 = .ok (.goto 47, 3) := by decide +kernel
theorem zd_Mo_valueOf_61 : decode zb_Mo_valueOf 61 = .ok (.aload_n 0, 1) := by decide +kernel
theorem zd_Mo_valueOf_62 : decode zb_Mo_valueOf 62 = .ok (.getfield 54, 3) := by decide +kernel
theorem zd_Mo_valueOf_65 : decode zb_Mo_valueOf 65 = .ok (.iload_n 2, 1) := by decide +kernel
theorem zd_Mo_valueOf_66 : decode zb_Mo_valueOf 66 = .ok (.iload 4, 2) := by decide +kernel
theorem zd_Mo_valueOf_68 : decode zb_Mo_valueOf 68 = .ok (.ifCond .lt 9, 3) := by decide +kernel
theorem zd_Mo_valueOf_71 : decode zb_Mo_valueOf 71 = .ok (.iload 4, 2) := by decide +kernel
theorem zd_Mo_valueOf_73 : decode zb_Mo_valueOf 73 = .ok (.i2l, 1) := by decide +kernel
theorem zd_Mo_valueOf_74 : decode zb_Mo_valueOf 74 = .ok (.goto 27, 3) := by decide +kernel
theorem zd_Mo_valueOf_77 : decode zb_Mo_valueOf 77 = .ok (.iload 4, 2) := by decide +kernel
theorem zd_Mo_valueOf_79 : decode zb_Mo_valueOf 79 = .ok (.bipush (-6), 2) := by decide +kernel
theorem zd_Mo_valueOf_81 : decode zb_Mo_valueOf 81 = .ok (.if_icmp .ne 11, 3) := by decide +kernel
theorem zd_Mo_valueOf_84 : decode zb_Mo_valueOf 84 = .ok (.aload_n 0, 1) := by decide +kernel
theorem zd_Mo_valueOf_85 : decode zb_Mo_valueOf 85 = .ok (.iload_n 1, 1) := by decide +kernel
theorem zd_Mo_valueOf_86 : decode zb_Mo_valueOf 86 = .ok (.invokevirtual 178, 3) := by decide +kernel
theorem zd_Mo_valueOf_89 : decode zb_Mo_valueOf 89 = .ok (.goto 12, 3) := by decide +kernel
theorem zd_Mo_valueOf_92 : decode zb_Mo_valueOf 92 = .ok (.aload_n 0, 1) := by decide +kernel
theorem zd_Mo_valueOf_93 : decode zb_Mo_valueOf 93 = .ok (.iload_n 1, 1) := by decide +kernel
theorem zd_Mo_valueOf_94 : decode zb_Mo_valueOf 94 = .ok (.iconst (-1), 1) := by decide +kernel
theorem zd_Mo_valueOf_95 : decode zb_Mo_valueOf 95 = .ok (.iload 4, 2) := by decide +kernel
theorem zd_Mo_valueOf_97 : decode zb_Mo_valueOf 97 = .ok (.isub, 1) := by decide +kernel
theorem zd_Mo_valueOf_98 : decode zb_Mo_valueOf 98 = .ok (.invokevirtual 182, 3) := by decide +kernel
theorem zd_Mo_valueOf_101 : decode zb_Mo_valueOf 101 = .ok (.lastore, 1) := by decide +kernel
theorem zd_Mo_valueOf_102 : decode zb_Mo_valueOf 102 = .ok (.iinc 2 1, 3) := by decide +kernel
theorem zd_Mo_valueOf_105 : decode zb_Mo_valueOf 105 = .ok (.iinc 3 1, 3) := by decide +kernel
theorem zd_Mo_valueOf_108 : decode zb_Mo_valueOf 108 = .ok (.goto (-104), 3) := by decide +kernel
theorem zd_Mo_valueOf_111 : decode zb_Mo_valueOf 111 = .ok (.aload_n 0, 1) := by decide +kernel
theorem zd_Mo_valueOf_112 : decode zb_Mo_valueOf 112 = .ok (.getfield 54, 3) := by decide +kernel
theorem zd_Mo_valueOf_115 : decode zb_Mo_valueOf 115 = .ok (.iconst 0, 1) := by decide +kernel
theorem zd_Mo_valueOf_116 : decode zb_Mo_valueOf 116 = .ok (.laload, 1) := by decide +kernel
theorem zd_Mo_valueOf_117 : decode zb_Mo_valueOf 117 = .ok (.lreturn, 1) := by decide +kernel
theorem zd_Mo_scored_0 : decode zb_Mo_scored 0 = .ok (.aload_n 0, 1) := by decide +kernel
theorem zd_Mo_scored_1 : decode zb_Mo_scored 1 = .ok (.getfield 156, 3) := by decide +kernel
theorem zd_Mo_scored_4 : decode zb_Mo_scored 4 = .ok (.ifCond .eq 19, 3) := by decide +kernel
theorem zd_Mo_scored_7 : decode zb_Mo_scored 7 = .ok (.aload_n 0, 1) := by decide +kernel
theorem zd_Mo_scored_8 : decode zb_Mo_scored 8 = .ok (.iload_n 1, 1) := by decide +kernel
theorem zd_Mo_scored_9 : decode zb_Mo_scored 9 = .ok (.invokevirtual 73, 3) := by decide +kernel
theorem zd_Mo_scored_12 : decode zb_Mo_scored 12 = .ok (.ifCond .eq 11, 3) := by decide +kernel
theorem zd_Mo_scored_15 : decode zb_Mo_scored 15 = .ok (.aload_n 0, 1) := by decide +kernel
theorem zd_Mo_scored_16 : decode zb_Mo_scored 16 = .ok (.iload_n 1, 1) := by decide +kernel
theorem zd_Mo_scored_17 : decode zb_Mo_scored 17 = .ok (.invokevirtual 186, 3) := by decide +kernel
theorem zd_Mo_scored_20 : decode zb_Mo_scored 20 = .ok (.goto 6, 3) := by decide +kernel
theorem zd_Mo_scored_23 : decode zb_Mo_scored 23 = .ok (.ldc2_w 189, 3) := by decide +kernel
theorem zd_Mo_scored_26 : decode zb_Mo_scored 26 = .ok (.lreturn, 1) := by decide +kernel
theorem zd_Mo_swap_0 : decode zb_Mo_swap 0 = .ok (.aload_n 0, 1) := by decide +kernel
theorem zd_Mo_swap_1 : decode zb_Mo_swap 1 = .ok (.iload_n 1, 1) := by decide +kernel
theorem zd_Mo_swap_2 : decode zb_Mo_swap 2 = .ok (.invokevirtual 88, 3) := by decide +kernel
theorem zd_Mo_swap_5 : decode zb_Mo_swap 5 = .ok (.ifCond .eq 26, 3) := by decide +kernel
theorem zd_Mo_swap_8 : decode zb_Mo_swap 8 = .ok (.iload_n 2, 1) := by decide +kernel
theorem zd_Mo_swap_9 : decode zb_Mo_swap 9 = .ok (.invokestatic 77, 3) := by decide +kernel
theorem zd_Mo_swap_12 : decode zb_Mo_swap 12 = .ok (.ifCond .eq 19, 3) := by decide +kernel
theorem zd_Mo_swap_15 : decode zb_Mo_swap 15 = .ok (.aload_n 0, 1) := by decide +kernel
theorem zd_Mo_swap_16 : decode zb_Mo_swap 16 = .ok (.getfield 156, 3) := by decide +kernel
theorem zd_Mo_swap_19 : decode zb_Mo_swap 19 = .ok (.ifCond .eq 12, 3) := by decide +kernel
theorem zd_Mo_swap_22 : decode zb_Mo_swap 22 = .ok (.aload_n 0, 1) := by decide +kernel
theorem zd_Mo_swap_23 : decode zb_Mo_swap 23 = .ok (.getfield 95, 3) := by decide +kernel
theorem zd_Mo_swap_26 : decode zb_Mo_swap 26 = .ok (.bipush 20, 2) := by decide +kernel
theorem zd_Mo_swap_28 : decode zb_Mo_swap 28 = .ok (.if_icmp .ne 5, 3) := by decide +kernel
theorem zd_Mo_swap_31 : decode zb_Mo_swap 31 = .ok (.iconst (-1), 1) := by decide +kernel
theorem zd_Mo_swap_32 : decode zb_Mo_swap 32 = .ok (.ireturn, 1) := by decide +kernel
theorem zd_Mo_swap_33 : decode zb_Mo_swap 33 = .ok (.aload_n 0, 1) := by decide +kernel
theorem zd_Mo_swap_34 : decode zb_Mo_swap 34 = .ok (.aload_n 0, 1) := by decide +kernel
theorem zd_Mo_swap_35 : decode zb_Mo_swap 35 = .ok (.getfield 13, 3) := by decide +kernel
theorem zd_Mo_swap_38 : decode zb_Mo_swap 38 = .ok (.iload_n 1, 1) := by decide +kernel
theorem zd_Mo_swap_39 : decode zb_Mo_swap 39 = .ok (.iaload, 1) := by decide +kernel
theorem zd_Mo_swap_40 : decode zb_Mo_swap 40 = .ok (.invokevirtual 186, 3) := by decide +kernel
theorem zd_Mo_swap_43 : decode zb_Mo_swap 43 = .ok (.lstore_n 3, 1) := by decide +kernel
theorem zd_Mo_swap_44 : decode zb_Mo_swap 44 = .ok (.aload_n 0, 1) := by decide +kernel
theorem zd_Mo_swap_45 : decode zb_Mo_swap 45 = .ok (.iload_n 1, 1) := by decide +kernel
theorem zd_Mo_swap_46 : decode zb_Mo_swap 46 = .ok (.ldc2_w 98, 3) := by decide +kernel
theorem zd_Mo_swap_49 : decode zb_Mo_swap 49 = .ok (.iload_n 2, 1) := by decide +kernel
theorem zd_Mo_swap_50 : decode zb_Mo_swap 50 = .ok (.aload_n 0, 1) := by decide +kernel
theorem zd_Mo_swap_51 : decode zb_Mo_swap 51 = .ok (.iload_n 1, 1) := by decide +kernel
theorem zd_Mo_swap_52 : decode zb_Mo_swap 52 = .ok (.ldc2_w 98, 3) := by decide +kernel
theorem zd_Mo_swap_55 : decode zb_Mo_swap 55 = .ok (.invokevirtual 111, 3) := by decide +kernel
theorem zd_Mo_swap_58 : decode zb_Mo_swap 58 = .ok (.invokevirtual 100, 3) := by decide +kernel
theorem zd_Mo_swap_61 : decode zb_Mo_swap 61 = .ok (.aload_n 0, 1) := by decide +kernel
theorem zd_Mo_swap_62 : decode zb_Mo_swap 62 = .ok (.aload_n 0, 1) := by decide +kernel
theorem zd_Mo_swap_63 : decode zb_Mo_swap 63 = .ok (.getfield 13, 3) := by decide +kernel
theorem zd_Mo_swap_66 : decode zb_Mo_swap 66 = .ok (.iload_n 1, 1) := by decide +kernel
theorem zd_Mo_swap_67 : decode zb_Mo_swap 67 = .ok (.iaload, 1) := by decide +kernel
theorem zd_Mo_swap_68 : decode zb_Mo_swap 68 = .ok (.invokevirtual 186, 3) := by decide +kernel
theorem zd_Mo_swap_71 : decode zb_Mo_swap 71 = .ok (.lload_n 3, 1) := by decide +kernel
theorem zd_Mo_swap_72 : decode zb_Mo_swap 72 = .ok (.lcmp, 1) := by decide +kernel
theorem zd_Mo_swap_73 : decode zb_Mo_swap 73 = .ok (.ifCond .le 20, 3) := by decide +kernel
theorem zd_Mo_swap_76 : decode zb_Mo_swap 76 = .ok (.aload_n 0, 1) := by decide +kernel
theorem zd_Mo_swap_77 : decode zb_Mo_swap 77 = .ok (.getfield 7, 3) := by decide +kernel
theorem zd_Mo_swap_80 : decode zb_Mo_swap 80 = .ok (.aload_n 0, 1) := by decide +kernel
theorem zd_Mo_swap_81 : decode zb_Mo_swap 81 = .ok (.getfield 13, 3) := by decide +kernel
theorem zd_Mo_swap_84 : decode zb_Mo_swap 84 = .ok (.iload_n 1, 1) := by decide +kernel
theorem zd_Mo_swap_85 : decode zb_Mo_swap 85 = .ok (.iaload, 1) := by decide +kernel
theorem zd_Mo_swap_86 : decode zb_Mo_swap 86 = .ok (.dup2, 1) := by decide +kernel
theorem zd_Mo_swap_87 : decode zb_Mo_swap 87 = .ok (.iaload, 1) := by decide +kernel
theorem zd_Mo_swap_88 : decode zb_Mo_swap 88 = .ok (.iconst 1, 1) := by decide +kernel
theorem zd_Mo_swap_89 : decode zb_Mo_swap 89 = .ok (.iadd, 1) := by decide +kernel
theorem zd_Mo_swap_90 : decode zb_Mo_swap 90 = .ok (.iastore, 1) := by decide +kernel
theorem zd_Mo_swap_91 : decode zb_Mo_swap 91 = .ok (.iconst 1, 1) := by decide +kernel
theorem zd_Mo_swap_92 : decode zb_Mo_swap 92 = .ok (.ireturn, 1) := by decide +kernel
theorem zd_Mo_swap_93 : decode zb_Mo_swap 93 = .ok (.aload_n 0, 1) := by decide +kernel
theorem zd_Mo_swap_94 : decode zb_Mo_swap 94 = .ok (.dup, 1) := by decide +kernel
theorem zd_Mo_swap_95 : decode zb_Mo_swap 95 = .ok (.getfield 95, 3) := by decide +kernel
theorem zd_Mo_swap_98 : decode zb_Mo_swap 98 = .ok (.iconst 1, 1) := by decide +kernel
theorem zd_Mo_swap_99 : decode zb_Mo_swap 99 = .ok (.isub, 1) := by decide +kernel
theorem zd_Mo_swap_100 : decode zb_Mo_swap 100 = .ok (.putfield 95, 3) := by decide +kernel
theorem zd_Mo_swap_103 : decode zb_Mo_swap 103 = .ok (.iconst 0, 1) := by decide +kernel
theorem zd_Mo_swap_104 : decode zb_Mo_swap 104 = .ok (.ireturn, 1) := by decide +kernel
theorem zd_Mo_mark_0 : decode zb_Mo_mark 0 = .ok (.aload_n 0, 1) := by decide +kernel
theorem zd_Mo_mark_1 : decode zb_Mo_mark 1 = .ok (.iload_n 1, 1) := by decide +kernel
theorem zd_Mo_mark_2 : decode zb_Mo_mark 2 = .ok (.invokevirtual 73, 3) := by decide +kernel
theorem zd_Mo_mark_5 : decode zb_Mo_mark 5 = .ok (.ifCond .eq 16, 3) := by decide +kernel
theorem zd_Mo_mark_8 : decode zb_Mo_mark 8 = .ok (.iload 4, 2) := by decide +kernel
theorem zd_Mo_mark_10 : decode zb_Mo_mark 10 = .ok (.i2l, 1) := by decide +kernel
theorem zd_Mo_mark_11 : decode zb_Mo_mark 11 = .ok (.lconst 0, 1) := by decide +kernel
theorem zd_Mo_mark_12 : decode zb_Mo_mark 12 = .ok (.ldc2_w 125, 3) := by decide +kernel
theorem zd_Mo_mark_15 : decode zb_Mo_mark 15 = .ok (.invokestatic 82, 3) := by decide +kernel
theorem zd_Mo_mark_18 : decode zb_Mo_mark 18 = .ok (.ifCond .ne 5, 3) := by decide +kernel
theorem zd_Mo_mark_21 : decode zb_Mo_mark 21 = .ok (.iconst (-1), 1) := by decide +kernel
theorem zd_Mo_mark_22 : decode zb_Mo_mark 22 = .ok (.ireturn, 1) := by decide +kernel
theorem zd_Mo_mark_23 : decode zb_Mo_mark 23 = .ok (.lload_n 2, 1) := by decide +kernel
theorem zd_Mo_mark_24 : decode zb_Mo_mark 24 = .ok (.lstore 5, 2) := by decide +kernel
theorem zd_Mo_mark_26 : decode zb_Mo_mark 26 = .ok (.iconst 0, 1) := by decide +kernel
theorem zd_Mo_mark_27 : decode zb_Mo_mark 27 = .ok (.istore 7, 2) := by decide +kernel
theorem zd_Mo_mark_29 : decode zb_Mo_mark 29 = .ok (.iload 7, 2) := by decide +kernel
theorem zd_Mo_mark_31 : decode zb_Mo_mark 31 = .ok (.iconst 5, 1) := by decide +kernel
theorem zd_Mo_mark_32 : decode zb_Mo_mark 32 = .ok (.if_icmp .ge 45, 3) := by decide +kernel
theorem zd_Mo_mark_35 : decode zb_Mo_mark 35 = .ok (.aload_n 0, 1) := by decide +kernel
theorem zd_Mo_mark_36 : decode zb_Mo_mark 36 = .ok (.iload 7, 2) := by decide +kernel
theorem zd_Mo_mark_38 : decode zb_Mo_mark 38 = .ok (.ldc2_w 98, 3) := by decide +kernel
theorem zd_Mo_mark_41 : decode zb_Mo_mark 41 = .ok (.invokevirtual 121, 3) := by decide +kernel
theorem zd_Mo_mark_44 : decode zb_Mo_mark 44 = .ok (.lload 5, 2) := by decide +kernel
theorem zd_Mo_mark_46 : decode zb_Mo_mark 46 = .ok (.aload_n 0, 1) := by decide +kernel
theorem zd_Mo_mark_47 : decode zb_Mo_mark 47 = .ok (.getfield 60, 3) := by decide +kernel
theorem zd_Mo_mark_50 : decode zb_Mo_mark 50 = .ok (.iload_n 1, 1) := by decide +kernel
theorem zd_Mo_mark_51 : decode zb_Mo_mark 51 = .ok (.laload, 1) := by decide +kernel
theorem zd_Mo_mark_52 : decode zb_Mo_mark 52 = .ok (.ladd, 1) := by decide +kernel
theorem zd_Mo_mark_53 : decode zb_Mo_mark 53 = .ok (.lconst 1, 1) := by decide +kernel
theorem zd_Mo_mark_54 : decode zb_Mo_mark 54 = .ok (.ladd, 1) := by decide +kernel
theorem zd_Mo_mark_55 : decode zb_Mo_mark 55 = .ok (.ldc2_w 191, 3) := by decide +kernel
theorem zd_Mo_mark_58 : decode zb_Mo_mark 58 = .ok (.lmul, 1) := by decide +kernel
theorem zd_Mo_mark_59 : decode zb_Mo_mark 59 = .ok (.lstore 5, 2) := by decide +kernel
theorem zd_Mo_mark_61 : decode zb_Mo_mark 61 = .ok (.lload 5, 2) := by decide +kernel
theorem zd_Mo_mark_63 : decode zb_Mo_mark 63 = .ok (.lload 5, 2) := by decide +kernel
theorem zd_Mo_mark_65 : decode zb_Mo_mark 65 = .ok (.bipush 32, 2) := by decide +kernel
theorem zd_Mo_mark_67 : decode zb_Mo_mark 67 = .ok (.lushr, 1) := by decide +kernel
theorem zd_Mo_mark_68 : decode zb_Mo_mark 68 = .ok (.lxor, 1) := by decide +kernel
theorem zd_Mo_mark_69 : decode zb_Mo_mark 69 = .ok (.lstore 5, 2) := by decide +kernel
theorem zd_Mo_mark_71 : decode zb_Mo_mark 71 = .ok (.iinc 7 1, 3) := by decide +kernel
theorem zd_Mo_mark_74 : decode zb_Mo_mark 74 = .ok (.goto (-45), 3) := by decide +kernel
theorem zd_Mo_mark_77 : decode zb_Mo_mark 77 = .ok (.lload 5, 2) := by decide +kernel
theorem zd_Mo_mark_79 : decode zb_Mo_mark 79 = .ok (.aload_n 0, 1) := by decide +kernel
theorem zd_Mo_mark_80 : decode zb_Mo_mark 80 = .ok (.getfield 7, 3) := by decide +kernel
theorem zd_Mo_mark_83 : decode zb_Mo_mark 83 = .ok (.iload_n 1, 1) := by decide +kernel
theorem zd_Mo_mark_84 : decode zb_Mo_mark 84 = .ok (.iaload, 1) := by decide +kernel
theorem zd_Mo_mark_85 : decode zb_Mo_mark 85 = .ok (.i2l, 1) := by decide +kernel
theorem zd_Mo_mark_86 : decode zb_Mo_mark 86 = .ok (.ladd, 1) := by decide +kernel
theorem zd_Mo_mark_87 : decode zb_Mo_mark 87 = .ok (.ldc2_w 191, 3) := by decide +kernel
theorem zd_Mo_mark_90 : decode zb_Mo_mark 90 = .ok (.lmul, 1) := by decide +kernel
theorem zd_Mo_mark_91 : decode zb_Mo_mark 91 = .ok (.lstore 5, 2) := by decide +kernel
theorem zd_Mo_mark_93 : decode zb_Mo_mark 93 = .ok (.lload 5, 2) := by decide +kernel
theorem zd_Mo_mark_95 : decode zb_Mo_mark 95 = .ok (.bipush 56, 2) := by decide +kernel
theorem zd_Mo_mark_97 : decode zb_Mo_mark 97 = .ok (.bipush 8, 2) := by decide +kernel
theorem zd_Mo_mark_99 : decode zb_Mo_mark 99 = .ok (.iload 4, 2) := by decide +kernel
theorem zd_Mo_mark_101 : decode zb_Mo_mark 101 = .ok (.imul, 1) := by decide +kernel
theorem zd_Mo_mark_102 : decode zb_Mo_mark 102 = .ok (.isub, 1) := by decide +kernel
theorem zd_Mo_mark_103 : decode zb_Mo_mark 103 = .ok (.lushr, 1) := by decide +kernel
theorem zd_Mo_mark_104 : decode zb_Mo_mark 104 = .ok (.ldc2_w 135, 3) := by decide +kernel
theorem zd_Mo_mark_107 : decode zb_Mo_mark 107 = .ok (.land, 1) := by decide +kernel
theorem zd_Mo_mark_108 : decode zb_Mo_mark 108 = .ok (.l2i, 1) := by decide +kernel
theorem zd_Mo_mark_109 : decode zb_Mo_mark 109 = .ok (.ireturn, 1) := by decide +kernel
theorem zd_Mo_allOf_0 : decode zb_Mo_allOf 0 = .ok (.lconst 0, 1) := by decide +kernel
theorem zd_Mo_allOf_1 : decode zb_Mo_allOf 1 = .ok (.lstore_n 2, 1) := by decide +kernel
theorem zd_Mo_allOf_2 : decode zb_Mo_allOf 2 = .ok (.iconst 0, 1) := by decide +kernel
theorem zd_Mo_allOf_3 : decode zb_Mo_allOf 3 = .ok (.istore 4, 2) := by decide +kernel
theorem zd_Mo_allOf_5 : decode zb_Mo_allOf 5 = .ok (.iload 4, 2) := by decide +kernel
theorem zd_Mo_allOf_7 : decode zb_Mo_allOf 7 = .ok (.aload_n 0, 1) := by decide +kernel
theorem zd_Mo_allOf_8 : decode zb_Mo_allOf 8 = .ok (.getfield 70, 3) := by decide +kernel
theorem zd_Mo_allOf_11 : decode zb_Mo_allOf 11 = .ok (.if_icmp .ge 38, 3) := by decide +kernel
theorem zd_Mo_allOf_14 : decode zb_Mo_allOf 14 = .ok (.lload_n 2, 1) := by decide +kernel
theorem zd_Mo_allOf_15 : decode zb_Mo_allOf 15 = .ok (.aload_n 0, 1) := by decide +kernel
theorem zd_Mo_allOf_16 : decode zb_Mo_allOf 16 = .ok (.iload 4, 2) := by decide +kernel
theorem zd_Mo_allOf_18 : decode zb_Mo_allOf 18 = .ok (.ldc2_w 98, 3) := by decide +kernel
theorem zd_Mo_allOf_21 : decode zb_Mo_allOf 21 = .ok (.invokevirtual 108, 3) := by decide +kernel
theorem zd_Mo_allOf_24 : decode zb_Mo_allOf 24 = .ok (.iload_n 1, 1) := by decide +kernel
theorem zd_Mo_allOf_25 : decode zb_Mo_allOf 25 = .ok (.if_icmp .ne 15, 3) := by decide +kernel
theorem zd_Mo_allOf_28 : decode zb_Mo_allOf 28 = .ok (.aload_n 0, 1) := by decide +kernel
theorem zd_Mo_allOf_29 : decode zb_Mo_allOf 29 = .ok (.iload 4, 2) := by decide +kernel
theorem zd_Mo_allOf_31 : decode zb_Mo_allOf 31 = .ok (.ldc2_w 98, 3) := by decide +kernel
theorem zd_Mo_allOf_34 : decode zb_Mo_allOf 34 = .ok (.invokevirtual 111, 3) := by decide +kernel
theorem zd_Mo_allOf_37 : decode zb_Mo_allOf 37 = .ok (.goto 4, 3) := by decide +kernel
theorem zd_Mo_allOf_40 : decode zb_Mo_allOf 40 = .ok (.lconst 0, 1) := by decide +kernel
theorem zd_Mo_allOf_41 : decode zb_Mo_allOf 41 = .ok (.ladd, 1) := by decide +kernel
theorem zd_Mo_allOf_42 : decode zb_Mo_allOf 42 = .ok (.lstore_n 2, 1) := by decide +kernel
theorem zd_Mo_allOf_43 : decode zb_Mo_allOf 43 = .ok (.iinc 4 1, 3) := by decide +kernel
theorem zd_Mo_allOf_46 : decode zb_Mo_allOf 46 = .ok (.goto (-41), 3) := by decide +kernel
theorem zd_Mo_allOf_49 : decode zb_Mo_allOf 49 = .ok (.lload_n 2, 1) := by decide +kernel
theorem zd_Mo_allOf_50 : decode zb_Mo_allOf 50 = .ok (.lreturn, 1) := by decide +kernel
theorem zd_Mo_most_0 : decode zb_Mo_most 0 = .ok (.iconst 0, 1) := by decide +kernel
theorem zd_Mo_most_1 : decode zb_Mo_most 1 = .ok (.istore_n 2, 1) := by decide +kernel
theorem zd_Mo_most_2 : decode zb_Mo_most 2 = .ok (.iload_n 2, 1) := by decide +kernel
theorem zd_Mo_most_3 : decode zb_Mo_most 3 = .ok (.iconst 5, 1) := by decide +kernel
theorem zd_Mo_most_4 : decode zb_Mo_most 4 = .ok (.if_icmp .ge 85, 3) := by decide +kernel
theorem zd_Mo_most_7 : decode zb_Mo_most 7 = .ok (.aload_n 0, 1) := by decide +kernel
theorem zd_Mo_most_8 : decode zb_Mo_most 8 = .ok (.iload_n 2, 1) := by decide +kernel
theorem zd_Mo_most_9 : decode zb_Mo_most 9 = .ok (.invokevirtual 193, 3) := by decide +kernel
theorem zd_Mo_most_12 : decode zb_Mo_most 12 = .ok (.lstore_n 3, 1) := by decide +kernel
theorem zd_Mo_most_13 : decode zb_Mo_most 13 = .ok (.iconst 0, 1) := by decide +kernel
theorem zd_Mo_most_14 : decode zb_Mo_most 14 = .ok (.istore 5, 2) := by decide +kernel
theorem zd_Mo_most_16 : decode zb_Mo_most 16 = .ok (.iconst 0, 1) := by decide +kernel
theorem zd_Mo_most_17 : decode zb_Mo_most 17 = .ok (.istore 6, 2) := by decide +kernel
theorem zd_Mo_most_19 : decode zb_Mo_most 19 = .ok (.iload 6, 2) := by decide +kernel
theorem zd_Mo_most_21 : decode zb_Mo_most 21 = .ok (.iconst 5, 1) := by decide +kernel
theorem zd_Mo_most_22 : decode zb_Mo_most 22 = .ok (.if_icmp .ge 47, 3) := by decide +kernel
theorem zd_Mo_most_25 : decode zb_Mo_most 25 = .ok (.aload_n 0, 1) := by decide +kernel
theorem zd_Mo_most_26 : decode zb_Mo_most 26 = .ok (.iload 6, 2) := by decide +kernel
theorem zd_Mo_most_28 : decode zb_Mo_most 28 = .ok (.invokevirtual 193, 3) := by decide +kernel
theorem zd_Mo_most_31 : decode zb_Mo_most 31 = .ok (.lstore 7, 2) := by decide +kernel
theorem zd_Mo_most_33 : decode zb_Mo_most 33 = .ok (.iload 5, 2) := by decide +kernel
theorem zd_Mo_most_35 : decode zb_Mo_most 35 = .ok (.lload 7, 2) := by decide +kernel
theorem zd_Mo_most_37 : decode zb_Mo_most 37 = .ok (.lload_n 3, 1) := by decide +kernel
theorem zd_Mo_most_38 : decode zb_Mo_most 38 = .ok (.lcmp, 1) := by decide +kernel
theorem zd_Mo_most_39 : decode zb_Mo_most 39 = .ok (.ifCond .gt 16, 3) := by decide +kernel
theorem zd_Mo_most_42 : decode zb_Mo_most 42 = .ok (.lload 7, 2) := by decide +kernel
theorem zd_Mo_most_44 : decode zb_Mo_most 44 = .ok (.lload_n 3, 1) := by decide +kernel
theorem zd_Mo_most_45 : decode zb_Mo_most 45 = .ok (.lcmp, 1) := by decide +kernel
theorem zd_Mo_most_46 : decode zb_Mo_most 46 = .ok (.ifCond .ne 13, 3) := by decide +kernel
theorem zd_Mo_most_49 : decode zb_Mo_most 49 = .ok (.iload 6, 2) := by decide +kernel
theorem zd_Mo_most_51 : decode zb_Mo_most 51 = .ok (.iload_n 2, 1) := by decide +kernel
theorem zd_Mo_most_52 : decode zb_Mo_most 52 = .ok (.if_icmp .ge 7, 3) := by decide +kernel
theorem zd_Mo_most_55 : decode zb_Mo_most 55 = .ok (.iconst 1, 1) := by decide +kernel
theorem zd_Mo_most_56 : decode zb_Mo_most 56 = .ok (.goto 4, 3) := by decide +kernel
theorem zd_Mo_most_59 : decode zb_Mo_most 59 = .ok (.iconst 0, 1) := by decide +kernel
theorem zd_Mo_most_60 : decode zb_Mo_most 60 = .ok (.iadd, 1) := by decide +kernel
theorem zd_Mo_most_61 : decode zb_Mo_most 61 = .ok (.istore 5, 2) := by decide +kernel
theorem zd_Mo_most_63 : decode zb_Mo_most 63 = .ok (.iinc 6 1, 3) := by decide +kernel
theorem zd_Mo_most_66 : decode zb_Mo_most 66 = .ok (.goto (-47), 3) := by decide +kernel
theorem zd_Mo_most_69 : decode zb_Mo_most 69 = .ok (.lload_n 3, 1) := by decide +kernel
theorem zd_Mo_most_70 : decode zb_Mo_most 70 = .ok (.lconst 0, 1) := by decide +kernel
theorem zd_Mo_most_71 : decode zb_Mo_most 71 = .ok (.lcmp, 1) := by decide +kernel
theorem zd_Mo_most_72 : decode zb_Mo_most 72 = .ok (.ifCond .le 11, 3) := by decide +kernel
theorem zd_Mo_most_75 : decode zb_Mo_most 75 = .ok (.iload 5, 2) := by decide +kernel
theorem zd_Mo_most_77 : decode zb_Mo_most 77 = .ok (.iload_n 1, 1) := by decide +kernel
theorem zd_Mo_most_78 : decode zb_Mo_most 78 = .ok (.if_icmp .ne 5, 3) := by decide +kernel
theorem zd_Mo_most_81 : decode zb_Mo_most 81 = .ok (.iload_n 2, 1) := by decide +kernel
theorem zd_Mo_most_82 : decode zb_Mo_most 82 = .ok (.ireturn, 1) := by decide +kernel
theorem zd_Mo_most_83 : decode zb_Mo_most 83 = .ok (.iinc 2 1, 3) := by decide +kernel
theorem zd_Mo_most_86 : decode zb_Mo_most 86 = .ok (.goto (-84), 3) := by decide +kernel
theorem zd_Mo_most_89 : decode zb_Mo_most 89 = .ok (.iconst (-1), 1) := by decide +kernel
theorem zd_Mo_most_90 : decode zb_Mo_most 90 = .ok (.ireturn, 1) := by decide +kernel
