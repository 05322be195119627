theorem zd_Ch_countingOn_0 : decode zb_Ch_countingOn 0 = .ok (.iconst (-1), 1) := by decide +kernel
theorem zd_Ch_countingOn_1 : decode zb_Ch_countingOn 1 = .ok (.istore 4, 2) := by decide +kernel
theorem zd_Ch_countingOn_3 : decode zb_Ch_countingOn 3 = .ok (.iconst 0, 1) := by decide +kernel
theorem zd_Ch_countingOn_4 : decode zb_Ch_countingOn 4 = .ok (.istore 5, 2) := by decide +kernel
theorem zd_Ch_countingOn_6 : decode zb_Ch_countingOn 6 = .ok (.iload 5, 2) := by decide +kernel
theorem zd_Ch_countingOn_8 : decode zb_Ch_countingOn 8 = .ok (.aload_n 0, 1) := by decide +kernel
theorem zd_Ch_countingOn_9 : decode zb_Ch_countingOn 9 = .ok (.getfield 25, 3) := by decide +kernel
theorem zd_Ch_countingOn_12 : decode zb_Ch_countingOn 12 = .ok (.if_icmp .ge 60, 3) := by decide +kernel
theorem zd_Ch_countingOn_15 : decode zb_Ch_countingOn 15 = .ok (.aload_n 0, 1) := by decide +kernel
theorem zd_Ch_countingOn_16 : decode zb_Ch_countingOn 16 = .ok (.getfield 9, 3) := by decide +kernel
theorem zd_Ch_countingOn_19 : decode zb_Ch_countingOn 19 = .ok (.iload 5, 2) := by decide +kernel
theorem zd_Ch_countingOn_21 : decode zb_Ch_countingOn 21 = .ok (.iaload, 1) := by decide +kernel
theorem zd_Ch_countingOn_22 : decode zb_Ch_countingOn 22 = .ok (.iload_n 1, 1) := by decide +kernel
theorem zd_Ch_countingOn_23 : decode zb_Ch_countingOn 23 = .ok (.if_icmp .ne 43, 3) := by decide +kernel
theorem zd_Ch_countingOn_26 : decode zb_Ch_countingOn 26 = .ok (.aload_n 0, 1) := by decide +kernel
theorem zd_Ch_countingOn_27 : decode zb_Ch_countingOn 27 = .ok (.getfield 15, 3) := by decide +kernel
theorem zd_Ch_countingOn_30 : decode zb_Ch_countingOn 30 = .ok (.iload 5, 2) := by decide +kernel
theorem zd_Ch_countingOn_32 : decode zb_Ch_countingOn 32 = .ok (.laload, 1) := by decide +kernel
theorem zd_Ch_countingOn_33 : decode zb_Ch_countingOn 33 = .ok (.lload_n 2, 1) := by decide +kernel
theorem zd_Ch_countingOn_34 : decode zb_Ch_countingOn 34 = .ok (.lcmp, 1) := by decide +kernel
theorem zd_Ch_countingOn_35 : decode zb_Ch_countingOn 35 = .ok (.ifCond .gt 31, 3) := by decide +kernel
theorem zd_Ch_countingOn_38 : decode zb_Ch_countingOn 38 = .ok (.iload 4, 2) := by decide +kernel
theorem zd_Ch_countingOn_40 : decode zb_Ch_countingOn 40 = .ok (.iconst (-1), 1) := by decide +kernel
theorem zd_Ch_countingOn_41 : decode zb_Ch_countingOn 41 = .ok (.if_icmp .eq 21, 3) := by decide +kernel
theorem zd_Ch_countingOn_44 : decode zb_Ch_countingOn 44 = .ok (.aload_n 0, 1) := by decide +kernel
theorem zd_Ch_countingOn_45 : decode zb_Ch_countingOn 45 = .ok (.getfield 15, 3) := by decide +kernel
theorem zd_Ch_countingOn_48 : decode zb_Ch_countingOn 48 = .ok (.iload 5, 2) := by decide +kernel
theorem zd_Ch_countingOn_50 : decode zb_Ch_countingOn 50 = .ok (.laload, 1) := by decide +kernel
theorem zd_Ch_countingOn_51 : decode zb_Ch_countingOn 51 = .ok (.aload_n 0, 1) := by decide +kernel
theorem zd_Ch_countingOn_52 : decode zb_Ch_countingOn 52 = .ok (.getfield 15, 3) := by decide +kernel
theorem zd_Ch_countingOn_55 : decode zb_Ch_countingOn 55 = .ok (.iload 4, 2) := by decide +kernel
theorem zd_Ch_countingOn_57 : decode zb_Ch_countingOn 57 = .ok (.laload, 1) := by decide +kernel
theorem zd_Ch_countingOn_58 : decode zb_Ch_countingOn 58 = .ok (.lcmp, 1) := by decide +kernel
theorem zd_Ch_countingOn_59 : decode zb_Ch_countingOn 59 = .ok (.ifCond .lt 7, 3) := by decide +kernel
theorem zd_Ch_countingOn_62 : decode zb_Ch_countingOn 62 = .ok (.iload 5, 2) := by decide +kernel
theorem zd_Ch_countingOn_64 : decode zb_Ch_countingOn 64 = .ok (.istore 4, 2) := by decide +kernel
theorem zd_Ch_countingOn_66 : decode zb_Ch_countingOn 66 = .ok (.iinc 5 1, 3) := by decide +kernel
theorem zd_Ch_countingOn_69 : decode zb_Ch_countingOn 69 = .ok (.goto (-63), 3) := by decide +kernel
theorem zd_Ch_countingOn_72 : decode zb_Ch_countingOn 72 = .ok (.iload 4, 2) := by decide +kernel
theorem zd_Ch_countingOn_74 : decode zb_Ch_countingOn 74 = .ok (.ireturn, 1) := by decide +kernel
theorem zd_Pa_kindOn_0 : decode zb_Pa_kindOn 0 = .ok (.aload_n 0, 1) := by decide +kernel
theorem zd_Pa_kindOn_1 : decode zb_Pa_kindOn 1 = .ok (.getfield 31, 3) := by decide +kernel
theorem zd_Pa_kindOn_4 : decode zb_Pa_kindOn 4 = .ok (.iload_n 1, 1) := by decide +kernel
theorem zd_Pa_kindOn_5 : decode zb_Pa_kindOn 5 = .ok (.lload_n 2, 1) := by decide +kernel
theorem zd_Pa_kindOn_6 : decode zb_Pa_kindOn 6 = .ok (.invokevirtual 43, 3) := by decide +kernel
theorem zd_Pa_kindOn_9 : decode zb_Pa_kindOn 9 = .ok (.istore 4, 2) := by decide +kernel
theorem zd_Pa_kindOn_11 : decode zb_Pa_kindOn 11 = .ok (.iload 4, 2) := by decide +kernel
theorem zd_Pa_kindOn_13 : decode zb_Pa_kindOn 13 = .ok (.iconst (-1), 1) := by decide +kernel
theorem zd_Pa_kindOn_14 : decode zb_Pa_kindOn 14 = .ok (.if_icmp .ne 12, 3) := by decide +kernel
theorem zd_Pa_kindOn_17 : decode zb_Pa_kindOn 17 = .ok (.aload_n 0, 1) := by decide +kernel
theorem zd_Pa_kindOn_18 : decode zb_Pa_kindOn 18 = .ok (.getfield 15, 3) := by decide +kernel
theorem zd_Pa_kindOn_21 : decode zb_Pa_kindOn 21 = .ok (.iload_n 1, 1) := by decide +kernel
theorem zd_Pa_kindOn_22 : decode zb_Pa_kindOn 22 = .ok (.iaload, 1) := by decide +kernel
theorem zd_Pa_kindOn_23 : decode zb_Pa_kindOn 23 = .ok (.goto 13, 3) := by decide +kernel
theorem zd_Pa_kindOn_26 : decode zb_Pa_kindOn 26 = .ok (.aload_n 0, 1) := by decide +kernel
theorem zd_Pa_kindOn_27 : decode zb_Pa_kindOn 27 = .ok (.getfield 31, 3) := by decide +kernel
theorem zd_Pa_kindOn_30 : decode zb_Pa_kindOn 30 = .ok (.getfield 47, 3) := by decide +kernel
theorem zd_Pa_kindOn_33 : decode zb_Pa_kindOn 33 = .ok (.iload 4, 2) := by decide +kernel
theorem zd_Pa_kindOn_35 : decode zb_Pa_kindOn 35 = .ok (.iaload, 1) := by decide +kernel
theorem zd_Pa_kindOn_36 : decode zb_Pa_kindOn 36 = .ok (.ireturn, 1) := by decide +kernel
theorem zd_Ch_isFull_0 : decode zb_Ch_isFull 0 = .ok (.aload_n 0, 1) := by decide +kernel
theorem zd_Ch_isFull_1 : decode zb_Ch_isFull 1 = .ok (.getfield 25, 3) := by decide +kernel
theorem zd_Ch_isFull_4 : decode zb_Ch_isFull 4 = .ok (.bipush 20, 2) := by decide +kernel
theorem zd_Ch_isFull_6 : decode zb_Ch_isFull 6 = .ok (.if_icmp .lt 7, 3) := by decide +kernel
theorem zd_Ch_isFull_9 : decode zb_Ch_isFull 9 = .ok (.iconst 1, 1) := by decide +kernel
theorem zd_Ch_isFull_10 : decode zb_Ch_isFull 10 = .ok (.goto 4, 3) := by decide +kernel
theorem zd_Ch_isFull_13 : decode zb_Ch_isFull 13 = .ok (.iconst 0, 1) := by decide +kernel
theorem zd_Ch_isFull_14 : decode zb_Ch_isFull 14 = .ok (.ireturn, 1) := by decide +kernel
theorem zd_Ch_add_0 : decode zb_Ch_add 0 = .ok (.aload_n 0, 1) := by decide +kernel
theorem zd_Ch_add_1 : decode zb_Ch_add 1 = .ok (.invokevirtual 29, 3) := by decide +kernel
theorem zd_Ch_add_4 : decode zb_Ch_add 4 = .ok (.ifCond .eq 4, 3) := by decide +kernel
theorem zd_Ch_add_7 : decode zb_Ch_add 7 = .ok (.return_, 1) := by decide +kernel
theorem zd_Ch_add_8 : decode zb_Ch_add 8 = .ok (.aload_n 0, 1) := by decide +kernel
theorem zd_Ch_add_9 : decode zb_Ch_add 9 = .ok (.getfield 9, 3) := by decide +kernel
theorem zd_Ch_add_12 : decode zb_Ch_add 12 = .ok (.aload_n 0, 1) := by decide +kernel
theorem zd_Ch_add_13 : decode zb_Ch_add 13 = .ok (.getfield 25, 3) := by decide +kernel
theorem zd_Ch_add_16 : decode zb_Ch_add 16 = .ok (.iload_n 1, 1) := by decide +kernel
theorem zd_Ch_add_17 : decode zb_Ch_add 17 = .ok (.iastore, 1) := by decide +kernel
theorem zd_Ch_add_18 : decode zb_Ch_add 18 = .ok (.aload_n 0, 1) := by decide +kernel
theorem zd_Ch_add_19 : decode zb_Ch_add 19 = .ok (.getfield 15, 3) := by decide +kernel
theorem zd_Ch_add_22 : decode zb_Ch_add 22 = .ok (.aload_n 0, 1) := by decide +kernel
theorem zd_Ch_add_23 : decode zb_Ch_add 23 = .ok (.getfield 25, 3) := by decide +kernel
theorem zd_Ch_add_26 : decode zb_Ch_add 26 = .ok (.lload_n 2, 1) := by decide +kernel
theorem zd_Ch_add_27 : decode zb_Ch_add 27 = .ok (.lastore, 1) := by decide +kernel
theorem zd_Ch_add_28 : decode zb_Ch_add 28 = .ok (.aload_n 0, 1) := by decide +kernel
theorem zd_Ch_add_29 : decode zb_Ch_add 29 = .ok (.getfield 19, 3) := by decide +kernel
theorem zd_Ch_add_32 : decode zb_Ch_add 32 = .ok (.aload_n 0, 1) := by decide +kernel
theorem zd_Ch_add_33 : decode zb_Ch_add 33 = .ok (.getfield 25, 3) := by decide +kernel
theorem zd_Ch_add_36 : decode zb_Ch_add 36 = .ok (.iload 4, 2) := by decide +kernel
theorem zd_Ch_add_38 : decode zb_Ch_add 38 = .ok (.iastore, 1) := by decide +kernel
theorem zd_Ch_add_39 : decode zb_Ch_add 39 = .ok (.aload_n 0, 1) := by decide +kernel
theorem zd_Ch_add_40 : decode zb_Ch_add 40 = .ok (.getfield 22, 3) := by decide +kernel
theorem zd_Ch_add_43 : decode zb_Ch_add 43 = .ok (.aload_n 0, 1) := by decide +kernel
theorem zd_Ch_add_44 : decode zb_Ch_add 44 = .ok (.getfield 25, 3) := by decide +kernel
theorem zd_Ch_add_47 : decode zb_Ch_add 47 = .ok (.lload 5, 2) := by decide +kernel
theorem zd_Ch_add_49 : decode zb_Ch_add 49 = .ok (.lastore, 1) := by decide +kernel
theorem zd_Ch_add_50 : decode zb_Ch_add 50 = .ok (.aload_n 0, 1) := by decide +kernel
theorem zd_Ch_add_51 : decode zb_Ch_add 51 = .ok (.dup, 1) := by decide +kernel
theorem zd_Ch_add_52 : decode zb_Ch_add 52 = .ok (.getfield 25, 3) := by decide +kernel
theorem zd_Ch_add_55 : decode zb_Ch_add 55 = .ok (.iconst 1, 1) := by decide +kernel
theorem zd_Ch_add_56 : decode zb_Ch_add 56 = .ok (.iadd, 1) := by decide +kernel
theorem zd_Ch_add_57 : decode zb_Ch_add 57 = .ok (.putfield 25, 3) := by decide +kernel
theorem zd_Ch_add_60 : decode zb_Ch_add 60 = .ok (.return_, 1) := by decide +kernel
theorem zd_Ja_fill_0 : decode zb_Ja_fill 0 = .ok (.iconst 0, 1) := by decide +kernel
theorem zd_Ja_fill_1 : decode zb_Ja_fill 1 = .ok (.istore_n 3, 1) := by decide +kernel
theorem zd_Ja_fill_2 : decode zb_Ja_fill 2 = .ok (.aload_n 0, 1) := by decide +kernel
theorem zd_Ja_fill_3 : decode zb_Ja_fill 3 = .ok (.arraylength, 1) := by decide +kernel
theorem zd_Ja_fill_4 : decode zb_Ja_fill 4 = .ok (.istore 4, 2) := by decide +kernel
theorem zd_Ja_fill_6 : decode zb_Ja_fill 6 = .ok (.iload_n 3, 1) := by decide +kernel
theorem zd_Ja_fill_7 : decode zb_Ja_fill 7 = .ok (.iload 4, 2) := by decide +kernel
theorem zd_Ja_fill_9 : decode zb_Ja_fill 9 = .ok (.if_icmp .ge 13, 3) := by decide +kernel
theorem zd_Ja_fill_12 : decode zb_Ja_fill 12 = .ok (.aload_n 0, 1) := by decide +kernel
theorem zd_Ja_fill_13 : decode zb_Ja_fill 13 = .ok (.iload_n 3, 1) := by decide +kernel
theorem zd_Ja_fill_14 : decode zb_Ja_fill 14 = .ok (.lload_n 1, 1) := by decide +kernel
theorem zd_Ja_fill_15 : decode zb_Ja_fill 15 = .ok (.lastore, 1) := by decide +kernel
theorem zd_Ja_fill_16 : decode zb_Ja_fill 16 = .ok (.iinc 3 1, 3) := by decide +kernel
theorem zd_Ja_fill_19 : decode zb_Ja_fill 19 = .ok (.goto (-13), 3) := by decide +kernel
theorem zd_Ja_fill_22 : decode zb_Ja_fill 22 = .ok (.return_, 1) := by decide +kernel
theorem zd_Ne_goDeeper_0 : decode zb_Ne_goDeeper 0 = .ok (.aload_n 0, 1) := by decide +kernel
theorem zd_Ne_goDeeper_1 : decode zb_Ne_goDeeper 1 = .ok (.getfield 18, 3) := by decide +kernel
theorem zd_Ne_goDeeper_4 : decode zb_Ne_goDeeper 4 = .ok (.lconst 0, 1) := by decide +kernel
theorem zd_Ne_goDeeper_5 : decode zb_Ne_goDeeper 5 = .ok (.invokestatic 29, 3) := by decide +kernel
theorem zd_Ne_goDeeper_8 : decode zb_Ne_goDeeper 8 = .ok (.iconst 0, 1) := by decide +kernel
theorem zd_Ne_goDeeper_9 : decode zb_Ne_goDeeper 9 = .ok (.istore_n 2, 1) := by decide +kernel
theorem zd_Ne_goDeeper_10 : decode zb_Ne_goDeeper 10 = .ok (.iload_n 2, 1) := by decide +kernel
theorem zd_Ne_goDeeper_11 : decode zb_Ne_goDeeper 11 = .ok (.aload_n 1, 1) := by decide +kernel
theorem zd_Ne_goDeeper_12 : decode zb_Ne_goDeeper 12 = .ok (.getfield 35, 3) := by decide +kernel
theorem zd_Ne_goDeeper_15 : decode zb_Ne_goDeeper 15 = .ok (.if_icmp .ge 41, 3) := by decide +kernel
theorem zd_Ne_goDeeper_18 : decode zb_Ne_goDeeper 18 = .ok (.aload_n 1, 1) := by decide +kernel
theorem zd_Ne_goDeeper_19 : decode zb_Ne_goDeeper 19 = .ok (.getfield 57, 3) := by decide +kernel
theorem zd_Ne_goDeeper_22 : decode zb_Ne_goDeeper 22 = .ok (.iload_n 2, 1) := by decide +kernel
theorem zd_Ne_goDeeper_23 : decode zb_Ne_goDeeper 23 = .ok (.iaload, 1) := by decide +kernel
theorem zd_Ne_goDeeper_24 : decode zb_Ne_goDeeper 24 = .ok (.istore_n 3, 1) := by decide +kernel
theorem zd_Ne_goDeeper_25 : decode zb_Ne_goDeeper 25 = .ok (.iload_n 3, 1) := by decide +kernel
theorem zd_Ne_goDeeper_26 : decode zb_Ne_goDeeper 26 = .ok (.iconst (-1), 1) := by decide +kernel
theorem zd_Ne_goDeeper_27 : decode zb_Ne_goDeeper 27 = .ok (.if_icmp .eq 23, 3) := by decide +kernel
theorem zd_Ne_goDeeper_30 : decode zb_Ne_goDeeper 30 = .ok (.aload_n 0, 1) := by decide +kernel
theorem zd_Ne_goDeeper_31 : decode zb_Ne_goDeeper 31 = .ok (.getfield 18, 3) := by decide +kernel
theorem zd_Ne_goDeeper_34 : decode zb_Ne_goDeeper 34 = .ok (.iload_n 3, 1) := by decide +kernel
theorem zd_Ne_goDeeper_35 : decode zb_Ne_goDeeper 35 = .ok (.dup2, 1) := by decide +kernel
theorem zd_Ne_goDeeper_36 : decode zb_Ne_goDeeper 36 = .ok (.laload, 1) := by decide +kernel
theorem zd_Ne_goDeeper_37 : decode zb_Ne_goDeeper 37 = .ok (.aload_n 0, 1) := by decide +kernel
theorem zd_Ne_goDeeper_38 : decode zb_Ne_goDeeper 38 = .ok (.getfield 15, 3) := by decide +kernel
theorem zd_Ne_goDeeper_41 : decode zb_Ne_goDeeper 41 = .ok (.aload_n 1, 1) := by decide +kernel
theorem zd_Ne_goDeeper_42 : decode zb_Ne_goDeeper 42 = .ok (.getfield 49, 3) := by decide +kernel
theorem zd_Ne_goDeeper_45 : decode zb_Ne_goDeeper 45 = .ok (.iload_n 2, 1) := by decide +kernel
theorem zd_Ne_goDeeper_46 : decode zb_Ne_goDeeper 46 = .ok (.iaload, 1) := by decide +kernel
theorem zd_Ne_goDeeper_47 : decode zb_Ne_goDeeper 47 = .ok (.laload, 1) := by decide +kernel
theorem zd_Ne_goDeeper_48 : decode zb_Ne_goDeeper 48 = .ok (.ladd, 1) := by decide +kernel
theorem zd_Ne_goDeeper_49 : decode zb_Ne_goDeeper 49 = .ok (.lastore, 1) := by decide +kernel
theorem zd_Ne_goDeeper_50 : decode zb_Ne_goDeeper 50 = .ok (.iinc 2 1, 3) := by decide +kernel
theorem zd_Ne_goDeeper_53 : decode zb_Ne_goDeeper 53 = .ok (.goto (-43), 3) := by decide +kernel
theorem zd_Ne_goDeeper_56 : decode zb_Ne_goDeeper 56 = .ok (.iconst 0, 1) := by decide +kernel
theorem zd_Ne_goDeeper_57 : decode zb_Ne_goDeeper 57 = .ok (.istore_n 2, 1) := by decide +kernel
theorem zd_Ne_goDeeper_58 : decode zb_Ne_goDeeper 58 = .ok (.iload_n 2, 1) := by decide +kernel
theorem zd_Ne_goDeeper_59 : decode zb_Ne_goDeeper 59 = .ok (.bipush 8, 2) := by decide +kernel
theorem zd_Ne_goDeeper_61 : decode zb_Ne_goDeeper 61 = .ok (.if_icmp .ge 36, 3) := by decide +kernel
theorem zd_Ne_goDeeper_64 : decode zb_Ne_goDeeper 64 = .ok (.aload_n 0, 1) := by decide +kernel
theorem zd_Ne_goDeeper_65 : decode zb_Ne_goDeeper 65 = .ok (.getfield 15, 3) := by decide +kernel
theorem zd_Ne_goDeeper_68 : decode zb_Ne_goDeeper 68 = .ok (.iload_n 2, 1) := by decide +kernel
theorem zd_Ne_goDeeper_69 : decode zb_Ne_goDeeper 69 = .ok (.aload_n 0, 1) := by decide +kernel
theorem zd_Ne_goDeeper_70 : decode zb_Ne_goDeeper 70 = .ok (.getfield 18, 3) := by decide +kernel
theorem zd_Ne_goDeeper_73 : decode zb_Ne_goDeeper 73 = .ok (.iload_n 2, 1) := by decide +kernel
theorem zd_Ne_goDeeper_74 : decode zb_Ne_goDeeper 74 = .ok (.laload, 1) := by decide +kernel
theorem zd_Ne_goDeeper_75 : decode zb_Ne_goDeeper 75 = .ok (.lastore, 1) := by decide +kernel
theorem zd_Ne_goDeeper_76 : decode zb_Ne_goDeeper 76 = .ok (.aload_n 0, 1) := by decide +kernel
theorem zd_Ne_goDeeper_77 : decode zb_Ne_goDeeper 77 = .ok (.getfield 9, 3) := by decide +kernel
theorem zd_Ne_goDeeper_80 : decode zb_Ne_goDeeper 80 = .ok (.iload_n 2, 1) := by decide +kernel
theorem zd_Ne_goDeeper_81 : decode zb_Ne_goDeeper 81 = .ok (.dup2, 1) := by decide +kernel
theorem zd_Ne_goDeeper_82 : decode zb_Ne_goDeeper 82 = .ok (.laload, 1) := by decide +kernel
theorem zd_Ne_goDeeper_83 : decode zb_Ne_goDeeper 83 = .ok (.aload_n 0, 1) := by decide +kernel
theorem zd_Ne_goDeeper_84 : decode zb_Ne_goDeeper 84 = .ok (.getfield 18, 3) := by decide +kernel
theorem zd_Ne_goDeeper_87 : decode zb_Ne_goDeeper 87 = .ok (.iload_n 2, 1) := by decide +kernel
theorem zd_Ne_goDeeper_88 : decode zb_Ne_goDeeper 88 = .ok (.laload, 1) := by decide +kernel
theorem zd_Ne_goDeeper_89 : decode zb_Ne_goDeeper 89 = .ok (.ladd, 1) := by decide +kernel
theorem zd_Ne_goDeeper_90 : decode zb_Ne_goDeeper 90 = .ok (.lastore, 1) := by decide +kernel
theorem zd_Ne_goDeeper_91 : decode zb_Ne_goDeeper 91 = .ok (.iinc 2 1, 3) := by decide +kernel
theorem zd_Ne_goDeeper_94 : decode zb_Ne_goDeeper 94 = .ok (.goto (-36), 3) := by decide +kernel
theorem zd_Ne_goDeeper_97 : decode zb_Ne_goDeeper 97 = .ok (.return_, 1) := by decide +kernel
theorem zd_Fo_isDigit_0 : decode zb_Fo_isDigit 0 = .ok (.iload_n 0, 1) := by decide +kernel
theorem zd_Fo_isDigit_1 : decode zb_Fo_isDigit 1 = .ok (.bipush 48, 2) := by decide +kernel
theorem zd_Fo_isDigit_3 : decode zb_Fo_isDigit 3 = .ok (.if_icmp .lt 13, 3) := by decide +kernel
theorem zd_Fo_isDigit_6 : decode zb_Fo_isDigit 6 = .ok (.iload_n 0, 1) := by decide +kernel
theorem zd_Fo_isDigit_7 : decode zb_Fo_isDigit 7 = .ok (.bipush 57, 2) := by decide +kernel
theorem zd_Fo_isDigit_9 : decode zb_Fo_isDigit 9 = .ok (.if_icmp .gt 7, 3) := by decide +kernel
theorem zd_Fo_isDigit_12 : decode zb_Fo_isDigit 12 = .ok (.iconst 1, 1) := by decide +kernel
theorem zd_Fo_isDigit_13 : decode zb_Fo_isDigit 13 = .ok (.goto 4, 3) := by decide +kernel
theorem zd_Fo_isDigit_16 : decode zb_Fo_isDigit 16 = .ok (.iconst 0, 1) := by decide +kernel
theorem zd_Fo_isDigit_17 : decode zb_Fo_isDigit 17 = .ok (.ireturn, 1) := by decide +kernel
theorem zd_Fo_signOf_0 : decode zb_Fo_signOf 0 = .ok (.iload_n 0, 1) := by decide +kernel
theorem zd_Fo_signOf_1 : decode zb_Fo_signOf 1 = .ok (.lookupswitch 55 #[(42, 52), (43, 46), (45, 49), (110, 43)], 43) := by decide +kernel
theorem zd_Fo_signOf_44 : decode zb_Fo_signOf 44 = .ok (.bipush (-6), 2) := by decide +kernel
theorem zd_Fo_signOf_46 : decode zb_Fo_signOf 46 = .ok (.ireturn, 1) := by decide +kernel
theorem zd_Fo_signOf_47 : decode zb_Fo_signOf 47 = .ok (.bipush (-7), 2) := by decide +kernel
theorem zd_Fo_signOf_49 : decode zb_Fo_signOf 49 = .ok (.ireturn, 1) := by decide +kernel
theorem zd_Fo_signOf_50 : decode zb_Fo_signOf 50 = .ok (.bipush (-8), 2) := by decide +kernel
theorem zd_Fo_signOf_52 : decode zb_Fo_signOf 52 = .ok (.ireturn, 1) := by decide +kernel
theorem zd_Fo_signOf_53 : decode zb_Fo_signOf 53 = .ok (.bipush (-9), 2) := by decide +kernel
theorem zd_Fo_signOf_55 : decode zb_Fo_signOf 55 = .ok (.ireturn, 1) := by decide +kernel
theorem zd_Fo_signOf_56 : decode zb_Fo_signOf 56 = .ok (.bipush (-12), 2) := by decide +kernel
theorem zd_Fo_signOf_58 : decode zb_Fo_signOf 58 = .ok (.ireturn, 1) := by decide +kernel
theorem zd_MP_isKind_0 : decode zb_MP_isKind 0 = .ok (.iload_n 0, 1) := by decide +kernel
theorem zd_MP_isKind_1 : decode zb_MP_isKind 1 = .ok (.ifCond .lt 12, 3) := by decide +kernel
theorem zd_MP_isKind_4 : decode zb_MP_isKind 4 = .ok (.iload_n 0, 1) := by decide +kernel
theorem zd_MP_isKind_5 : decode zb_MP_isKind 5 = .ok (.iconst 5, 1) := by decide +kernel
theorem zd_MP_isKind_6 : decode zb_MP_isKind 6 = .ok (.if_icmp .ge 7, 3) := by decide +kernel
theorem zd_MP_isKind_9 : decode zb_MP_isKind 9 = .ok (.iconst 1, 1) := by decide +kernel
theorem zd_MP_isKind_10 : decode zb_MP_isKind 10 = .ok (.goto 4, 3) := by decide +kernel
theorem zd_MP_isKind_13 : decode zb_MP_isKind 13 = .ok (.iconst 0, 1) := by decide +kernel
theorem zd_MP_isKind_14 : decode zb_MP_isKind 14 = .ok (.ireturn, 1) := by decide +kernel
theorem zd_Fo_shareOf_0 : decode zb_Fo_shareOf 0 = .ok (.iload_n 0, 1) := by decide +kernel
theorem zd_Fo_shareOf_1 : decode zb_Fo_shareOf 1 = .ok (.bipush 48, 2) := by decide +kernel
theorem zd_Fo_shareOf_3 : decode zb_Fo_shareOf 3 = .ok (.isub, 1) := by decide +kernel
theorem zd_Fo_shareOf_4 : decode zb_Fo_shareOf 4 = .ok (.istore_n 1, 1) := by decide +kernel
theorem zd_Fo_shareOf_5 : decode zb_Fo_shareOf 5 = .ok (.iload_n 1, 1) := by decide +kernel
theorem zd_Fo_shareOf_6 : decode zb_Fo_shareOf 6 = .ok (.invokestatic 74, 3) := by decide +kernel
theorem zd_Fo_shareOf_9 : decode zb_Fo_shareOf 9 = .ok (.ifCond .eq 9, 3) := by decide +kernel
theorem zd_Fo_shareOf_12 : decode zb_Fo_shareOf 12 = .ok (.iconst (-1), 1) := by decide +kernel
theorem zd_Fo_shareOf_13 : decode zb_Fo_shareOf 13 = .ok (.iload_n 1, 1) := by decide +kernel
theorem zd_Fo_shareOf_14 : decode zb_Fo_shareOf 14 = .ok (.isub, 1) := by decide +kernel
theorem zd_Fo_shareOf_15 : decode zb_Fo_shareOf 15 = .ok (.goto 5, 3) := by decide +kernel
theorem zd_Fo_shareOf_18 : decode zb_Fo_shareOf 18 = .ok (.bipush (-12), 2) := by decide +kernel
theorem zd_Fo_shareOf_20 : decode zb_Fo_shareOf 20 = .ok (.ireturn, 1) := by decide +kernel
theorem zd_Fo_boundOf_0 : decode zb_Fo_boundOf 0 = .ok (.iload_n 0, 1) := by decide +kernel
theorem zd_Fo_boundOf_1 : decode zb_Fo_boundOf 1 = .ok (.bipush 105, 2) := by decide +kernel
theorem zd_Fo_boundOf_3 : decode zb_Fo_boundOf 3 = .ok (.if_icmp .ne 12, 3) := by decide +kernel
theorem zd_Fo_boundOf_6 : decode zb_Fo_boundOf 6 = .ok (.iload_n 1, 1) := by decide +kernel
theorem zd_Fo_boundOf_7 : decode zb_Fo_boundOf 7 = .ok (.bipush 110, 2) := by decide +kernel
theorem zd_Fo_boundOf_9 : decode zb_Fo_boundOf 9 = .ok (.if_icmp .ne 6, 3) := by decide +kernel
theorem zd_Fo_boundOf_12 : decode zb_Fo_boundOf 12 = .ok (.bipush (-10), 2) := by decide +kernel
theorem zd_Fo_boundOf_14 : decode zb_Fo_boundOf 14 = .ok (.ireturn, 1) := by decide +kernel
theorem zd_Fo_boundOf_15 : decode zb_Fo_boundOf 15 = .ok (.iload_n 0, 1) := by decide +kernel
theorem zd_Fo_boundOf_16 : decode zb_Fo_boundOf 16 = .ok (.bipush 97, 2) := by decide +kernel
theorem zd_Fo_boundOf_18 : decode zb_Fo_boundOf 18 = .ok (.if_icmp .ne 14, 3) := by decide +kernel
theorem zd_Fo_boundOf_21 : decode zb_Fo_boundOf 21 = .ok (.iload_n 1, 1) := by decide +kernel
theorem zd_Fo_boundOf_22 : decode zb_Fo_boundOf 22 = .ok (.bipush 120, 2) := by decide +kernel
theorem zd_Fo_boundOf_24 : decode zb_Fo_boundOf 24 = .ok (.if_icmp .ne 8, 3) := by decide +kernel
theorem zd_Fo_boundOf_27 : decode zb_Fo_boundOf 27 = .ok (.bipush (-11), 2) := by decide +kernel
theorem zd_Fo_boundOf_29 : decode zb_Fo_boundOf 29 = .ok (.goto 5, 3) := by decide +kernel
theorem zd_Fo_boundOf_32 : decode zb_Fo_boundOf 32 = .ok (.bipush (-12), 2) := by decide +kernel
theorem zd_Fo_boundOf_34 : decode zb_Fo_boundOf 34 = .ok (.ireturn, 1) := by decide +kernel
theorem zd_Fo_numberAt_0 : decode zb_Fo_numberAt 0 = .ok (.iload_n 2, 1) := by decide +kernel
theorem zd_Fo_numberAt_1 : decode zb_Fo_numberAt 1 = .ok (.iload_n 1, 1) := by decide +kernel
theorem zd_Fo_numberAt_2 : decode zb_Fo_numberAt 2 = .ok (.isub, 1) := by decide +kernel
theorem zd_Fo_numberAt_3 : decode zb_Fo_numberAt 3 = .ok (.bipush 6, 2) := by decide +kernel
theorem zd_Fo_numberAt_5 : decode zb_Fo_numberAt 5 = .ok (.if_icmp .le 6, 3) := by decide +kernel
theorem zd_Fo_numberAt_8 : decode zb_Fo_numberAt 8 = .ok (.bipush (-12), 2) := by decide +kernel
theorem zd_Fo_numberAt_10 : decode zb_Fo_numberAt 10 = .ok (.ireturn, 1) := by decide +kernel
theorem zd_Fo_numberAt_11 : decode zb_Fo_numberAt 11 = .ok (.iconst 0, 1) := by decide +kernel
theorem zd_Fo_numberAt_12 : decode zb_Fo_numberAt 12 = .ok (.istore_n 3, 1) := by decide +kernel
theorem zd_Fo_numberAt_13 : decode zb_Fo_numberAt 13 = .ok (.iload_n 1, 1) := by decide +kernel
theorem zd_Fo_numberAt_14 : decode zb_Fo_numberAt 14 = .ok (.istore 4, 2) := by decide +kernel
theorem zd_Fo_numberAt_16 : decode zb_Fo_numberAt 16 = .ok (.iload 4, 2) := by decide +kernel
theorem zd_Fo_numberAt_18 : decode zb_Fo_numberAt 18 = .ok (.iload_n 2, 1) := by decide +kernel
theorem zd_Fo_numberAt_19 : decode zb_Fo_numberAt 19 = .ok (.if_icmp .ge 41, 3) := by decide +kernel
theorem zd_Fo_numberAt_22 : decode zb_Fo_numberAt 22 = .ok (.aload_n 0, 1) := by decide +kernel
theorem zd_Fo_numberAt_23 : decode zb_Fo_numberAt 23 = .ok (.getfield 11, 3) := by decide +kernel
theorem zd_Fo_numberAt_26 : decode zb_Fo_numberAt 26 = .ok (.iload 4, 2) := by decide +kernel
theorem zd_Fo_numberAt_28 : decode zb_Fo_numberAt 28 = .ok (.iaload, 1) := by decide +kernel
theorem zd_Fo_numberAt_29 : decode zb_Fo_numberAt 29 = .ok (.invokestatic 58, 3) := by decide +kernel
theorem zd_Fo_numberAt_32 : decode zb_Fo_numberAt 32 = .ok (.ifCond .ne 6, 3) := by decide +kernel
theorem zd_Fo_numberAt_35 : decode zb_Fo_numberAt 35 = .ok (.bipush (-12), 2) := by decide +kernel
theorem zd_Fo_numberAt_37 : decode zb_Fo_numberAt 37 = .ok (.ireturn, 1) := by decide +kernel
theorem zd_Fo_numberAt_38 : decode zb_Fo_numberAt 38 = .ok (.iload_n 3, 1) := by decide +kernel
theorem zd_Fo_numberAt_39 : decode zb_Fo_numberAt 39 = .ok (.bipush 10, 2) := by decide +kernel
theorem zd_Fo_numberAt_41 : decode zb_Fo_numberAt 41 = .ok (.imul, 1) := by decide +kernel
theorem zd_Fo_numberAt_42 : decode zb_Fo_numberAt 42 = .ok (.aload_n 0, 1) := by decide +kernel
theorem zd_Fo_numberAt_43 : decode zb_Fo_numberAt 43 = .ok (.getfield 11, 3) := by decide +kernel
theorem zd_Fo_numberAt_46 : decode zb_Fo_numberAt 46 = .ok (.iload 4, 2) := by decide +kernel
theorem zd_Fo_numberAt_48 : decode zb_Fo_numberAt 48 = .ok (.iaload, 1) := by decide +kernel
theorem zd_Fo_numberAt_49 : decode zb_Fo_numberAt 49 = .ok (.bipush 48, 2) := by decide +kernel
theorem zd_Fo_numberAt_51 : decode zb_Fo_numberAt 51 = .ok (.isub, 1) := by decide +kernel
theorem zd_Fo_numberAt_52 : decode zb_Fo_numberAt 52 = .ok (.iadd, 1) := by decide +kernel
theorem zd_Fo_numberAt_53 : decode zb_Fo_numberAt 53 = .ok (.istore_n 3, 1) := by decide +kernel
theorem zd_Fo_numberAt_54 : decode zb_Fo_numberAt 54 = .ok (.iinc 4 1, 3) := by decide +kernel
theorem zd_Fo_numberAt_57 : decode zb_Fo_numberAt 57 = .ok (.goto (-41), 3) := by decide +kernel
theorem zd_Fo_numberAt_60 : decode zb_Fo_numberAt 60 = .ok (.iload_n 3, 1) := by decide +kernel
theorem zd_Fo_numberAt_61 : decode zb_Fo_numberAt 61 = .ok (.ireturn, 1) := by decide +kernel
theorem zd_Fo_wordAt_0 : decode zb_Fo_wordAt 0 = .ok (.aload_n 0, 1) := by decide +kernel
theorem zd_Fo_wordAt_1 : decode zb_Fo_wordAt 1 = .ok (.getfield 11, 3) := by decide +kernel
theorem zd_Fo_wordAt_4 : decode zb_Fo_wordAt 4 = .ok (.iload_n 1, 1) := by decide +kernel
theorem zd_Fo_wordAt_5 : decode zb_Fo_wordAt 5 = .ok (.iaload, 1) := by decide +kernel
theorem zd_Fo_wordAt_6 : decode zb_Fo_wordAt 6 = .ok (.istore_n 3, 1) := by decide +kernel
theorem zd_Fo_wordAt_7 : decode zb_Fo_wordAt 7 = .ok (.iload_n 3, 1) := by decide +kernel
theorem zd_Fo_wordAt_8 : decode zb_Fo_wordAt 8 = .ok (.invokestatic 58, 3) := by decide +kernel
theorem zd_Fo_wordAt_11 : decode zb_Fo_wordAt 11 = .ok (.ifCond .eq 10, 3) := by decide +kernel
theorem zd_Fo_wordAt_14 : decode zb_Fo_wordAt 14 = .ok (.aload_n 0, 1) := by decide +kernel
theorem zd_Fo_wordAt_15 : decode zb_Fo_wordAt 15 = .ok (.iload_n 1, 1) := by decide +kernel
theorem zd_Fo_wordAt_16 : decode zb_Fo_wordAt 16 = .ok (.iload_n 2, 1) := by decide +kernel
theorem zd_Fo_wordAt_17 : decode zb_Fo_wordAt 17 = .ok (.invokevirtual 61, 3) := by decide +kernel
theorem zd_Fo_wordAt_20 : decode zb_Fo_wordAt 20 = .ok (.ireturn, 1) := by decide +kernel
theorem zd_Fo_wordAt_21 : decode zb_Fo_wordAt 21 = .ok (.iload_n 2, 1) := by decide +kernel
theorem zd_Fo_wordAt_22 : decode zb_Fo_wordAt 22 = .ok (.iload_n 1, 1) := by decide +kernel
theorem zd_Fo_wordAt_23 : decode zb_Fo_wordAt 23 = .ok (.isub, 1) := by decide +kernel
theorem zd_Fo_wordAt_24 : decode zb_Fo_wordAt 24 = .ok (.tableswitch 87 1 3 #[28, 33, 56], 28) := by decide +kernel
theorem zd_Fo_wordAt_52 : decode zb_Fo_wordAt 52 = .ok (.iload_n 3, 1) := by decide +kernel
theorem zd_Fo_wordAt_53 : decode zb_Fo_wordAt 53 = .ok (.invokestatic 64, 3) := by decide +kernel
theorem zd_Fo_wordAt_56 : decode zb_Fo_wordAt 56 = .ok (.ireturn, 1) := by decide +kernel
theorem zd_Fo_wordAt_57 : decode zb_Fo_wordAt 57 = .ok (.iload_n 3, 1) := by decide +kernel
theorem zd_Fo_wordAt_58 : decode zb_Fo_wordAt 58 = .ok (.bipush 107, 2) := by decide +kernel
theorem zd_Fo_wordAt_60 : decode zb_Fo_wordAt 60 = .ok (.if_icmp .ne 17, 3) := by decide +kernel
theorem zd_Fo_wordAt_63 : decode zb_Fo_wordAt 63 = .ok (.aload_n 0, 1) := by decide +kernel
theorem zd_Fo_wordAt_64 : decode zb_Fo_wordAt 64 = .ok (.getfield 11, 3) := by decide +kernel
theorem zd_Fo_wordAt_67 : decode zb_Fo_wordAt 67 = .ok (.iload_n 1, 1) := by decide +kernel
theorem zd_Fo_wordAt_68 : decode zb_Fo_wordAt 68 = .ok (.iconst 1, 1) := by decide +kernel
theorem zd_Fo_wordAt_69 : decode zb_Fo_wordAt 69 = .ok (.iadd, 1) := by decide +kernel
theorem zd_Fo_wordAt_70 : decode zb_Fo_wordAt 70 = .ok (.iaload, 1) := by decide +kernel
theorem zd_Fo_wordAt_71 : decode zb_Fo_wordAt 71 = .ok (.invokestatic 68, 3) := by decide +kernel
theorem zd_Fo_wordAt_74 : decode zb_Fo_wordAt 74 = .ok (.goto 5, 3) := by decide +kernel
theorem zd_Fo_wordAt_77 : decode zb_Fo_wordAt 77 = .ok (.bipush (-12), 2) := by decide +kernel
theorem zd_Fo_wordAt_79 : decode zb_Fo_wordAt 79 = .ok (.ireturn, 1) := by decide +kernel
theorem zd_Fo_wordAt_80 : decode zb_Fo_wordAt 80 = .ok (.iload_n 3, 1) := by decide +kernel
theorem zd_Fo_wordAt_81 : decode zb_Fo_wordAt 81 = .ok (.bipush 109, 2) := by decide +kernel
theorem zd_Fo_wordAt_83 : decode zb_Fo_wordAt 83 = .ok (.if_icmp .ne 25, 3) := by decide +kernel
theorem zd_Fo_wordAt_86 : decode zb_Fo_wordAt 86 = .ok (.aload_n 0, 1) := by decide +kernel
theorem zd_Fo_wordAt_87 : decode zb_Fo_wordAt 87 = .ok (.getfield 11, 3) := by decide +kernel
theorem zd_Fo_wordAt_90 : decode zb_Fo_wordAt 90 = .ok (.iload_n 1, 1) := by decide +kernel
theorem zd_Fo_wordAt_91 : decode zb_Fo_wordAt 91 = .ok (.iconst 1, 1) := by decide +kernel
theorem zd_Fo_wordAt_92 : decode zb_Fo_wordAt 92 = .ok (.iadd, 1) := by decide +kernel
theorem zd_Fo_wordAt_93 : decode zb_Fo_wordAt 93 = .ok (.iaload, 1) := by decide +kernel
theorem zd_Fo_wordAt_94 : decode zb_Fo_wordAt 94 = .ok (.aload_n 0, 1) := by decide +kernel
theorem zd_Fo_wordAt_95 : decode zb_Fo_wordAt 95 = .ok (.getfield 11, 3) := by decide +kernel
theorem zd_Fo_wordAt_98 : decode zb_Fo_wordAt 98 = .ok (.iload_n 1, 1) := by decide +kernel
theorem zd_Fo_wordAt_99 : decode zb_Fo_wordAt 99 = .ok (.iconst 2, 1) := by decide +kernel
theorem zd_Fo_wordAt_100 : decode zb_Fo_wordAt 100 = .ok (.iadd, 1) := by decide +kernel
theorem zd_Fo_wordAt_101 : decode zb_Fo_wordAt 101 = .ok (.iaload, 1) := by decide +kernel
theorem zd_Fo_wordAt_102 : decode zb_Fo_wordAt 102 = .ok (.invokestatic 71, 3) := by decide +kernel
theorem zd_Fo_wordAt_105 : decode zb_Fo_wordAt 105 = .ok (.goto 5, 3) := by decide +kernel
theorem zd_Fo_wordAt_108 : decode zb_Fo_wordAt 108 = .ok (.bipush (-12), 2) := by decide +kernel
theorem zd_Fo_wordAt_110 : decode zb_Fo_wordAt 110 = .ok (.ireturn, 1) := by decide +kernel
theorem zd_Fo_wordAt_111 : decode zb_Fo_wordAt 111 = .ok (.bipush (-12), 2) := by decide +kernel
theorem zd_Fo_wordAt_113 : decode zb_Fo_wordAt 113 = .ok (.ireturn, 1) := by decide +kernel
theorem zd_Fo_joinsTwo_0 : decode zb_Fo_joinsTwo 0 = .ok (.iload_n 0, 1) := by decide +kernel
theorem zd_Fo_joinsTwo_1 : decode zb_Fo_joinsTwo 1 = .ok (.bipush (-7), 2) := by decide +kernel
theorem zd_Fo_joinsTwo_3 : decode zb_Fo_joinsTwo 3 = .ok (.if_icmp .gt 13, 3) := by decide +kernel
theorem zd_Fo_joinsTwo_6 : decode zb_Fo_joinsTwo 6 = .ok (.iload_n 0, 1) := by decide +kernel
theorem zd_Fo_joinsTwo_7 : decode zb_Fo_joinsTwo 7 = .ok (.bipush (-11), 2) := by decide +kernel
theorem zd_Fo_joinsTwo_9 : decode zb_Fo_joinsTwo 9 = .ok (.if_icmp .lt 7, 3) := by decide +kernel
theorem zd_Fo_joinsTwo_12 : decode zb_Fo_joinsTwo 12 = .ok (.iconst 1, 1) := by decide +kernel
theorem zd_Fo_joinsTwo_13 : decode zb_Fo_joinsTwo 13 = .ok (.goto 4, 3) := by decide +kernel
theorem zd_Fo_joinsTwo_16 : decode zb_Fo_joinsTwo 16 = .ok (.iconst 0, 1) := by decide +kernel
theorem zd_Fo_joinsTwo_17 : decode zb_Fo_joinsTwo 17 = .ok (.ireturn, 1) := by decide +kernel
theorem zd_Fo_takeWord_0 : decode zb_Fo_takeWord 0 = .ok (.iload_n 1, 1) := by decide +kernel
theorem zd_Fo_takeWord_1 : decode zb_Fo_takeWord 1 = .ok (.invokestatic 55, 3) := by decide +kernel
theorem zd_Fo_takeWord_4 : decode zb_Fo_takeWord 4 = .ok (.istore_n 2, 1) := by decide +kernel
theorem zd_Fo_takeWord_5 : decode zb_Fo_takeWord 5 = .ok (.iload_n 1, 1) := by decide +kernel
theorem zd_Fo_takeWord_6 : decode zb_Fo_takeWord 6 = .ok (.bipush (-12), 2) := by decide +kernel
theorem zd_Fo_takeWord_8 : decode zb_Fo_takeWord 8 = .ok (.if_icmp .eq 25, 3) := by decide +kernel
theorem zd_Fo_takeWord_11 : decode zb_Fo_takeWord 11 = .ok (.iload_n 2, 1) := by decide +kernel
theorem zd_Fo_takeWord_12 : decode zb_Fo_takeWord 12 = .ok (.ifCond .eq 11, 3) := by decide +kernel
theorem zd_Fo_takeWord_15 : decode zb_Fo_takeWord 15 = .ok (.aload_n 0, 1) := by decide +kernel
theorem zd_Fo_takeWord_16 : decode zb_Fo_takeWord 16 = .ok (.getfield 32, 3) := by decide +kernel
theorem zd_Fo_takeWord_19 : decode zb_Fo_takeWord 19 = .ok (.iconst 2, 1) := by decide +kernel
theorem zd_Fo_takeWord_20 : decode zb_Fo_takeWord 20 = .ok (.if_icmp .lt 13, 3) := by decide +kernel
theorem zd_Fo_takeWord_23 : decode zb_Fo_takeWord 23 = .ok (.aload_n 0, 1) := by decide +kernel
theorem zd_Fo_takeWord_24 : decode zb_Fo_takeWord 24 = .ok (.getfield 29, 3) := by decide +kernel
theorem zd_Fo_takeWord_27 : decode zb_Fo_takeWord 27 = .ok (.sipush 150, 3) := by decide +kernel
theorem zd_Fo_takeWord_30 : decode zb_Fo_takeWord 30 = .ok (.if_icmp .lt 5, 3) := by decide +kernel
theorem zd_Fo_takeWord_33 : decode zb_Fo_takeWord 33 = .ok (.iconst 0, 1) := by decide +kernel
theorem zd_Fo_takeWord_34 : decode zb_Fo_takeWord 34 = .ok (.ireturn, 1) := by decide +kernel
theorem zd_Fo_takeWord_35 : decode zb_Fo_takeWord 35 = .ok (.aload_n 0, 1) := by decide +kernel
theorem zd_Fo_takeWord_36 : decode zb_Fo_takeWord 36 = .ok (.getfield 15, 3) := by decide +kernel
theorem zd_Fo_takeWord_39 : decode zb_Fo_takeWord 39 = .ok (.aload_n 0, 1) := by decide +kernel
theorem zd_Fo_takeWord_40 : decode zb_Fo_takeWord 40 = .ok (.getfield 29, 3) := by decide +kernel
theorem zd_Fo_takeWord_43 : decode zb_Fo_takeWord 43 = .ok (.iload_n 1, 1) := by decide +kernel
theorem zd_Fo_takeWord_44 : decode zb_Fo_takeWord 44 = .ok (.iastore, 1) := by decide +kernel
theorem zd_Fo_takeWord_45 : decode zb_Fo_takeWord 45 = .ok (.aload_n 0, 1) := by decide +kernel
theorem zd_Fo_takeWord_46 : decode zb_Fo_takeWord 46 = .ok (.dup, 1) := by decide +kernel
theorem zd_Fo_takeWord_47 : decode zb_Fo_takeWord 47 = .ok (.getfield 29, 3) := by decide +kernel
theorem zd_Fo_takeWord_50 : decode zb_Fo_takeWord 50 = .ok (.iconst 1, 1) := by decide +kernel
theorem zd_Fo_takeWord_51 : decode zb_Fo_takeWord 51 = .ok (.iadd, 1) := by decide +kernel
theorem zd_Fo_takeWord_52 : decode zb_Fo_takeWord 52 = .ok (.putfield 29, 3) := by decide +kernel
theorem zd_Fo_takeWord_55 : decode zb_Fo_takeWord 55 = .ok (.aload_n 0, 1) := by decide +kernel
theorem zd_Fo_takeWord_56 : decode zb_Fo_takeWord 56 = .ok (.dup, 1) := by decide +kernel
theorem zd_Fo_takeWord_57 : decode zb_Fo_takeWord 57 = .ok (.getfield 32, 3) := by decide +kernel
theorem zd_Fo_takeWord_60 : decode zb_Fo_takeWord 60 = .ok (.iload_n 2, 1) := by decide +kernel
theorem zd_Fo_takeWord_61 : decode zb_Fo_takeWord 61 = .ok (.ifCond .eq 7, 3) := by decide +kernel
theorem zd_Fo_takeWord_64 : decode zb_Fo_takeWord 64 = .ok (.iconst (-1), 1) := by decide +kernel
theorem zd_Fo_takeWord_65 : decode zb_Fo_takeWord 65 = .ok (.goto 4, 3) := by decide +kernel
theorem zd_Fo_takeWord_68 : decode zb_Fo_takeWord 68 = .ok (.iconst 1, 1) := by decide +kernel
theorem zd_Fo_takeWord_69 : decode zb_Fo_takeWord 69 = .ok (.iadd, 1) := by decide +kernel
theorem zd_Fo_takeWord_70 : decode zb_Fo_takeWord 70 = .ok (.putfield 32, 3) := by decide +kernel
theorem zd_Fo_takeWord_73 : decode zb_Fo_takeWord 73 = .ok (.iconst 1, 1) := by decide +kernel
theorem zd_Fo_takeWord_74 : decode zb_Fo_takeWord 74 = .ok (.ireturn, 1) := by decide +kernel
theorem zd_Fo_isGap_0 : decode zb_Fo_isGap 0 = .ok (.iload_n 0, 1) := by decide +kernel
theorem zd_Fo_isGap_1 : decode zb_Fo_isGap 1 = .ok (.bipush 32, 2) := by decide +kernel
theorem zd_Fo_isGap_3 : decode zb_Fo_isGap 3 = .ok (.if_icmp .eq 9, 3) := by decide +kernel
theorem zd_Fo_isGap_6 : decode zb_Fo_isGap 6 = .ok (.iload_n 0, 1) := by decide +kernel
theorem zd_Fo_isGap_7 : decode zb_Fo_isGap 7 = .ok (.bipush 10, 2) := by decide +kernel
theorem zd_Fo_isGap_9 : decode zb_Fo_isGap 9 = .ok (.if_icmp .ne 7, 3) := by decide +kernel
theorem zd_Fo_isGap_12 : decode zb_Fo_isGap 12 = .ok (.iconst 1, 1) := by decide +kernel
theorem zd_Fo_isGap_13 : decode zb_Fo_isGap 13 = .ok (.goto 4, 3) := by decide +kernel
theorem zd_Fo_isGap_16 : decode zb_Fo_isGap 16 = .ok (.iconst 0, 1) := by decide +kernel
theorem zd_Fo_isGap_17 : decode zb_Fo_isGap 17 = .ok (.ireturn, 1) := by decide +kernel
theorem zd_Fo_readText_0 : decode zb_Fo_readText 0 = .ok (.aload_n 0, 1) := by decide +kernel
theorem zd_Fo_readText_1 : decode zb_Fo_readText 1 = .ok (.getfield 25, 3) := by decide +kernel
theorem zd_Fo_readText_4 : decode zb_Fo_readText 4 = .ok (.istore_n 1, 1) := by decide +kernel
theorem zd_Fo_readText_5 : decode zb_Fo_readText 5 = .ok (.aload_n 0, 1) := by decide +kernel
theorem zd_Fo_readText_6 : decode zb_Fo_readText 6 = .ok (.iconst 0, 1) := by decide +kernel
theorem zd_Fo_readText_7 : decode zb_Fo_readText 7 = .ok (.putfield 25, 3) := by decide +kernel
theorem zd_Fo_readText_10 : decode zb_Fo_readText 10 = .ok (.aload_n 0, 1) := by decide +kernel
theorem zd_Fo_readText_11 : decode zb_Fo_readText 11 = .ok (.iconst 0, 1) := by decide +kernel
theorem zd_Fo_readText_12 : decode zb_Fo_readText 12 = .ok (.putfield 29, 3) := by decide +kernel
theorem zd_Fo_readText_15 : decode zb_Fo_readText 15 = .ok (.aload_n 0, 1) := by decide +kernel
theorem zd_Fo_readText_16 : decode zb_Fo_readText 16 = .ok (.iconst 0, 1) := by decide +kernel
theorem zd_Fo_readText_17 : decode zb_Fo_readText 17 = .ok (.putfield 32, 3) := by decide +kernel
theorem zd_Fo_readText_20 : decode zb_Fo_readText 20 = .ok (.iconst 0, 1) := by decide +kernel
theorem zd_Fo_readText_21 : decode zb_Fo_readText 21 = .ok (.istore_n 2, 1) := by decide +kernel
theorem zd_Fo_readText_22 : decode zb_Fo_readText 22 = .ok (.iconst 0, 1) := by decide +kernel
theorem zd_Fo_readText_23 : decode zb_Fo_readText 23 = .ok (.istore_n 3, 1) := by decide +kernel
theorem zd_Fo_readText_24 : decode zb_Fo_readText 24 = .ok (.iload_n 3, 1) := by decide +kernel
theorem zd_Fo_readText_25 : decode zb_Fo_readText 25 = .ok (.iload_n 1, 1) := by decide +kernel
theorem zd_Fo_readText_26 : decode zb_Fo_readText 26 = .ok (.if_icmp .gt 55, 3) := by decide +kernel
theorem zd_Fo_readText_29 : decode zb_Fo_readText 29 = .ok (.iload_n 3, 1) := by decide +kernel
theorem zd_Fo_readText_30 : decode zb_Fo_readText 30 = .ok (.iload_n 1, 1) := by decide +kernel
theorem zd_Fo_readText_31 : decode zb_Fo_readText 31 = .ok (.if_icmp .eq 15, 3) := by decide +kernel
theorem zd_Fo_readText_34 : decode zb_Fo_readText 34 = .ok (.aload_n 0, 1) := by decide +kernel
theorem zd_Fo_readText_35 : decode zb_Fo_readText 35 = .ok (.getfield 11, 3) := by decide +kernel
theorem zd_Fo_readText_38 : decode zb_Fo_readText 38 = .ok (.iload_n 3, 1) := by decide +kernel
theorem zd_Fo_readText_39 : decode zb_Fo_readText 39 = .ok (.iaload, 1) := by decide +kernel
theorem zd_Fo_readText_40 : decode zb_Fo_readText 40 = .ok (.invokestatic 38, 3) := by decide +kernel
theorem zd_Fo_readText_43 : decode zb_Fo_readText 43 = .ok (.ifCond .eq 32, 3) := by decide +kernel
theorem zd_Fo_readText_46 : decode zb_Fo_readText 46 = .ok (.iload_n 2, 1) := by decide +kernel
theorem zd_Fo_readText_47 : decode zb_Fo_readText 47 = .ok (.iload_n 3, 1) := by decide +kernel
theorem zd_Fo_readText_48 : decode zb_Fo_readText 48 = .ok (.if_icmp .ge 23, 3) := by decide +kernel
theorem zd_Fo_readText_51 : decode zb_Fo_readText 51 = .ok (.aload_n 0, 1) := by decide +kernel
theorem zd_Fo_readText_52 : decode zb_Fo_readText 52 = .ok (.aload_n 0, 1) := by decide +kernel
theorem zd_Fo_readText_53 : decode zb_Fo_readText 53 = .ok (.iload_n 2, 1) := by decide +kernel
theorem zd_Fo_readText_54 : decode zb_Fo_readText 54 = .ok (.iload_n 3, 1) := by decide +kernel
theorem zd_Fo_readText_55 : decode zb_Fo_readText 55 = .ok (.invokevirtual 42, 3) := by decide +kernel
theorem zd_Fo_readText_58 : decode zb_Fo_readText 58 = .ok (.invokevirtual 46, 3) := by decide +kernel
theorem zd_Fo_readText_61 : decode zb_Fo_readText 61 = .ok (.ifCond .ne 10, 3) := by decide +kernel
theorem zd_Fo_readText_64 : decode zb_Fo_readText 64 = .ok (.iconst (-1), 1) := by decide +kernel
theorem zd_Fo_readText_65 : decode zb_Fo_readText 65 = .ok (.aload_n 0, 1) := by decide +kernel
theorem zd_Fo_readText_66 : decode zb_Fo_readText 66 = .ok (.getfield 29, 3) := by decide +kernel
theorem zd_Fo_readText_69 : decode zb_Fo_readText 69 = .ok (.isub, 1) := by decide +kernel
theorem zd_Fo_readText_70 : decode zb_Fo_readText 70 = .ok (.ireturn, 1) := by decide +kernel
theorem zd_Fo_readText_71 : decode zb_Fo_readText 71 = .ok (.iload_n 3, 1) := by decide +kernel
theorem zd_Fo_readText_72 : decode zb_Fo_readText 72 = .ok (.iconst 1, 1) := by decide +kernel
theorem zd_Fo_readText_73 : decode zb_Fo_readText 73 = .ok (.iadd, 1) := by decide +kernel
theorem zd_Fo_readText_74 : decode zb_Fo_readText 74 = .ok (.istore_n 2, 1) := by decide +kernel
theorem zd_Fo_readText_75 : decode zb_Fo_readText 75 = .ok (.iinc 3 1, 3) := by decide +kernel
theorem zd_Fo_readText_78 : decode zb_Fo_readText 78 = .ok (.goto (-54), 3) := by decide +kernel
theorem zd_Fo_readText_81 : decode zb_Fo_readText 81 = .ok (.aload_n 0, 1) := by decide +kernel
theorem zd_Fo_readText_82 : decode zb_Fo_readText 82 = .ok (.getfield 32, 3) := by decide +kernel
theorem zd_Fo_readText_85 : decode zb_Fo_readText 85 = .ok (.iconst 1, 1) := by decide +kernel
theorem zd_Fo_readText_86 : decode zb_Fo_readText 86 = .ok (.if_icmp .eq 10, 3) := by decide +kernel
theorem zd_Fo_readText_89 : decode zb_Fo_readText 89 = .ok (.iconst (-1), 1) := by decide +kernel
theorem zd_Fo_readText_90 : decode zb_Fo_readText 90 = .ok (.aload_n 0, 1) := by decide +kernel
theorem zd_Fo_readText_91 : decode zb_Fo_readText 91 = .ok (.getfield 29, 3) := by decide +kernel
theorem zd_Fo_readText_94 : decode zb_Fo_readText 94 = .ok (.isub, 1) := by decide +kernel
theorem zd_Fo_readText_95 : decode zb_Fo_readText 95 = .ok (.ireturn, 1) := by decide +kernel
theorem zd_Fo_readText_96 : decode zb_Fo_readText 96 = .ok (.aload_n 0, 1) := by decide +kernel
theorem zd_Fo_readText_97 : decode zb_Fo_readText 97 = .ok (.getfield 15, 3) := by decide +kernel
theorem zd_Fo_readText_100 : decode zb_Fo_readText 100 = .ok (.iconst 0, 1) := by decide +kernel
theorem zd_Fo_readText_101 : decode zb_Fo_readText 101 = .ok (.aload_n 0, 1) := by decide +kernel
theorem zd_Fo_readText_102 : decode zb_Fo_readText 102 = .ok (.getfield 18, 3) := by decide +kernel
theorem zd_Fo_readText_105 : decode zb_Fo_readText 105 = .ok (.iconst 0, 1) := by decide +kernel
theorem zd_Fo_readText_106 : decode zb_Fo_readText 106 = .ok (.aload_n 0, 1) := by decide +kernel
theorem zd_Fo_readText_107 : decode zb_Fo_readText 107 = .ok (.getfield 29, 3) := by decide +kernel
theorem zd_Fo_readText_110 : decode zb_Fo_readText 110 = .ok (.invokestatic 49, 3) := by decide +kernel
theorem zd_Fo_readText_113 : decode zb_Fo_readText 113 = .ok (.aload_n 0, 1) := by decide +kernel
theorem zd_Fo_readText_114 : decode zb_Fo_readText 114 = .ok (.aload_n 0, 1) := by decide +kernel
theorem zd_Fo_readText_115 : decode zb_Fo_readText 115 = .ok (.getfield 29, 3) := by decide +kernel
theorem zd_Fo_readText_118 : decode zb_Fo_readText 118 = .ok (.putfield 35, 3) := by decide +kernel
theorem zd_Fo_readText_121 : decode zb_Fo_readText 121 = .ok (.aload_n 0, 1) := by decide +kernel
theorem zd_Fo_readText_122 : decode zb_Fo_readText 122 = .ok (.getfield 35, 3) := by decide +kernel
theorem zd_Fo_readText_125 : decode zb_Fo_readText 125 = .ok (.ireturn, 1) := by decide +kernel
