theorem dX7_most_28 : decode cX7_most 28 = .ok (.aload_n 0, 1) := by decide +kernel
theorem dX7_most_29 : decode cX7_most 29 = .ok (.iload_n 1, 1) := by decide +kernel
theorem dX7_most_30 : decode cX7_most 30 = .ok (.invokevirtual 205, 3) := by decide +kernel
theorem dX7_most_33 : decode cX7_most 33 = .ok (.aload_n 0, 1) := by decide +kernel
theorem dX7_most_34 : decode cX7_most 34 = .ok (.getfield 151, 3) := by decide +kernel
theorem dX7_most_37 : decode cX7_most 37 = .ok (.ifCond .ne 5, 3) := by decide +kernel
theorem dX7_most_40 : decode cX7_most 40 = .ok (.iload_n 2, 1) := by decide +kernel
theorem dX7_most_41 : decode cX7_most 41 = .ok (.ireturn, 1) := by decide +kernel
theorem dX7_most_42 : decode cX7_most 42 = .ok (.iinc 2 (-1), 3) := by decide +kernel
theorem dX7_most_45 : decode cX7_most 45 = .ok (.goto (-33), 3) := by decide +kernel
theorem dX7_most_48 : decode cX7_most 48 = .ok (.bipush (-4), 2) := by decide +kernel
theorem dX7_most_50 : decode cX7_most 50 = .ok (.ireturn, 1) := by decide +kernel
theorem dX7_need_0 : decode cX7_need 0 = .ok (.aload_n 0, 1) := by decide +kernel
theorem dX7_need_1 : decode cX7_need 1 = .ok (.iload_n 1, 1) := by decide +kernel
theorem dX7_need_2 : decode cX7_need 2 = .ok (.invokevirtual 188, 3) := by decide +kernel
theorem dX7_need_5 : decode cX7_need 5 = .ok (.ifCond .eq 10, 3) := by decide +kernel
theorem dX7_need_8 : decode cX7_need 8 = .ok (.iload_n 2, 1) := by decide +kernel
theorem dX7_need_9 : decode cX7_need 9 = .ok (.invokestatic 213, 3) := by decide +kernel
theorem dX7_need_12 : decode cX7_need 12 = .ok (.ifCond .ne 5, 3) := by decide +kernel
theorem dX7_need_15 : decode cX7_need 15 = .ok (.iconst (-1), 1) := by decide +kernel
theorem dX7_need_16 : decode cX7_need 16 = .ok (.ireturn, 1) := by decide +kernel
theorem dX7_need_17 : decode cX7_need 17 = .ok (.iconst 1, 1) := by decide +kernel
theorem dX7_need_18 : decode cX7_need 18 = .ok (.istore_n 3, 1) := by decide +kernel
theorem dX7_need_19 : decode cX7_need 19 = .ok (.iload_n 3, 1) := by decide +kernel
theorem dX7_need_20 : decode cX7_need 20 = .ok (.bipush 99, 2) := by decide +kernel
theorem dX7_need_22 : decode cX7_need 22 = .ok (.if_icmp .gt 34, 3) := by decide +kernel
theorem dX7_need_25 : decode cX7_need 25 = .ok (.aload_n 0, 1) := by decide +kernel
theorem dX7_need_26 : decode cX7_need 26 = .ok (.invokevirtual 182, 3) := by decide +kernel
theorem dX7_need_29 : decode cX7_need 29 = .ok (.aload_n 0, 1) := by decide +kernel
theorem dX7_need_30 : decode cX7_need 30 = .ok (.iload_n 1, 1) := by decide +kernel
theorem dX7_need_31 : decode cX7_need 31 = .ok (.iconst 2, 1) := by decide +kernel
theorem dX7_need_32 : decode cX7_need 32 = .ok (.iload_n 3, 1) := by decide +kernel
theorem dX7_need_33 : decode cX7_need 33 = .ok (.invokevirtual 160, 3) := by decide +kernel
theorem dX7_need_36 : decode cX7_need 36 = .ok (.aload_n 0, 1) := by decide +kernel
theorem dX7_need_37 : decode cX7_need 37 = .ok (.iload_n 2, 1) := by decide +kernel
theorem dX7_need_38 : decode cX7_need 38 = .ok (.invokevirtual 205, 3) := by decide +kernel
theorem dX7_need_41 : decode cX7_need 41 = .ok (.aload_n 0, 1) := by decide +kernel
theorem dX7_need_42 : decode cX7_need 42 = .ok (.getfield 151, 3) := by decide +kernel
theorem dX7_need_45 : decode cX7_need 45 = .ok (.ifCond .ne 5, 3) := by decide +kernel
theorem dX7_need_48 : decode cX7_need 48 = .ok (.iload_n 3, 1) := by decide +kernel
theorem dX7_need_49 : decode cX7_need 49 = .ok (.ireturn, 1) := by decide +kernel
theorem dX7_need_50 : decode cX7_need 50 = .ok (.iinc 3 1, 3) := by decide +kernel
theorem dX7_need_53 : decode cX7_need 53 = .ok (.goto (-34), 3) := by decide +kernel
theorem dX7_need_56 : decode cX7_need 56 = .ok (.bipush (-4), 2) := by decide +kernel
theorem dX7_need_58 : decode cX7_need 58 = .ok (.ireturn, 1) := by decide +kernel
theorem dX7_kind_0 : decode cX7_kind 0 = .ok (.aload_n 0, 1) := by decide +kernel
theorem dX7_kind_1 : decode cX7_kind 1 = .ok (.iload_n 1, 1) := by decide +kernel
theorem dX7_kind_2 : decode cX7_kind 2 = .ok (.invokevirtual 188, 3) := by decide +kernel
theorem dX7_kind_5 : decode cX7_kind 5 = .ok (.ifCond .eq 17, 3) := by decide +kernel
theorem dX7_kind_8 : decode cX7_kind 8 = .ok (.iload_n 2, 1) := by decide +kernel
theorem dX7_kind_9 : decode cX7_kind 9 = .ok (.invokestatic 213, 3) := by decide +kernel
theorem dX7_kind_12 : decode cX7_kind 12 = .ok (.ifCond .eq 10, 3) := by decide +kernel
theorem dX7_kind_15 : decode cX7_kind 15 = .ok (.iload_n 3, 1) := by decide +kernel
theorem dX7_kind_16 : decode cX7_kind 16 = .ok (.invokestatic 247, 3) := by decide +kernel
theorem dX7_kind_19 : decode cX7_kind 19 = .ok (.ifCond .ne 5, 3) := by decide +kernel
theorem dX7_kind_22 : decode cX7_kind 22 = .ok (.iconst (-1), 1) := by decide +kernel
theorem dX7_kind_23 : decode cX7_kind 23 = .ok (.ireturn, 1) := by decide +kernel
theorem dX7_kind_24 : decode cX7_kind 24 = .ok (.aload_n 0, 1) := by decide +kernel
theorem dX7_kind_25 : decode cX7_kind 25 = .ok (.ldc 226, 2) := by decide +kernel
theorem dX7_kind_27 : decode cX7_kind 27 = .ok (.invokevirtual 227, 3) := by decide +kernel
theorem dX7_kind_30 : decode cX7_kind 30 = .ok (.iconst 0, 1) := by decide +kernel
theorem dX7_kind_31 : decode cX7_kind 31 = .ok (.istore 4, 2) := by decide +kernel
theorem dX7_kind_33 : decode cX7_kind 33 = .ok (.iload 4, 2) := by decide +kernel
theorem dX7_kind_35 : decode cX7_kind 35 = .ok (.iconst 4, 1) := by decide +kernel
theorem dX7_kind_36 : decode cX7_kind 36 = .ok (.if_icmp .ge 32, 3) := by decide +kernel
theorem dX7_kind_39 : decode cX7_kind 39 = .ok (.aload_n 0, 1) := by decide +kernel
theorem dX7_kind_40 : decode cX7_kind 40 = .ok (.invokevirtual 182, 3) := by decide +kernel
theorem dX7_kind_43 : decode cX7_kind 43 = .ok (.aload_n 0, 1) := by decide +kernel
theorem dX7_kind_44 : decode cX7_kind 44 = .ok (.iload_n 1, 1) := by decide +kernel
theorem dX7_kind_45 : decode cX7_kind 45 = .ok (.iconst 0, 1) := by decide +kernel
theorem dX7_kind_46 : decode cX7_kind 46 = .ok (.iload 4, 2) := by decide +kernel
theorem dX7_kind_48 : decode cX7_kind 48 = .ok (.invokevirtual 160, 3) := by decide +kernel
theorem dX7_kind_51 : decode cX7_kind 51 = .ok (.aload_n 0, 1) := by decide +kernel
theorem dX7_kind_52 : decode cX7_kind 52 = .ok (.iload 4, 2) := by decide +kernel
theorem dX7_kind_54 : decode cX7_kind 54 = .ok (.aload_n 0, 1) := by decide +kernel
theorem dX7_kind_55 : decode cX7_kind 55 = .ok (.iload_n 2, 1) := by decide +kernel
theorem dX7_kind_56 : decode cX7_kind 56 = .ok (.invokevirtual 233, 3) := by decide +kernel
theorem dX7_kind_59 : decode cX7_kind 59 = .ok (.invokevirtual 236, 3) := by decide +kernel
theorem dX7_kind_62 : decode cX7_kind 62 = .ok (.iinc 4 1, 3) := by decide +kernel
theorem dX7_kind_65 : decode cX7_kind 65 = .ok (.goto (-32), 3) := by decide +kernel
theorem dX7_kind_68 : decode cX7_kind 68 = .ok (.aload_n 0, 1) := by decide +kernel
theorem dX7_kind_69 : decode cX7_kind 69 = .ok (.iload_n 3, 1) := by decide +kernel
theorem dX7_kind_70 : decode cX7_kind 70 = .ok (.invokevirtual 250, 3) := by decide +kernel
theorem dX7_kind_73 : decode cX7_kind 73 = .ok (.ireturn, 1) := by decide +kernel
theorem dX7_common_0 : decode cX7_common 0 = .ok (.lload_n 0, 1) := by decide +kernel
theorem dX7_common_1 : decode cX7_common 1 = .ok (.lstore 4, 2) := by decide +kernel
theorem dX7_common_3 : decode cX7_common 3 = .ok (.lload_n 2, 1) := by decide +kernel
theorem dX7_common_4 : decode cX7_common 4 = .ok (.lstore 6, 2) := by decide +kernel
theorem dX7_common_6 : decode cX7_common 6 = .ok (.lload 6, 2) := by decide +kernel
theorem dX7_common_8 : decode cX7_common 8 = .ok (.lconst 0, 1) := by decide +kernel
theorem dX7_common_9 : decode cX7_common 9 = .ok (.lcmp, 1) := by decide +kernel
theorem dX7_common_10 : decode cX7_common 10 = .ok (.ifCond .eq 21, 3) := by decide +kernel
theorem dX7_common_13 : decode cX7_common 13 = .ok (.lload 4, 2) := by decide +kernel
theorem dX7_common_15 : decode cX7_common 15 = .ok (.lload 6, 2) := by decide +kernel
theorem dX7_common_17 : decode cX7_common 17 = .ok (.lrem, 1) := by decide +kernel
theorem dX7_common_18 : decode cX7_common 18 = .ok (.lstore 8, 2) := by decide +kernel
theorem dX7_common_20 : decode cX7_common 20 = .ok (.lload 6, 2) := by decide +kernel
theorem dX7_common_22 : decode cX7_common 22 = .ok (.lstore 4, 2) := by decide +kernel
theorem dX7_common_24 : decode cX7_common 24 = .ok (.lload 8, 2) := by decide +kernel
theorem dX7_common_26 : decode cX7_common 26 = .ok (.lstore 6, 2) := by decide +kernel
theorem dX7_common_28 : decode cX7_common 28 = .ok (.goto (-22), 3) := by decide +kernel
theorem dX7_common_31 : decode cX7_common 31 = .ok (.lload 4, 2) := by decide +kernel
theorem dX7_common_33 : decode cX7_common 33 = .ok (.lreturn, 1) := by decide +kernel
theorem dX7_told_0 : decode cX7_told 0 = .ok (.lload_n 2, 1) := by decide +kernel
theorem dX7_told_1 : decode cX7_told 1 = .ok (.lload_n 0, 1) := by decide +kernel
theorem dX7_told_2 : decode cX7_told 2 = .ok (.invokestatic 253, 3) := by decide +kernel
theorem dX7_told_5 : decode cX7_told 5 = .ok (.lstore 5, 2) := by decide +kernel
theorem dX7_told_7 : decode cX7_told 7 = .ok (.iload 4, 2) := by decide +kernel
theorem dX7_told_9 : decode cX7_told 9 = .ok (.ifCond .ne 10, 3) := by decide +kernel
theorem dX7_told_12 : decode cX7_told 12 = .ok (.lload_n 0, 1) := by decide +kernel
theorem dX7_told_13 : decode cX7_told 13 = .ok (.lload 5, 2) := by decide +kernel
theorem dX7_told_15 : decode cX7_told 15 = .ok (.ldiv, 1) := by decide +kernel
theorem dX7_told_16 : decode cX7_told 16 = .ok (.goto 7, 3) := by decide +kernel
theorem dX7_told_19 : decode cX7_told 19 = .ok (.lload_n 2, 1) := by decide +kernel
theorem dX7_told_20 : decode cX7_told 20 = .ok (.lload 5, 2) := by decide +kernel
theorem dX7_told_22 : decode cX7_told 22 = .ok (.ldiv, 1) := by decide +kernel
theorem dX7_told_23 : decode cX7_told 23 = .ok (.lreturn, 1) := by decide +kernel
theorem dX7_findOdds_0 : decode cX7_findOdds 0 = .ok (.aload_n 0, 1) := by decide +kernel
theorem dX7_findOdds_1 : decode cX7_findOdds 1 = .ok (.lconst 0, 1) := by decide +kernel
theorem dX7_findOdds_2 : decode cX7_findOdds 2 = .ok (.putfield 257, 3) := by decide +kernel
theorem dX7_findOdds_5 : decode cX7_findOdds 5 = .ok (.aload_n 0, 1) := by decide +kernel
theorem dX7_findOdds_6 : decode cX7_findOdds 6 = .ok (.lconst 0, 1) := by decide +kernel
theorem dX7_findOdds_7 : decode cX7_findOdds 7 = .ok (.putfield 261, 3) := by decide +kernel
theorem dX7_findOdds_10 : decode cX7_findOdds 10 = .ok (.aload_n 0, 1) := by decide +kernel
theorem dX7_findOdds_11 : decode cX7_findOdds 11 = .ok (.lconst 1, 1) := by decide +kernel
theorem dX7_findOdds_12 : decode cX7_findOdds 12 = .ok (.putfield 264, 3) := by decide +kernel
theorem dX7_findOdds_15 : decode cX7_findOdds 15 = .ok (.iconst 0, 1) := by decide +kernel
theorem dX7_findOdds_16 : decode cX7_findOdds 16 = .ok (.istore 4, 2) := by decide +kernel
theorem dX7_findOdds_18 : decode cX7_findOdds 18 = .ok (.iload 4, 2) := by decide +kernel
theorem dX7_findOdds_20 : decode cX7_findOdds 20 = .ok (.iload_n 2, 1) := by decide +kernel
theorem dX7_findOdds_21 : decode cX7_findOdds 21 = .ok (.if_icmp .ge 21, 3) := by decide +kernel
theorem dX7_findOdds_24 : decode cX7_findOdds 24 = .ok (.aload_n 0, 1) := by decide +kernel
theorem dX7_findOdds_25 : decode cX7_findOdds 25 = .ok (.dup, 1) := by decide +kernel
theorem dX7_findOdds_26 : decode cX7_findOdds 26 = .ok (.getfield 264, 3) := by decide +kernel
theorem dX7_findOdds_29 : decode cX7_findOdds 29 = .ok (.ldc2_w 240, 3) := by decide +kernel
theorem dX7_findOdds_32 : decode cX7_findOdds 32 = .ok (.lmul, 1) := by decide +kernel
theorem dX7_findOdds_33 : decode cX7_findOdds 33 = .ok (.putfield 264, 3) := by decide +kernel
theorem dX7_findOdds_36 : decode cX7_findOdds 36 = .ok (.iinc 4 1, 3) := by decide +kernel
theorem dX7_findOdds_39 : decode cX7_findOdds 39 = .ok (.goto (-21), 3) := by decide +kernel
theorem dX7_findOdds_42 : decode cX7_findOdds 42 = .ok (.iconst 0, 1) := by decide +kernel
theorem dX7_findOdds_43 : decode cX7_findOdds 43 = .ok (.istore 4, 2) := by decide +kernel
theorem dX7_findOdds_45 : decode cX7_findOdds 45 = .ok (.iload 4, 2) := by decide +kernel
theorem dX7_findOdds_47 : decode cX7_findOdds 47 = .ok (.iconst 1, 1) := by decide +kernel
theorem dX7_findOdds_48 : decode cX7_findOdds 48 = .ok (.iload_n 2, 1) := by decide +kernel
theorem dX7_findOdds_49 : decode cX7_findOdds 49 = .ok (.ishl, 1) := by decide +kernel
theorem dX7_findOdds_50 : decode cX7_findOdds 50 = .ok (.if_icmp .ge 134, 3) := by decide +kernel
theorem dX7_findOdds_53 : decode cX7_findOdds 53 = .ok (.lconst 1, 1) := by decide +kernel
theorem dX7_findOdds_54 : decode cX7_findOdds 54 = .ok (.lstore 5, 2) := by decide +kernel
theorem dX7_findOdds_56 : decode cX7_findOdds 56 = .ok (.aload_n 0, 1) := by decide +kernel
theorem dX7_findOdds_57 : decode cX7_findOdds 57 = .ok (.invokevirtual 182, 3) := by decide +kernel
theorem dX7_findOdds_60 : decode cX7_findOdds 60 = .ok (.iconst 0, 1) := by decide +kernel
theorem dX7_findOdds_61 : decode cX7_findOdds 61 = .ok (.istore 7, 2) := by decide +kernel
theorem dX7_findOdds_63 : decode cX7_findOdds 63 = .ok (.iload 7, 2) := by decide +kernel
theorem dX7_findOdds_65 : decode cX7_findOdds 65 = .ok (.iload_n 2, 1) := by decide +kernel
theorem dX7_findOdds_66 : decode cX7_findOdds 66 = .ok (.if_icmp .ge 70, 3) := by decide +kernel
theorem dX7_findOdds_69 : decode cX7_findOdds 69 = .ok (.iload 4, 2) := by decide +kernel
theorem dX7_findOdds_71 : decode cX7_findOdds 71 = .ok (.iload 7, 2) := by decide +kernel
theorem dX7_findOdds_73 : decode cX7_findOdds 73 = .ok (.ishr, 1) := by decide +kernel
theorem dX7_findOdds_74 : decode cX7_findOdds 74 = .ok (.iconst 1, 1) := by decide +kernel
theorem dX7_findOdds_75 : decode cX7_findOdds 75 = .ok (.iand, 1) := by decide +kernel
theorem dX7_findOdds_76 : decode cX7_findOdds 76 = .ok (.iconst 1, 1) := by decide +kernel
theorem dX7_findOdds_77 : decode cX7_findOdds 77 = .ok (.if_icmp .ne 7, 3) := by decide +kernel
theorem dX7_findOdds_80 : decode cX7_findOdds 80 = .ok (.iconst 1, 1) := by decide +kernel
theorem dX7_findOdds_81 : decode cX7_findOdds 81 = .ok (.goto 4, 3) := by decide +kernel
theorem dX7_findOdds_84 : decode cX7_findOdds 84 = .ok (.iconst 0, 1) := by decide +kernel
theorem dX7_findOdds_85 : decode cX7_findOdds 85 = .ok (.istore 8, 2) := by decide +kernel
theorem dX7_findOdds_87 : decode cX7_findOdds 87 = .ok (.lload 5, 2) := by decide +kernel
theorem dX7_findOdds_89 : decode cX7_findOdds 89 = .ok (.iload 8, 2) := by decide +kernel
theorem dX7_findOdds_91 : decode cX7_findOdds 91 = .ok (.ifCond .eq 8, 3) := by decide +kernel
theorem dX7_findOdds_94 : decode cX7_findOdds 94 = .ok (.iload_n 1, 1) := by decide +kernel
theorem dX7_findOdds_95 : decode cX7_findOdds 95 = .ok (.i2l, 1) := by decide +kernel
theorem dX7_findOdds_96 : decode cX7_findOdds 96 = .ok (.goto 8, 3) := by decide +kernel
theorem dX7_findOdds_99 : decode cX7_findOdds 99 = .ok (.bipush 10, 2) := by decide +kernel
theorem dX7_findOdds_101 : decode cX7_findOdds 101 = .ok (.iload_n 1, 1) := by decide +kernel
theorem dX7_findOdds_102 : decode cX7_findOdds 102 = .ok (.isub, 1) := by decide +kernel
theorem dX7_findOdds_103 : decode cX7_findOdds 103 = .ok (.i2l, 1) := by decide +kernel
theorem dX7_findOdds_104 : decode cX7_findOdds 104 = .ok (.lmul, 1) := by decide +kernel
theorem dX7_findOdds_105 : decode cX7_findOdds 105 = .ok (.lstore 5, 2) := by decide +kernel
theorem dX7_findOdds_107 : decode cX7_findOdds 107 = .ok (.iload 8, 2) := by decide +kernel
theorem dX7_findOdds_109 : decode cX7_findOdds 109 = .ok (.ifCond .eq 17, 3) := by decide +kernel
theorem dX7_findOdds_112 : decode cX7_findOdds 112 = .ok (.aload_n 0, 1) := by decide +kernel
theorem dX7_findOdds_113 : decode cX7_findOdds 113 = .ok (.getfield 13, 3) := by decide +kernel
theorem dX7_findOdds_116 : decode cX7_findOdds 116 = .ok (.bipush 26, 2) := by decide +kernel
theorem dX7_findOdds_118 : decode cX7_findOdds 118 = .ok (.dup2, 1) := by decide +kernel
theorem dX7_findOdds_119 : decode cX7_findOdds 119 = .ok (.iaload, 1) := by decide +kernel
theorem dX7_findOdds_120 : decode cX7_findOdds 120 = .ok (.iconst 1, 1) := by decide +kernel
theorem dX7_findOdds_121 : decode cX7_findOdds 121 = .ok (.iadd, 1) := by decide +kernel
theorem dX7_findOdds_122 : decode cX7_findOdds 122 = .ok (.iastore, 1) := by decide +kernel
theorem dX7_findOdds_123 : decode cX7_findOdds 123 = .ok (.goto 7, 3) := by decide +kernel
theorem dX7_findOdds_126 : decode cX7_findOdds 126 = .ok (.aload_n 0, 1) := by decide +kernel
theorem dX7_findOdds_127 : decode cX7_findOdds 127 = .ok (.invokevirtual 179, 3) := by decide +kernel
theorem dX7_findOdds_130 : decode cX7_findOdds 130 = .ok (.iinc 7 1, 3) := by decide +kernel
theorem dX7_findOdds_133 : decode cX7_findOdds 133 = .ok (.goto (-70), 3) := by decide +kernel
theorem dX7_findOdds_136 : decode cX7_findOdds 136 = .ok (.aload_n 0, 1) := by decide +kernel
theorem dX7_findOdds_137 : decode cX7_findOdds 137 = .ok (.invokevirtual 185, 3) := by decide +kernel
theorem dX7_findOdds_140 : decode cX7_findOdds 140 = .ok (.istore 7, 2) := by decide +kernel
theorem dX7_findOdds_142 : decode cX7_findOdds 142 = .ok (.aload_n 0, 1) := by decide +kernel
theorem dX7_findOdds_143 : decode cX7_findOdds 143 = .ok (.dup, 1) := by decide +kernel
theorem dX7_findOdds_144 : decode cX7_findOdds 144 = .ok (.getfield 257, 3) := by decide +kernel
theorem dX7_findOdds_147 : decode cX7_findOdds 147 = .ok (.iload 7, 2) := by decide +kernel
theorem dX7_findOdds_149 : decode cX7_findOdds 149 = .ok (.iload_n 3, 1) := by decide +kernel
theorem dX7_findOdds_150 : decode cX7_findOdds 150 = .ok (.if_icmp .gt 8, 3) := by decide +kernel
theorem dX7_findOdds_153 : decode cX7_findOdds 153 = .ok (.lload 5, 2) := by decide +kernel
theorem dX7_findOdds_155 : decode cX7_findOdds 155 = .ok (.goto 4, 3) := by decide +kernel
theorem dX7_findOdds_158 : decode cX7_findOdds 158 = .ok (.lconst 0, 1) := by decide +kernel
theorem dX7_findOdds_159 : decode cX7_findOdds 159 = .ok (.ladd, 1) := by decide +kernel
theorem dX7_findOdds_160 : decode cX7_findOdds 160 = .ok (.putfield 257, 3) := by decide +kernel
theorem dX7_findOdds_163 : decode cX7_findOdds 163 = .ok (.aload_n 0, 1) := by decide +kernel
theorem dX7_findOdds_164 : decode cX7_findOdds 164 = .ok (.dup, 1) := by decide +kernel
theorem dX7_findOdds_165 : decode cX7_findOdds 165 = .ok (.getfield 261, 3) := by decide +kernel
theorem dX7_findOdds_168 : decode cX7_findOdds 168 = .ok (.lload 5, 2) := by decide +kernel
theorem dX7_findOdds_170 : decode cX7_findOdds 170 = .ok (.iload 7, 2) := by decide +kernel
theorem dX7_findOdds_172 : decode cX7_findOdds 172 = .ok (.i2l, 1) := by decide +kernel
theorem dX7_findOdds_173 : decode cX7_findOdds 173 = .ok (.lmul, 1) := by decide +kernel
theorem dX7_findOdds_174 : decode cX7_findOdds 174 = .ok (.ladd, 1) := by decide +kernel
theorem dX7_findOdds_175 : decode cX7_findOdds 175 = .ok (.putfield 261, 3) := by decide +kernel
theorem dX7_findOdds_178 : decode cX7_findOdds 178 = .ok (.iinc 4 1, 3) := by decide +kernel
theorem dX7_findOdds_181 : decode cX7_findOdds 181 = .ok (.goto (-136), 3) := by decide +kernel
theorem dX7_findOdds_184 : decode cX7_findOdds 184 = .ok (.return_, 1) := by decide +kernel
theorem dX7_luck_0 : decode cX7_luck 0 = .ok (.iload_n 1, 1) := by decide +kernel
theorem dX7_luck_1 : decode cX7_luck 1 = .ok (.i2l, 1) := by decide +kernel
theorem dX7_luck_2 : decode cX7_luck 2 = .ok (.lconst 0, 1) := by decide +kernel
theorem dX7_luck_3 : decode cX7_luck 3 = .ok (.ldc2_w 240, 3) := by decide +kernel
theorem dX7_luck_6 : decode cX7_luck 6 = .ok (.invokestatic 75, 3) := by decide +kernel
theorem dX7_luck_9 : decode cX7_luck 9 = .ok (.ifCond .eq 35, 3) := by decide +kernel
theorem dX7_luck_12 : decode cX7_luck 12 = .ok (.iload_n 2, 1) := by decide +kernel
theorem dX7_luck_13 : decode cX7_luck 13 = .ok (.i2l, 1) := by decide +kernel
theorem dX7_luck_14 : decode cX7_luck 14 = .ok (.lconst 0, 1) := by decide +kernel
theorem dX7_luck_15 : decode cX7_luck 15 = .ok (.ldc2_w 267, 3) := by decide +kernel
theorem dX7_luck_18 : decode cX7_luck 18 = .ok (.invokestatic 75, 3) := by decide +kernel
theorem dX7_luck_21 : decode cX7_luck 21 = .ok (.ifCond .eq 23, 3) := by decide +kernel
theorem dX7_luck_24 : decode cX7_luck 24 = .ok (.iload_n 3, 1) := by decide +kernel
theorem dX7_luck_25 : decode cX7_luck 25 = .ok (.i2l, 1) := by decide +kernel
theorem dX7_luck_26 : decode cX7_luck 26 = .ok (.lconst 0, 1) := by decide +kernel
theorem dX7_luck_27 : decode cX7_luck 27 = .ok (.ldc2_w 218, 3) := by decide +kernel
theorem dX7_luck_30 : decode cX7_luck 30 = .ok (.invokestatic 75, 3) := by decide +kernel
theorem dX7_luck_33 : decode cX7_luck 33 = .ok (.ifCond .eq 11, 3) := by decide +kernel
theorem dX7_luck_36 : decode cX7_luck 36 = .ok (.iload 4, 2) := by decide +kernel
theorem dX7_luck_38 : decode cX7_luck 38 = .ok (.invokestatic 247, 3) := by decide +kernel
theorem dX7_luck_41 : decode cX7_luck 41 = .ok (.ifCond .ne 7, 3) := by decide +kernel
theorem dX7_luck_44 : decode cX7_luck 44 = .ok (.ldc2_w 269, 3) := by decide +kernel
theorem dX7_luck_47 : decode cX7_luck 47 = .ok (.lreturn, 1) := by decide +kernel
theorem dX7_luck_48 : decode cX7_luck 48 = .ok (.aload_n 0, 1) := by decide +kernel
theorem dX7_luck_49 : decode cX7_luck 49 = .ok (.iload_n 1, 1) := by decide +kernel
theorem dX7_luck_50 : decode cX7_luck 50 = .ok (.iload_n 2, 1) := by decide +kernel
theorem dX7_luck_51 : decode cX7_luck 51 = .ok (.iload_n 3, 1) := by decide +kernel
theorem dX7_luck_52 : decode cX7_luck 52 = .ok (.invokevirtual 271, 3) := by decide +kernel
theorem dX7_luck_55 : decode cX7_luck 55 = .ok (.aload_n 0, 1) := by decide +kernel
theorem dX7_luck_56 : decode cX7_luck 56 = .ok (.getfield 257, 3) := by decide +kernel
theorem dX7_luck_59 : decode cX7_luck 59 = .ok (.aload_n 0, 1) := by decide +kernel
theorem dX7_luck_60 : decode cX7_luck 60 = .ok (.getfield 264, 3) := by decide +kernel
theorem dX7_luck_63 : decode cX7_luck 63 = .ok (.iload 4, 2) := by decide +kernel
theorem dX7_luck_65 : decode cX7_luck 65 = .ok (.invokestatic 274, 3) := by decide +kernel
theorem dX7_luck_68 : decode cX7_luck 68 = .ok (.lreturn, 1) := by decide +kernel
theorem dX7_mean_0 : decode cX7_mean 0 = .ok (.iload_n 1, 1) := by decide +kernel
theorem dX7_mean_1 : decode cX7_mean 1 = .ok (.i2l, 1) := by decide +kernel
theorem dX7_mean_2 : decode cX7_mean 2 = .ok (.lconst 0, 1) := by decide +kernel
theorem dX7_mean_3 : decode cX7_mean 3 = .ok (.ldc2_w 240, 3) := by decide +kernel
theorem dX7_mean_6 : decode cX7_mean 6 = .ok (.invokestatic 75, 3) := by decide +kernel
theorem dX7_mean_9 : decode cX7_mean 9 = .ok (.ifCond .eq 22, 3) := by decide +kernel
theorem dX7_mean_12 : decode cX7_mean 12 = .ok (.iload_n 2, 1) := by decide +kernel
theorem dX7_mean_13 : decode cX7_mean 13 = .ok (.i2l, 1) := by decide +kernel
theorem dX7_mean_14 : decode cX7_mean 14 = .ok (.lconst 0, 1) := by decide +kernel
theorem dX7_mean_15 : decode cX7_mean 15 = .ok (.ldc2_w 267, 3) := by decide +kernel
theorem dX7_mean_18 : decode cX7_mean 18 = .ok (.invokestatic 75, 3) := by decide +kernel
theorem dX7_mean_21 : decode cX7_mean 21 = .ok (.ifCond .eq 10, 3) := by decide +kernel
theorem dX7_mean_24 : decode cX7_mean 24 = .ok (.iload_n 3, 1) := by decide +kernel
theorem dX7_mean_25 : decode cX7_mean 25 = .ok (.invokestatic 247, 3) := by decide +kernel
theorem dX7_mean_28 : decode cX7_mean 28 = .ok (.ifCond .ne 7, 3) := by decide +kernel
theorem dX7_mean_31 : decode cX7_mean 31 = .ok (.ldc2_w 269, 3) := by decide +kernel
theorem dX7_mean_34 : decode cX7_mean 34 = .ok (.lreturn, 1) := by decide +kernel
theorem dX7_mean_35 : decode cX7_mean 35 = .ok (.aload_n 0, 1) := by decide +kernel
theorem dX7_mean_36 : decode cX7_mean 36 = .ok (.iload_n 1, 1) := by decide +kernel
theorem dX7_mean_37 : decode cX7_mean 37 = .ok (.iload_n 2, 1) := by decide +kernel
theorem dX7_mean_38 : decode cX7_mean 38 = .ok (.iconst 0, 1) := by decide +kernel
theorem dX7_mean_39 : decode cX7_mean 39 = .ok (.invokevirtual 271, 3) := by decide +kernel
theorem dX7_mean_42 : decode cX7_mean 42 = .ok (.aload_n 0, 1) := by decide +kernel
theorem dX7_mean_43 : decode cX7_mean 43 = .ok (.getfield 261, 3) := by decide +kernel
theorem dX7_mean_46 : decode cX7_mean 46 = .ok (.aload_n 0, 1) := by decide +kernel
theorem dX7_mean_47 : decode cX7_mean 47 = .ok (.getfield 264, 3) := by decide +kernel
theorem dX7_mean_50 : decode cX7_mean 50 = .ok (.iload_n 3, 1) := by decide +kernel
theorem dX7_mean_51 : decode cX7_mean 51 = .ok (.invokestatic 274, 3) := by decide +kernel
theorem dX7_mean_54 : decode cX7_mean 54 = .ok (.lreturn, 1) := by decide +kernel
theorem dX7_see_0 : decode cX7_see 0 = .ok (.iload_n 1, 1) := by decide +kernel
theorem dX7_see_1 : decode cX7_see 1 = .ok (.i2l, 1) := by decide +kernel
theorem dX7_see_2 : decode cX7_see 2 = .ok (.lconst 0, 1) := by decide +kernel
theorem dX7_see_3 : decode cX7_see 3 = .ok (.ldc2_w 278, 3) := by decide +kernel
theorem dX7_see_6 : decode cX7_see 6 = .ok (.invokestatic 75, 3) := by decide +kernel
theorem dX7_see_9 : decode cX7_see 9 = .ok (.ifCond .eq 23, 3) := by decide +kernel
theorem dX7_see_12 : decode cX7_see 12 = .ok (.aload_n 0, 1) := by decide +kernel
theorem dX7_see_13 : decode cX7_see 13 = .ok (.iload_n 2, 1) := by decide +kernel
theorem dX7_see_14 : decode cX7_see 14 = .ok (.invokevirtual 188, 3) := by decide +kernel
theorem dX7_see_17 : decode cX7_see 17 = .ok (.ifCond .eq 15, 3) := by decide +kernel
theorem dX7_see_20 : decode cX7_see 20 = .ok (.iload_n 3, 1) := by decide +kernel
theorem dX7_see_21 : decode cX7_see 21 = .ok (.i2l, 1) := by decide +kernel
theorem dX7_see_22 : decode cX7_see 22 = .ok (.lconst 0, 1) := by decide +kernel
theorem dX7_see_23 : decode cX7_see 23 = .ok (.ldc2_w 198, 3) := by decide +kernel
theorem dX7_see_26 : decode cX7_see 26 = .ok (.invokestatic 75, 3) := by decide +kernel
theorem dX7_see_29 : decode cX7_see 29 = .ok (.ifCond .ne 5, 3) := by decide +kernel
theorem dX7_see_32 : decode cX7_see 32 = .ok (.iconst (-1), 1) := by decide +kernel
theorem dX7_see_33 : decode cX7_see 33 = .ok (.ireturn, 1) := by decide +kernel
theorem dX7_see_34 : decode cX7_see 34 = .ok (.aload_n 0, 1) := by decide +kernel
theorem dX7_see_35 : decode cX7_see 35 = .ok (.getfield 7, 3) := by decide +kernel
theorem dX7_see_38 : decode cX7_see 38 = .ok (.bipush 27, 2) := by decide +kernel
theorem dX7_see_40 : decode cX7_see 40 = .ok (.iaload, 1) := by decide +kernel
theorem dX7_see_41 : decode cX7_see 41 = .ok (.bipush 6, 2) := by decide +kernel
theorem dX7_see_43 : decode cX7_see 43 = .ok (.if_icmp .ne 6, 3) := by decide +kernel
theorem dX7_see_46 : decode cX7_see 46 = .ok (.bipush (-3), 2) := by decide +kernel
theorem dX7_see_48 : decode cX7_see 48 = .ok (.ireturn, 1) := by decide +kernel
theorem dX7_see_49 : decode cX7_see 49 = .ok (.bipush 28, 2) := by decide +kernel
theorem dX7_see_51 : decode cX7_see 51 = .ok (.iconst 3, 1) := by decide +kernel
theorem dX7_see_52 : decode cX7_see 52 = .ok (.aload_n 0, 1) := by decide +kernel
theorem dX7_see_53 : decode cX7_see 53 = .ok (.getfield 7, 3) := by decide +kernel
theorem dX7_see_56 : decode cX7_see 56 = .ok (.bipush 27, 2) := by decide +kernel
theorem dX7_see_58 : decode cX7_see 58 = .ok (.iaload, 1) := by decide +kernel
theorem dX7_see_59 : decode cX7_see 59 = .ok (.imul, 1) := by decide +kernel
theorem dX7_see_60 : decode cX7_see 60 = .ok (.iadd, 1) := by decide +kernel
theorem dX7_see_61 : decode cX7_see 61 = .ok (.istore 4, 2) := by decide +kernel
theorem dX7_see_63 : decode cX7_see 63 = .ok (.aload_n 0, 1) := by decide +kernel
theorem dX7_see_64 : decode cX7_see 64 = .ok (.getfield 7, 3) := by decide +kernel
theorem dX7_see_67 : decode cX7_see 67 = .ok (.iload 4, 2) := by decide +kernel
theorem dX7_see_69 : decode cX7_see 69 = .ok (.iload_n 1, 1) := by decide +kernel
theorem dX7_see_70 : decode cX7_see 70 = .ok (.iastore, 1) := by decide +kernel
theorem dX7_see_71 : decode cX7_see 71 = .ok (.aload_n 0, 1) := by decide +kernel
theorem dX7_see_72 : decode cX7_see 72 = .ok (.getfield 7, 3) := by decide +kernel
theorem dX7_see_75 : decode cX7_see 75 = .ok (.iload 4, 2) := by decide +kernel
theorem dX7_see_77 : decode cX7_see 77 = .ok (.iconst 1, 1) := by decide +kernel
theorem dX7_see_78 : decode cX7_see 78 = .ok (.iadd, 1) := by decide +kernel
theorem dX7_see_79 : decode cX7_see 79 = .ok (.iload_n 2, 1) := by decide +kernel
theorem dX7_see_80 : decode cX7_see 80 = .ok (.iastore, 1) := by decide +kernel
theorem dX7_see_81 : decode cX7_see 81 = .ok (.aload_n 0, 1) := by decide +kernel
theorem dX7_see_82 : decode cX7_see 82 = .ok (.getfield 7, 3) := by decide +kernel
theorem dX7_see_85 : decode cX7_see 85 = .ok (.iload 4, 2) := by decide +kernel
theorem dX7_see_87 : decode cX7_see 87 = .ok (.iconst 2, 1) := by decide +kernel
theorem dX7_see_88 : decode cX7_see 88 = .ok (.iadd, 1) := by decide +kernel
theorem dX7_see_89 : decode cX7_see 89 = .ok (.iload_n 3, 1) := by decide +kernel
theorem dX7_see_90 : decode cX7_see 90 = .ok (.iastore, 1) := by decide +kernel
theorem dX7_see_91 : decode cX7_see 91 = .ok (.aload_n 0, 1) := by decide +kernel
theorem dX7_see_92 : decode cX7_see 92 = .ok (.getfield 7, 3) := by decide +kernel
theorem dX7_see_95 : decode cX7_see 95 = .ok (.bipush 27, 2) := by decide +kernel
theorem dX7_see_97 : decode cX7_see 97 = .ok (.dup2, 1) := by decide +kernel
theorem dX7_see_98 : decode cX7_see 98 = .ok (.iaload, 1) := by decide +kernel
theorem dX7_see_99 : decode cX7_see 99 = .ok (.iconst 1, 1) := by decide +kernel
theorem dX7_see_100 : decode cX7_see 100 = .ok (.iadd, 1) := by decide +kernel
theorem dX7_see_101 : decode cX7_see 101 = .ok (.iastore, 1) := by decide +kernel
theorem dX7_see_102 : decode cX7_see 102 = .ok (.aload_n 0, 1) := by decide +kernel
theorem dX7_see_103 : decode cX7_see 103 = .ok (.getfield 7, 3) := by decide +kernel
theorem dX7_see_106 : decode cX7_see 106 = .ok (.bipush 27, 2) := by decide +kernel
theorem dX7_see_108 : decode cX7_see 108 = .ok (.iaload, 1) := by decide +kernel
theorem dX7_see_109 : decode cX7_see 109 = .ok (.ireturn, 1) := by decide +kernel
theorem dX7_forget_0 : decode cX7_forget 0 = .ok (.iload_n 1, 1) := by decide +kernel
theorem dX7_forget_1 : decode cX7_forget 1 = .ok (.i2l, 1) := by decide +kernel
theorem dX7_forget_2 : decode cX7_forget 2 = .ok (.lconst 0, 1) := by decide +kernel
theorem dX7_forget_3 : decode cX7_forget 3 = .ok (.aload_n 0, 1) := by decide +kernel
theorem dX7_forget_4 : decode cX7_forget 4 = .ok (.getfield 7, 3) := by decide +kernel
theorem dX7_forget_7 : decode cX7_forget 7 = .ok (.bipush 27, 2) := by decide +kernel
theorem dX7_forget_9 : decode cX7_forget 9 = .ok (.iaload, 1) := by decide +kernel
theorem dX7_forget_10 : decode cX7_forget 10 = .ok (.i2l, 1) := by decide +kernel
theorem dX7_forget_11 : decode cX7_forget 11 = .ok (.invokestatic 75, 3) := by decide +kernel
theorem dX7_forget_14 : decode cX7_forget 14 = .ok (.ifCond .eq 13, 3) := by decide +kernel
theorem dX7_forget_17 : decode cX7_forget 17 = .ok (.aload_n 0, 1) := by decide +kernel
theorem dX7_forget_18 : decode cX7_forget 18 = .ok (.bipush 27, 2) := by decide +kernel
theorem dX7_forget_20 : decode cX7_forget 20 = .ok (.iload_n 1, 1) := by decide +kernel
theorem dX7_forget_21 : decode cX7_forget 21 = .ok (.invokevirtual 200, 3) := by decide +kernel
theorem dX7_forget_24 : decode cX7_forget 24 = .ok (.goto 4, 3) := by decide +kernel
theorem dX7_forget_27 : decode cX7_forget 27 = .ok (.iconst (-1), 1) := by decide +kernel
theorem dX7_forget_28 : decode cX7_forget 28 = .ok (.ireturn, 1) := by decide +kernel
theorem dX7_isSoWith_0 : decode cX7_isSoWith 0 = .ok (.aload_n 0, 1) := by decide +kernel
theorem dX7_isSoWith_1 : decode cX7_isSoWith 1 = .ok (.invokevirtual 182, 3) := by decide +kernel
theorem dX7_isSoWith_4 : decode cX7_isSoWith 4 = .ok (.aload_n 0, 1) := by decide +kernel
theorem dX7_isSoWith_5 : decode cX7_isSoWith 5 = .ok (.getfield 13, 3) := by decide +kernel
theorem dX7_isSoWith_8 : decode cX7_isSoWith 8 = .ok (.iload_n 1, 1) := by decide +kernel
theorem dX7_isSoWith_9 : decode cX7_isSoWith 9 = .ok (.iload_n 2, 1) := by decide +kernel
theorem dX7_isSoWith_10 : decode cX7_isSoWith 10 = .ok (.iastore, 1) := by decide +kernel
theorem dX7_isSoWith_11 : decode cX7_isSoWith 11 = .ok (.iconst 0, 1) := by decide +kernel
theorem dX7_isSoWith_12 : decode cX7_isSoWith 12 = .ok (.istore_n 3, 1) := by decide +kernel
theorem dX7_isSoWith_13 : decode cX7_isSoWith 13 = .ok (.iload_n 3, 1) := by decide +kernel
theorem dX7_isSoWith_14 : decode cX7_isSoWith 14 = .ok (.bipush 24, 2) := by decide +kernel
theorem dX7_isSoWith_16 : decode cX7_isSoWith 16 = .ok (.if_icmp .gt 49, 3) := by decide +kernel
theorem dX7_isSoWith_19 : decode cX7_isSoWith 19 = .ok (.iconst 0, 1) := by decide +kernel
theorem dX7_isSoWith_20 : decode cX7_isSoWith 20 = .ok (.istore 4, 2) := by decide +kernel
theorem dX7_isSoWith_22 : decode cX7_isSoWith 22 = .ok (.iload 4, 2) := by decide +kernel
theorem dX7_isSoWith_24 : decode cX7_isSoWith 24 = .ok (.aload_n 0, 1) := by decide +kernel
theorem dX7_isSoWith_25 : decode cX7_isSoWith 25 = .ok (.getfield 70, 3) := by decide +kernel
theorem dX7_isSoWith_28 : decode cX7_isSoWith 28 = .ok (.if_icmp .ge 27, 3) := by decide +kernel
theorem dX7_isSoWith_31 : decode cX7_isSoWith 31 = .ok (.aload_n 0, 1) := by decide +kernel
theorem dX7_isSoWith_32 : decode cX7_isSoWith 32 = .ok (.getfield 32, 3) := by decide +kernel
theorem dX7_isSoWith_35 : decode cX7_isSoWith 35 = .ok (.iconst 5, 1) := by decide +kernel
theorem dX7_isSoWith_36 : decode cX7_isSoWith 36 = .ok (.iload_n 3, 1) := by decide +kernel
theorem dX7_isSoWith_37 : decode cX7_isSoWith 37 = .ok (.imul, 1) := by decide +kernel
theorem dX7_isSoWith_38 : decode cX7_isSoWith 38 = .ok (.iload 4, 2) := by decide +kernel
theorem dX7_isSoWith_40 : decode cX7_isSoWith 40 = .ok (.iadd, 1) := by decide +kernel
theorem dX7_isSoWith_41 : decode cX7_isSoWith 41 = .ok (.aload_n 0, 1) := by decide +kernel
theorem dX7_isSoWith_42 : decode cX7_isSoWith 42 = .ok (.iload 4, 2) := by decide +kernel
theorem dX7_isSoWith_44 : decode cX7_isSoWith 44 = .ok (.iconst 1, 1) := by decide +kernel
theorem dX7_isSoWith_45 : decode cX7_isSoWith 45 = .ok (.invokevirtual 157, 3) := by decide +kernel
theorem dX7_isSoWith_48 : decode cX7_isSoWith 48 = .ok (.iastore, 1) := by decide +kernel
theorem dX7_isSoWith_49 : decode cX7_isSoWith 49 = .ok (.iinc 4 1, 3) := by decide +kernel
theorem dX7_isSoWith_52 : decode cX7_isSoWith 52 = .ok (.goto (-30), 3) := by decide +kernel
theorem dX7_isSoWith_55 : decode cX7_isSoWith 55 = .ok (.aload_n 0, 1) := by decide +kernel
theorem dX7_isSoWith_56 : decode cX7_isSoWith 56 = .ok (.invokevirtual 179, 3) := by decide +kernel
theorem dX7_isSoWith_59 : decode cX7_isSoWith 59 = .ok (.iinc 3 1, 3) := by decide +kernel
theorem dX7_isSoWith_62 : decode cX7_isSoWith 62 = .ok (.goto (-49), 3) := by decide +kernel
theorem dX7_isSoWith_65 : decode cX7_isSoWith 65 = .ok (.iconst 1, 1) := by decide +kernel
theorem dX7_isSoWith_66 : decode cX7_isSoWith 66 = .ok (.istore_n 3, 1) := by decide +kernel
theorem dX7_isSoWith_67 : decode cX7_isSoWith 67 = .ok (.iconst 0, 1) := by decide +kernel
theorem dX7_isSoWith_68 : decode cX7_isSoWith 68 = .ok (.istore 4, 2) := by decide +kernel
theorem dX7_isSoWith_70 : decode cX7_isSoWith 70 = .ok (.iload 4, 2) := by decide +kernel
theorem dX7_isSoWith_72 : decode cX7_isSoWith 72 = .ok (.aload_n 0, 1) := by decide +kernel
theorem dX7_isSoWith_73 : decode cX7_isSoWith 73 = .ok (.getfield 7, 3) := by decide +kernel
theorem dX7_isSoWith_76 : decode cX7_isSoWith 76 = .ok (.bipush 27, 2) := by decide +kernel
theorem dX7_isSoWith_78 : decode cX7_isSoWith 78 = .ok (.iaload, 1) := by decide +kernel
theorem dX7_isSoWith_79 : decode cX7_isSoWith 79 = .ok (.if_icmp .ge 64, 3) := by decide +kernel
theorem dX7_isSoWith_82 : decode cX7_isSoWith 82 = .ok (.bipush 28, 2) := by decide +kernel
theorem dX7_isSoWith_84 : decode cX7_isSoWith 84 = .ok (.iconst 3, 1) := by decide +kernel
theorem dX7_isSoWith_85 : decode cX7_isSoWith 85 = .ok (.iload 4, 2) := by decide +kernel
theorem dX7_isSoWith_87 : decode cX7_isSoWith 87 = .ok (.imul, 1) := by decide +kernel
theorem dX7_isSoWith_88 : decode cX7_isSoWith 88 = .ok (.iadd, 1) := by decide +kernel
theorem dX7_isSoWith_89 : decode cX7_isSoWith 89 = .ok (.istore 5, 2) := by decide +kernel
theorem dX7_isSoWith_91 : decode cX7_isSoWith 91 = .ok (.iload_n 3, 1) := by decide +kernel
theorem dX7_isSoWith_92 : decode cX7_isSoWith 92 = .ok (.ifCond .eq 43, 3) := by decide +kernel
theorem dX7_isSoWith_95 : decode cX7_isSoWith 95 = .ok (.aload_n 0, 1) := by decide +kernel
theorem dX7_isSoWith_96 : decode cX7_isSoWith 96 = .ok (.getfield 32, 3) := by decide +kernel
theorem dX7_isSoWith_99 : decode cX7_isSoWith 99 = .ok (.iconst 5, 1) := by decide +kernel
theorem dX7_isSoWith_100 : decode cX7_isSoWith 100 = .ok (.aload_n 0, 1) := by decide +kernel
theorem dX7_isSoWith_101 : decode cX7_isSoWith 101 = .ok (.getfield 7, 3) := by decide +kernel
theorem dX7_isSoWith_104 : decode cX7_isSoWith 104 = .ok (.iload 5, 2) := by decide +kernel
theorem dX7_isSoWith_106 : decode cX7_isSoWith 106 = .ok (.iaload, 1) := by decide +kernel
theorem dX7_isSoWith_107 : decode cX7_isSoWith 107 = .ok (.imul, 1) := by decide +kernel
theorem dX7_isSoWith_108 : decode cX7_isSoWith 108 = .ok (.aload_n 0, 1) := by decide +kernel
theorem dX7_isSoWith_109 : decode cX7_isSoWith 109 = .ok (.getfield 7, 3) := by decide +kernel
theorem dX7_isSoWith_112 : decode cX7_isSoWith 112 = .ok (.iload 5, 2) := by decide +kernel
theorem dX7_isSoWith_114 : decode cX7_isSoWith 114 = .ok (.iconst 1, 1) := by decide +kernel
theorem dX7_isSoWith_115 : decode cX7_isSoWith 115 = .ok (.iadd, 1) := by decide +kernel
theorem dX7_isSoWith_116 : decode cX7_isSoWith 116 = .ok (.iaload, 1) := by decide +kernel
theorem dX7_isSoWith_117 : decode cX7_isSoWith 117 = .ok (.iadd, 1) := by decide +kernel
theorem dX7_isSoWith_118 : decode cX7_isSoWith 118 = .ok (.iaload, 1) := by decide +kernel
theorem dX7_isSoWith_119 : decode cX7_isSoWith 119 = .ok (.aload_n 0, 1) := by decide +kernel
theorem dX7_isSoWith_120 : decode cX7_isSoWith 120 = .ok (.getfield 7, 3) := by decide +kernel
theorem dX7_isSoWith_123 : decode cX7_isSoWith 123 = .ok (.iload 5, 2) := by decide +kernel
theorem dX7_isSoWith_125 : decode cX7_isSoWith 125 = .ok (.iconst 2, 1) := by decide +kernel
theorem dX7_isSoWith_126 : decode cX7_isSoWith 126 = .ok (.iadd, 1) := by decide +kernel
theorem dX7_isSoWith_127 : decode cX7_isSoWith 127 = .ok (.iaload, 1) := by decide +kernel
theorem dX7_isSoWith_128 : decode cX7_isSoWith 128 = .ok (.if_icmp .ne 7, 3) := by decide +kernel
theorem dX7_isSoWith_131 : decode cX7_isSoWith 131 = .ok (.iconst 1, 1) := by decide +kernel
theorem dX7_isSoWith_132 : decode cX7_isSoWith 132 = .ok (.goto 4, 3) := by decide +kernel
theorem dX7_isSoWith_135 : decode cX7_isSoWith 135 = .ok (.iconst 0, 1) := by decide +kernel
theorem dX7_isSoWith_136 : decode cX7_isSoWith 136 = .ok (.istore_n 3, 1) := by decide +kernel
theorem dX7_isSoWith_137 : decode cX7_isSoWith 137 = .ok (.iinc 4 1, 3) := by decide +kernel
theorem dX7_isSoWith_140 : decode cX7_isSoWith 140 = .ok (.goto (-70), 3) := by decide +kernel
theorem dX7_isSoWith_143 : decode cX7_isSoWith 143 = .ok (.iload_n 3, 1) := by decide +kernel
theorem dX7_isSoWith_144 : decode cX7_isSoWith 144 = .ok (.ireturn, 1) := by decide +kernel
theorem dX7_which_0 : decode cX7_which 0 = .ok (.iconst 0, 1) := by decide +kernel
theorem dX7_which_1 : decode cX7_which 1 = .ok (.istore_n 3, 1) := by decide +kernel
theorem dX7_which_2 : decode cX7_which 2 = .ok (.iconst 0, 1) := by decide +kernel
theorem dX7_which_3 : decode cX7_which 3 = .ok (.istore 4, 2) := by decide +kernel
theorem dX7_which_5 : decode cX7_which 5 = .ok (.iload 4, 2) := by decide +kernel
theorem dX7_which_7 : decode cX7_which 7 = .ok (.iload_n 2, 1) := by decide +kernel
theorem dX7_which_8 : decode cX7_which 8 = .ok (.if_icmp .gt 25, 3) := by decide +kernel
theorem dX7_which_11 : decode cX7_which 11 = .ok (.iload_n 3, 1) := by decide +kernel
theorem dX7_which_12 : decode cX7_which 12 = .ok (.aload_n 0, 1) := by decide +kernel
theorem dX7_which_13 : decode cX7_which 13 = .ok (.iload_n 1, 1) := by decide +kernel
theorem dX7_which_14 : decode cX7_which 14 = .ok (.iload 4, 2) := by decide +kernel
theorem dX7_which_16 : decode cX7_which 16 = .ok (.invokevirtual 280, 3) := by decide +kernel
theorem dX7_which_19 : decode cX7_which 19 = .ok (.invokestatic 192, 3) := by decide +kernel
theorem dX7_which_22 : decode cX7_which 22 = .ok (.iload 4, 2) := by decide +kernel
theorem dX7_which_24 : decode cX7_which 24 = .ok (.ishl, 1) := by decide +kernel
theorem dX7_which_25 : decode cX7_which 25 = .ok (.ior, 1) := by decide +kernel
theorem dX7_which_26 : decode cX7_which 26 = .ok (.istore_n 3, 1) := by decide +kernel
theorem dX7_which_27 : decode cX7_which 27 = .ok (.iinc 4 1, 3) := by decide +kernel
theorem dX7_which_30 : decode cX7_which 30 = .ok (.goto (-25), 3) := by decide +kernel
theorem dX7_which_33 : decode cX7_which 33 = .ok (.iload_n 3, 1) := by decide +kernel
theorem dX7_which_34 : decode cX7_which 34 = .ok (.ireturn, 1) := by decide +kernel
theorem dX7_kinds_0 : decode cX7_kinds 0 = .ok (.aload_n 0, 1) := by decide +kernel
theorem dX7_kinds_1 : decode cX7_kinds 1 = .ok (.iload_n 1, 1) := by decide +kernel
theorem dX7_kinds_2 : decode cX7_kinds 2 = .ok (.invokevirtual 188, 3) := by decide +kernel
theorem dX7_kinds_5 : decode cX7_kinds 5 = .ok (.ifCond .eq 16, 3) := by decide +kernel
theorem dX7_kinds_8 : decode cX7_kinds 8 = .ok (.aload_n 0, 1) := by decide +kernel
theorem dX7_kinds_9 : decode cX7_kinds 9 = .ok (.iconst 3, 1) := by decide +kernel
theorem dX7_kinds_10 : decode cX7_kinds 10 = .ok (.iload_n 1, 1) := by decide +kernel
theorem dX7_kinds_11 : decode cX7_kinds 11 = .ok (.imul, 1) := by decide +kernel
theorem dX7_kinds_12 : decode cX7_kinds 12 = .ok (.iconst 0, 1) := by decide +kernel
theorem dX7_kinds_13 : decode cX7_kinds 13 = .ok (.iadd, 1) := by decide +kernel
theorem dX7_kinds_14 : decode cX7_kinds 14 = .ok (.iconst 3, 1) := by decide +kernel
theorem dX7_kinds_15 : decode cX7_kinds 15 = .ok (.invokevirtual 283, 3) := by decide +kernel
theorem dX7_kinds_18 : decode cX7_kinds 18 = .ok (.goto 4, 3) := by decide +kernel
theorem dX7_kinds_21 : decode cX7_kinds 21 = .ok (.iconst (-1), 1) := by decide +kernel
theorem dX7_kinds_22 : decode cX7_kinds 22 = .ok (.ireturn, 1) := by decide +kernel
theorem dX7_griefs_0 : decode cX7_griefs 0 = .ok (.aload_n 0, 1) := by decide +kernel
theorem dX7_griefs_1 : decode cX7_griefs 1 = .ok (.iload_n 1, 1) := by decide +kernel
theorem dX7_griefs_2 : decode cX7_griefs 2 = .ok (.invokevirtual 188, 3) := by decide +kernel
theorem dX7_griefs_5 : decode cX7_griefs 5 = .ok (.ifCond .eq 17, 3) := by decide +kernel
theorem dX7_griefs_8 : decode cX7_griefs 8 = .ok (.aload_n 0, 1) := by decide +kernel
theorem dX7_griefs_9 : decode cX7_griefs 9 = .ok (.iconst 3, 1) := by decide +kernel
theorem dX7_griefs_10 : decode cX7_griefs 10 = .ok (.iload_n 1, 1) := by decide +kernel
theorem dX7_griefs_11 : decode cX7_griefs 11 = .ok (.imul, 1) := by decide +kernel
theorem dX7_griefs_12 : decode cX7_griefs 12 = .ok (.iconst 1, 1) := by decide +kernel
theorem dX7_griefs_13 : decode cX7_griefs 13 = .ok (.iadd, 1) := by decide +kernel
theorem dX7_griefs_14 : decode cX7_griefs 14 = .ok (.bipush 30, 2) := by decide +kernel
theorem dX7_griefs_16 : decode cX7_griefs 16 = .ok (.invokevirtual 283, 3) := by decide +kernel
theorem dX7_griefs_19 : decode cX7_griefs 19 = .ok (.goto 4, 3) := by decide +kernel
theorem dX7_griefs_22 : decode cX7_griefs 22 = .ok (.iconst (-1), 1) := by decide +kernel
theorem dX7_griefs_23 : decode cX7_griefs 23 = .ok (.ireturn, 1) := by decide +kernel
theorem dX7_ask_0 : decode cX7_ask 0 = .ok (.aload_n 0, 1) := by decide +kernel
theorem dX7_ask_1 : decode cX7_ask 1 = .ok (.iload_n 1, 1) := by decide +kernel
theorem dX7_ask_2 : decode cX7_ask 2 = .ok (.invokevirtual 188, 3) := by decide +kernel
theorem dX7_ask_5 : decode cX7_ask 5 = .ok (.ifCond .eq 10, 3) := by decide +kernel
theorem dX7_ask_8 : decode cX7_ask 8 = .ok (.iload_n 2, 1) := by decide +kernel
theorem dX7_ask_9 : decode cX7_ask 9 = .ok (.invokestatic 247, 3) := by decide +kernel
theorem dX7_ask_12 : decode cX7_ask 12 = .ok (.ifCond .ne 5, 3) := by decide +kernel
theorem dX7_ask_15 : decode cX7_ask 15 = .ok (.iconst (-1), 1) := by decide +kernel
theorem dX7_ask_16 : decode cX7_ask 16 = .ok (.ireturn, 1) := by decide +kernel
theorem dX7_ask_17 : decode cX7_ask 17 = .ok (.iconst 0, 1) := by decide +kernel
theorem dX7_ask_18 : decode cX7_ask 18 = .ok (.istore_n 3, 1) := by decide +kernel
theorem dX7_ask_19 : decode cX7_ask 19 = .ok (.iconst 0, 1) := by decide +kernel
theorem dX7_ask_20 : decode cX7_ask 20 = .ok (.istore 4, 2) := by decide +kernel
theorem dX7_ask_22 : decode cX7_ask 22 = .ok (.iload 4, 2) := by decide +kernel
theorem dX7_ask_24 : decode cX7_ask 24 = .ok (.iconst 4, 1) := by decide +kernel
theorem dX7_ask_25 : decode cX7_ask 25 = .ok (.if_icmp .ge 61, 3) := by decide +kernel
theorem dX7_ask_28 : decode cX7_ask 28 = .ok (.aload_n 0, 1) := by decide +kernel
theorem dX7_ask_29 : decode cX7_ask 29 = .ok (.iconst 3, 1) := by decide +kernel
theorem dX7_ask_30 : decode cX7_ask 30 = .ok (.iload_n 1, 1) := by decide +kernel
theorem dX7_ask_31 : decode cX7_ask 31 = .ok (.imul, 1) := by decide +kernel
theorem dX7_ask_32 : decode cX7_ask 32 = .ok (.iconst 0, 1) := by decide +kernel
theorem dX7_ask_33 : decode cX7_ask 33 = .ok (.iadd, 1) := by decide +kernel
theorem dX7_ask_34 : decode cX7_ask 34 = .ok (.iload 4, 2) := by decide +kernel
theorem dX7_ask_36 : decode cX7_ask 36 = .ok (.invokevirtual 280, 3) := by decide +kernel
theorem dX7_ask_39 : decode cX7_ask 39 = .ok (.ifCond .eq 41, 3) := by decide +kernel
theorem dX7_ask_42 : decode cX7_ask 42 = .ok (.iconst 0, 1) := by decide +kernel
theorem dX7_ask_43 : decode cX7_ask 43 = .ok (.istore 5, 2) := by decide +kernel
theorem dX7_ask_45 : decode cX7_ask 45 = .ok (.iload 5, 2) := by decide +kernel
theorem dX7_ask_47 : decode cX7_ask 47 = .ok (.bipush 125, 2) := by decide +kernel
theorem dX7_ask_49 : decode cX7_ask 49 = .ok (.if_icmp .ge 28, 3) := by decide +kernel
theorem dX7_ask_52 : decode cX7_ask 52 = .ok (.aload_n 0, 1) := by decide +kernel
theorem dX7_ask_53 : decode cX7_ask 53 = .ok (.getfield 35, 3) := by decide +kernel
theorem dX7_ask_56 : decode cX7_ask 56 = .ok (.bipush 125, 2) := by decide +kernel
theorem dX7_ask_58 : decode cX7_ask 58 = .ok (.iload_n 3, 1) := by decide +kernel
theorem dX7_ask_59 : decode cX7_ask 59 = .ok (.imul, 1) := by decide +kernel
theorem dX7_ask_60 : decode cX7_ask 60 = .ok (.iload 5, 2) := by decide +kernel
theorem dX7_ask_62 : decode cX7_ask 62 = .ok (.iadd, 1) := by decide +kernel
theorem dX7_ask_63 : decode cX7_ask 63 = .ok (.aload_n 0, 1) := by decide +kernel
theorem dX7_ask_64 : decode cX7_ask 64 = .ok (.getfield 32, 3) := by decide +kernel
theorem dX7_ask_67 : decode cX7_ask 67 = .ok (.iload 5, 2) := by decide +kernel
theorem dX7_ask_69 : decode cX7_ask 69 = .ok (.iaload, 1) := by decide +kernel
theorem dX7_ask_70 : decode cX7_ask 70 = .ok (.iastore, 1) := by decide +kernel
theorem dX7_ask_71 : decode cX7_ask 71 = .ok (.iinc 5 1, 3) := by decide +kernel
theorem dX7_ask_74 : decode cX7_ask 74 = .ok (.goto (-29), 3) := by decide +kernel
theorem dX7_ask_77 : decode cX7_ask 77 = .ok (.iinc 3 1, 3) := by decide +kernel
theorem dX7_ask_80 : decode cX7_ask 80 = .ok (.iinc 4 1, 3) := by decide +kernel
theorem dX7_ask_83 : decode cX7_ask 83 = .ok (.goto (-61), 3) := by decide +kernel
theorem dX7_ask_86 : decode cX7_ask 86 = .ok (.aload_n 0, 1) := by decide +kernel
theorem dX7_ask_87 : decode cX7_ask 87 = .ok (.iload_n 3, 1) := by decide +kernel
theorem dX7_ask_88 : decode cX7_ask 88 = .ok (.invokevirtual 227, 3) := by decide +kernel
theorem dX7_ask_91 : decode cX7_ask 91 = .ok (.iconst 0, 1) := by decide +kernel
theorem dX7_ask_92 : decode cX7_ask 92 = .ok (.istore 4, 2) := by decide +kernel
theorem dX7_ask_94 : decode cX7_ask 94 = .ok (.iload 4, 2) := by decide +kernel
theorem dX7_ask_96 : decode cX7_ask 96 = .ok (.bipush 125, 2) := by decide +kernel
theorem dX7_ask_98 : decode cX7_ask 98 = .ok (.if_icmp .ge 132, 3) := by decide +kernel
theorem dX7_ask_101 : decode cX7_ask 101 = .ok (.iconst 0, 1) := by decide +kernel
theorem dX7_ask_102 : decode cX7_ask 102 = .ok (.istore 5, 2) := by decide +kernel
theorem dX7_ask_104 : decode cX7_ask 104 = .ok (.iconst 0, 1) := by decide +kernel
theorem dX7_ask_105 : decode cX7_ask 105 = .ok (.istore 6, 2) := by decide +kernel
theorem dX7_ask_107 : decode cX7_ask 107 = .ok (.iload 6, 2) := by decide +kernel
theorem dX7_ask_109 : decode cX7_ask 109 = .ok (.iload_n 3, 1) := by decide +kernel
theorem dX7_ask_110 : decode cX7_ask 110 = .ok (.if_icmp .ge 85, 3) := by decide +kernel
theorem dX7_ask_113 : decode cX7_ask 113 = .ok (.iconst 0, 1) := by decide +kernel
theorem dX7_ask_114 : decode cX7_ask 114 = .ok (.istore 7, 2) := by decide +kernel
theorem dX7_ask_116 : decode cX7_ask 116 = .ok (.iconst 0, 1) := by decide +kernel
theorem dX7_ask_117 : decode cX7_ask 117 = .ok (.istore 8, 2) := by decide +kernel
theorem dX7_ask_119 : decode cX7_ask 119 = .ok (.iload 8, 2) := by decide +kernel
theorem dX7_ask_121 : decode cX7_ask 121 = .ok (.iload_n 3, 1) := by decide +kernel
theorem dX7_ask_122 : decode cX7_ask 122 = .ok (.if_icmp .ge 51, 3) := by decide +kernel
theorem dX7_ask_125 : decode cX7_ask 125 = .ok (.iload 7, 2) := by decide +kernel
theorem dX7_ask_127 : decode cX7_ask 127 = .ok (.aload_n 0, 1) := by decide +kernel
theorem dX7_ask_128 : decode cX7_ask 128 = .ok (.getfield 35, 3) := by decide +kernel
theorem dX7_ask_131 : decode cX7_ask 131 = .ok (.bipush 125, 2) := by decide +kernel
theorem dX7_ask_133 : decode cX7_ask 133 = .ok (.iload 6, 2) := by decide +kernel
theorem dX7_ask_135 : decode cX7_ask 135 = .ok (.imul, 1) := by decide +kernel
theorem dX7_ask_136 : decode cX7_ask 136 = .ok (.iload 4, 2) := by decide +kernel
theorem dX7_ask_138 : decode cX7_ask 138 = .ok (.iadd, 1) := by decide +kernel
theorem dX7_ask_139 : decode cX7_ask 139 = .ok (.iaload, 1) := by decide +kernel
theorem dX7_ask_140 : decode cX7_ask 140 = .ok (.aload_n 0, 1) := by decide +kernel
theorem dX7_ask_141 : decode cX7_ask 141 = .ok (.getfield 35, 3) := by decide +kernel
theorem dX7_ask_144 : decode cX7_ask 144 = .ok (.bipush 125, 2) := by decide +kernel
theorem dX7_ask_146 : decode cX7_ask 146 = .ok (.iload 8, 2) := by decide +kernel
theorem dX7_ask_148 : decode cX7_ask 148 = .ok (.imul, 1) := by decide +kernel
theorem dX7_ask_149 : decode cX7_ask 149 = .ok (.iload 4, 2) := by decide +kernel
theorem dX7_ask_151 : decode cX7_ask 151 = .ok (.iadd, 1) := by decide +kernel
theorem dX7_ask_152 : decode cX7_ask 152 = .ok (.iaload, 1) := by decide +kernel
theorem dX7_ask_153 : decode cX7_ask 153 = .ok (.if_icmp .ne 7, 3) := by decide +kernel
theorem dX7_ask_156 : decode cX7_ask 156 = .ok (.iconst 1, 1) := by decide +kernel
theorem dX7_ask_157 : decode cX7_ask 157 = .ok (.goto 4, 3) := by decide +kernel
theorem dX7_ask_160 : decode cX7_ask 160 = .ok (.iconst 0, 1) := by decide +kernel
theorem dX7_ask_161 : decode cX7_ask 161 = .ok (.invokestatic 192, 3) := by decide +kernel
theorem dX7_ask_164 : decode cX7_ask 164 = .ok (.iadd, 1) := by decide +kernel
theorem dX7_ask_165 : decode cX7_ask 165 = .ok (.istore 7, 2) := by decide +kernel
theorem dX7_ask_167 : decode cX7_ask 167 = .ok (.iinc 8 1, 3) := by decide +kernel
theorem dX7_ask_170 : decode cX7_ask 170 = .ok (.goto (-51), 3) := by decide +kernel
theorem dX7_ask_173 : decode cX7_ask 173 = .ok (.iload 7, 2) := by decide +kernel
theorem dX7_ask_175 : decode cX7_ask 175 = .ok (.iload 5, 2) := by decide +kernel
theorem dX7_ask_177 : decode cX7_ask 177 = .ok (.if_icmp .le 8, 3) := by decide +kernel
theorem dX7_ask_180 : decode cX7_ask 180 = .ok (.iload 7, 2) := by decide +kernel
theorem dX7_ask_182 : decode cX7_ask 182 = .ok (.goto 5, 3) := by decide +kernel
theorem dX7_ask_185 : decode cX7_ask 185 = .ok (.iload 5, 2) := by decide +kernel
theorem dX7_ask_187 : decode cX7_ask 187 = .ok (.istore 5, 2) := by decide +kernel
theorem dX7_ask_189 : decode cX7_ask 189 = .ok (.iinc 6 1, 3) := by decide +kernel
theorem dX7_ask_192 : decode cX7_ask 192 = .ok (.goto (-85), 3) := by decide +kernel
theorem dX7_ask_195 : decode cX7_ask 195 = .ok (.iload 4, 2) := by decide +kernel
theorem dX7_ask_197 : decode cX7_ask 197 = .ok (.iconst 5, 1) := by decide +kernel
theorem dX7_ask_198 : decode cX7_ask 198 = .ok (.irem, 1) := by decide +kernel
theorem dX7_ask_199 : decode cX7_ask 199 = .ok (.aload_n 0, 1) := by decide +kernel
theorem dX7_ask_200 : decode cX7_ask 200 = .ok (.getfield 70, 3) := by decide +kernel
theorem dX7_ask_203 : decode cX7_ask 203 = .ok (.if_icmp .ge 21, 3) := by decide +kernel
theorem dX7_ask_206 : decode cX7_ask 206 = .ok (.aload_n 0, 1) := by decide +kernel
theorem dX7_ask_207 : decode cX7_ask 207 = .ok (.bipush 10, 2) := by decide +kernel
theorem dX7_ask_209 : decode cX7_ask 209 = .ok (.iload 4, 2) := by decide +kernel
theorem dX7_ask_211 : decode cX7_ask 211 = .ok (.iconst 5, 1) := by decide +kernel
theorem dX7_ask_212 : decode cX7_ask 212 = .ok (.idiv, 1) := by decide +kernel
theorem dX7_ask_213 : decode cX7_ask 213 = .ok (.imul, 1) := by decide +kernel
theorem dX7_ask_214 : decode cX7_ask 214 = .ok (.iload 4, 2) := by decide +kernel
theorem dX7_ask_216 : decode cX7_ask 216 = .ok (.iconst 5, 1) := by decide +kernel
theorem dX7_ask_217 : decode cX7_ask 217 = .ok (.irem, 1) := by decide +kernel
theorem dX7_ask_218 : decode cX7_ask 218 = .ok (.iadd, 1) := by decide +kernel
theorem dX7_ask_219 : decode cX7_ask 219 = .ok (.iload 5, 2) := by decide +kernel
theorem dX7_ask_221 : decode cX7_ask 221 = .ok (.invokevirtual 236, 3) := by decide +kernel
theorem dX7_ask_224 : decode cX7_ask 224 = .ok (.iinc 4 1, 3) := by decide +kernel
theorem dX7_ask_227 : decode cX7_ask 227 = .ok (.goto (-133), 3) := by decide +kernel
theorem dX7_ask_230 : decode cX7_ask 230 = .ok (.aload_n 0, 1) := by decide +kernel
theorem dX7_ask_231 : decode cX7_ask 231 = .ok (.iload_n 2, 1) := by decide +kernel
theorem dX7_ask_232 : decode cX7_ask 232 = .ok (.invokevirtual 250, 3) := by decide +kernel
theorem dX7_ask_235 : decode cX7_ask 235 = .ok (.ireturn, 1) := by decide +kernel
theorem dX7_drift_0 : decode cX7_drift 0 = .ok (.iload_n 2, 1) := by decide +kernel
theorem dX7_drift_1 : decode cX7_drift 1 = .ok (.i2l, 1) := by decide +kernel
theorem dX7_drift_2 : decode cX7_drift 2 = .ok (.lconst 1, 1) := by decide +kernel
theorem dX7_drift_3 : decode cX7_drift 3 = .ok (.ldc2_w 211, 3) := by decide +kernel
theorem dX7_drift_6 : decode cX7_drift 6 = .ok (.invokestatic 75, 3) := by decide +kernel
theorem dX7_drift_9 : decode cX7_drift 9 = .ok (.ifCond .eq 10, 3) := by decide +kernel
theorem dX7_drift_12 : decode cX7_drift 12 = .ok (.iload_n 3, 1) := by decide +kernel
theorem dX7_drift_13 : decode cX7_drift 13 = .ok (.invokestatic 247, 3) := by decide +kernel
theorem dX7_drift_16 : decode cX7_drift 16 = .ok (.ifCond .ne 5, 3) := by decide +kernel
theorem dX7_drift_19 : decode cX7_drift 19 = .ok (.iconst (-1), 1) := by decide +kernel
theorem dX7_drift_20 : decode cX7_drift 20 = .ok (.ireturn, 1) := by decide +kernel
theorem dX7_drift_21 : decode cX7_drift 21 = .ok (.aload_n 0, 1) := by decide +kernel
theorem dX7_drift_22 : decode cX7_drift 22 = .ok (.getfield 70, 3) := by decide +kernel
theorem dX7_drift_25 : decode cX7_drift 25 = .ok (.ifCond .ne 6, 3) := by decide +kernel
theorem dX7_drift_28 : decode cX7_drift 28 = .ok (.bipush (-2), 2) := by decide +kernel
theorem dX7_drift_30 : decode cX7_drift 30 = .ok (.ireturn, 1) := by decide +kernel
theorem dX7_drift_31 : decode cX7_drift 31 = .ok (.iload_n 1, 1) := by decide +kernel
theorem dX7_drift_32 : decode cX7_drift 32 = .ok (.istore 4, 2) := by decide +kernel
theorem dX7_drift_34 : decode cX7_drift 34 = .ok (.aload_n 0, 1) := by decide +kernel
theorem dX7_drift_35 : decode cX7_drift 35 = .ok (.invokevirtual 182, 3) := by decide +kernel
theorem dX7_drift_38 : decode cX7_drift 38 = .ok (.iconst 0, 1) := by decide +kernel
theorem dX7_drift_39 : decode cX7_drift 39 = .ok (.istore 5, 2) := by decide +kernel
theorem dX7_drift_41 : decode cX7_drift 41 = .ok (.iload 5, 2) := by decide +kernel
theorem dX7_drift_43 : decode cX7_drift 43 = .ok (.iload_n 2, 1) := by decide +kernel
theorem dX7_drift_44 : decode cX7_drift 44 = .ok (.if_icmp .ge 93, 3) := by decide +kernel
theorem dX7_drift_47 : decode cX7_drift 47 = .ok (.iload 4, 2) := by decide +kernel
theorem dX7_drift_49 : decode cX7_drift 49 = .ok (.ldc_w 286, 3) := by decide +kernel
theorem dX7_drift_52 : decode cX7_drift 52 = .ok (.imul, 1) := by decide +kernel
theorem dX7_drift_53 : decode cX7_drift 53 = .ok (.sipush 12345, 3) := by decide +kernel
theorem dX7_drift_56 : decode cX7_drift 56 = .ok (.iadd, 1) := by decide +kernel
theorem dX7_drift_57 : decode cX7_drift 57 = .ok (.istore 4, 2) := by decide +kernel
theorem dX7_drift_59 : decode cX7_drift 59 = .ok (.iload 4, 2) := by decide +kernel
theorem dX7_drift_61 : decode cX7_drift 61 = .ok (.bipush 16, 2) := by decide +kernel
theorem dX7_drift_63 : decode cX7_drift 63 = .ok (.ishr, 1) := by decide +kernel
theorem dX7_drift_64 : decode cX7_drift 64 = .ok (.sipush 32767, 3) := by decide +kernel
theorem dX7_drift_67 : decode cX7_drift 67 = .ok (.iand, 1) := by decide +kernel
theorem dX7_drift_68 : decode cX7_drift 68 = .ok (.istore 6, 2) := by decide +kernel
theorem dX7_drift_70 : decode cX7_drift 70 = .ok (.iload 6, 2) := by decide +kernel
theorem dX7_drift_72 : decode cX7_drift 72 = .ok (.bipush 8, 2) := by decide +kernel
theorem dX7_drift_74 : decode cX7_drift 74 = .ok (.idiv, 1) := by decide +kernel
theorem dX7_drift_75 : decode cX7_drift 75 = .ok (.aload_n 0, 1) := by decide +kernel
theorem dX7_drift_76 : decode cX7_drift 76 = .ok (.getfield 70, 3) := by decide +kernel
theorem dX7_drift_79 : decode cX7_drift 79 = .ok (.irem, 1) := by decide +kernel
theorem dX7_drift_80 : decode cX7_drift 80 = .ok (.istore 7, 2) := by decide +kernel
theorem dX7_drift_82 : decode cX7_drift 82 = .ok (.aload_n 0, 1) := by decide +kernel
theorem dX7_drift_83 : decode cX7_drift 83 = .ok (.iload 7, 2) := by decide +kernel
theorem dX7_drift_85 : decode cX7_drift 85 = .ok (.iconst 1, 1) := by decide +kernel
theorem dX7_drift_86 : decode cX7_drift 86 = .ok (.bipush 99, 2) := by decide +kernel
theorem dX7_drift_88 : decode cX7_drift 88 = .ok (.aload_n 0, 1) := by decide +kernel
theorem dX7_drift_89 : decode cX7_drift 89 = .ok (.iload 7, 2) := by decide +kernel
theorem dX7_drift_91 : decode cX7_drift 91 = .ok (.iconst 1, 1) := by decide +kernel
theorem dX7_drift_92 : decode cX7_drift 92 = .ok (.invokevirtual 157, 3) := by decide +kernel
theorem dX7_drift_95 : decode cX7_drift 95 = .ok (.iload 6, 2) := by decide +kernel
theorem dX7_drift_97 : decode cX7_drift 97 = .ok (.bipush 64, 2) := by decide +kernel
theorem dX7_drift_99 : decode cX7_drift 99 = .ok (.idiv, 1) := by decide +kernel
theorem dX7_drift_100 : decode cX7_drift 100 = .ok (.iconst 3, 1) := by decide +kernel
theorem dX7_drift_101 : decode cX7_drift 101 = .ok (.irem, 1) := by decide +kernel
theorem dX7_drift_102 : decode cX7_drift 102 = .ok (.iadd, 1) := by decide +kernel
theorem dX7_drift_103 : decode cX7_drift 103 = .ok (.invokestatic 154, 3) := by decide +kernel
theorem dX7_drift_106 : decode cX7_drift 106 = .ok (.invokevirtual 160, 3) := by decide +kernel
theorem dX7_drift_109 : decode cX7_drift 109 = .ok (.aload_n 0, 1) := by decide +kernel
theorem dX7_drift_110 : decode cX7_drift 110 = .ok (.iload 6, 2) := by decide +kernel
theorem dX7_drift_112 : decode cX7_drift 112 = .ok (.aload_n 0, 1) := by decide +kernel
theorem dX7_drift_113 : decode cX7_drift 113 = .ok (.getfield 70, 3) := by decide +kernel
theorem dX7_drift_116 : decode cX7_drift 116 = .ok (.irem, 1) := by decide +kernel
theorem dX7_drift_117 : decode cX7_drift 117 = .ok (.invokevirtual 176, 3) := by decide +kernel
theorem dX7_drift_120 : decode cX7_drift 120 = .ok (.aload_n 0, 1) := by decide +kernel
theorem dX7_drift_121 : decode cX7_drift 121 = .ok (.getfield 13, 3) := by decide +kernel
theorem dX7_drift_124 : decode cX7_drift 124 = .ok (.bipush 26, 2) := by decide +kernel
theorem dX7_drift_126 : decode cX7_drift 126 = .ok (.dup2, 1) := by decide +kernel
theorem dX7_drift_127 : decode cX7_drift 127 = .ok (.iaload, 1) := by decide +kernel
theorem dX7_drift_128 : decode cX7_drift 128 = .ok (.iconst 1, 1) := by decide +kernel
theorem dX7_drift_129 : decode cX7_drift 129 = .ok (.iadd, 1) := by decide +kernel
theorem dX7_drift_130 : decode cX7_drift 130 = .ok (.iastore, 1) := by decide +kernel
theorem dX7_drift_131 : decode cX7_drift 131 = .ok (.iinc 5 1, 3) := by decide +kernel
theorem dX7_drift_134 : decode cX7_drift 134 = .ok (.goto (-93), 3) := by decide +kernel
theorem dX7_drift_137 : decode cX7_drift 137 = .ok (.iload_n 3, 1) := by decide +kernel
theorem dX7_drift_138 : decode cX7_drift 138 = .ok (.ifCond .ne 10, 3) := by decide +kernel
theorem dX7_drift_141 : decode cX7_drift 141 = .ok (.aload_n 0, 1) := by decide +kernel
theorem dX7_drift_142 : decode cX7_drift 142 = .ok (.invokevirtual 185, 3) := by decide +kernel
theorem dX7_drift_145 : decode cX7_drift 145 = .ok (.goto 7, 3) := by decide +kernel
theorem dX7_drift_148 : decode cX7_drift 148 = .ok (.aload_n 0, 1) := by decide +kernel
theorem dX7_drift_149 : decode cX7_drift 149 = .ok (.getfield 151, 3) := by decide +kernel
theorem dX7_drift_152 : decode cX7_drift 152 = .ok (.ireturn, 1) := by decide +kernel
theorem dX7_copies_0 : decode cX7_copies 0 = .ok (.iconst 0, 1) := by decide +kernel
theorem dX7_copies_1 : decode cX7_copies 1 = .ok (.istore_n 3, 1) := by decide +kernel
theorem dX7_copies_2 : decode cX7_copies 2 = .ok (.iload_n 3, 1) := by decide +kernel
theorem dX7_copies_3 : decode cX7_copies 3 = .ok (.bipush 46, 2) := by decide +kernel
theorem dX7_copies_5 : decode cX7_copies 5 = .ok (.if_icmp .ge 25, 3) := by decide +kernel
theorem dX7_copies_8 : decode cX7_copies 8 = .ok (.aload_n 0, 1) := by decide +kernel
theorem dX7_copies_9 : decode cX7_copies 9 = .ok (.getfield 7, 3) := by decide +kernel
theorem dX7_copies_12 : decode cX7_copies 12 = .ok (.iload_n 1, 1) := by decide +kernel
theorem dX7_copies_13 : decode cX7_copies 13 = .ok (.iload_n 3, 1) := by decide +kernel
theorem dX7_copies_14 : decode cX7_copies 14 = .ok (.iadd, 1) := by decide +kernel
theorem dX7_copies_15 : decode cX7_copies 15 = .ok (.aload_n 0, 1) := by decide +kernel
theorem dX7_copies_16 : decode cX7_copies 16 = .ok (.getfield 7, 3) := by decide +kernel
theorem dX7_copies_19 : decode cX7_copies 19 = .ok (.iload_n 2, 1) := by decide +kernel
theorem dX7_copies_20 : decode cX7_copies 20 = .ok (.iload_n 3, 1) := by decide +kernel
theorem dX7_copies_21 : decode cX7_copies 21 = .ok (.iadd, 1) := by decide +kernel
theorem dX7_copies_22 : decode cX7_copies 22 = .ok (.iaload, 1) := by decide +kernel
theorem dX7_copies_23 : decode cX7_copies 23 = .ok (.iastore, 1) := by decide +kernel
theorem dX7_copies_24 : decode cX7_copies 24 = .ok (.iinc 3 1, 3) := by decide +kernel
theorem dX7_copies_27 : decode cX7_copies 27 = .ok (.goto (-25), 3) := by decide +kernel
theorem dX7_copies_30 : decode cX7_copies 30 = .ok (.return_, 1) := by decide +kernel
theorem dX7_keep_0 : decode cX7_keep 0 = .ok (.iload_n 1, 1) := by decide +kernel
theorem dX7_keep_1 : decode cX7_keep 1 = .ok (.i2l, 1) := by decide +kernel
theorem dX7_keep_2 : decode cX7_keep 2 = .ok (.lconst 0, 1) := by decide +kernel
theorem dX7_keep_3 : decode cX7_keep 3 = .ok (.lconst 1, 1) := by decide +kernel
theorem dX7_keep_4 : decode cX7_keep 4 = .ok (.invokestatic 75, 3) := by decide +kernel
theorem dX7_keep_7 : decode cX7_keep 7 = .ok (.ifCond .ne 5, 3) := by decide +kernel
theorem dX7_keep_10 : decode cX7_keep 10 = .ok (.iconst (-1), 1) := by decide +kernel
theorem dX7_keep_11 : decode cX7_keep 11 = .ok (.ireturn, 1) := by decide +kernel
theorem dX7_keep_12 : decode cX7_keep 12 = .ok (.aload_n 0, 1) := by decide +kernel
theorem dX7_keep_13 : decode cX7_keep 13 = .ok (.getfield 16, 3) := by decide +kernel
theorem dX7_keep_16 : decode cX7_keep 16 = .ok (.iload_n 1, 1) := by decide +kernel
theorem dX7_keep_17 : decode cX7_keep 17 = .ok (.baload, 1) := by decide +kernel
theorem dX7_keep_18 : decode cX7_keep 18 = .ok (.invokestatic 192, 3) := by decide +kernel
theorem dX7_keep_21 : decode cX7_keep 21 = .ok (.istore_n 2, 1) := by decide +kernel
theorem dX7_keep_22 : decode cX7_keep 22 = .ok (.aload_n 0, 1) := by decide +kernel
theorem dX7_keep_23 : decode cX7_keep 23 = .ok (.getfield 16, 3) := by decide +kernel
theorem dX7_keep_26 : decode cX7_keep 26 = .ok (.iload_n 1, 1) := by decide +kernel
theorem dX7_keep_27 : decode cX7_keep 27 = .ok (.iconst 1, 1) := by decide +kernel
theorem dX7_keep_28 : decode cX7_keep 28 = .ok (.bastore, 1) := by decide +kernel
theorem dX7_keep_29 : decode cX7_keep 29 = .ok (.aload_n 0, 1) := by decide +kernel
theorem dX7_keep_30 : decode cX7_keep 30 = .ok (.bipush 46, 2) := by decide +kernel
theorem dX7_keep_32 : decode cX7_keep 32 = .ok (.iload_n 1, 1) := by decide +kernel
theorem dX7_keep_33 : decode cX7_keep 33 = .ok (.iconst 1, 1) := by decide +kernel
theorem dX7_keep_34 : decode cX7_keep 34 = .ok (.iadd, 1) := by decide +kernel
theorem dX7_keep_35 : decode cX7_keep 35 = .ok (.imul, 1) := by decide +kernel
theorem dX7_keep_36 : decode cX7_keep 36 = .ok (.iconst 0, 1) := by decide +kernel
theorem dX7_keep_37 : decode cX7_keep 37 = .ok (.invokevirtual 287, 3) := by decide +kernel
theorem dX7_keep_40 : decode cX7_keep 40 = .ok (.iload_n 2, 1) := by decide +kernel
theorem dX7_keep_41 : decode cX7_keep 41 = .ok (.ireturn, 1) := by decide +kernel
theorem dX7_back_0 : decode cX7_back 0 = .ok (.iload_n 1, 1) := by decide +kernel
theorem dX7_back_1 : decode cX7_back 1 = .ok (.i2l, 1) := by decide +kernel
theorem dX7_back_2 : decode cX7_back 2 = .ok (.lconst 0, 1) := by decide +kernel
theorem dX7_back_3 : decode cX7_back 3 = .ok (.lconst 1, 1) := by decide +kernel
theorem dX7_back_4 : decode cX7_back 4 = .ok (.invokestatic 75, 3) := by decide +kernel
theorem dX7_back_7 : decode cX7_back 7 = .ok (.ifCond .ne 5, 3) := by decide +kernel
theorem dX7_back_10 : decode cX7_back 10 = .ok (.iconst (-1), 1) := by decide +kernel
theorem dX7_back_11 : decode cX7_back 11 = .ok (.ireturn, 1) := by decide +kernel
theorem dX7_back_12 : decode cX7_back 12 = .ok (.aload_n 0, 1) := by decide +kernel
theorem dX7_back_13 : decode cX7_back 13 = .ok (.getfield 16, 3) := by decide +kernel
theorem dX7_back_16 : decode cX7_back 16 = .ok (.iload_n 1, 1) := by decide +kernel
theorem dX7_back_17 : decode cX7_back 17 = .ok (.baload, 1) := by decide +kernel
theorem dX7_back_18 : decode cX7_back 18 = .ok (.ifCond .ne 6, 3) := by decide +kernel
theorem dX7_back_21 : decode cX7_back 21 = .ok (.bipush (-2), 2) := by decide +kernel
theorem dX7_back_23 : decode cX7_back 23 = .ok (.ireturn, 1) := by decide +kernel
theorem dX7_back_24 : decode cX7_back 24 = .ok (.aload_n 0, 1) := by decide +kernel
theorem dX7_back_25 : decode cX7_back 25 = .ok (.iconst 0, 1) := by decide +kernel
theorem dX7_back_26 : decode cX7_back 26 = .ok (.bipush 46, 2) := by decide +kernel
theorem dX7_back_28 : decode cX7_back 28 = .ok (.iload_n 1, 1) := by decide +kernel
theorem dX7_back_29 : decode cX7_back 29 = .ok (.iconst 1, 1) := by decide +kernel
theorem dX7_back_30 : decode cX7_back 30 = .ok (.iadd, 1) := by decide +kernel
theorem dX7_back_31 : decode cX7_back 31 = .ok (.imul, 1) := by decide +kernel
theorem dX7_back_32 : decode cX7_back 32 = .ok (.invokevirtual 287, 3) := by decide +kernel
theorem dX7_back_35 : decode cX7_back 35 = .ok (.aload_n 0, 1) := by decide +kernel
theorem dX7_back_36 : decode cX7_back 36 = .ok (.getfield 7, 3) := by decide +kernel
theorem dX7_back_39 : decode cX7_back 39 = .ok (.bipush 26, 2) := by decide +kernel
theorem dX7_back_41 : decode cX7_back 41 = .ok (.iaload, 1) := by decide +kernel
theorem dX7_back_42 : decode cX7_back 42 = .ok (.ireturn, 1) := by decide +kernel
theorem dX7_isSheet_0 : decode cX7_isSheet 0 = .ok (.iload_n 0, 1) := by decide +kernel
theorem dX7_isSheet_1 : decode cX7_isSheet 1 = .ok (.i2l, 1) := by decide +kernel
theorem dX7_isSheet_2 : decode cX7_isSheet 2 = .ok (.lconst 0, 1) := by decide +kernel
theorem dX7_isSheet_3 : decode cX7_isSheet 3 = .ok (.ldc2_w 196, 3) := by decide +kernel
theorem dX7_isSheet_6 : decode cX7_isSheet 6 = .ok (.invokestatic 75, 3) := by decide +kernel
theorem dX7_isSheet_9 : decode cX7_isSheet 9 = .ok (.ifCond .eq 19, 3) := by decide +kernel
theorem dX7_isSheet_12 : decode cX7_isSheet 12 = .ok (.iload_n 1, 1) := by decide +kernel
theorem dX7_isSheet_13 : decode cX7_isSheet 13 = .ok (.i2l, 1) := by decide +kernel
theorem dX7_isSheet_14 : decode cX7_isSheet 14 = .ok (.lconst 0, 1) := by decide +kernel
theorem dX7_isSheet_15 : decode cX7_isSheet 15 = .ok (.ldc2_w 290, 3) := by decide +kernel
theorem dX7_isSheet_18 : decode cX7_isSheet 18 = .ok (.invokestatic 75, 3) := by decide +kernel
theorem dX7_isSheet_21 : decode cX7_isSheet 21 = .ok (.ifCond .eq 7, 3) := by decide +kernel
theorem dX7_isSheet_24 : decode cX7_isSheet 24 = .ok (.iconst 1, 1) := by decide +kernel
theorem dX7_isSheet_25 : decode cX7_isSheet 25 = .ok (.goto 4, 3) := by decide +kernel
theorem dX7_isSheet_28 : decode cX7_isSheet 28 = .ok (.iconst 0, 1) := by decide +kernel
theorem dX7_isSheet_29 : decode cX7_isSheet 29 = .ok (.ireturn, 1) := by decide +kernel
theorem dX7_sheet_0 : decode cX7_sheet 0 = .ok (.iload_n 1, 1) := by decide +kernel
theorem dX7_sheet_1 : decode cX7_sheet 1 = .ok (.iload_n 2, 1) := by decide +kernel
theorem dX7_sheet_2 : decode cX7_sheet 2 = .ok (.invokestatic 292, 3) := by decide +kernel
theorem dX7_sheet_5 : decode cX7_sheet 5 = .ok (.ifCond .eq 9, 3) := by decide +kernel
theorem dX7_sheet_8 : decode cX7_sheet 8 = .ok (.iload_n 3, 1) := by decide +kernel
theorem dX7_sheet_9 : decode cX7_sheet 9 = .ok (.bipush 40, 2) := by decide +kernel
theorem dX7_sheet_11 : decode cX7_sheet 11 = .ok (.if_icmp .le 5, 3) := by decide +kernel
theorem dX7_sheet_14 : decode cX7_sheet 14 = .ok (.iconst (-1), 1) := by decide +kernel
theorem dX7_sheet_15 : decode cX7_sheet 15 = .ok (.ireturn, 1) := by decide +kernel
theorem dX7_sheet_16 : decode cX7_sheet 16 = .ok (.iload_n 3, 1) := by decide +kernel
theorem dX7_sheet_17 : decode cX7_sheet 17 = .ok (.ifCond .ge 6, 3) := by decide +kernel
theorem dX7_sheet_20 : decode cX7_sheet 20 = .ok (.bipush (-14), 2) := by decide +kernel
theorem dX7_sheet_22 : decode cX7_sheet 22 = .ok (.ireturn, 1) := by decide +kernel
theorem dX7_sheet_23 : decode cX7_sheet 23 = .ok (.aload_n 0, 1) := by decide +kernel
theorem dX7_sheet_24 : decode cX7_sheet 24 = .ok (.getfield 38, 3) := by decide +kernel
theorem dX7_sheet_27 : decode cX7_sheet 27 = .ok (.iload_n 1, 1) := by decide +kernel
theorem dX7_sheet_28 : decode cX7_sheet 28 = .ok (.iload_n 2, 1) := by decide +kernel
theorem dX7_sheet_29 : decode cX7_sheet 29 = .ok (.iastore, 1) := by decide +kernel
theorem dX7_sheet_30 : decode cX7_sheet 30 = .ok (.aload_n 0, 1) := by decide +kernel
theorem dX7_sheet_31 : decode cX7_sheet 31 = .ok (.getfield 41, 3) := by decide +kernel
theorem dX7_sheet_34 : decode cX7_sheet 34 = .ok (.iload_n 1, 1) := by decide +kernel
theorem dX7_sheet_35 : decode cX7_sheet 35 = .ok (.iload_n 3, 1) := by decide +kernel
theorem dX7_sheet_36 : decode cX7_sheet 36 = .ok (.iastore, 1) := by decide +kernel
theorem dX7_sheet_37 : decode cX7_sheet 37 = .ok (.iconst 0, 1) := by decide +kernel
theorem dX7_sheet_38 : decode cX7_sheet 38 = .ok (.istore 4, 2) := by decide +kernel
theorem dX7_sheet_40 : decode cX7_sheet 40 = .ok (.iload 4, 2) := by decide +kernel
theorem dX7_sheet_42 : decode cX7_sheet 42 = .ok (.bipush 40, 2) := by decide +kernel
theorem dX7_sheet_44 : decode cX7_sheet 44 = .ok (.if_icmp .ge 22, 3) := by decide +kernel
theorem dX7_sheet_47 : decode cX7_sheet 47 = .ok (.aload_n 0, 1) := by decide +kernel
theorem dX7_sheet_48 : decode cX7_sheet 48 = .ok (.getfield 44, 3) := by decide +kernel
theorem dX7_sheet_51 : decode cX7_sheet 51 = .ok (.bipush 40, 2) := by decide +kernel
theorem dX7_sheet_53 : decode cX7_sheet 53 = .ok (.iload_n 1, 1) := by decide +kernel
theorem dX7_sheet_54 : decode cX7_sheet 54 = .ok (.imul, 1) := by decide +kernel
theorem dX7_sheet_55 : decode cX7_sheet 55 = .ok (.iload 4, 2) := by decide +kernel
theorem dX7_sheet_57 : decode cX7_sheet 57 = .ok (.iadd, 1) := by decide +kernel
theorem dX7_sheet_58 : decode cX7_sheet 58 = .ok (.iconst 0, 1) := by decide +kernel
theorem dX7_sheet_59 : decode cX7_sheet 59 = .ok (.iastore, 1) := by decide +kernel
theorem dX7_sheet_60 : decode cX7_sheet 60 = .ok (.iinc 4 1, 3) := by decide +kernel
theorem dX7_sheet_63 : decode cX7_sheet 63 = .ok (.goto (-23), 3) := by decide +kernel
theorem dX7_sheet_66 : decode cX7_sheet 66 = .ok (.iconst 1, 1) := by decide +kernel
theorem dX7_sheet_67 : decode cX7_sheet 67 = .ok (.ireturn, 1) := by decide +kernel
theorem dX7_lay_0 : decode cX7_lay 0 = .ok (.iload_n 1, 1) := by decide +kernel
theorem dX7_lay_1 : decode cX7_lay 1 = .ok (.iconst 0, 1) := by decide +kernel
theorem dX7_lay_2 : decode cX7_lay 2 = .ok (.invokestatic 292, 3) := by decide +kernel
theorem dX7_lay_5 : decode cX7_lay 5 = .ok (.ifCond .ne 5, 3) := by decide +kernel
theorem dX7_lay_8 : decode cX7_lay 8 = .ok (.iconst (-1), 1) := by decide +kernel
theorem dX7_lay_9 : decode cX7_lay 9 = .ok (.ireturn, 1) := by decide +kernel
theorem dX7_lay_10 : decode cX7_lay 10 = .ok (.aload_n 0, 1) := by decide +kernel
theorem dX7_lay_11 : decode cX7_lay 11 = .ok (.getfield 38, 3) := by decide +kernel
theorem dX7_lay_14 : decode cX7_lay 14 = .ok (.iload_n 1, 1) := by decide +kernel
theorem dX7_lay_15 : decode cX7_lay 15 = .ok (.iaload, 1) := by decide +kernel
theorem dX7_lay_16 : decode cX7_lay 16 = .ok (.bipush (-4), 2) := by decide +kernel
theorem dX7_lay_18 : decode cX7_lay 18 = .ok (.if_icmp .ne 6, 3) := by decide +kernel
theorem dX7_lay_21 : decode cX7_lay 21 = .ok (.bipush (-11), 2) := by decide +kernel
theorem dX7_lay_23 : decode cX7_lay 23 = .ok (.ireturn, 1) := by decide +kernel
theorem dX7_lay_24 : decode cX7_lay 24 = .ok (.iload_n 2, 1) := by decide +kernel
theorem dX7_lay_25 : decode cX7_lay 25 = .ok (.i2l, 1) := by decide +kernel
theorem dX7_lay_26 : decode cX7_lay 26 = .ok (.lconst 0, 1) := by decide +kernel
theorem dX7_lay_27 : decode cX7_lay 27 = .ok (.aload_n 0, 1) := by decide +kernel
theorem dX7_lay_28 : decode cX7_lay 28 = .ok (.getfield 41, 3) := by decide +kernel
theorem dX7_lay_31 : decode cX7_lay 31 = .ok (.iload_n 1, 1) := by decide +kernel
theorem dX7_lay_32 : decode cX7_lay 32 = .ok (.iaload, 1) := by decide +kernel
theorem dX7_lay_33 : decode cX7_lay 33 = .ok (.iconst 1, 1) := by decide +kernel
theorem dX7_lay_34 : decode cX7_lay 34 = .ok (.isub, 1) := by decide +kernel
theorem dX7_lay_35 : decode cX7_lay 35 = .ok (.i2l, 1) := by decide +kernel
theorem dX7_lay_36 : decode cX7_lay 36 = .ok (.invokestatic 75, 3) := by decide +kernel
theorem dX7_lay_39 : decode cX7_lay 39 = .ok (.ifCond .ne 6, 3) := by decide +kernel
theorem dX7_lay_42 : decode cX7_lay 42 = .ok (.bipush (-12), 2) := by decide +kernel
theorem dX7_lay_44 : decode cX7_lay 44 = .ok (.ireturn, 1) := by decide +kernel
theorem dX7_lay_45 : decode cX7_lay 45 = .ok (.aload_n 0, 1) := by decide +kernel
theorem dX7_lay_46 : decode cX7_lay 46 = .ok (.getfield 44, 3) := by decide +kernel
theorem dX7_lay_49 : decode cX7_lay 49 = .ok (.bipush 40, 2) := by decide +kernel
theorem dX7_lay_51 : decode cX7_lay 51 = .ok (.iload_n 1, 1) := by decide +kernel
theorem dX7_lay_52 : decode cX7_lay 52 = .ok (.imul, 1) := by decide +kernel
theorem dX7_lay_53 : decode cX7_lay 53 = .ok (.iload_n 2, 1) := by decide +kernel
theorem dX7_lay_54 : decode cX7_lay 54 = .ok (.iadd, 1) := by decide +kernel
theorem dX7_lay_55 : decode cX7_lay 55 = .ok (.aload_n 0, 1) := by decide +kernel
theorem dX7_lay_56 : decode cX7_lay 56 = .ok (.getfield 38, 3) := by decide +kernel
theorem dX7_lay_59 : decode cX7_lay 59 = .ok (.iload_n 1, 1) := by decide +kernel
theorem dX7_lay_60 : decode cX7_lay 60 = .ok (.iaload, 1) := by decide +kernel
theorem dX7_lay_61 : decode cX7_lay 61 = .ok (.ifCond .ne 8, 3) := by decide +kernel
theorem dX7_lay_64 : decode cX7_lay 64 = .ok (.iload_n 3, 1) := by decide +kernel
theorem dX7_lay_65 : decode cX7_lay 65 = .ok (.i2b, 1) := by decide +kernel
theorem dX7_lay_66 : decode cX7_lay 66 = .ok (.goto 19, 3) := by decide +kernel
theorem dX7_lay_69 : decode cX7_lay 69 = .ok (.aload_n 0, 1) := by decide +kernel
theorem dX7_lay_70 : decode cX7_lay 70 = .ok (.getfield 38, 3) := by decide +kernel
theorem dX7_lay_73 : decode cX7_lay 73 = .ok (.iload_n 1, 1) := by decide +kernel
theorem dX7_lay_74 : decode cX7_lay 74 = .ok (.iaload, 1) := by decide +kernel
theorem dX7_lay_75 : decode cX7_lay 75 = .ok (.iconst 1, 1) := by decide +kernel
theorem dX7_lay_76 : decode cX7_lay 76 = .ok (.if_icmp .ne 8, 3) := by decide +kernel
theorem dX7_lay_79 : decode cX7_lay 79 = .ok (.iload_n 3, 1) := by decide +kernel
theorem dX7_lay_80 : decode cX7_lay 80 = .ok (.i2s, 1) := by decide +kernel
