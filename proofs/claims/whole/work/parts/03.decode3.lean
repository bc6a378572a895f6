theorem dX6_back_50 : decode cX6_back 50 = .ok (.aload_n 0, 1) := by decide +kernel
theorem dX6_back_51 : decode cX6_back 51 = .ok (.getfield 10, 3) := by decide +kernel
theorem dX6_back_54 : decode cX6_back 54 = .ok (.getfield 98, 3) := by decide +kernel
theorem dX6_back_57 : decode cX6_back 57 = .ok (.ireturn, 1) := by decide +kernel
theorem dX6_sheet_0 : decode cX6_sheet 0 = .ok (.iload_n 1, 1) := by decide +kernel
theorem dX6_sheet_1 : decode cX6_sheet 1 = .ok (.iconst 0, 1) := by decide +kernel
theorem dX6_sheet_2 : decode cX6_sheet 2 = .ok (.iconst 3, 1) := by decide +kernel
theorem dX6_sheet_3 : decode cX6_sheet 3 = .ok (.invokestatic 67, 3) := by decide +kernel
theorem dX6_sheet_6 : decode cX6_sheet 6 = .ok (.ifCond .eq 18, 3) := by decide +kernel
theorem dX6_sheet_9 : decode cX6_sheet 9 = .ok (.iload_n 2, 1) := by decide +kernel
theorem dX6_sheet_10 : decode cX6_sheet 10 = .ok (.iconst 0, 1) := by decide +kernel
theorem dX6_sheet_11 : decode cX6_sheet 11 = .ok (.iconst 2, 1) := by decide +kernel
theorem dX6_sheet_12 : decode cX6_sheet 12 = .ok (.invokestatic 67, 3) := by decide +kernel
theorem dX6_sheet_15 : decode cX6_sheet 15 = .ok (.ifCond .eq 9, 3) := by decide +kernel
theorem dX6_sheet_18 : decode cX6_sheet 18 = .ok (.iload_n 3, 1) := by decide +kernel
theorem dX6_sheet_19 : decode cX6_sheet 19 = .ok (.bipush 40, 2) := by decide +kernel
theorem dX6_sheet_21 : decode cX6_sheet 21 = .ok (.if_icmp .le 5, 3) := by decide +kernel
theorem dX6_sheet_24 : decode cX6_sheet 24 = .ok (.iconst (-1), 1) := by decide +kernel
theorem dX6_sheet_25 : decode cX6_sheet 25 = .ok (.ireturn, 1) := by decide +kernel
theorem dX6_sheet_26 : decode cX6_sheet 26 = .ok (.iload_n 3, 1) := by decide +kernel
theorem dX6_sheet_27 : decode cX6_sheet 27 = .ok (.ifCond .ge 6, 3) := by decide +kernel
theorem dX6_sheet_30 : decode cX6_sheet 30 = .ok (.bipush (-14), 2) := by decide +kernel
theorem dX6_sheet_32 : decode cX6_sheet 32 = .ok (.ireturn, 1) := by decide +kernel
theorem dX6_sheet_33 : decode cX6_sheet 33 = .ok (.aload_n 0, 1) := by decide +kernel
theorem dX6_sheet_34 : decode cX6_sheet 34 = .ok (.getfield 38, 3) := by decide +kernel
theorem dX6_sheet_37 : decode cX6_sheet 37 = .ok (.iload_n 1, 1) := by decide +kernel
theorem dX6_sheet_38 : decode cX6_sheet 38 = .ok (.aaload, 1) := by decide +kernel
theorem dX6_sheet_39 : decode cX6_sheet 39 = .ok (.iload_n 2, 1) := by decide +kernel
theorem dX6_sheet_40 : decode cX6_sheet 40 = .ok (.iload_n 3, 1) := by decide +kernel
theorem dX6_sheet_41 : decode cX6_sheet 41 = .ok (.invokevirtual 231, 3) := by decide +kernel
theorem dX6_sheet_44 : decode cX6_sheet 44 = .ok (.iconst 1, 1) := by decide +kernel
theorem dX6_sheet_45 : decode cX6_sheet 45 = .ok (.ireturn, 1) := by decide +kernel
theorem dX6_lay_0 : decode cX6_lay 0 = .ok (.iload_n 1, 1) := by decide +kernel
theorem dX6_lay_1 : decode cX6_lay 1 = .ok (.iconst 0, 1) := by decide +kernel
theorem dX6_lay_2 : decode cX6_lay 2 = .ok (.iconst 3, 1) := by decide +kernel
theorem dX6_lay_3 : decode cX6_lay 3 = .ok (.invokestatic 67, 3) := by decide +kernel
theorem dX6_lay_6 : decode cX6_lay 6 = .ok (.ifCond .ne 5, 3) := by decide +kernel
theorem dX6_lay_9 : decode cX6_lay 9 = .ok (.iconst (-1), 1) := by decide +kernel
theorem dX6_lay_10 : decode cX6_lay 10 = .ok (.ireturn, 1) := by decide +kernel
theorem dX6_lay_11 : decode cX6_lay 11 = .ok (.aload_n 0, 1) := by decide +kernel
theorem dX6_lay_12 : decode cX6_lay 12 = .ok (.getfield 38, 3) := by decide +kernel
theorem dX6_lay_15 : decode cX6_lay 15 = .ok (.iload_n 1, 1) := by decide +kernel
theorem dX6_lay_16 : decode cX6_lay 16 = .ok (.aaload, 1) := by decide +kernel
theorem dX6_lay_17 : decode cX6_lay 17 = .ok (.iload_n 2, 1) := by decide +kernel
theorem dX6_lay_18 : decode cX6_lay 18 = .ok (.iload_n 2, 1) := by decide +kernel
theorem dX6_lay_19 : decode cX6_lay 19 = .ok (.invokevirtual 234, 3) := by decide +kernel
theorem dX6_lay_22 : decode cX6_lay 22 = .ok (.istore 4, 2) := by decide +kernel
theorem dX6_lay_24 : decode cX6_lay 24 = .ok (.iload 4, 2) := by decide +kernel
theorem dX6_lay_26 : decode cX6_lay 26 = .ok (.ifCond .eq 9, 3) := by decide +kernel
theorem dX6_lay_29 : decode cX6_lay 29 = .ok (.bipush (-10), 2) := by decide +kernel
theorem dX6_lay_31 : decode cX6_lay 31 = .ok (.iload 4, 2) := by decide +kernel
theorem dX6_lay_33 : decode cX6_lay 33 = .ok (.isub, 1) := by decide +kernel
theorem dX6_lay_34 : decode cX6_lay 34 = .ok (.ireturn, 1) := by decide +kernel
theorem dX6_lay_35 : decode cX6_lay 35 = .ok (.aload_n 0, 1) := by decide +kernel
theorem dX6_lay_36 : decode cX6_lay 36 = .ok (.getfield 38, 3) := by decide +kernel
theorem dX6_lay_39 : decode cX6_lay 39 = .ok (.iload_n 1, 1) := by decide +kernel
theorem dX6_lay_40 : decode cX6_lay 40 = .ok (.aaload, 1) := by decide +kernel
theorem dX6_lay_41 : decode cX6_lay 41 = .ok (.iload_n 2, 1) := by decide +kernel
theorem dX6_lay_42 : decode cX6_lay 42 = .ok (.iload_n 3, 1) := by decide +kernel
theorem dX6_lay_43 : decode cX6_lay 43 = .ok (.invokevirtual 237, 3) := by decide +kernel
theorem dX6_lay_46 : decode cX6_lay 46 = .ok (.iconst 1, 1) := by decide +kernel
theorem dX6_lay_47 : decode cX6_lay 47 = .ok (.ireturn, 1) := by decide +kernel
theorem dX6_read_0 : decode cX6_read 0 = .ok (.iload_n 1, 1) := by decide +kernel
theorem dX6_read_1 : decode cX6_read 1 = .ok (.iconst 0, 1) := by decide +kernel
theorem dX6_read_2 : decode cX6_read 2 = .ok (.iconst 3, 1) := by decide +kernel
theorem dX6_read_3 : decode cX6_read 3 = .ok (.invokestatic 67, 3) := by decide +kernel
theorem dX6_read_6 : decode cX6_read 6 = .ok (.ifCond .eq 23, 3) := by decide +kernel
theorem dX6_read_9 : decode cX6_read 9 = .ok (.iload_n 2, 1) := by decide +kernel
theorem dX6_read_10 : decode cX6_read 10 = .ok (.iconst 0, 1) := by decide +kernel
theorem dX6_read_11 : decode cX6_read 11 = .ok (.iconst 2, 1) := by decide +kernel
theorem dX6_read_12 : decode cX6_read 12 = .ok (.invokestatic 67, 3) := by decide +kernel
theorem dX6_read_15 : decode cX6_read 15 = .ok (.ifCond .eq 14, 3) := by decide +kernel
theorem dX6_read_18 : decode cX6_read 18 = .ok (.iload 4, 2) := by decide +kernel
theorem dX6_read_20 : decode cX6_read 20 = .ok (.iconst 0, 1) := by decide +kernel
theorem dX6_read_21 : decode cX6_read 21 = .ok (.bipush 20, 2) := by decide +kernel
theorem dX6_read_23 : decode cX6_read 23 = .ok (.invokestatic 67, 3) := by decide +kernel
theorem dX6_read_26 : decode cX6_read 26 = .ok (.ifCond .ne 5, 3) := by decide +kernel
theorem dX6_read_29 : decode cX6_read 29 = .ok (.iconst (-1), 1) := by decide +kernel
theorem dX6_read_30 : decode cX6_read 30 = .ok (.ireturn, 1) := by decide +kernel
theorem dX6_read_31 : decode cX6_read 31 = .ok (.aload_n 0, 1) := by decide +kernel
theorem dX6_read_32 : decode cX6_read 32 = .ok (.getfield 38, 3) := by decide +kernel
theorem dX6_read_35 : decode cX6_read 35 = .ok (.iload_n 1, 1) := by decide +kernel
theorem dX6_read_36 : decode cX6_read 36 = .ok (.aaload, 1) := by decide +kernel
theorem dX6_read_37 : decode cX6_read 37 = .ok (.astore 5, 2) := by decide +kernel
theorem dX6_read_39 : decode cX6_read 39 = .ok (.iconst 0, 1) := by decide +kernel
theorem dX6_read_40 : decode cX6_read 40 = .ok (.istore 6, 2) := by decide +kernel
theorem dX6_read_42 : decode cX6_read 42 = .ok (.iconst 0, 1) := by decide +kernel
theorem dX6_read_43 : decode cX6_read 43 = .ok (.istore 7, 2) := by decide +kernel
theorem dX6_read_45 : decode cX6_read 45 = .ok (.iload 6, 2) := by decide +kernel
theorem dX6_read_47 : decode cX6_read 47 = .ok (.ifCond .ne 90, 3) := by decide +kernel
theorem dX6_read_50 : decode cX6_read 50 = .ok (.iload 7, 2) := by decide +kernel
theorem dX6_read_52 : decode cX6_read 52 = .ok (.iload 4, 2) := by decide +kernel
theorem dX6_read_54 : decode cX6_read 54 = .ok (.if_icmp .ge 83, 3) := by decide +kernel
theorem dX6_read_57 : decode cX6_read 57 = .ok (.iload_n 3, 1) := by decide +kernel
theorem dX6_read_58 : decode cX6_read 58 = .ok (.iconst 2, 1) := by decide +kernel
theorem dX6_read_59 : decode cX6_read 59 = .ok (.iload 7, 2) := by decide +kernel
theorem dX6_read_61 : decode cX6_read 61 = .ok (.imul, 1) := by decide +kernel
theorem dX6_read_62 : decode cX6_read 62 = .ok (.iadd, 1) := by decide +kernel
theorem dX6_read_63 : decode cX6_read 63 = .ok (.istore 8, 2) := by decide +kernel
theorem dX6_read_65 : decode cX6_read 65 = .ok (.aload 5, 2) := by decide +kernel
theorem dX6_read_67 : decode cX6_read 67 = .ok (.iload_n 2, 1) := by decide +kernel
theorem dX6_read_68 : decode cX6_read 68 = .ok (.invokevirtual 240, 3) := by decide +kernel
theorem dX6_read_71 : decode cX6_read 71 = .ok (.ifCond .eq 7, 3) := by decide +kernel
theorem dX6_read_74 : decode cX6_read 74 = .ok (.iconst 3, 1) := by decide +kernel
theorem dX6_read_75 : decode cX6_read 75 = .ok (.goto 14, 3) := by decide +kernel
theorem dX6_read_78 : decode cX6_read 78 = .ok (.aload 5, 2) := by decide +kernel
theorem dX6_read_80 : decode cX6_read 80 = .ok (.iload 8, 2) := by decide +kernel
theorem dX6_read_82 : decode cX6_read 82 = .ok (.iload 8, 2) := by decide +kernel
theorem dX6_read_84 : decode cX6_read 84 = .ok (.iconst 1, 1) := by decide +kernel
theorem dX6_read_85 : decode cX6_read 85 = .ok (.iadd, 1) := by decide +kernel
theorem dX6_read_86 : decode cX6_read 86 = .ok (.invokevirtual 234, 3) := by decide +kernel
theorem dX6_read_89 : decode cX6_read 89 = .ok (.istore 6, 2) := by decide +kernel
theorem dX6_read_91 : decode cX6_read 91 = .ok (.iload 6, 2) := by decide +kernel
theorem dX6_read_93 : decode cX6_read 93 = .ok (.ifCond .ne 41, 3) := by decide +kernel
theorem dX6_read_96 : decode cX6_read 96 = .ok (.aload_n 0, 1) := by decide +kernel
theorem dX6_read_97 : decode cX6_read 97 = .ok (.getfield 10, 3) := by decide +kernel
theorem dX6_read_100 : decode cX6_read 100 = .ok (.aload 5, 2) := by decide +kernel
theorem dX6_read_102 : decode cX6_read 102 = .ok (.getfield 243, 3) := by decide +kernel
theorem dX6_read_105 : decode cX6_read 105 = .ok (.iload 8, 2) := by decide +kernel
theorem dX6_read_107 : decode cX6_read 107 = .ok (.iaload, 1) := by decide +kernel
theorem dX6_read_108 : decode cX6_read 108 = .ok (.iconst 1, 1) := by decide +kernel
theorem dX6_read_109 : decode cX6_read 109 = .ok (.aload 5, 2) := by decide +kernel
theorem dX6_read_111 : decode cX6_read 111 = .ok (.getfield 243, 3) := by decide +kernel
theorem dX6_read_114 : decode cX6_read 114 = .ok (.iload 8, 2) := by decide +kernel
theorem dX6_read_116 : decode cX6_read 116 = .ok (.iconst 1, 1) := by decide +kernel
theorem dX6_read_117 : decode cX6_read 117 = .ok (.iadd, 1) := by decide +kernel
theorem dX6_read_118 : decode cX6_read 118 = .ok (.iaload, 1) := by decide +kernel
theorem dX6_read_119 : decode cX6_read 119 = .ok (.invokevirtual 143, 3) := by decide +kernel
theorem dX6_read_122 : decode cX6_read 122 = .ok (.ifCond .ne 9, 3) := by decide +kernel
theorem dX6_read_125 : decode cX6_read 125 = .ok (.bipush (-20), 2) := by decide +kernel
theorem dX6_read_127 : decode cX6_read 127 = .ok (.iload 7, 2) := by decide +kernel
theorem dX6_read_129 : decode cX6_read 129 = .ok (.isub, 1) := by decide +kernel
theorem dX6_read_130 : decode cX6_read 130 = .ok (.ireturn, 1) := by decide +kernel
theorem dX6_read_131 : decode cX6_read 131 = .ok (.iinc 7 1, 3) := by decide +kernel
theorem dX6_read_134 : decode cX6_read 134 = .ok (.goto (-89), 3) := by decide +kernel
theorem dX6_read_137 : decode cX6_read 137 = .ok (.iconst 0, 1) := by decide +kernel
theorem dX6_read_138 : decode cX6_read 138 = .ok (.istore 8, 2) := by decide +kernel
theorem dX6_read_140 : decode cX6_read 140 = .ok (.iload 8, 2) := by decide +kernel
theorem dX6_read_142 : decode cX6_read 142 = .ok (.iload 7, 2) := by decide +kernel
theorem dX6_read_144 : decode cX6_read 144 = .ok (.if_icmp .ge 43, 3) := by decide +kernel
theorem dX6_read_147 : decode cX6_read 147 = .ok (.aload_n 0, 1) := by decide +kernel
theorem dX6_read_148 : decode cX6_read 148 = .ok (.getfield 10, 3) := by decide +kernel
theorem dX6_read_151 : decode cX6_read 151 = .ok (.getfield 123, 3) := by decide +kernel
theorem dX6_read_154 : decode cX6_read 154 = .ok (.aload 5, 2) := by decide +kernel
theorem dX6_read_156 : decode cX6_read 156 = .ok (.getfield 243, 3) := by decide +kernel
theorem dX6_read_159 : decode cX6_read 159 = .ok (.iload_n 3, 1) := by decide +kernel
theorem dX6_read_160 : decode cX6_read 160 = .ok (.iconst 2, 1) := by decide +kernel
theorem dX6_read_161 : decode cX6_read 161 = .ok (.iload 8, 2) := by decide +kernel
theorem dX6_read_163 : decode cX6_read 163 = .ok (.imul, 1) := by decide +kernel
theorem dX6_read_164 : decode cX6_read 164 = .ok (.iadd, 1) := by decide +kernel
theorem dX6_read_165 : decode cX6_read 165 = .ok (.iaload, 1) := by decide +kernel
theorem dX6_read_166 : decode cX6_read 166 = .ok (.aload 5, 2) := by decide +kernel
theorem dX6_read_168 : decode cX6_read 168 = .ok (.getfield 243, 3) := by decide +kernel
theorem dX6_read_171 : decode cX6_read 171 = .ok (.iload_n 3, 1) := by decide +kernel
theorem dX6_read_172 : decode cX6_read 172 = .ok (.iconst 2, 1) := by decide +kernel
theorem dX6_read_173 : decode cX6_read 173 = .ok (.iload 8, 2) := by decide +kernel
theorem dX6_read_175 : decode cX6_read 175 = .ok (.imul, 1) := by decide +kernel
theorem dX6_read_176 : decode cX6_read 176 = .ok (.iadd, 1) := by decide +kernel
theorem dX6_read_177 : decode cX6_read 177 = .ok (.iconst 1, 1) := by decide +kernel
theorem dX6_read_178 : decode cX6_read 178 = .ok (.iadd, 1) := by decide +kernel
theorem dX6_read_179 : decode cX6_read 179 = .ok (.iaload, 1) := by decide +kernel
theorem dX6_read_180 : decode cX6_read 180 = .ok (.iastore, 1) := by decide +kernel
theorem dX6_read_181 : decode cX6_read 181 = .ok (.iinc 8 1, 3) := by decide +kernel
theorem dX6_read_184 : decode cX6_read 184 = .ok (.goto (-44), 3) := by decide +kernel
theorem dX6_read_187 : decode cX6_read 187 = .ok (.aload_n 0, 1) := by decide +kernel
theorem dX6_read_188 : decode cX6_read 188 = .ok (.iload 6, 2) := by decide +kernel
theorem dX6_read_190 : decode cX6_read 190 = .ok (.putfield 246, 3) := by decide +kernel
theorem dX6_read_193 : decode cX6_read 193 = .ok (.iload 7, 2) := by decide +kernel
theorem dX6_read_195 : decode cX6_read 195 = .ok (.ireturn, 1) := by decide +kernel
theorem dX6_torn_0 : decode cX6_torn 0 = .ok (.aload_n 0, 1) := by decide +kernel
theorem dX6_torn_1 : decode cX6_torn 1 = .ok (.getfield 246, 3) := by decide +kernel
theorem dX6_torn_4 : decode cX6_torn 4 = .ok (.ireturn, 1) := by decide +kernel
theorem dX6_count_0 : decode cX6_count 0 = .ok (.iload_n 1, 1) := by decide +kernel
theorem dX6_count_1 : decode cX6_count 1 = .ok (.tableswitch 154 0 5 #[39, 47, 83, 91, 118, 136], 39) := by decide +kernel
theorem dX6_count_40 : decode cX6_count 40 = .ok (.aload_n 0, 1) := by decide +kernel
theorem dX6_count_41 : decode cX6_count 41 = .ok (.getfield 26, 3) := by decide +kernel
theorem dX6_count_44 : decode cX6_count 44 = .ok (.getfield 90, 3) := by decide +kernel
theorem dX6_count_47 : decode cX6_count 47 = .ok (.ireturn, 1) := by decide +kernel
theorem dX6_count_48 : decode cX6_count 48 = .ok (.aload_n 0, 1) := by decide +kernel
theorem dX6_count_49 : decode cX6_count 49 = .ok (.getfield 32, 3) := by decide +kernel
theorem dX6_count_52 : decode cX6_count 52 = .ok (.iconst 0, 1) := by decide +kernel
theorem dX6_count_53 : decode cX6_count 53 = .ok (.aaload, 1) := by decide +kernel
theorem dX6_count_54 : decode cX6_count 54 = .ok (.getfield 91, 3) := by decide +kernel
theorem dX6_count_57 : decode cX6_count 57 = .ok (.ifCond .eq 7, 3) := by decide +kernel
theorem dX6_count_60 : decode cX6_count 60 = .ok (.iconst 1, 1) := by decide +kernel
theorem dX6_count_61 : decode cX6_count 61 = .ok (.goto 4, 3) := by decide +kernel
theorem dX6_count_64 : decode cX6_count 64 = .ok (.iconst 0, 1) := by decide +kernel
theorem dX6_count_65 : decode cX6_count 65 = .ok (.aload_n 0, 1) := by decide +kernel
theorem dX6_count_66 : decode cX6_count 66 = .ok (.getfield 32, 3) := by decide +kernel
theorem dX6_count_69 : decode cX6_count 69 = .ok (.iconst 1, 1) := by decide +kernel
theorem dX6_count_70 : decode cX6_count 70 = .ok (.aaload, 1) := by decide +kernel
theorem dX6_count_71 : decode cX6_count 71 = .ok (.getfield 91, 3) := by decide +kernel
theorem dX6_count_74 : decode cX6_count 74 = .ok (.ifCond .eq 7, 3) := by decide +kernel
theorem dX6_count_77 : decode cX6_count 77 = .ok (.iconst 1, 1) := by decide +kernel
theorem dX6_count_78 : decode cX6_count 78 = .ok (.goto 4, 3) := by decide +kernel
theorem dX6_count_81 : decode cX6_count 81 = .ok (.iconst 0, 1) := by decide +kernel
theorem dX6_count_82 : decode cX6_count 82 = .ok (.iadd, 1) := by decide +kernel
theorem dX6_count_83 : decode cX6_count 83 = .ok (.ireturn, 1) := by decide +kernel
theorem dX6_count_84 : decode cX6_count 84 = .ok (.aload_n 0, 1) := by decide +kernel
theorem dX6_count_85 : decode cX6_count 85 = .ok (.getfield 45, 3) := by decide +kernel
theorem dX6_count_88 : decode cX6_count 88 = .ok (.getfield 71, 3) := by decide +kernel
theorem dX6_count_91 : decode cX6_count 91 = .ok (.ireturn, 1) := by decide +kernel
theorem dX6_count_92 : decode cX6_count 92 = .ok (.aload_n 0, 1) := by decide +kernel
theorem dX6_count_93 : decode cX6_count 93 = .ok (.getfield 38, 3) := by decide +kernel
theorem dX6_count_96 : decode cX6_count 96 = .ok (.iconst 0, 1) := by decide +kernel
theorem dX6_count_97 : decode cX6_count 97 = .ok (.aaload, 1) := by decide +kernel
theorem dX6_count_98 : decode cX6_count 98 = .ok (.invokevirtual 249, 3) := by decide +kernel
theorem dX6_count_101 : decode cX6_count 101 = .ok (.ifCond .eq 8, 3) := by decide +kernel
theorem dX6_count_104 : decode cX6_count 104 = .ok (.bipush (-4), 2) := by decide +kernel
theorem dX6_count_106 : decode cX6_count 106 = .ok (.goto 12, 3) := by decide +kernel
theorem dX6_count_109 : decode cX6_count 109 = .ok (.aload_n 0, 1) := by decide +kernel
theorem dX6_count_110 : decode cX6_count 110 = .ok (.getfield 38, 3) := by decide +kernel
theorem dX6_count_113 : decode cX6_count 113 = .ok (.iconst 0, 1) := by decide +kernel
theorem dX6_count_114 : decode cX6_count 114 = .ok (.aaload, 1) := by decide +kernel
theorem dX6_count_115 : decode cX6_count 115 = .ok (.getfield 253, 3) := by decide +kernel
theorem dX6_count_118 : decode cX6_count 118 = .ok (.ireturn, 1) := by decide +kernel
theorem dX6_count_119 : decode cX6_count 119 = .ok (.aload_n 0, 1) := by decide +kernel
theorem dX6_count_120 : decode cX6_count 120 = .ok (.getfield 10, 3) := by decide +kernel
theorem dX6_count_123 : decode cX6_count 123 = .ok (.getfield 123, 3) := by decide +kernel
theorem dX6_count_126 : decode cX6_count 126 = .ok (.aload_n 0, 1) := by decide +kernel
theorem dX6_count_127 : decode cX6_count 127 = .ok (.getfield 10, 3) := by decide +kernel
theorem dX6_count_130 : decode cX6_count 130 = .ok (.getfield 95, 3) := by decide +kernel
theorem dX6_count_133 : decode cX6_count 133 = .ok (.invokestatic 254, 3) := by decide +kernel
theorem dX6_count_136 : decode cX6_count 136 = .ok (.ireturn, 1) := by decide +kernel
theorem dX6_count_137 : decode cX6_count 137 = .ok (.aload_n 0, 1) := by decide +kernel
theorem dX6_count_138 : decode cX6_count 138 = .ok (.getfield 10, 3) := by decide +kernel
theorem dX6_count_141 : decode cX6_count 141 = .ok (.getfield 126, 3) := by decide +kernel
theorem dX6_count_144 : decode cX6_count 144 = .ok (.aload_n 0, 1) := by decide +kernel
theorem dX6_count_145 : decode cX6_count 145 = .ok (.getfield 10, 3) := by decide +kernel
theorem dX6_count_148 : decode cX6_count 148 = .ok (.getfield 95, 3) := by decide +kernel
theorem dX6_count_151 : decode cX6_count 151 = .ok (.invokestatic 254, 3) := by decide +kernel
theorem dX6_count_154 : decode cX6_count 154 = .ok (.ireturn, 1) := by decide +kernel
theorem dX6_count_155 : decode cX6_count 155 = .ok (.iconst (-1), 1) := by decide +kernel
theorem dX6_count_156 : decode cX6_count 156 = .ok (.ireturn, 1) := by decide +kernel
theorem dX6_within_0 : decode cX6_within 0 = .ok (.iload_n 0, 1) := by decide +kernel
theorem dX6_within_1 : decode cX6_within 1 = .ok (.iload_n 1, 1) := by decide +kernel
theorem dX6_within_2 : decode cX6_within 2 = .ok (.if_icmp .lt 12, 3) := by decide +kernel
theorem dX6_within_5 : decode cX6_within 5 = .ok (.iload_n 0, 1) := by decide +kernel
theorem dX6_within_6 : decode cX6_within 6 = .ok (.iload_n 2, 1) := by decide +kernel
theorem dX6_within_7 : decode cX6_within 7 = .ok (.if_icmp .gt 7, 3) := by decide +kernel
theorem dX6_within_10 : decode cX6_within 10 = .ok (.iconst 1, 1) := by decide +kernel
theorem dX6_within_11 : decode cX6_within 11 = .ok (.goto 4, 3) := by decide +kernel
theorem dX6_within_14 : decode cX6_within 14 = .ok (.iconst 0, 1) := by decide +kernel
theorem dX6_within_15 : decode cX6_within 15 = .ok (.ireturn, 1) := by decide +kernel
theorem dX6_findBestRow_0 : decode cX6_findBestRow 0 = .ok (.aload_n 0, 1) := by decide +kernel
theorem dX6_findBestRow_1 : decode cX6_findBestRow 1 = .ok (.getfield 10, 3) := by decide +kernel
theorem dX6_findBestRow_4 : decode cX6_findBestRow 4 = .ok (.getfield 110, 3) := by decide +kernel
theorem dX6_findBestRow_7 : decode cX6_findBestRow 7 = .ok (.istore_n 1, 1) := by decide +kernel
theorem dX6_findBestRow_8 : decode cX6_findBestRow 8 = .ok (.aload_n 0, 1) := by decide +kernel
theorem dX6_findBestRow_9 : decode cX6_findBestRow 9 = .ok (.getfield 10, 3) := by decide +kernel
theorem dX6_findBestRow_12 : decode cX6_findBestRow 12 = .ok (.getfield 140, 3) := by decide +kernel
theorem dX6_findBestRow_15 : decode cX6_findBestRow 15 = .ok (.iconst 0, 1) := by decide +kernel
theorem dX6_findBestRow_16 : decode cX6_findBestRow 16 = .ok (.aload_n 0, 1) := by decide +kernel
theorem dX6_findBestRow_17 : decode cX6_findBestRow 17 = .ok (.getfield 58, 3) := by decide +kernel
theorem dX6_findBestRow_20 : decode cX6_findBestRow 20 = .ok (.iconst 0, 1) := by decide +kernel
theorem dX6_findBestRow_21 : decode cX6_findBestRow 21 = .ok (.iload_n 1, 1) := by decide +kernel
theorem dX6_findBestRow_22 : decode cX6_findBestRow 22 = .ok (.invokestatic 258, 3) := by decide +kernel
theorem dX6_findBestRow_25 : decode cX6_findBestRow 25 = .ok (.aload_n 0, 1) := by decide +kernel
theorem dX6_findBestRow_26 : decode cX6_findBestRow 26 = .ok (.getfield 58, 3) := by decide +kernel
theorem dX6_findBestRow_29 : decode cX6_findBestRow 29 = .ok (.iload_n 1, 1) := by decide +kernel
theorem dX6_findBestRow_30 : decode cX6_findBestRow 30 = .ok (.invokestatic 264, 3) := by decide +kernel
theorem dX6_findBestRow_33 : decode cX6_findBestRow 33 = .ok (.aload_n 0, 1) := by decide +kernel
theorem dX6_findBestRow_34 : decode cX6_findBestRow 34 = .ok (.iload_n 1, 1) := by decide +kernel
theorem dX6_findBestRow_35 : decode cX6_findBestRow 35 = .ok (.invokevirtual 268, 3) := by decide +kernel
theorem dX6_findBestRow_38 : decode cX6_findBestRow 38 = .ok (.istore_n 2, 1) := by decide +kernel
theorem dX6_findBestRow_39 : decode cX6_findBestRow 39 = .ok (.aload_n 0, 1) := by decide +kernel
theorem dX6_findBestRow_40 : decode cX6_findBestRow 40 = .ok (.getfield 58, 3) := by decide +kernel
theorem dX6_findBestRow_43 : decode cX6_findBestRow 43 = .ok (.iconst 0, 1) := by decide +kernel
theorem dX6_findBestRow_44 : decode cX6_findBestRow 44 = .ok (.aload_n 0, 1) := by decide +kernel
theorem dX6_findBestRow_45 : decode cX6_findBestRow 45 = .ok (.getfield 62, 3) := by decide +kernel
theorem dX6_findBestRow_48 : decode cX6_findBestRow 48 = .ok (.iconst 0, 1) := by decide +kernel
theorem dX6_findBestRow_49 : decode cX6_findBestRow 49 = .ok (.iload_n 1, 1) := by decide +kernel
theorem dX6_findBestRow_50 : decode cX6_findBestRow 50 = .ok (.invokestatic 258, 3) := by decide +kernel
theorem dX6_findBestRow_53 : decode cX6_findBestRow 53 = .ok (.iconst 1, 1) := by decide +kernel
theorem dX6_findBestRow_54 : decode cX6_findBestRow 54 = .ok (.istore_n 3, 1) := by decide +kernel
theorem dX6_findBestRow_55 : decode cX6_findBestRow 55 = .ok (.iload_n 3, 1) := by decide +kernel
theorem dX6_findBestRow_56 : decode cX6_findBestRow 56 = .ok (.bipush 120, 2) := by decide +kernel
theorem dX6_findBestRow_58 : decode cX6_findBestRow 58 = .ok (.if_icmp .ge 50, 3) := by decide +kernel
theorem dX6_findBestRow_61 : decode cX6_findBestRow 61 = .ok (.aload_n 0, 1) := by decide +kernel
theorem dX6_findBestRow_62 : decode cX6_findBestRow 62 = .ok (.getfield 58, 3) := by decide +kernel
theorem dX6_findBestRow_65 : decode cX6_findBestRow 65 = .ok (.iload_n 1, 1) := by decide +kernel
theorem dX6_findBestRow_66 : decode cX6_findBestRow 66 = .ok (.invokestatic 271, 3) := by decide +kernel
theorem dX6_findBestRow_69 : decode cX6_findBestRow 69 = .ok (.ifCond .eq 39, 3) := by decide +kernel
theorem dX6_findBestRow_72 : decode cX6_findBestRow 72 = .ok (.aload_n 0, 1) := by decide +kernel
theorem dX6_findBestRow_73 : decode cX6_findBestRow 73 = .ok (.iload_n 1, 1) := by decide +kernel
theorem dX6_findBestRow_74 : decode cX6_findBestRow 74 = .ok (.invokevirtual 268, 3) := by decide +kernel
theorem dX6_findBestRow_77 : decode cX6_findBestRow 77 = .ok (.istore 4, 2) := by decide +kernel
theorem dX6_findBestRow_79 : decode cX6_findBestRow 79 = .ok (.iload 4, 2) := by decide +kernel
theorem dX6_findBestRow_81 : decode cX6_findBestRow 81 = .ok (.iload_n 2, 1) := by decide +kernel
theorem dX6_findBestRow_82 : decode cX6_findBestRow 82 = .ok (.if_icmp .ge 20, 3) := by decide +kernel
theorem dX6_findBestRow_85 : decode cX6_findBestRow 85 = .ok (.iload 4, 2) := by decide +kernel
theorem dX6_findBestRow_87 : decode cX6_findBestRow 87 = .ok (.istore_n 2, 1) := by decide +kernel
theorem dX6_findBestRow_88 : decode cX6_findBestRow 88 = .ok (.aload_n 0, 1) := by decide +kernel
theorem dX6_findBestRow_89 : decode cX6_findBestRow 89 = .ok (.getfield 58, 3) := by decide +kernel
theorem dX6_findBestRow_92 : decode cX6_findBestRow 92 = .ok (.iconst 0, 1) := by decide +kernel
theorem dX6_findBestRow_93 : decode cX6_findBestRow 93 = .ok (.aload_n 0, 1) := by decide +kernel
theorem dX6_findBestRow_94 : decode cX6_findBestRow 94 = .ok (.getfield 62, 3) := by decide +kernel
theorem dX6_findBestRow_97 : decode cX6_findBestRow 97 = .ok (.iconst 0, 1) := by decide +kernel
theorem dX6_findBestRow_98 : decode cX6_findBestRow 98 = .ok (.iload_n 1, 1) := by decide +kernel
theorem dX6_findBestRow_99 : decode cX6_findBestRow 99 = .ok (.invokestatic 258, 3) := by decide +kernel
theorem dX6_findBestRow_102 : decode cX6_findBestRow 102 = .ok (.iinc 3 1, 3) := by decide +kernel
theorem dX6_findBestRow_105 : decode cX6_findBestRow 105 = .ok (.goto (-50), 3) := by decide +kernel
theorem dX6_findBestRow_108 : decode cX6_findBestRow 108 = .ok (.iload_n 2, 1) := by decide +kernel
theorem dX6_findBestRow_109 : decode cX6_findBestRow 109 = .ok (.ireturn, 1) := by decide +kernel
theorem dX6_tryRow_0 : decode cX6_tryRow 0 = .ok (.aload_n 0, 1) := by decide +kernel
theorem dX6_tryRow_1 : decode cX6_tryRow 1 = .ok (.getfield 16, 3) := by decide +kernel
theorem dX6_tryRow_4 : decode cX6_tryRow 4 = .ok (.aload_n 0, 1) := by decide +kernel
theorem dX6_tryRow_5 : decode cX6_tryRow 5 = .ok (.getfield 10, 3) := by decide +kernel
theorem dX6_tryRow_8 : decode cX6_tryRow 8 = .ok (.invokevirtual 86, 3) := by decide +kernel
theorem dX6_tryRow_11 : decode cX6_tryRow 11 = .ok (.aload_n 0, 1) := by decide +kernel
theorem dX6_tryRow_12 : decode cX6_tryRow 12 = .ok (.getfield 58, 3) := by decide +kernel
theorem dX6_tryRow_15 : decode cX6_tryRow 15 = .ok (.iconst 0, 1) := by decide +kernel
theorem dX6_tryRow_16 : decode cX6_tryRow 16 = .ok (.aload_n 0, 1) := by decide +kernel
theorem dX6_tryRow_17 : decode cX6_tryRow 17 = .ok (.getfield 16, 3) := by decide +kernel
theorem dX6_tryRow_20 : decode cX6_tryRow 20 = .ok (.getfield 140, 3) := by decide +kernel
theorem dX6_tryRow_23 : decode cX6_tryRow 23 = .ok (.iconst 0, 1) := by decide +kernel
theorem dX6_tryRow_24 : decode cX6_tryRow 24 = .ok (.iload_n 1, 1) := by decide +kernel
theorem dX6_tryRow_25 : decode cX6_tryRow 25 = .ok (.invokestatic 258, 3) := by decide +kernel
theorem dX6_tryRow_28 : decode cX6_tryRow 28 = .ok (.aload_n 0, 1) := by decide +kernel
theorem dX6_tryRow_29 : decode cX6_tryRow 29 = .ok (.getfield 16, 3) := by decide +kernel
theorem dX6_tryRow_32 : decode cX6_tryRow 32 = .ok (.bipush 24, 2) := by decide +kernel
theorem dX6_tryRow_34 : decode cX6_tryRow 34 = .ok (.invokevirtual 150, 3) := by decide +kernel
theorem dX6_tryRow_37 : decode cX6_tryRow 37 = .ok (.aload_n 0, 1) := by decide +kernel
theorem dX6_tryRow_38 : decode cX6_tryRow 38 = .ok (.getfield 16, 3) := by decide +kernel
theorem dX6_tryRow_41 : decode cX6_tryRow 41 = .ok (.invokevirtual 107, 3) := by decide +kernel
theorem dX6_tryRow_44 : decode cX6_tryRow 44 = .ok (.ireturn, 1) := by decide +kernel
theorem dX6_sort_0 : decode cX6_sort 0 = .ok (.iconst 0, 1) := by decide +kernel
theorem dX6_sort_1 : decode cX6_sort 1 = .ok (.istore_n 2, 1) := by decide +kernel
theorem dX6_sort_2 : decode cX6_sort 2 = .ok (.iload_n 2, 1) := by decide +kernel
theorem dX6_sort_3 : decode cX6_sort 3 = .ok (.iload_n 1, 1) := by decide +kernel
theorem dX6_sort_4 : decode cX6_sort 4 = .ok (.if_icmp .ge 39, 3) := by decide +kernel
theorem dX6_sort_7 : decode cX6_sort 7 = .ok (.iload_n 2, 1) := by decide +kernel
theorem dX6_sort_8 : decode cX6_sort 8 = .ok (.iconst 1, 1) := by decide +kernel
theorem dX6_sort_9 : decode cX6_sort 9 = .ok (.iadd, 1) := by decide +kernel
theorem dX6_sort_10 : decode cX6_sort 10 = .ok (.istore_n 3, 1) := by decide +kernel
theorem dX6_sort_11 : decode cX6_sort 11 = .ok (.iload_n 3, 1) := by decide +kernel
theorem dX6_sort_12 : decode cX6_sort 12 = .ok (.iload_n 1, 1) := by decide +kernel
theorem dX6_sort_13 : decode cX6_sort 13 = .ok (.if_icmp .ge 24, 3) := by decide +kernel
theorem dX6_sort_16 : decode cX6_sort 16 = .ok (.aload_n 0, 1) := by decide +kernel
theorem dX6_sort_17 : decode cX6_sort 17 = .ok (.iload_n 3, 1) := by decide +kernel
theorem dX6_sort_18 : decode cX6_sort 18 = .ok (.iaload, 1) := by decide +kernel
theorem dX6_sort_19 : decode cX6_sort 19 = .ok (.aload_n 0, 1) := by decide +kernel
theorem dX6_sort_20 : decode cX6_sort 20 = .ok (.iload_n 2, 1) := by decide +kernel
theorem dX6_sort_21 : decode cX6_sort 21 = .ok (.iaload, 1) := by decide +kernel
theorem dX6_sort_22 : decode cX6_sort 22 = .ok (.if_icmp .ge 9, 3) := by decide +kernel
theorem dX6_sort_25 : decode cX6_sort 25 = .ok (.aload_n 0, 1) := by decide +kernel
theorem dX6_sort_26 : decode cX6_sort 26 = .ok (.iload_n 2, 1) := by decide +kernel
theorem dX6_sort_27 : decode cX6_sort 27 = .ok (.iload_n 3, 1) := by decide +kernel
theorem dX6_sort_28 : decode cX6_sort 28 = .ok (.invokestatic 173, 3) := by decide +kernel
theorem dX6_sort_31 : decode cX6_sort 31 = .ok (.iinc 3 1, 3) := by decide +kernel
theorem dX6_sort_34 : decode cX6_sort 34 = .ok (.goto (-23), 3) := by decide +kernel
theorem dX6_sort_37 : decode cX6_sort 37 = .ok (.iinc 2 1, 3) := by decide +kernel
theorem dX6_sort_40 : decode cX6_sort 40 = .ok (.goto (-38), 3) := by decide +kernel
theorem dX6_sort_43 : decode cX6_sort 43 = .ok (.return_, 1) := by decide +kernel
theorem dX6_stepRow_0 : decode cX6_stepRow 0 = .ok (.iload_n 1, 1) := by decide +kernel
theorem dX6_stepRow_1 : decode cX6_stepRow 1 = .ok (.iconst 2, 1) := by decide +kernel
theorem dX6_stepRow_2 : decode cX6_stepRow 2 = .ok (.isub, 1) := by decide +kernel
theorem dX6_stepRow_3 : decode cX6_stepRow 3 = .ok (.istore_n 2, 1) := by decide +kernel
theorem dX6_stepRow_4 : decode cX6_stepRow 4 = .ok (.iload_n 2, 1) := by decide +kernel
theorem dX6_stepRow_5 : decode cX6_stepRow 5 = .ok (.ifCond .lt 20, 3) := by decide +kernel
theorem dX6_stepRow_8 : decode cX6_stepRow 8 = .ok (.aload_n 0, 1) := by decide +kernel
theorem dX6_stepRow_9 : decode cX6_stepRow 9 = .ok (.iload_n 2, 1) := by decide +kernel
theorem dX6_stepRow_10 : decode cX6_stepRow 10 = .ok (.iaload, 1) := by decide +kernel
theorem dX6_stepRow_11 : decode cX6_stepRow 11 = .ok (.aload_n 0, 1) := by decide +kernel
theorem dX6_stepRow_12 : decode cX6_stepRow 12 = .ok (.iload_n 2, 1) := by decide +kernel
theorem dX6_stepRow_13 : decode cX6_stepRow 13 = .ok (.iconst 1, 1) := by decide +kernel
theorem dX6_stepRow_14 : decode cX6_stepRow 14 = .ok (.iadd, 1) := by decide +kernel
theorem dX6_stepRow_15 : decode cX6_stepRow 15 = .ok (.iaload, 1) := by decide +kernel
theorem dX6_stepRow_16 : decode cX6_stepRow 16 = .ok (.if_icmp .lt 9, 3) := by decide +kernel
theorem dX6_stepRow_19 : decode cX6_stepRow 19 = .ok (.iinc 2 (-1), 3) := by decide +kernel
theorem dX6_stepRow_22 : decode cX6_stepRow 22 = .ok (.goto (-18), 3) := by decide +kernel
theorem dX6_stepRow_25 : decode cX6_stepRow 25 = .ok (.iload_n 2, 1) := by decide +kernel
theorem dX6_stepRow_26 : decode cX6_stepRow 26 = .ok (.ifCond .ge 5, 3) := by decide +kernel
theorem dX6_stepRow_29 : decode cX6_stepRow 29 = .ok (.iconst 0, 1) := by decide +kernel
theorem dX6_stepRow_30 : decode cX6_stepRow 30 = .ok (.ireturn, 1) := by decide +kernel
theorem dX6_stepRow_31 : decode cX6_stepRow 31 = .ok (.iload_n 1, 1) := by decide +kernel
theorem dX6_stepRow_32 : decode cX6_stepRow 32 = .ok (.iconst 1, 1) := by decide +kernel
theorem dX6_stepRow_33 : decode cX6_stepRow 33 = .ok (.isub, 1) := by decide +kernel
theorem dX6_stepRow_34 : decode cX6_stepRow 34 = .ok (.istore_n 3, 1) := by decide +kernel
theorem dX6_stepRow_35 : decode cX6_stepRow 35 = .ok (.iload_n 3, 1) := by decide +kernel
theorem dX6_stepRow_36 : decode cX6_stepRow 36 = .ok (.iload_n 2, 1) := by decide +kernel
theorem dX6_stepRow_37 : decode cX6_stepRow 37 = .ok (.if_icmp .le 18, 3) := by decide +kernel
theorem dX6_stepRow_40 : decode cX6_stepRow 40 = .ok (.aload_n 0, 1) := by decide +kernel
theorem dX6_stepRow_41 : decode cX6_stepRow 41 = .ok (.iload_n 3, 1) := by decide +kernel
theorem dX6_stepRow_42 : decode cX6_stepRow 42 = .ok (.iaload, 1) := by decide +kernel
theorem dX6_stepRow_43 : decode cX6_stepRow 43 = .ok (.aload_n 0, 1) := by decide +kernel
theorem dX6_stepRow_44 : decode cX6_stepRow 44 = .ok (.iload_n 2, 1) := by decide +kernel
theorem dX6_stepRow_45 : decode cX6_stepRow 45 = .ok (.iaload, 1) := by decide +kernel
theorem dX6_stepRow_46 : decode cX6_stepRow 46 = .ok (.if_icmp .gt 9, 3) := by decide +kernel
theorem dX6_stepRow_49 : decode cX6_stepRow 49 = .ok (.iinc 3 (-1), 3) := by decide +kernel
theorem dX6_stepRow_52 : decode cX6_stepRow 52 = .ok (.goto (-17), 3) := by decide +kernel
theorem dX6_stepRow_55 : decode cX6_stepRow 55 = .ok (.aload_n 0, 1) := by decide +kernel
theorem dX6_stepRow_56 : decode cX6_stepRow 56 = .ok (.iload_n 2, 1) := by decide +kernel
theorem dX6_stepRow_57 : decode cX6_stepRow 57 = .ok (.iload_n 3, 1) := by decide +kernel
theorem dX6_stepRow_58 : decode cX6_stepRow 58 = .ok (.invokestatic 173, 3) := by decide +kernel
theorem dX6_stepRow_61 : decode cX6_stepRow 61 = .ok (.iload_n 2, 1) := by decide +kernel
theorem dX6_stepRow_62 : decode cX6_stepRow 62 = .ok (.iconst 1, 1) := by decide +kernel
theorem dX6_stepRow_63 : decode cX6_stepRow 63 = .ok (.iadd, 1) := by decide +kernel
theorem dX6_stepRow_64 : decode cX6_stepRow 64 = .ok (.istore 4, 2) := by decide +kernel
theorem dX6_stepRow_66 : decode cX6_stepRow 66 = .ok (.iload_n 1, 1) := by decide +kernel
theorem dX6_stepRow_67 : decode cX6_stepRow 67 = .ok (.iconst 1, 1) := by decide +kernel
theorem dX6_stepRow_68 : decode cX6_stepRow 68 = .ok (.isub, 1) := by decide +kernel
theorem dX6_stepRow_69 : decode cX6_stepRow 69 = .ok (.istore 5, 2) := by decide +kernel
theorem dX6_stepRow_71 : decode cX6_stepRow 71 = .ok (.iload 4, 2) := by decide +kernel
theorem dX6_stepRow_73 : decode cX6_stepRow 73 = .ok (.iload 5, 2) := by decide +kernel
theorem dX6_stepRow_75 : decode cX6_stepRow 75 = .ok (.if_icmp .ge 20, 3) := by decide +kernel
theorem dX6_stepRow_78 : decode cX6_stepRow 78 = .ok (.aload_n 0, 1) := by decide +kernel
theorem dX6_stepRow_79 : decode cX6_stepRow 79 = .ok (.iload 4, 2) := by decide +kernel
theorem dX6_stepRow_81 : decode cX6_stepRow 81 = .ok (.iload 5, 2) := by decide +kernel
theorem dX6_stepRow_83 : decode cX6_stepRow 83 = .ok (.invokestatic 173, 3) := by decide +kernel
theorem dX6_stepRow_86 : decode cX6_stepRow 86 = .ok (.iinc 4 1, 3) := by decide +kernel
theorem dX6_stepRow_89 : decode cX6_stepRow 89 = .ok (.iinc 5 (-1), 3) := by decide +kernel
theorem dX6_stepRow_92 : decode cX6_stepRow 92 = .ok (.goto (-21), 3) := by decide +kernel
theorem dX6_stepRow_95 : decode cX6_stepRow 95 = .ok (.iconst 1, 1) := by decide +kernel
theorem dX6_stepRow_96 : decode cX6_stepRow 96 = .ok (.ireturn, 1) := by decide +kernel
theorem dX6_exchange_0 : decode cX6_exchange 0 = .ok (.aload_n 0, 1) := by decide +kernel
theorem dX6_exchange_1 : decode cX6_exchange 1 = .ok (.iload_n 1, 1) := by decide +kernel
theorem dX6_exchange_2 : decode cX6_exchange 2 = .ok (.iaload, 1) := by decide +kernel
theorem dX6_exchange_3 : decode cX6_exchange 3 = .ok (.istore_n 3, 1) := by decide +kernel
theorem dX6_exchange_4 : decode cX6_exchange 4 = .ok (.aload_n 0, 1) := by decide +kernel
theorem dX6_exchange_5 : decode cX6_exchange 5 = .ok (.iload_n 1, 1) := by decide +kernel
theorem dX6_exchange_6 : decode cX6_exchange 6 = .ok (.aload_n 0, 1) := by decide +kernel
theorem dX6_exchange_7 : decode cX6_exchange 7 = .ok (.iload_n 2, 1) := by decide +kernel
theorem dX6_exchange_8 : decode cX6_exchange 8 = .ok (.iaload, 1) := by decide +kernel
theorem dX6_exchange_9 : decode cX6_exchange 9 = .ok (.iastore, 1) := by decide +kernel
theorem dX6_exchange_10 : decode cX6_exchange 10 = .ok (.aload_n 0, 1) := by decide +kernel
theorem dX6_exchange_11 : decode cX6_exchange 11 = .ok (.iload_n 2, 1) := by decide +kernel
theorem dX6_exchange_12 : decode cX6_exchange 12 = .ok (.iload_n 3, 1) := by decide +kernel
theorem dX6_exchange_13 : decode cX6_exchange 13 = .ok (.iastore, 1) := by decide +kernel
theorem dX6_exchange_14 : decode cX6_exchange 14 = .ok (.return_, 1) := by decide +kernel
theorem dX6_oddsAreTold_0 : decode cX6_oddsAreTold 0 = .ok (.iload_n 0, 1) := by decide +kernel
theorem dX6_oddsAreTold_1 : decode cX6_oddsAreTold 1 = .ok (.iconst 0, 1) := by decide +kernel
theorem dX6_oddsAreTold_2 : decode cX6_oddsAreTold 2 = .ok (.bipush 10, 2) := by decide +kernel
theorem dX6_oddsAreTold_4 : decode cX6_oddsAreTold 4 = .ok (.invokestatic 67, 3) := by decide +kernel
theorem dX6_oddsAreTold_7 : decode cX6_oddsAreTold 7 = .ok (.ifCond .eq 26, 3) := by decide +kernel
theorem dX6_oddsAreTold_10 : decode cX6_oddsAreTold 10 = .ok (.iload_n 1, 1) := by decide +kernel
theorem dX6_oddsAreTold_11 : decode cX6_oddsAreTold 11 = .ok (.iconst 0, 1) := by decide +kernel
theorem dX6_oddsAreTold_12 : decode cX6_oddsAreTold 12 = .ok (.bipush 8, 2) := by decide +kernel
theorem dX6_oddsAreTold_14 : decode cX6_oddsAreTold 14 = .ok (.invokestatic 67, 3) := by decide +kernel
theorem dX6_oddsAreTold_17 : decode cX6_oddsAreTold 17 = .ok (.ifCond .eq 16, 3) := by decide +kernel
theorem dX6_oddsAreTold_20 : decode cX6_oddsAreTold 20 = .ok (.iload_n 2, 1) := by decide +kernel
theorem dX6_oddsAreTold_21 : decode cX6_oddsAreTold 21 = .ok (.iconst 0, 1) := by decide +kernel
theorem dX6_oddsAreTold_22 : decode cX6_oddsAreTold 22 = .ok (.iconst 1, 1) := by decide +kernel
theorem dX6_oddsAreTold_23 : decode cX6_oddsAreTold 23 = .ok (.invokestatic 67, 3) := by decide +kernel
theorem dX6_oddsAreTold_26 : decode cX6_oddsAreTold 26 = .ok (.ifCond .eq 7, 3) := by decide +kernel
theorem dX6_oddsAreTold_29 : decode cX6_oddsAreTold 29 = .ok (.iconst 1, 1) := by decide +kernel
theorem dX6_oddsAreTold_30 : decode cX6_oddsAreTold 30 = .ok (.goto 4, 3) := by decide +kernel
theorem dX6_oddsAreTold_33 : decode cX6_oddsAreTold 33 = .ok (.iconst 0, 1) := by decide +kernel
theorem dX6_oddsAreTold_34 : decode cX6_oddsAreTold 34 = .ok (.ireturn, 1) := by decide +kernel
theorem dX6_passForgetting_0 : decode cX6_passForgetting 0 = .ok (.aload_n 0, 1) := by decide +kernel
theorem dX6_passForgetting_1 : decode cX6_passForgetting 1 = .ok (.getfield 16, 3) := by decide +kernel
theorem dX6_passForgetting_4 : decode cX6_passForgetting 4 = .ok (.aload_n 0, 1) := by decide +kernel
theorem dX6_passForgetting_5 : decode cX6_passForgetting 5 = .ok (.getfield 10, 3) := by decide +kernel
theorem dX6_passForgetting_8 : decode cX6_passForgetting 8 = .ok (.invokevirtual 86, 3) := by decide +kernel
theorem dX6_passForgetting_11 : decode cX6_passForgetting 11 = .ok (.lconst 1, 1) := by decide +kernel
theorem dX6_passForgetting_12 : decode cX6_passForgetting 12 = .ok (.lstore 4, 2) := by decide +kernel
theorem dX6_passForgetting_14 : decode cX6_passForgetting 14 = .ok (.iconst 0, 1) := by decide +kernel
theorem dX6_passForgetting_15 : decode cX6_passForgetting 15 = .ok (.istore 6, 2) := by decide +kernel
theorem dX6_passForgetting_17 : decode cX6_passForgetting 17 = .ok (.iload 6, 2) := by decide +kernel
theorem dX6_passForgetting_19 : decode cX6_passForgetting 19 = .ok (.iload_n 3, 1) := by decide +kernel
theorem dX6_passForgetting_20 : decode cX6_passForgetting 20 = .ok (.if_icmp .ge 59, 3) := by decide +kernel
theorem dX6_passForgetting_23 : decode cX6_passForgetting 23 = .ok (.iload_n 1, 1) := by decide +kernel
theorem dX6_passForgetting_24 : decode cX6_passForgetting 24 = .ok (.iload 6, 2) := by decide +kernel
theorem dX6_passForgetting_26 : decode cX6_passForgetting 26 = .ok (.ishr, 1) := by decide +kernel
theorem dX6_passForgetting_27 : decode cX6_passForgetting 27 = .ok (.iconst 1, 1) := by decide +kernel
theorem dX6_passForgetting_28 : decode cX6_passForgetting 28 = .ok (.iand, 1) := by decide +kernel
theorem dX6_passForgetting_29 : decode cX6_passForgetting 29 = .ok (.iconst 1, 1) := by decide +kernel
theorem dX6_passForgetting_30 : decode cX6_passForgetting 30 = .ok (.if_icmp .ne 26, 3) := by decide +kernel
theorem dX6_passForgetting_33 : decode cX6_passForgetting 33 = .ok (.aload_n 0, 1) := by decide +kernel
theorem dX6_passForgetting_34 : decode cX6_passForgetting 34 = .ok (.getfield 16, 3) := by decide +kernel
theorem dX6_passForgetting_37 : decode cX6_passForgetting 37 = .ok (.dup, 1) := by decide +kernel
theorem dX6_passForgetting_38 : decode cX6_passForgetting 38 = .ok (.getfield 98, 3) := by decide +kernel
theorem dX6_passForgetting_41 : decode cX6_passForgetting 41 = .ok (.iconst 1, 1) := by decide +kernel
theorem dX6_passForgetting_42 : decode cX6_passForgetting 42 = .ok (.iadd, 1) := by decide +kernel
theorem dX6_passForgetting_43 : decode cX6_passForgetting 43 = .ok (.putfield 98, 3) := by decide +kernel
theorem dX6_passForgetting_46 : decode cX6_passForgetting 46 = .ok (.lload 4, 2) := by decide +kernel
theorem dX6_passForgetting_48 : decode cX6_passForgetting 48 = .ok (.iload_n 2, 1) := by decide +kernel
theorem dX6_passForgetting_49 : decode cX6_passForgetting 49 = .ok (.i2l, 1) := by decide +kernel
theorem dX6_passForgetting_50 : decode cX6_passForgetting 50 = .ok (.lmul, 1) := by decide +kernel
theorem dX6_passForgetting_51 : decode cX6_passForgetting 51 = .ok (.lstore 4, 2) := by decide +kernel
theorem dX6_passForgetting_53 : decode cX6_passForgetting 53 = .ok (.goto 20, 3) := by decide +kernel
theorem dX6_passForgetting_56 : decode cX6_passForgetting 56 = .ok (.aload_n 0, 1) := by decide +kernel
theorem dX6_passForgetting_57 : decode cX6_passForgetting 57 = .ok (.getfield 16, 3) := by decide +kernel
theorem dX6_passForgetting_60 : decode cX6_passForgetting 60 = .ok (.invokevirtual 156, 3) := by decide +kernel
theorem dX6_passForgetting_63 : decode cX6_passForgetting 63 = .ok (.lload 4, 2) := by decide +kernel
theorem dX6_passForgetting_65 : decode cX6_passForgetting 65 = .ok (.bipush 10, 2) := by decide +kernel
theorem dX6_passForgetting_67 : decode cX6_passForgetting 67 = .ok (.iload_n 2, 1) := by decide +kernel
theorem dX6_passForgetting_68 : decode cX6_passForgetting 68 = .ok (.isub, 1) := by decide +kernel
theorem dX6_passForgetting_69 : decode cX6_passForgetting 69 = .ok (.i2l, 1) := by decide +kernel
theorem dX6_passForgetting_70 : decode cX6_passForgetting 70 = .ok (.lmul, 1) := by decide +kernel
theorem dX6_passForgetting_71 : decode cX6_passForgetting 71 = .ok (.lstore 4, 2) := by decide +kernel
theorem dX6_passForgetting_73 : decode cX6_passForgetting 73 = .ok (.iinc 6 1, 3) := by decide +kernel
theorem dX6_passForgetting_76 : decode cX6_passForgetting 76 = .ok (.goto (-59), 3) := by decide +kernel
theorem dX6_passForgetting_79 : decode cX6_passForgetting 79 = .ok (.lload 4, 2) := by decide +kernel
theorem dX6_passForgetting_81 : decode cX6_passForgetting 81 = .ok (.lreturn, 1) := by decide +kernel
theorem dX6_tens_0 : decode cX6_tens 0 = .ok (.lconst 1, 1) := by decide +kernel
theorem dX6_tens_1 : decode cX6_tens 1 = .ok (.lstore_n 1, 1) := by decide +kernel
theorem dX6_tens_2 : decode cX6_tens 2 = .ok (.iconst 0, 1) := by decide +kernel
theorem dX6_tens_3 : decode cX6_tens 3 = .ok (.istore_n 3, 1) := by decide +kernel
theorem dX6_tens_4 : decode cX6_tens 4 = .ok (.iload_n 3, 1) := by decide +kernel
theorem dX6_tens_5 : decode cX6_tens 5 = .ok (.iload_n 0, 1) := by decide +kernel
theorem dX6_tens_6 : decode cX6_tens 6 = .ok (.if_icmp .ge 15, 3) := by decide +kernel
theorem dX6_tens_9 : decode cX6_tens 9 = .ok (.lload_n 1, 1) := by decide +kernel
theorem dX6_tens_10 : decode cX6_tens 10 = .ok (.ldc2_w 275, 3) := by decide +kernel
theorem dX6_tens_13 : decode cX6_tens 13 = .ok (.lmul, 1) := by decide +kernel
theorem dX6_tens_14 : decode cX6_tens 14 = .ok (.lstore_n 1, 1) := by decide +kernel
theorem dX6_tens_15 : decode cX6_tens 15 = .ok (.iinc 3 1, 3) := by decide +kernel
theorem dX6_tens_18 : decode cX6_tens 18 = .ok (.goto (-14), 3) := by decide +kernel
theorem dX6_tens_21 : decode cX6_tens 21 = .ok (.lload_n 1, 1) := by decide +kernel
theorem dX6_tens_22 : decode cX6_tens 22 = .ok (.lreturn, 1) := by decide +kernel
theorem dX6_fraction_0 : decode cX6_fraction 0 = .ok (.lload_n 0, 1) := by decide +kernel
theorem dX6_fraction_1 : decode cX6_fraction 1 = .ok (.lload_n 2, 1) := by decide +kernel
theorem dX6_fraction_2 : decode cX6_fraction 2 = .ok (.invokestatic 277, 3) := by decide +kernel
theorem dX6_fraction_5 : decode cX6_fraction 5 = .ok (.lstore 5, 2) := by decide +kernel
theorem dX6_fraction_7 : decode cX6_fraction 7 = .ok (.lload 5, 2) := by decide +kernel
theorem dX6_fraction_9 : decode cX6_fraction 9 = .ok (.lconst 0, 1) := by decide +kernel
theorem dX6_fraction_10 : decode cX6_fraction 10 = .ok (.lcmp, 1) := by decide +kernel
theorem dX6_fraction_11 : decode cX6_fraction 11 = .ok (.ifCond .gt 7, 3) := by decide +kernel
theorem dX6_fraction_14 : decode cX6_fraction 14 = .ok (.ldc2_w 183, 3) := by decide +kernel
theorem dX6_fraction_17 : decode cX6_fraction 17 = .ok (.lreturn, 1) := by decide +kernel
theorem dX6_fraction_18 : decode cX6_fraction 18 = .ok (.iload 4, 2) := by decide +kernel
theorem dX6_fraction_20 : decode cX6_fraction 20 = .ok (.ifCond .ne 10, 3) := by decide +kernel
theorem dX6_fraction_23 : decode cX6_fraction 23 = .ok (.lload_n 0, 1) := by decide +kernel
theorem dX6_fraction_24 : decode cX6_fraction 24 = .ok (.lload 5, 2) := by decide +kernel
theorem dX6_fraction_26 : decode cX6_fraction 26 = .ok (.ldiv, 1) := by decide +kernel
theorem dX6_fraction_27 : decode cX6_fraction 27 = .ok (.goto 7, 3) := by decide +kernel
theorem dX6_fraction_30 : decode cX6_fraction 30 = .ok (.lload_n 2, 1) := by decide +kernel
theorem dX6_fraction_31 : decode cX6_fraction 31 = .ok (.lload 5, 2) := by decide +kernel
theorem dX6_fraction_33 : decode cX6_fraction 33 = .ok (.ldiv, 1) := by decide +kernel
theorem dX6_fraction_34 : decode cX6_fraction 34 = .ok (.lreturn, 1) := by decide +kernel
theorem dX6_divisor_0 : decode cX6_divisor 0 = .ok (.lload_n 0, 1) := by decide +kernel
theorem dX6_divisor_1 : decode cX6_divisor 1 = .ok (.lstore 4, 2) := by decide +kernel
theorem dX6_divisor_3 : decode cX6_divisor 3 = .ok (.lload_n 2, 1) := by decide +kernel
theorem dX6_divisor_4 : decode cX6_divisor 4 = .ok (.lstore 6, 2) := by decide +kernel
theorem dX6_divisor_6 : decode cX6_divisor 6 = .ok (.iconst 0, 1) := by decide +kernel
theorem dX6_divisor_7 : decode cX6_divisor 7 = .ok (.istore 8, 2) := by decide +kernel
theorem dX6_divisor_9 : decode cX6_divisor 9 = .ok (.iload 8, 2) := by decide +kernel
theorem dX6_divisor_11 : decode cX6_divisor 11 = .ok (.sipush 130, 3) := by decide +kernel
theorem dX6_divisor_14 : decode cX6_divisor 14 = .ok (.if_icmp .ge 31, 3) := by decide +kernel
theorem dX6_divisor_17 : decode cX6_divisor 17 = .ok (.lload 6, 2) := by decide +kernel
theorem dX6_divisor_19 : decode cX6_divisor 19 = .ok (.lconst 0, 1) := by decide +kernel
theorem dX6_divisor_20 : decode cX6_divisor 20 = .ok (.lcmp, 1) := by decide +kernel
theorem dX6_divisor_21 : decode cX6_divisor 21 = .ok (.ifCond .eq 24, 3) := by decide +kernel
theorem dX6_divisor_24 : decode cX6_divisor 24 = .ok (.lload 4, 2) := by decide +kernel
theorem dX6_divisor_26 : decode cX6_divisor 26 = .ok (.lload 6, 2) := by decide +kernel
theorem dX6_divisor_28 : decode cX6_divisor 28 = .ok (.lrem, 1) := by decide +kernel
theorem dX6_divisor_29 : decode cX6_divisor 29 = .ok (.lstore 9, 2) := by decide +kernel
theorem dX6_divisor_31 : decode cX6_divisor 31 = .ok (.lload 6, 2) := by decide +kernel
theorem dX6_divisor_33 : decode cX6_divisor 33 = .ok (.lstore 4, 2) := by decide +kernel
theorem dX6_divisor_35 : decode cX6_divisor 35 = .ok (.lload 9, 2) := by decide +kernel
theorem dX6_divisor_37 : decode cX6_divisor 37 = .ok (.lstore 6, 2) := by decide +kernel
theorem dX6_divisor_39 : decode cX6_divisor 39 = .ok (.iinc 8 1, 3) := by decide +kernel
theorem dX6_divisor_42 : decode cX6_divisor 42 = .ok (.goto (-33), 3) := by decide +kernel
theorem dX6_divisor_45 : decode cX6_divisor 45 = .ok (.lload 4, 2) := by decide +kernel
theorem dX6_divisor_47 : decode cX6_divisor 47 = .ok (.lreturn, 1) := by decide +kernel
theorem dX6_fittingKinds_0 : decode cX6_fittingKinds 0 = .ok (.iconst 0, 1) := by decide +kernel
theorem dX6_fittingKinds_1 : decode cX6_fittingKinds 1 = .ok (.istore_n 2, 1) := by decide +kernel
theorem dX6_fittingKinds_2 : decode cX6_fittingKinds 2 = .ok (.iconst 0, 1) := by decide +kernel
theorem dX6_fittingKinds_3 : decode cX6_fittingKinds 3 = .ok (.istore_n 3, 1) := by decide +kernel
theorem dX6_fittingKinds_4 : decode cX6_fittingKinds 4 = .ok (.iload_n 3, 1) := by decide +kernel
theorem dX6_fittingKinds_5 : decode cX6_fittingKinds 5 = .ok (.iconst 4, 1) := by decide +kernel
theorem dX6_fittingKinds_6 : decode cX6_fittingKinds 6 = .ok (.if_icmp .ge 50, 3) := by decide +kernel
theorem dX6_fittingKinds_9 : decode cX6_fittingKinds 9 = .ok (.aload_n 0, 1) := by decide +kernel
theorem dX6_fittingKinds_10 : decode cX6_fittingKinds 10 = .ok (.getfield 16, 3) := by decide +kernel
theorem dX6_fittingKinds_13 : decode cX6_fittingKinds 13 = .ok (.aload_n 0, 1) := by decide +kernel
theorem dX6_fittingKinds_14 : decode cX6_fittingKinds 14 = .ok (.getfield 10, 3) := by decide +kernel
theorem dX6_fittingKinds_17 : decode cX6_fittingKinds 17 = .ok (.invokevirtual 86, 3) := by decide +kernel
theorem dX6_fittingKinds_20 : decode cX6_fittingKinds 20 = .ok (.aload_n 0, 1) := by decide +kernel
theorem dX6_fittingKinds_21 : decode cX6_fittingKinds 21 = .ok (.getfield 16, 3) := by decide +kernel
theorem dX6_fittingKinds_24 : decode cX6_fittingKinds 24 = .ok (.getfield 120, 3) := by decide +kernel
theorem dX6_fittingKinds_27 : decode cX6_fittingKinds 27 = .ok (.iload_n 1, 1) := by decide +kernel
theorem dX6_fittingKinds_28 : decode cX6_fittingKinds 28 = .ok (.iload_n 3, 1) := by decide +kernel
theorem dX6_fittingKinds_29 : decode cX6_fittingKinds 29 = .ok (.iastore, 1) := by decide +kernel
theorem dX6_fittingKinds_30 : decode cX6_fittingKinds 30 = .ok (.aload_n 0, 1) := by decide +kernel
theorem dX6_fittingKinds_31 : decode cX6_fittingKinds 31 = .ok (.getfield 26, 3) := by decide +kernel
theorem dX6_fittingKinds_34 : decode cX6_fittingKinds 34 = .ok (.aload_n 0, 1) := by decide +kernel
theorem dX6_fittingKinds_35 : decode cX6_fittingKinds 35 = .ok (.getfield 16, 3) := by decide +kernel
theorem dX6_fittingKinds_38 : decode cX6_fittingKinds 38 = .ok (.invokevirtual 204, 3) := by decide +kernel
theorem dX6_fittingKinds_41 : decode cX6_fittingKinds 41 = .ok (.ifCond .eq 9, 3) := by decide +kernel
theorem dX6_fittingKinds_44 : decode cX6_fittingKinds 44 = .ok (.iload_n 2, 1) := by decide +kernel
theorem dX6_fittingKinds_45 : decode cX6_fittingKinds 45 = .ok (.iconst 1, 1) := by decide +kernel
theorem dX6_fittingKinds_46 : decode cX6_fittingKinds 46 = .ok (.iload_n 3, 1) := by decide +kernel
theorem dX6_fittingKinds_47 : decode cX6_fittingKinds 47 = .ok (.ishl, 1) := by decide +kernel
theorem dX6_fittingKinds_48 : decode cX6_fittingKinds 48 = .ok (.ior, 1) := by decide +kernel
theorem dX6_fittingKinds_49 : decode cX6_fittingKinds 49 = .ok (.istore_n 2, 1) := by decide +kernel
theorem dX6_fittingKinds_50 : decode cX6_fittingKinds 50 = .ok (.iinc 3 1, 3) := by decide +kernel
theorem dX6_fittingKinds_53 : decode cX6_fittingKinds 53 = .ok (.goto (-49), 3) := by decide +kernel
theorem dX6_fittingKinds_56 : decode cX6_fittingKinds 56 = .ok (.iload_n 2, 1) := by decide +kernel
theorem dX6_fittingKinds_57 : decode cX6_fittingKinds 57 = .ok (.ireturn, 1) := by decide +kernel
theorem dX6_mostAlike_0 : decode cX6_mostAlike 0 = .ok (.iconst 0, 1) := by decide +kernel
theorem dX6_mostAlike_1 : decode cX6_mostAlike 1 = .ok (.istore_n 3, 1) := by decide +kernel
theorem dX6_mostAlike_2 : decode cX6_mostAlike 2 = .ok (.iconst 0, 1) := by decide +kernel
theorem dX6_mostAlike_3 : decode cX6_mostAlike 3 = .ok (.istore 4, 2) := by decide +kernel
theorem dX6_mostAlike_5 : decode cX6_mostAlike 5 = .ok (.iload 4, 2) := by decide +kernel
theorem dX6_mostAlike_7 : decode cX6_mostAlike 7 = .ok (.iconst 4, 1) := by decide +kernel
theorem dX6_mostAlike_8 : decode cX6_mostAlike 8 = .ok (.if_icmp .ge 79, 3) := by decide +kernel
theorem dX6_mostAlike_11 : decode cX6_mostAlike 11 = .ok (.iconst 0, 1) := by decide +kernel
theorem dX6_mostAlike_12 : decode cX6_mostAlike 12 = .ok (.istore 5, 2) := by decide +kernel
theorem dX6_mostAlike_14 : decode cX6_mostAlike 14 = .ok (.iconst 0, 1) := by decide +kernel
theorem dX6_mostAlike_15 : decode cX6_mostAlike 15 = .ok (.istore 6, 2) := by decide +kernel
theorem dX6_mostAlike_17 : decode cX6_mostAlike 17 = .ok (.iload 6, 2) := by decide +kernel
theorem dX6_mostAlike_19 : decode cX6_mostAlike 19 = .ok (.iconst 4, 1) := by decide +kernel
theorem dX6_mostAlike_20 : decode cX6_mostAlike 20 = .ok (.if_icmp .ge 54, 3) := by decide +kernel
theorem dX6_mostAlike_23 : decode cX6_mostAlike 23 = .ok (.iload_n 1, 1) := by decide +kernel
theorem dX6_mostAlike_24 : decode cX6_mostAlike 24 = .ok (.iload 4, 2) := by decide +kernel
theorem dX6_mostAlike_26 : decode cX6_mostAlike 26 = .ok (.ishr, 1) := by decide +kernel
theorem dX6_mostAlike_27 : decode cX6_mostAlike 27 = .ok (.iload_n 1, 1) := by decide +kernel
theorem dX6_mostAlike_28 : decode cX6_mostAlike 28 = .ok (.iload 6, 2) := by decide +kernel
theorem dX6_mostAlike_30 : decode cX6_mostAlike 30 = .ok (.ishr, 1) := by decide +kernel
theorem dX6_mostAlike_31 : decode cX6_mostAlike 31 = .ok (.iand, 1) := by decide +kernel
theorem dX6_mostAlike_32 : decode cX6_mostAlike 32 = .ok (.iconst 1, 1) := by decide +kernel
theorem dX6_mostAlike_33 : decode cX6_mostAlike 33 = .ok (.iand, 1) := by decide +kernel
theorem dX6_mostAlike_34 : decode cX6_mostAlike 34 = .ok (.iconst 1, 1) := by decide +kernel
theorem dX6_mostAlike_35 : decode cX6_mostAlike 35 = .ok (.if_icmp .ne 33, 3) := by decide +kernel
theorem dX6_mostAlike_38 : decode cX6_mostAlike 38 = .ok (.aload_n 0, 1) := by decide +kernel
theorem dX6_mostAlike_39 : decode cX6_mostAlike 39 = .ok (.getfield 19, 3) := by decide +kernel
theorem dX6_mostAlike_42 : decode cX6_mostAlike 42 = .ok (.iload 4, 2) := by decide +kernel
theorem dX6_mostAlike_44 : decode cX6_mostAlike 44 = .ok (.aaload, 1) := by decide +kernel
theorem dX6_mostAlike_45 : decode cX6_mostAlike 45 = .ok (.getfield 123, 3) := by decide +kernel
theorem dX6_mostAlike_48 : decode cX6_mostAlike 48 = .ok (.iload_n 2, 1) := by decide +kernel
theorem dX6_mostAlike_49 : decode cX6_mostAlike 49 = .ok (.iaload, 1) := by decide +kernel
theorem dX6_mostAlike_50 : decode cX6_mostAlike 50 = .ok (.aload_n 0, 1) := by decide +kernel
theorem dX6_mostAlike_51 : decode cX6_mostAlike 51 = .ok (.getfield 19, 3) := by decide +kernel
theorem dX6_mostAlike_54 : decode cX6_mostAlike 54 = .ok (.iload 6, 2) := by decide +kernel
theorem dX6_mostAlike_56 : decode cX6_mostAlike 56 = .ok (.aaload, 1) := by decide +kernel
theorem dX6_mostAlike_57 : decode cX6_mostAlike 57 = .ok (.getfield 123, 3) := by decide +kernel
theorem dX6_mostAlike_60 : decode cX6_mostAlike 60 = .ok (.iload_n 2, 1) := by decide +kernel
theorem dX6_mostAlike_61 : decode cX6_mostAlike 61 = .ok (.iaload, 1) := by decide +kernel
theorem dX6_mostAlike_62 : decode cX6_mostAlike 62 = .ok (.if_icmp .ne 6, 3) := by decide +kernel
theorem dX6_mostAlike_65 : decode cX6_mostAlike 65 = .ok (.iinc 5 1, 3) := by decide +kernel
theorem dX6_mostAlike_68 : decode cX6_mostAlike 68 = .ok (.iinc 6 1, 3) := by decide +kernel
theorem dX6_mostAlike_71 : decode cX6_mostAlike 71 = .ok (.goto (-54), 3) := by decide +kernel
theorem dX6_mostAlike_74 : decode cX6_mostAlike 74 = .ok (.iload_n 3, 1) := by decide +kernel
theorem dX6_mostAlike_75 : decode cX6_mostAlike 75 = .ok (.iload 5, 2) := by decide +kernel
theorem dX6_mostAlike_77 : decode cX6_mostAlike 77 = .ok (.invokestatic 159, 3) := by decide +kernel
theorem dX6_mostAlike_80 : decode cX6_mostAlike 80 = .ok (.istore_n 3, 1) := by decide +kernel
theorem dX6_mostAlike_81 : decode cX6_mostAlike 81 = .ok (.iinc 4 1, 3) := by decide +kernel
theorem dX6_mostAlike_84 : decode cX6_mostAlike 84 = .ok (.goto (-79), 3) := by decide +kernel
theorem dX6_mostAlike_87 : decode cX6_mostAlike 87 = .ok (.iload_n 3, 1) := by decide +kernel
theorem dX6_mostAlike_88 : decode cX6_mostAlike 88 = .ok (.ireturn, 1) := by decide +kernel
theorem dX7_init_0 : decode cX7_init 0 = .ok (.aload_n 0, 1) := by decide +kernel
theorem dX7_init_1 : decode cX7_init 1 = .ok (.invokespecial 1, 3) := by decide +kernel
theorem dX7_init_4 : decode cX7_init 4 = .ok (.aload_n 0, 1) := by decide +kernel
theorem dX7_init_5 : decode cX7_init 5 = .ok (.sipush 138, 3) := by decide +kernel
theorem dX7_init_8 : decode cX7_init 8 = .ok (.newarray .int, 2) := by decide +kernel
theorem dX7_init_10 : decode cX7_init 10 = .ok (.putfield 7, 3) := by decide +kernel
theorem dX7_init_13 : decode cX7_init 13 = .ok (.aload_n 0, 1) := by decide +kernel
theorem dX7_init_14 : decode cX7_init 14 = .ok (.bipush 46, 2) := by decide +kernel
theorem dX7_init_16 : decode cX7_init 16 = .ok (.newarray .int, 2) := by decide +kernel
theorem dX7_init_18 : decode cX7_init 18 = .ok (.putfield 13, 3) := by decide +kernel
theorem dX7_init_21 : decode cX7_init 21 = .ok (.aload_n 0, 1) := by decide +kernel
theorem dX7_init_22 : decode cX7_init 22 = .ok (.iconst 2, 1) := by decide +kernel
theorem dX7_init_23 : decode cX7_init 23 = .ok (.newarray .boolean, 2) := by decide +kernel
theorem dX7_init_25 : decode cX7_init 25 = .ok (.putfield 16, 3) := by decide +kernel
theorem dX7_init_28 : decode cX7_init 28 = .ok (.aload_n 0, 1) := by decide +kernel
theorem dX7_init_29 : decode cX7_init 29 = .ok (.bipush 46, 2) := by decide +kernel
theorem dX7_init_31 : decode cX7_init 31 = .ok (.newarray .int, 2) := by decide +kernel
theorem dX7_init_33 : decode cX7_init 33 = .ok (.putfield 20, 3) := by decide +kernel
theorem dX7_init_36 : decode cX7_init 36 = .ok (.aload_n 0, 1) := by decide +kernel
theorem dX7_init_37 : decode cX7_init 37 = .ok (.sipush 160, 3) := by decide +kernel
theorem dX7_init_40 : decode cX7_init 40 = .ok (.newarray .int, 2) := by decide +kernel
theorem dX7_init_42 : decode cX7_init 42 = .ok (.putfield 23, 3) := by decide +kernel
theorem dX7_init_45 : decode cX7_init 45 = .ok (.aload_n 0, 1) := by decide +kernel
theorem dX7_init_46 : decode cX7_init 46 = .ok (.iconst 5, 1) := by decide +kernel
theorem dX7_init_47 : decode cX7_init 47 = .ok (.newarray .int, 2) := by decide +kernel
theorem dX7_init_49 : decode cX7_init 49 = .ok (.putfield 26, 3) := by decide +kernel
theorem dX7_init_52 : decode cX7_init 52 = .ok (.aload_n 0, 1) := by decide +kernel
theorem dX7_init_53 : decode cX7_init 53 = .ok (.iconst 5, 1) := by decide +kernel
theorem dX7_init_54 : decode cX7_init 54 = .ok (.newarray .int, 2) := by decide +kernel
theorem dX7_init_56 : decode cX7_init 56 = .ok (.putfield 29, 3) := by decide +kernel
theorem dX7_init_59 : decode cX7_init 59 = .ok (.aload_n 0, 1) := by decide +kernel
theorem dX7_init_60 : decode cX7_init 60 = .ok (.bipush 125, 2) := by decide +kernel
theorem dX7_init_62 : decode cX7_init 62 = .ok (.newarray .int, 2) := by decide +kernel
theorem dX7_init_64 : decode cX7_init 64 = .ok (.putfield 32, 3) := by decide +kernel
theorem dX7_init_67 : decode cX7_init 67 = .ok (.aload_n 0, 1) := by decide +kernel
theorem dX7_init_68 : decode cX7_init 68 = .ok (.sipush 500, 3) := by decide +kernel
theorem dX7_init_71 : decode cX7_init 71 = .ok (.newarray .int, 2) := by decide +kernel
theorem dX7_init_73 : decode cX7_init 73 = .ok (.putfield 35, 3) := by decide +kernel
theorem dX7_init_76 : decode cX7_init 76 = .ok (.aload_n 0, 1) := by decide +kernel
theorem dX7_init_77 : decode cX7_init 77 = .ok (.iconst 4, 1) := by decide +kernel
theorem dX7_init_78 : decode cX7_init 78 = .ok (.newarray .int, 2) := by decide +kernel
theorem dX7_init_80 : decode cX7_init 80 = .ok (.putfield 38, 3) := by decide +kernel
theorem dX7_init_83 : decode cX7_init 83 = .ok (.aload_n 0, 1) := by decide +kernel
theorem dX7_init_84 : decode cX7_init 84 = .ok (.iconst 4, 1) := by decide +kernel
theorem dX7_init_85 : decode cX7_init 85 = .ok (.newarray .int, 2) := by decide +kernel
theorem dX7_init_87 : decode cX7_init 87 = .ok (.putfield 41, 3) := by decide +kernel
theorem dX7_init_90 : decode cX7_init 90 = .ok (.aload_n 0, 1) := by decide +kernel
theorem dX7_init_91 : decode cX7_init 91 = .ok (.sipush 160, 3) := by decide +kernel
theorem dX7_init_94 : decode cX7_init 94 = .ok (.newarray .int, 2) := by decide +kernel
theorem dX7_init_96 : decode cX7_init 96 = .ok (.putfield 44, 3) := by decide +kernel
theorem dX7_init_99 : decode cX7_init 99 = .ok (.aload_n 0, 1) := by decide +kernel
theorem dX7_init_100 : decode cX7_init 100 = .ok (.bipush 46, 2) := by decide +kernel
theorem dX7_init_102 : decode cX7_init 102 = .ok (.newarray .int, 2) := by decide +kernel
theorem dX7_init_104 : decode cX7_init 104 = .ok (.putfield 47, 3) := by decide +kernel
theorem dX7_init_107 : decode cX7_init 107 = .ok (.iconst 0, 1) := by decide +kernel
theorem dX7_init_108 : decode cX7_init 108 = .ok (.istore_n 1, 1) := by decide +kernel
theorem dX7_init_109 : decode cX7_init 109 = .ok (.iload_n 1, 1) := by decide +kernel
theorem dX7_init_110 : decode cX7_init 110 = .ok (.iconst 4, 1) := by decide +kernel
theorem dX7_init_111 : decode cX7_init 111 = .ok (.if_icmp .ge 17, 3) := by decide +kernel
theorem dX7_init_114 : decode cX7_init 114 = .ok (.aload_n 0, 1) := by decide +kernel
theorem dX7_init_115 : decode cX7_init 115 = .ok (.getfield 38, 3) := by decide +kernel
theorem dX7_init_118 : decode cX7_init 118 = .ok (.iload_n 1, 1) := by decide +kernel
theorem dX7_init_119 : decode cX7_init 119 = .ok (.bipush (-4), 2) := by decide +kernel
theorem dX7_init_121 : decode cX7_init 121 = .ok (.iastore, 1) := by decide +kernel
theorem dX7_init_122 : decode cX7_init 122 = .ok (.iinc 1 1, 3) := by decide +kernel
theorem dX7_init_125 : decode cX7_init 125 = .ok (.goto (-16), 3) := by decide +kernel
theorem dX7_init_128 : decode cX7_init 128 = .ok (.aload_n 0, 1) := by decide +kernel
theorem dX7_init_129 : decode cX7_init 129 = .ok (.invokevirtual 50, 3) := by decide +kernel
theorem dX7_init_132 : decode cX7_init 132 = .ok (.aload_n 0, 1) := by decide +kernel
theorem dX7_init_133 : decode cX7_init 133 = .ok (.invokevirtual 53, 3) := by decide +kernel
theorem dX7_init_136 : decode cX7_init 136 = .ok (.return_, 1) := by decide +kernel
theorem dX7_in_0 : decode cX7_in 0 = .ok (.lload_n 0, 1) := by decide +kernel
theorem dX7_in_1 : decode cX7_in 1 = .ok (.lload_n 2, 1) := by decide +kernel
theorem dX7_in_2 : decode cX7_in 2 = .ok (.lcmp, 1) := by decide +kernel
theorem dX7_in_3 : decode cX7_in 3 = .ok (.ifCond .lt 14, 3) := by decide +kernel
theorem dX7_in_6 : decode cX7_in 6 = .ok (.lload_n 0, 1) := by decide +kernel
theorem dX7_in_7 : decode cX7_in 7 = .ok (.lload 4, 2) := by decide +kernel
theorem dX7_in_9 : decode cX7_in 9 = .ok (.lcmp, 1) := by decide +kernel
theorem dX7_in_10 : decode cX7_in 10 = .ok (.ifCond .gt 7, 3) := by decide +kernel
theorem dX7_in_13 : decode cX7_in 13 = .ok (.iconst 1, 1) := by decide +kernel
theorem dX7_in_14 : decode cX7_in 14 = .ok (.goto 4, 3) := by decide +kernel
theorem dX7_in_17 : decode cX7_in 17 = .ok (.iconst 0, 1) := by decide +kernel
theorem dX7_in_18 : decode cX7_in 18 = .ok (.ireturn, 1) := by decide +kernel
theorem dX7_flag_0 : decode cX7_flag 0 = .ok (.iload_n 0, 1) := by decide +kernel
theorem dX7_flag_1 : decode cX7_flag 1 = .ok (.ifCond .eq 7, 3) := by decide +kernel
theorem dX7_flag_4 : decode cX7_flag 4 = .ok (.iconst 1, 1) := by decide +kernel
theorem dX7_flag_5 : decode cX7_flag 5 = .ok (.goto 4, 3) := by decide +kernel
theorem dX7_flag_8 : decode cX7_flag 8 = .ok (.iconst 0, 1) := by decide +kernel
theorem dX7_flag_9 : decode cX7_flag 9 = .ok (.ireturn, 1) := by decide +kernel
theorem dX7_lesser_0 : decode cX7_lesser 0 = .ok (.iload_n 0, 1) := by decide +kernel
theorem dX7_lesser_1 : decode cX7_lesser 1 = .ok (.iload_n 1, 1) := by decide +kernel
theorem dX7_lesser_2 : decode cX7_lesser 2 = .ok (.if_icmp .ge 7, 3) := by decide +kernel
theorem dX7_lesser_5 : decode cX7_lesser 5 = .ok (.iload_n 0, 1) := by decide +kernel
theorem dX7_lesser_6 : decode cX7_lesser 6 = .ok (.goto 4, 3) := by decide +kernel
theorem dX7_lesser_9 : decode cX7_lesser 9 = .ok (.iload_n 1, 1) := by decide +kernel
theorem dX7_lesser_10 : decode cX7_lesser 10 = .ok (.ireturn, 1) := by decide +kernel
theorem dX7_firstDraft_0 : decode cX7_firstDraft 0 = .ok (.iconst 0, 1) := by decide +kernel
theorem dX7_firstDraft_1 : decode cX7_firstDraft 1 = .ok (.istore_n 1, 1) := by decide +kernel
theorem dX7_firstDraft_2 : decode cX7_firstDraft 2 = .ok (.iload_n 1, 1) := by decide +kernel
theorem dX7_firstDraft_3 : decode cX7_firstDraft 3 = .ok (.bipush 46, 2) := by decide +kernel
theorem dX7_firstDraft_5 : decode cX7_firstDraft 5 = .ok (.if_icmp .ge 16, 3) := by decide +kernel
theorem dX7_firstDraft_8 : decode cX7_firstDraft 8 = .ok (.aload_n 0, 1) := by decide +kernel
theorem dX7_firstDraft_9 : decode cX7_firstDraft 9 = .ok (.getfield 20, 3) := by decide +kernel
theorem dX7_firstDraft_12 : decode cX7_firstDraft 12 = .ok (.iload_n 1, 1) := by decide +kernel
theorem dX7_firstDraft_13 : decode cX7_firstDraft 13 = .ok (.iconst 0, 1) := by decide +kernel
theorem dX7_firstDraft_14 : decode cX7_firstDraft 14 = .ok (.iastore, 1) := by decide +kernel
theorem dX7_firstDraft_15 : decode cX7_firstDraft 15 = .ok (.iinc 1 1, 3) := by decide +kernel
theorem dX7_firstDraft_18 : decode cX7_firstDraft 18 = .ok (.goto (-16), 3) := by decide +kernel
theorem dX7_firstDraft_21 : decode cX7_firstDraft 21 = .ok (.aload_n 0, 1) := by decide +kernel
theorem dX7_firstDraft_22 : decode cX7_firstDraft 22 = .ok (.getfield 20, 3) := by decide +kernel
theorem dX7_firstDraft_25 : decode cX7_firstDraft 25 = .ok (.bipush 15, 2) := by decide +kernel
theorem dX7_firstDraft_27 : decode cX7_firstDraft 27 = .ok (.bipush 30, 2) := by decide +kernel
theorem dX7_firstDraft_29 : decode cX7_firstDraft 29 = .ok (.iastore, 1) := by decide +kernel
theorem dX7_firstDraft_30 : decode cX7_firstDraft 30 = .ok (.aload_n 0, 1) := by decide +kernel
theorem dX7_firstDraft_31 : decode cX7_firstDraft 31 = .ok (.iconst 0, 1) := by decide +kernel
theorem dX7_firstDraft_32 : decode cX7_firstDraft 32 = .ok (.putfield 56, 3) := by decide +kernel
theorem dX7_firstDraft_35 : decode cX7_firstDraft 35 = .ok (.aload_n 0, 1) := by decide +kernel
theorem dX7_firstDraft_36 : decode cX7_firstDraft 36 = .ok (.iconst 0, 1) := by decide +kernel
theorem dX7_firstDraft_37 : decode cX7_firstDraft 37 = .ok (.putfield 60, 3) := by decide +kernel
theorem dX7_firstDraft_40 : decode cX7_firstDraft 40 = .ok (.aload_n 0, 1) := by decide +kernel
theorem dX7_firstDraft_41 : decode cX7_firstDraft 41 = .ok (.iconst 0, 1) := by decide +kernel
theorem dX7_firstDraft_42 : decode cX7_firstDraft 42 = .ok (.putfield 64, 3) := by decide +kernel
theorem dX7_firstDraft_45 : decode cX7_firstDraft 45 = .ok (.aload_n 0, 1) := by decide +kernel
theorem dX7_firstDraft_46 : decode cX7_firstDraft 46 = .ok (.bipush (-4), 2) := by decide +kernel
theorem dX7_firstDraft_48 : decode cX7_firstDraft 48 = .ok (.putfield 67, 3) := by decide +kernel
theorem dX7_firstDraft_51 : decode cX7_firstDraft 51 = .ok (.return_, 1) := by decide +kernel
theorem dX7_keepDraft_0 : decode cX7_keepDraft 0 = .ok (.iconst 0, 1) := by decide +kernel
theorem dX7_keepDraft_1 : decode cX7_keepDraft 1 = .ok (.istore_n 1, 1) := by decide +kernel
theorem dX7_keepDraft_2 : decode cX7_keepDraft 2 = .ok (.iload_n 1, 1) := by decide +kernel
theorem dX7_keepDraft_3 : decode cX7_keepDraft 3 = .ok (.bipush 46, 2) := by decide +kernel
theorem dX7_keepDraft_5 : decode cX7_keepDraft 5 = .ok (.if_icmp .ge 21, 3) := by decide +kernel
theorem dX7_keepDraft_8 : decode cX7_keepDraft 8 = .ok (.aload_n 0, 1) := by decide +kernel
theorem dX7_keepDraft_9 : decode cX7_keepDraft 9 = .ok (.getfield 7, 3) := by decide +kernel
theorem dX7_keepDraft_12 : decode cX7_keepDraft 12 = .ok (.iload_n 1, 1) := by decide +kernel
theorem dX7_keepDraft_13 : decode cX7_keepDraft 13 = .ok (.aload_n 0, 1) := by decide +kernel
theorem dX7_keepDraft_14 : decode cX7_keepDraft 14 = .ok (.getfield 20, 3) := by decide +kernel
theorem dX7_keepDraft_17 : decode cX7_keepDraft 17 = .ok (.iload_n 1, 1) := by decide +kernel
theorem dX7_keepDraft_18 : decode cX7_keepDraft 18 = .ok (.iaload, 1) := by decide +kernel
theorem dX7_keepDraft_19 : decode cX7_keepDraft 19 = .ok (.iastore, 1) := by decide +kernel
theorem dX7_keepDraft_20 : decode cX7_keepDraft 20 = .ok (.iinc 1 1, 3) := by decide +kernel
theorem dX7_keepDraft_23 : decode cX7_keepDraft 23 = .ok (.goto (-21), 3) := by decide +kernel
theorem dX7_keepDraft_26 : decode cX7_keepDraft 26 = .ok (.aload_n 0, 1) := by decide +kernel
theorem dX7_keepDraft_27 : decode cX7_keepDraft 27 = .ok (.aload_n 0, 1) := by decide +kernel
theorem dX7_keepDraft_28 : decode cX7_keepDraft 28 = .ok (.getfield 56, 3) := by decide +kernel
theorem dX7_keepDraft_31 : decode cX7_keepDraft 31 = .ok (.putfield 70, 3) := by decide +kernel
theorem dX7_keepDraft_34 : decode cX7_keepDraft 34 = .ok (.aload_n 0, 1) := by decide +kernel
theorem dX7_keepDraft_35 : decode cX7_keepDraft 35 = .ok (.getfield 16, 3) := by decide +kernel
theorem dX7_keepDraft_38 : decode cX7_keepDraft 38 = .ok (.iconst 0, 1) := by decide +kernel
theorem dX7_keepDraft_39 : decode cX7_keepDraft 39 = .ok (.iconst 0, 1) := by decide +kernel
theorem dX7_keepDraft_40 : decode cX7_keepDraft 40 = .ok (.bastore, 1) := by decide +kernel
theorem dX7_keepDraft_41 : decode cX7_keepDraft 41 = .ok (.aload_n 0, 1) := by decide +kernel
theorem dX7_keepDraft_42 : decode cX7_keepDraft 42 = .ok (.getfield 16, 3) := by decide +kernel
theorem dX7_keepDraft_45 : decode cX7_keepDraft 45 = .ok (.iconst 1, 1) := by decide +kernel
theorem dX7_keepDraft_46 : decode cX7_keepDraft 46 = .ok (.iconst 0, 1) := by decide +kernel
theorem dX7_keepDraft_47 : decode cX7_keepDraft 47 = .ok (.bastore, 1) := by decide +kernel
theorem dX7_keepDraft_48 : decode cX7_keepDraft 48 = .ok (.return_, 1) := by decide +kernel
theorem dX7_feed_0 : decode cX7_feed 0 = .ok (.iload_n 1, 1) := by decide +kernel
theorem dX7_feed_1 : decode cX7_feed 1 = .ok (.i2l, 1) := by decide +kernel
theorem dX7_feed_2 : decode cX7_feed 2 = .ok (.lconst 0, 1) := by decide +kernel
theorem dX7_feed_3 : decode cX7_feed 3 = .ok (.ldc2_w 73, 3) := by decide +kernel
theorem dX7_feed_6 : decode cX7_feed 6 = .ok (.invokestatic 75, 3) := by decide +kernel
theorem dX7_feed_9 : decode cX7_feed 9 = .ok (.ifCond .ne 5, 3) := by decide +kernel
theorem dX7_feed_12 : decode cX7_feed 12 = .ok (.iconst (-1), 1) := by decide +kernel
theorem dX7_feed_13 : decode cX7_feed 13 = .ok (.ireturn, 1) := by decide +kernel
theorem dX7_feed_14 : decode cX7_feed 14 = .ok (.aload_n 0, 1) := by decide +kernel
theorem dX7_feed_15 : decode cX7_feed 15 = .ok (.getfield 79, 3) := by decide +kernel
theorem dX7_feed_18 : decode cX7_feed 18 = .ok (.sipush 160, 3) := by decide +kernel
theorem dX7_feed_21 : decode cX7_feed 21 = .ok (.if_icmp .ne 6, 3) := by decide +kernel
theorem dX7_feed_24 : decode cX7_feed 24 = .ok (.bipush (-3), 2) := by decide +kernel
theorem dX7_feed_26 : decode cX7_feed 26 = .ok (.ireturn, 1) := by decide +kernel
theorem dX7_feed_27 : decode cX7_feed 27 = .ok (.aload_n 0, 1) := by decide +kernel
theorem dX7_feed_28 : decode cX7_feed 28 = .ok (.getfield 23, 3) := by decide +kernel
theorem dX7_feed_31 : decode cX7_feed 31 = .ok (.aload_n 0, 1) := by decide +kernel
theorem dX7_feed_32 : decode cX7_feed 32 = .ok (.getfield 79, 3) := by decide +kernel
theorem dX7_feed_35 : decode cX7_feed 35 = .ok (.iload_n 1, 1) := by decide +kernel
theorem dX7_feed_36 : decode cX7_feed 36 = .ok (.iastore, 1) := by decide +kernel
theorem dX7_feed_37 : decode cX7_feed 37 = .ok (.aload_n 0, 1) := by decide +kernel
theorem dX7_feed_38 : decode cX7_feed 38 = .ok (.dup, 1) := by decide +kernel
theorem dX7_feed_39 : decode cX7_feed 39 = .ok (.getfield 79, 3) := by decide +kernel
theorem dX7_feed_42 : decode cX7_feed 42 = .ok (.iconst 1, 1) := by decide +kernel
theorem dX7_feed_43 : decode cX7_feed 43 = .ok (.iadd, 1) := by decide +kernel
theorem dX7_feed_44 : decode cX7_feed 44 = .ok (.putfield 79, 3) := by decide +kernel
theorem dX7_feed_47 : decode cX7_feed 47 = .ok (.aload_n 0, 1) := by decide +kernel
theorem dX7_feed_48 : decode cX7_feed 48 = .ok (.getfield 79, 3) := by decide +kernel
theorem dX7_feed_51 : decode cX7_feed 51 = .ok (.ireturn, 1) := by decide +kernel
theorem dX7_end_0 : decode cX7_end 0 = .ok (.iload_n 1, 1) := by decide +kernel
theorem dX7_end_1 : decode cX7_end 1 = .ok (.i2l, 1) := by decide +kernel
theorem dX7_end_2 : decode cX7_end 2 = .ok (.lconst 0, 1) := by decide +kernel
theorem dX7_end_3 : decode cX7_end 3 = .ok (.aload_n 0, 1) := by decide +kernel
theorem dX7_end_4 : decode cX7_end 4 = .ok (.getfield 79, 3) := by decide +kernel
theorem dX7_end_7 : decode cX7_end 7 = .ok (.i2l, 1) := by decide +kernel
theorem dX7_end_8 : decode cX7_end 8 = .ok (.invokestatic 75, 3) := by decide +kernel
theorem dX7_end_11 : decode cX7_end 11 = .ok (.ifCond .ne 5, 3) := by decide +kernel
theorem dX7_end_14 : decode cX7_end 14 = .ok (.iconst (-1), 1) := by decide +kernel
theorem dX7_end_15 : decode cX7_end 15 = .ok (.ireturn, 1) := by decide +kernel
theorem dX7_end_16 : decode cX7_end 16 = .ok (.aload_n 0, 1) := by decide +kernel
theorem dX7_end_17 : decode cX7_end 17 = .ok (.getfield 79, 3) := by decide +kernel
theorem dX7_end_20 : decode cX7_end 20 = .ok (.istore_n 2, 1) := by decide +kernel
theorem dX7_end_21 : decode cX7_end 21 = .ok (.aload_n 0, 1) := by decide +kernel
theorem dX7_end_22 : decode cX7_end 22 = .ok (.iload_n 1, 1) := by decide +kernel
theorem dX7_end_23 : decode cX7_end 23 = .ok (.putfield 79, 3) := by decide +kernel
theorem dX7_end_26 : decode cX7_end 26 = .ok (.iload_n 2, 1) := by decide +kernel
theorem dX7_end_27 : decode cX7_end 27 = .ok (.ireturn, 1) := by decide +kernel
theorem dX7_needs_0 : decode cX7_needs 0 = .ok (.iload_n 1, 1) := by decide +kernel
theorem dX7_needs_1 : decode cX7_needs 1 = .ok (.ifCond .ne 23, 3) := by decide +kernel
theorem dX7_needs_4 : decode cX7_needs 4 = .ok (.aload_n 0, 1) := by decide +kernel
theorem dX7_needs_5 : decode cX7_needs 5 = .ok (.getfield 82, 3) := by decide +kernel
theorem dX7_needs_8 : decode cX7_needs 8 = .ok (.ifCond .ne 16, 3) := by decide +kernel
theorem dX7_needs_11 : decode cX7_needs 11 = .ok (.aload_n 0, 1) := by decide +kernel
theorem dX7_needs_12 : decode cX7_needs 12 = .ok (.iload_n 2, 1) := by decide +kernel
theorem dX7_needs_13 : decode cX7_needs 13 = .ok (.putfield 82, 3) := by decide +kernel
theorem dX7_needs_16 : decode cX7_needs 16 = .ok (.aload_n 0, 1) := by decide +kernel
theorem dX7_needs_17 : decode cX7_needs 17 = .ok (.aload_n 0, 1) := by decide +kernel
theorem dX7_needs_18 : decode cX7_needs 18 = .ok (.getfield 85, 3) := by decide +kernel
theorem dX7_needs_21 : decode cX7_needs 21 = .ok (.putfield 88, 3) := by decide +kernel
theorem dX7_needs_24 : decode cX7_needs 24 = .ok (.return_, 1) := by decide +kernel
theorem dX7_byteAt_0 : decode cX7_byteAt 0 = .ok (.iload_n 1, 1) := by decide +kernel
theorem dX7_byteAt_1 : decode cX7_byteAt 1 = .ok (.aload_n 0, 1) := by decide +kernel
theorem dX7_byteAt_2 : decode cX7_byteAt 2 = .ok (.getfield 79, 3) := by decide +kernel
theorem dX7_byteAt_5 : decode cX7_byteAt 5 = .ok (.if_icmp .ge 12, 3) := by decide +kernel
theorem dX7_byteAt_8 : decode cX7_byteAt 8 = .ok (.aload_n 0, 1) := by decide +kernel
theorem dX7_byteAt_9 : decode cX7_byteAt 9 = .ok (.getfield 23, 3) := by decide +kernel
theorem dX7_byteAt_12 : decode cX7_byteAt 12 = .ok (.iload_n 1, 1) := by decide +kernel
theorem dX7_byteAt_13 : decode cX7_byteAt 13 = .ok (.iaload, 1) := by decide +kernel
theorem dX7_byteAt_14 : decode cX7_byteAt 14 = .ok (.goto 4, 3) := by decide +kernel
theorem dX7_byteAt_17 : decode cX7_byteAt 17 = .ok (.iconst (-1), 1) := by decide +kernel
theorem dX7_byteAt_18 : decode cX7_byteAt 18 = .ok (.ireturn, 1) := by decide +kernel
theorem dX7_is_0 : decode cX7_is 0 = .ok (.aload_n 0, 1) := by decide +kernel
theorem dX7_is_1 : decode cX7_is 1 = .ok (.getfield 91, 3) := by decide +kernel
theorem dX7_is_4 : decode cX7_is 4 = .ok (.aload_n 0, 1) := by decide +kernel
theorem dX7_is_5 : decode cX7_is 5 = .ok (.getfield 85, 3) := by decide +kernel
theorem dX7_is_8 : decode cX7_is 8 = .ok (.isub, 1) := by decide +kernel
theorem dX7_is_9 : decode cX7_is 9 = .ok (.iload_n 1, 1) := by decide +kernel
theorem dX7_is_10 : decode cX7_is 10 = .ok (.if_icmp .ne 63, 3) := by decide +kernel
theorem dX7_is_13 : decode cX7_is 13 = .ok (.aload_n 0, 1) := by decide +kernel
theorem dX7_is_14 : decode cX7_is 14 = .ok (.aload_n 0, 1) := by decide +kernel
theorem dX7_is_15 : decode cX7_is 15 = .ok (.getfield 85, 3) := by decide +kernel
theorem dX7_is_18 : decode cX7_is 18 = .ok (.invokevirtual 94, 3) := by decide +kernel
theorem dX7_is_21 : decode cX7_is 21 = .ok (.iload_n 2, 1) := by decide +kernel
theorem dX7_is_22 : decode cX7_is 22 = .ok (.if_icmp .ne 51, 3) := by decide +kernel
theorem dX7_is_25 : decode cX7_is 25 = .ok (.aload_n 0, 1) := by decide +kernel
theorem dX7_is_26 : decode cX7_is 26 = .ok (.aload_n 0, 1) := by decide +kernel
theorem dX7_is_27 : decode cX7_is 27 = .ok (.getfield 85, 3) := by decide +kernel
theorem dX7_is_30 : decode cX7_is 30 = .ok (.iconst 1, 1) := by decide +kernel
theorem dX7_is_31 : decode cX7_is 31 = .ok (.iadd, 1) := by decide +kernel
theorem dX7_is_32 : decode cX7_is 32 = .ok (.invokevirtual 94, 3) := by decide +kernel
theorem dX7_is_35 : decode cX7_is 35 = .ok (.iload_n 3, 1) := by decide +kernel
theorem dX7_is_36 : decode cX7_is 36 = .ok (.if_icmp .ne 37, 3) := by decide +kernel
theorem dX7_is_39 : decode cX7_is 39 = .ok (.aload_n 0, 1) := by decide +kernel
theorem dX7_is_40 : decode cX7_is 40 = .ok (.aload_n 0, 1) := by decide +kernel
theorem dX7_is_41 : decode cX7_is 41 = .ok (.getfield 85, 3) := by decide +kernel
theorem dX7_is_44 : decode cX7_is 44 = .ok (.iconst 2, 1) := by decide +kernel
theorem dX7_is_45 : decode cX7_is 45 = .ok (.iadd, 1) := by decide +kernel
theorem dX7_is_46 : decode cX7_is 46 = .ok (.invokevirtual 94, 3) := by decide +kernel
theorem dX7_is_49 : decode cX7_is 49 = .ok (.iload 4, 2) := by decide +kernel
theorem dX7_is_51 : decode cX7_is 51 = .ok (.if_icmp .ne 22, 3) := by decide +kernel
theorem dX7_is_54 : decode cX7_is 54 = .ok (.aload_n 0, 1) := by decide +kernel
theorem dX7_is_55 : decode cX7_is 55 = .ok (.aload_n 0, 1) := by decide +kernel
theorem dX7_is_56 : decode cX7_is 56 = .ok (.getfield 85, 3) := by decide +kernel
theorem dX7_is_59 : decode cX7_is 59 = .ok (.iconst 3, 1) := by decide +kernel
