theorem dX7_is_60 : decode cX7_is 60 = .ok (.iadd, 1) := by decide +kernel
theorem dX7_is_61 : decode cX7_is 61 = .ok (.invokevirtual 94, 3) := by decide +kernel
theorem dX7_is_64 : decode cX7_is 64 = .ok (.iload 5, 2) := by decide +kernel
theorem dX7_is_66 : decode cX7_is 66 = .ok (.if_icmp .ne 7, 3) := by decide +kernel
theorem dX7_is_69 : decode cX7_is 69 = .ok (.iconst 1, 1) := by decide +kernel
theorem dX7_is_70 : decode cX7_is 70 = .ok (.goto 4, 3) := by decide +kernel
theorem dX7_is_73 : decode cX7_is 73 = .ok (.iconst 0, 1) := by decide +kernel
theorem dX7_is_74 : decode cX7_is 74 = .ok (.ireturn, 1) := by decide +kernel
theorem dX7_ends_0 : decode cX7_ends 0 = .ok (.aload_n 0, 1) := by decide +kernel
theorem dX7_ends_1 : decode cX7_ends 1 = .ok (.aload_n 0, 1) := by decide +kernel
theorem dX7_ends_2 : decode cX7_ends 2 = .ok (.getfield 85, 3) := by decide +kernel
theorem dX7_ends_5 : decode cX7_ends 5 = .ok (.iconst 4, 1) := by decide +kernel
theorem dX7_ends_6 : decode cX7_ends 6 = .ok (.iadd, 1) := by decide +kernel
theorem dX7_ends_7 : decode cX7_ends 7 = .ok (.invokevirtual 94, 3) := by decide +kernel
theorem dX7_ends_10 : decode cX7_ends 10 = .ok (.iload_n 1, 1) := by decide +kernel
theorem dX7_ends_11 : decode cX7_ends 11 = .ok (.if_icmp .ne 25, 3) := by decide +kernel
theorem dX7_ends_14 : decode cX7_ends 14 = .ok (.iload_n 2, 1) := by decide +kernel
theorem dX7_ends_15 : decode cX7_ends 15 = .ok (.ifCond .eq 17, 3) := by decide +kernel
theorem dX7_ends_18 : decode cX7_ends 18 = .ok (.aload_n 0, 1) := by decide +kernel
theorem dX7_ends_19 : decode cX7_ends 19 = .ok (.aload_n 0, 1) := by decide +kernel
theorem dX7_ends_20 : decode cX7_ends 20 = .ok (.getfield 85, 3) := by decide +kernel
theorem dX7_ends_23 : decode cX7_ends 23 = .ok (.iconst 5, 1) := by decide +kernel
theorem dX7_ends_24 : decode cX7_ends 24 = .ok (.iadd, 1) := by decide +kernel
theorem dX7_ends_25 : decode cX7_ends 25 = .ok (.invokevirtual 94, 3) := by decide +kernel
theorem dX7_ends_28 : decode cX7_ends 28 = .ok (.iload_n 2, 1) := by decide +kernel
theorem dX7_ends_29 : decode cX7_ends 29 = .ok (.if_icmp .ne 7, 3) := by decide +kernel
theorem dX7_ends_32 : decode cX7_ends 32 = .ok (.iconst 1, 1) := by decide +kernel
theorem dX7_ends_33 : decode cX7_ends 33 = .ok (.goto 4, 3) := by decide +kernel
theorem dX7_ends_36 : decode cX7_ends 36 = .ok (.iconst 0, 1) := by decide +kernel
theorem dX7_ends_37 : decode cX7_ends 37 = .ok (.ireturn, 1) := by decide +kernel
theorem dX7_lineNow_0 : decode cX7_lineNow 0 = .ok (.aload_n 0, 1) := by decide +kernel
theorem dX7_lineNow_1 : decode cX7_lineNow 1 = .ok (.iconst 5, 1) := by decide +kernel
theorem dX7_lineNow_2 : decode cX7_lineNow 2 = .ok (.bipush 112, 2) := by decide +kernel
theorem dX7_lineNow_4 : decode cX7_lineNow 4 = .ok (.bipush 108, 2) := by decide +kernel
theorem dX7_lineNow_6 : decode cX7_lineNow 6 = .ok (.bipush 97, 2) := by decide +kernel
theorem dX7_lineNow_8 : decode cX7_lineNow 8 = .ok (.bipush 105, 2) := by decide +kernel
theorem dX7_lineNow_10 : decode cX7_lineNow 10 = .ok (.invokevirtual 98, 3) := by decide +kernel
theorem dX7_lineNow_13 : decode cX7_lineNow 13 = .ok (.ifCond .eq 15, 3) := by decide +kernel
theorem dX7_lineNow_16 : decode cX7_lineNow 16 = .ok (.aload_n 0, 1) := by decide +kernel
theorem dX7_lineNow_17 : decode cX7_lineNow 17 = .ok (.bipush 110, 2) := by decide +kernel
theorem dX7_lineNow_19 : decode cX7_lineNow 19 = .ok (.iconst 0, 1) := by decide +kernel
theorem dX7_lineNow_20 : decode cX7_lineNow 20 = .ok (.invokevirtual 102, 3) := by decide +kernel
theorem dX7_lineNow_23 : decode cX7_lineNow 23 = .ok (.ifCond .eq 5, 3) := by decide +kernel
theorem dX7_lineNow_26 : decode cX7_lineNow 26 = .ok (.iconst 0, 1) := by decide +kernel
theorem dX7_lineNow_27 : decode cX7_lineNow 27 = .ok (.ireturn, 1) := by decide +kernel
theorem dX7_lineNow_28 : decode cX7_lineNow 28 = .ok (.aload_n 0, 1) := by decide +kernel
theorem dX7_lineNow_29 : decode cX7_lineNow 29 = .ok (.iconst 5, 1) := by decide +kernel
theorem dX7_lineNow_30 : decode cX7_lineNow 30 = .ok (.bipush 115, 2) := by decide +kernel
theorem dX7_lineNow_32 : decode cX7_lineNow 32 = .ok (.bipush 116, 2) := by decide +kernel
theorem dX7_lineNow_34 : decode cX7_lineNow 34 = .ok (.bipush 111, 2) := by decide +kernel
theorem dX7_lineNow_36 : decode cX7_lineNow 36 = .ok (.bipush 117, 2) := by decide +kernel
theorem dX7_lineNow_38 : decode cX7_lineNow 38 = .ok (.invokevirtual 98, 3) := by decide +kernel
theorem dX7_lineNow_41 : decode cX7_lineNow 41 = .ok (.ifCond .eq 15, 3) := by decide +kernel
theorem dX7_lineNow_44 : decode cX7_lineNow 44 = .ok (.aload_n 0, 1) := by decide +kernel
theorem dX7_lineNow_45 : decode cX7_lineNow 45 = .ok (.bipush 116, 2) := by decide +kernel
theorem dX7_lineNow_47 : decode cX7_lineNow 47 = .ok (.iconst 0, 1) := by decide +kernel
theorem dX7_lineNow_48 : decode cX7_lineNow 48 = .ok (.invokevirtual 102, 3) := by decide +kernel
theorem dX7_lineNow_51 : decode cX7_lineNow 51 = .ok (.ifCond .eq 5, 3) := by decide +kernel
theorem dX7_lineNow_54 : decode cX7_lineNow 54 = .ok (.iconst 1, 1) := by decide +kernel
theorem dX7_lineNow_55 : decode cX7_lineNow 55 = .ok (.ireturn, 1) := by decide +kernel
theorem dX7_lineNow_56 : decode cX7_lineNow 56 = .ok (.aload_n 0, 1) := by decide +kernel
theorem dX7_lineNow_57 : decode cX7_lineNow 57 = .ok (.iconst 5, 1) := by decide +kernel
theorem dX7_lineNow_58 : decode cX7_lineNow 58 = .ok (.bipush 99, 2) := by decide +kernel
theorem dX7_lineNow_60 : decode cX7_lineNow 60 = .ok (.bipush 104, 2) := by decide +kernel
theorem dX7_lineNow_62 : decode cX7_lineNow 62 = .ok (.bipush 105, 2) := by decide +kernel
theorem dX7_lineNow_64 : decode cX7_lineNow 64 = .ok (.bipush 108, 2) := by decide +kernel
theorem dX7_lineNow_66 : decode cX7_lineNow 66 = .ok (.invokevirtual 98, 3) := by decide +kernel
theorem dX7_lineNow_69 : decode cX7_lineNow 69 = .ok (.ifCond .eq 15, 3) := by decide +kernel
theorem dX7_lineNow_72 : decode cX7_lineNow 72 = .ok (.aload_n 0, 1) := by decide +kernel
theorem dX7_lineNow_73 : decode cX7_lineNow 73 = .ok (.bipush 100, 2) := by decide +kernel
theorem dX7_lineNow_75 : decode cX7_lineNow 75 = .ok (.iconst 0, 1) := by decide +kernel
theorem dX7_lineNow_76 : decode cX7_lineNow 76 = .ok (.invokevirtual 102, 3) := by decide +kernel
theorem dX7_lineNow_79 : decode cX7_lineNow 79 = .ok (.ifCond .eq 5, 3) := by decide +kernel
theorem dX7_lineNow_82 : decode cX7_lineNow 82 = .ok (.iconst 2, 1) := by decide +kernel
theorem dX7_lineNow_83 : decode cX7_lineNow 83 = .ok (.ireturn, 1) := by decide +kernel
theorem dX7_lineNow_84 : decode cX7_lineNow 84 = .ok (.aload_n 0, 1) := by decide +kernel
theorem dX7_lineNow_85 : decode cX7_lineNow 85 = .ok (.iconst 5, 1) := by decide +kernel
theorem dX7_lineNow_86 : decode cX7_lineNow 86 = .ok (.bipush 119, 2) := by decide +kernel
theorem dX7_lineNow_88 : decode cX7_lineNow 88 = .ok (.bipush 105, 2) := by decide +kernel
theorem dX7_lineNow_90 : decode cX7_lineNow 90 = .ok (.bipush 100, 2) := by decide +kernel
theorem dX7_lineNow_92 : decode cX7_lineNow 92 = .ok (.bipush 111, 2) := by decide +kernel
theorem dX7_lineNow_94 : decode cX7_lineNow 94 = .ok (.invokevirtual 98, 3) := by decide +kernel
theorem dX7_lineNow_97 : decode cX7_lineNow 97 = .ok (.ifCond .eq 15, 3) := by decide +kernel
theorem dX7_lineNow_100 : decode cX7_lineNow 100 = .ok (.aload_n 0, 1) := by decide +kernel
theorem dX7_lineNow_101 : decode cX7_lineNow 101 = .ok (.bipush 119, 2) := by decide +kernel
theorem dX7_lineNow_103 : decode cX7_lineNow 103 = .ok (.iconst 0, 1) := by decide +kernel
theorem dX7_lineNow_104 : decode cX7_lineNow 104 = .ok (.invokevirtual 102, 3) := by decide +kernel
theorem dX7_lineNow_107 : decode cX7_lineNow 107 = .ok (.ifCond .eq 5, 3) := by decide +kernel
theorem dX7_lineNow_110 : decode cX7_lineNow 110 = .ok (.iconst 3, 1) := by decide +kernel
theorem dX7_lineNow_111 : decode cX7_lineNow 111 = .ok (.ireturn, 1) := by decide +kernel
theorem dX7_lineNow_112 : decode cX7_lineNow 112 = .ok (.aload_n 0, 1) := by decide +kernel
theorem dX7_lineNow_113 : decode cX7_lineNow 113 = .ok (.bipush 6, 2) := by decide +kernel
theorem dX7_lineNow_115 : decode cX7_lineNow 115 = .ok (.bipush 98, 2) := by decide +kernel
theorem dX7_lineNow_117 : decode cX7_lineNow 117 = .ok (.bipush 97, 2) := by decide +kernel
theorem dX7_lineNow_119 : decode cX7_lineNow 119 = .ok (.bipush 114, 2) := by decide +kernel
theorem dX7_lineNow_121 : decode cX7_lineNow 121 = .ok (.bipush 114, 2) := by decide +kernel
theorem dX7_lineNow_123 : decode cX7_lineNow 123 = .ok (.invokevirtual 98, 3) := by decide +kernel
theorem dX7_lineNow_126 : decode cX7_lineNow 126 = .ok (.ifCond .eq 18, 3) := by decide +kernel
theorem dX7_lineNow_129 : decode cX7_lineNow 129 = .ok (.aload_n 0, 1) := by decide +kernel
theorem dX7_lineNow_130 : decode cX7_lineNow 130 = .ok (.bipush 111, 2) := by decide +kernel
theorem dX7_lineNow_132 : decode cX7_lineNow 132 = .ok (.bipush 119, 2) := by decide +kernel
theorem dX7_lineNow_134 : decode cX7_lineNow 134 = .ok (.invokevirtual 102, 3) := by decide +kernel
theorem dX7_lineNow_137 : decode cX7_lineNow 137 = .ok (.ifCond .eq 7, 3) := by decide +kernel
theorem dX7_lineNow_140 : decode cX7_lineNow 140 = .ok (.iconst 4, 1) := by decide +kernel
theorem dX7_lineNow_141 : decode cX7_lineNow 141 = .ok (.goto 25, 3) := by decide +kernel
theorem dX7_lineNow_144 : decode cX7_lineNow 144 = .ok (.aload_n 0, 1) := by decide +kernel
theorem dX7_lineNow_145 : decode cX7_lineNow 145 = .ok (.iconst 4, 1) := by decide +kernel
theorem dX7_lineNow_146 : decode cX7_lineNow 146 = .ok (.bipush 114, 2) := by decide +kernel
theorem dX7_lineNow_148 : decode cX7_lineNow 148 = .ok (.bipush 111, 2) := by decide +kernel
theorem dX7_lineNow_150 : decode cX7_lineNow 150 = .ok (.bipush 116, 2) := by decide +kernel
theorem dX7_lineNow_152 : decode cX7_lineNow 152 = .ok (.bipush 97, 2) := by decide +kernel
theorem dX7_lineNow_154 : decode cX7_lineNow 154 = .ok (.invokevirtual 98, 3) := by decide +kernel
theorem dX7_lineNow_157 : decode cX7_lineNow 157 = .ok (.ifCond .eq 7, 3) := by decide +kernel
theorem dX7_lineNow_160 : decode cX7_lineNow 160 = .ok (.iconst 5, 1) := by decide +kernel
theorem dX7_lineNow_161 : decode cX7_lineNow 161 = .ok (.goto 5, 3) := by decide +kernel
theorem dX7_lineNow_164 : decode cX7_lineNow 164 = .ok (.bipush (-4), 2) := by decide +kernel
theorem dX7_lineNow_166 : decode cX7_lineNow 166 = .ok (.ireturn, 1) := by decide +kernel
theorem dX7_reads_0 : decode cX7_reads 0 = .ok (.aload_n 0, 1) := by decide +kernel
theorem dX7_reads_1 : decode cX7_reads 1 = .ok (.getfield 82, 3) := by decide +kernel
theorem dX7_reads_4 : decode cX7_reads 4 = .ok (.ifCond .le 4, 3) := by decide +kernel
theorem dX7_reads_7 : decode cX7_reads 7 = .ok (.return_, 1) := by decide +kernel
theorem dX7_reads_8 : decode cX7_reads 8 = .ok (.aload_n 0, 1) := by decide +kernel
theorem dX7_reads_9 : decode cX7_reads 9 = .ok (.aload_n 0, 1) := by decide +kernel
theorem dX7_reads_10 : decode cX7_reads 10 = .ok (.getfield 91, 3) := by decide +kernel
theorem dX7_reads_13 : decode cX7_reads 13 = .ok (.invokevirtual 94, 3) := by decide +kernel
theorem dX7_reads_16 : decode cX7_reads 16 = .ok (.bipush 32, 2) := by decide +kernel
theorem dX7_reads_18 : decode cX7_reads 18 = .ok (.if_icmp .ne 16, 3) := by decide +kernel
theorem dX7_reads_21 : decode cX7_reads 21 = .ok (.aload_n 0, 1) := by decide +kernel
theorem dX7_reads_22 : decode cX7_reads 22 = .ok (.dup, 1) := by decide +kernel
theorem dX7_reads_23 : decode cX7_reads 23 = .ok (.getfield 91, 3) := by decide +kernel
theorem dX7_reads_26 : decode cX7_reads 26 = .ok (.iconst 1, 1) := by decide +kernel
theorem dX7_reads_27 : decode cX7_reads 27 = .ok (.iadd, 1) := by decide +kernel
theorem dX7_reads_28 : decode cX7_reads 28 = .ok (.putfield 91, 3) := by decide +kernel
theorem dX7_reads_31 : decode cX7_reads 31 = .ok (.goto (-23), 3) := by decide +kernel
theorem dX7_reads_34 : decode cX7_reads 34 = .ok (.aload_n 0, 1) := by decide +kernel
theorem dX7_reads_35 : decode cX7_reads 35 = .ok (.aload_n 0, 1) := by decide +kernel
theorem dX7_reads_36 : decode cX7_reads 36 = .ok (.getfield 91, 3) := by decide +kernel
theorem dX7_reads_39 : decode cX7_reads 39 = .ok (.putfield 85, 3) := by decide +kernel
theorem dX7_reads_42 : decode cX7_reads 42 = .ok (.aload_n 0, 1) := by decide +kernel
theorem dX7_reads_43 : decode cX7_reads 43 = .ok (.aload_n 0, 1) := by decide +kernel
theorem dX7_reads_44 : decode cX7_reads 44 = .ok (.getfield 91, 3) := by decide +kernel
theorem dX7_reads_47 : decode cX7_reads 47 = .ok (.invokevirtual 94, 3) := by decide +kernel
theorem dX7_reads_50 : decode cX7_reads 50 = .ok (.istore_n 1, 1) := by decide +kernel
theorem dX7_reads_51 : decode cX7_reads 51 = .ok (.iload_n 1, 1) := by decide +kernel
theorem dX7_reads_52 : decode cX7_reads 52 = .ok (.ifCond .ge 11, 3) := by decide +kernel
theorem dX7_reads_55 : decode cX7_reads 55 = .ok (.aload_n 0, 1) := by decide +kernel
theorem dX7_reads_56 : decode cX7_reads 56 = .ok (.iconst 0, 1) := by decide +kernel
theorem dX7_reads_57 : decode cX7_reads 57 = .ok (.putfield 106, 3) := by decide +kernel
theorem dX7_reads_60 : decode cX7_reads 60 = .ok (.goto 214, 3) := by decide +kernel
theorem dX7_reads_63 : decode cX7_reads 63 = .ok (.iload_n 1, 1) := by decide +kernel
theorem dX7_reads_64 : decode cX7_reads 64 = .ok (.i2l, 1) := by decide +kernel
theorem dX7_reads_65 : decode cX7_reads 65 = .ok (.ldc2_w 109, 3) := by decide +kernel
theorem dX7_reads_68 : decode cX7_reads 68 = .ok (.ldc2_w 111, 3) := by decide +kernel
theorem dX7_reads_71 : decode cX7_reads 71 = .ok (.invokestatic 75, 3) := by decide +kernel
theorem dX7_reads_74 : decode cX7_reads 74 = .ok (.ifCond .eq 42, 3) := by decide +kernel
theorem dX7_reads_77 : decode cX7_reads 77 = .ok (.aload_n 0, 1) := by decide +kernel
theorem dX7_reads_78 : decode cX7_reads 78 = .ok (.iconst 1, 1) := by decide +kernel
theorem dX7_reads_79 : decode cX7_reads 79 = .ok (.putfield 106, 3) := by decide +kernel
theorem dX7_reads_82 : decode cX7_reads 82 = .ok (.aload_n 0, 1) := by decide +kernel
theorem dX7_reads_83 : decode cX7_reads 83 = .ok (.aload_n 0, 1) := by decide +kernel
theorem dX7_reads_84 : decode cX7_reads 84 = .ok (.getfield 91, 3) := by decide +kernel
theorem dX7_reads_87 : decode cX7_reads 87 = .ok (.invokevirtual 94, 3) := by decide +kernel
theorem dX7_reads_90 : decode cX7_reads 90 = .ok (.i2l, 1) := by decide +kernel
theorem dX7_reads_91 : decode cX7_reads 91 = .ok (.ldc2_w 109, 3) := by decide +kernel
theorem dX7_reads_94 : decode cX7_reads 94 = .ok (.ldc2_w 111, 3) := by decide +kernel
theorem dX7_reads_97 : decode cX7_reads 97 = .ok (.invokestatic 75, 3) := by decide +kernel
theorem dX7_reads_100 : decode cX7_reads 100 = .ok (.ifCond .eq 174, 3) := by decide +kernel
theorem dX7_reads_103 : decode cX7_reads 103 = .ok (.aload_n 0, 1) := by decide +kernel
theorem dX7_reads_104 : decode cX7_reads 104 = .ok (.dup, 1) := by decide +kernel
theorem dX7_reads_105 : decode cX7_reads 105 = .ok (.getfield 91, 3) := by decide +kernel
theorem dX7_reads_108 : decode cX7_reads 108 = .ok (.iconst 1, 1) := by decide +kernel
theorem dX7_reads_109 : decode cX7_reads 109 = .ok (.iadd, 1) := by decide +kernel
theorem dX7_reads_110 : decode cX7_reads 110 = .ok (.putfield 91, 3) := by decide +kernel
theorem dX7_reads_113 : decode cX7_reads 113 = .ok (.goto (-31), 3) := by decide +kernel
theorem dX7_reads_116 : decode cX7_reads 116 = .ok (.iload_n 1, 1) := by decide +kernel
theorem dX7_reads_117 : decode cX7_reads 117 = .ok (.i2l, 1) := by decide +kernel
theorem dX7_reads_118 : decode cX7_reads 118 = .ok (.ldc2_w 113, 3) := by decide +kernel
theorem dX7_reads_121 : decode cX7_reads 121 = .ok (.ldc2_w 115, 3) := by decide +kernel
theorem dX7_reads_124 : decode cX7_reads 124 = .ok (.invokestatic 75, 3) := by decide +kernel
theorem dX7_reads_127 : decode cX7_reads 127 = .ok (.ifCond .eq 116, 3) := by decide +kernel
theorem dX7_reads_130 : decode cX7_reads 130 = .ok (.aload_n 0, 1) := by decide +kernel
theorem dX7_reads_131 : decode cX7_reads 131 = .ok (.iconst 2, 1) := by decide +kernel
theorem dX7_reads_132 : decode cX7_reads 132 = .ok (.putfield 106, 3) := by decide +kernel
theorem dX7_reads_135 : decode cX7_reads 135 = .ok (.aload_n 0, 1) := by decide +kernel
theorem dX7_reads_136 : decode cX7_reads 136 = .ok (.iconst 0, 1) := by decide +kernel
theorem dX7_reads_137 : decode cX7_reads 137 = .ok (.putfield 117, 3) := by decide +kernel
theorem dX7_reads_140 : decode cX7_reads 140 = .ok (.aload_n 0, 1) := by decide +kernel
theorem dX7_reads_141 : decode cX7_reads 141 = .ok (.aload_n 0, 1) := by decide +kernel
theorem dX7_reads_142 : decode cX7_reads 142 = .ok (.getfield 91, 3) := by decide +kernel
theorem dX7_reads_145 : decode cX7_reads 145 = .ok (.invokevirtual 94, 3) := by decide +kernel
theorem dX7_reads_148 : decode cX7_reads 148 = .ok (.i2l, 1) := by decide +kernel
theorem dX7_reads_149 : decode cX7_reads 149 = .ok (.ldc2_w 113, 3) := by decide +kernel
theorem dX7_reads_152 : decode cX7_reads 152 = .ok (.ldc2_w 115, 3) := by decide +kernel
theorem dX7_reads_155 : decode cX7_reads 155 = .ok (.invokestatic 75, 3) := by decide +kernel
theorem dX7_reads_158 : decode cX7_reads 158 = .ok (.ifCond .eq 59, 3) := by decide +kernel
theorem dX7_reads_161 : decode cX7_reads 161 = .ok (.aload_n 0, 1) := by decide +kernel
theorem dX7_reads_162 : decode cX7_reads 162 = .ok (.aload_n 0, 1) := by decide +kernel
theorem dX7_reads_163 : decode cX7_reads 163 = .ok (.getfield 91, 3) := by decide +kernel
theorem dX7_reads_166 : decode cX7_reads 166 = .ok (.aload_n 0, 1) := by decide +kernel
theorem dX7_reads_167 : decode cX7_reads 167 = .ok (.getfield 85, 3) := by decide +kernel
theorem dX7_reads_170 : decode cX7_reads 170 = .ok (.isub, 1) := by decide +kernel
theorem dX7_reads_171 : decode cX7_reads 171 = .ok (.iconst 2, 1) := by decide +kernel
theorem dX7_reads_172 : decode cX7_reads 172 = .ok (.if_icmp .ge 25, 3) := by decide +kernel
theorem dX7_reads_175 : decode cX7_reads 175 = .ok (.bipush 10, 2) := by decide +kernel
theorem dX7_reads_177 : decode cX7_reads 177 = .ok (.aload_n 0, 1) := by decide +kernel
theorem dX7_reads_178 : decode cX7_reads 178 = .ok (.getfield 117, 3) := by decide +kernel
theorem dX7_reads_181 : decode cX7_reads 181 = .ok (.imul, 1) := by decide +kernel
theorem dX7_reads_182 : decode cX7_reads 182 = .ok (.aload_n 0, 1) := by decide +kernel
theorem dX7_reads_183 : decode cX7_reads 183 = .ok (.aload_n 0, 1) := by decide +kernel
theorem dX7_reads_184 : decode cX7_reads 184 = .ok (.getfield 91, 3) := by decide +kernel
theorem dX7_reads_187 : decode cX7_reads 187 = .ok (.invokevirtual 94, 3) := by decide +kernel
theorem dX7_reads_190 : decode cX7_reads 190 = .ok (.iadd, 1) := by decide +kernel
theorem dX7_reads_191 : decode cX7_reads 191 = .ok (.bipush 48, 2) := by decide +kernel
theorem dX7_reads_193 : decode cX7_reads 193 = .ok (.isub, 1) := by decide +kernel
theorem dX7_reads_194 : decode cX7_reads 194 = .ok (.goto 7, 3) := by decide +kernel
theorem dX7_reads_197 : decode cX7_reads 197 = .ok (.aload_n 0, 1) := by decide +kernel
theorem dX7_reads_198 : decode cX7_reads 198 = .ok (.getfield 117, 3) := by decide +kernel
theorem dX7_reads_201 : decode cX7_reads 201 = .ok (.putfield 117, 3) := by decide +kernel
theorem dX7_reads_204 : decode cX7_reads 204 = .ok (.aload_n 0, 1) := by decide +kernel
theorem dX7_reads_205 : decode cX7_reads 205 = .ok (.dup, 1) := by decide +kernel
theorem dX7_reads_206 : decode cX7_reads 206 = .ok (.getfield 91, 3) := by decide +kernel
theorem dX7_reads_209 : decode cX7_reads 209 = .ok (.iconst 1, 1) := by decide +kernel
theorem dX7_reads_210 : decode cX7_reads 210 = .ok (.iadd, 1) := by decide +kernel
theorem dX7_reads_211 : decode cX7_reads 211 = .ok (.putfield 91, 3) := by decide +kernel
theorem dX7_reads_214 : decode cX7_reads 214 = .ok (.goto (-74), 3) := by decide +kernel
theorem dX7_reads_217 : decode cX7_reads 217 = .ok (.aload_n 0, 1) := by decide +kernel
theorem dX7_reads_218 : decode cX7_reads 218 = .ok (.aload_n 0, 1) := by decide +kernel
theorem dX7_reads_219 : decode cX7_reads 219 = .ok (.getfield 91, 3) := by decide +kernel
theorem dX7_reads_222 : decode cX7_reads 222 = .ok (.aload_n 0, 1) := by decide +kernel
theorem dX7_reads_223 : decode cX7_reads 223 = .ok (.getfield 85, 3) := by decide +kernel
theorem dX7_reads_226 : decode cX7_reads 226 = .ok (.isub, 1) := by decide +kernel
theorem dX7_reads_227 : decode cX7_reads 227 = .ok (.iconst 2, 1) := by decide +kernel
theorem dX7_reads_228 : decode cX7_reads 228 = .ok (.if_icmp .gt 7, 3) := by decide +kernel
theorem dX7_reads_231 : decode cX7_reads 231 = .ok (.iconst 1, 1) := by decide +kernel
theorem dX7_reads_232 : decode cX7_reads 232 = .ok (.goto 4, 3) := by decide +kernel
theorem dX7_reads_235 : decode cX7_reads 235 = .ok (.iconst 0, 1) := by decide +kernel
theorem dX7_reads_236 : decode cX7_reads 236 = .ok (.iconst 1, 1) := by decide +kernel
theorem dX7_reads_237 : decode cX7_reads 237 = .ok (.invokevirtual 120, 3) := by decide +kernel
theorem dX7_reads_240 : decode cX7_reads 240 = .ok (.goto 34, 3) := by decide +kernel
theorem dX7_reads_243 : decode cX7_reads 243 = .ok (.aload_n 0, 1) := by decide +kernel
theorem dX7_reads_244 : decode cX7_reads 244 = .ok (.iconst 3, 1) := by decide +kernel
theorem dX7_reads_245 : decode cX7_reads 245 = .ok (.putfield 106, 3) := by decide +kernel
theorem dX7_reads_248 : decode cX7_reads 248 = .ok (.aload_n 0, 1) := by decide +kernel
theorem dX7_reads_249 : decode cX7_reads 249 = .ok (.iload_n 1, 1) := by decide +kernel
theorem dX7_reads_250 : decode cX7_reads 250 = .ok (.bipush 59, 2) := by decide +kernel
theorem dX7_reads_252 : decode cX7_reads 252 = .ok (.if_icmp .ne 7, 3) := by decide +kernel
theorem dX7_reads_255 : decode cX7_reads 255 = .ok (.iconst 1, 1) := by decide +kernel
theorem dX7_reads_256 : decode cX7_reads 256 = .ok (.goto 4, 3) := by decide +kernel
theorem dX7_reads_259 : decode cX7_reads 259 = .ok (.iconst 0, 1) := by decide +kernel
theorem dX7_reads_260 : decode cX7_reads 260 = .ok (.iconst 1, 1) := by decide +kernel
theorem dX7_reads_261 : decode cX7_reads 261 = .ok (.invokevirtual 120, 3) := by decide +kernel
theorem dX7_reads_264 : decode cX7_reads 264 = .ok (.aload_n 0, 1) := by decide +kernel
theorem dX7_reads_265 : decode cX7_reads 265 = .ok (.dup, 1) := by decide +kernel
theorem dX7_reads_266 : decode cX7_reads 266 = .ok (.getfield 91, 3) := by decide +kernel
theorem dX7_reads_269 : decode cX7_reads 269 = .ok (.iconst 1, 1) := by decide +kernel
theorem dX7_reads_270 : decode cX7_reads 270 = .ok (.iadd, 1) := by decide +kernel
theorem dX7_reads_271 : decode cX7_reads 271 = .ok (.putfield 91, 3) := by decide +kernel
theorem dX7_reads_274 : decode cX7_reads 274 = .ok (.return_, 1) := by decide +kernel
theorem dX7_looked_0 : decode cX7_looked 0 = .ok (.aload_n 0, 1) := by decide +kernel
theorem dX7_looked_1 : decode cX7_looked 1 = .ok (.getfield 82, 3) := by decide +kernel
theorem dX7_looked_4 : decode cX7_looked 4 = .ok (.ifCond .ne 21, 3) := by decide +kernel
theorem dX7_looked_7 : decode cX7_looked 7 = .ok (.aload_n 0, 1) := by decide +kernel
theorem dX7_looked_8 : decode cX7_looked 8 = .ok (.aload_n 0, 1) := by decide +kernel
theorem dX7_looked_9 : decode cX7_looked 9 = .ok (.getfield 106, 3) := by decide +kernel
theorem dX7_looked_12 : decode cX7_looked 12 = .ok (.iconst 2, 1) := by decide +kernel
theorem dX7_looked_13 : decode cX7_looked 13 = .ok (.if_icmp .ne 7, 3) := by decide +kernel
theorem dX7_looked_16 : decode cX7_looked 16 = .ok (.iconst 1, 1) := by decide +kernel
theorem dX7_looked_17 : decode cX7_looked 17 = .ok (.goto 4, 3) := by decide +kernel
theorem dX7_looked_20 : decode cX7_looked 20 = .ok (.iconst 0, 1) := by decide +kernel
theorem dX7_looked_21 : decode cX7_looked 21 = .ok (.iconst 2, 1) := by decide +kernel
theorem dX7_looked_22 : decode cX7_looked 22 = .ok (.invokevirtual 120, 3) := by decide +kernel
theorem dX7_looked_25 : decode cX7_looked 25 = .ok (.aload_n 0, 1) := by decide +kernel
theorem dX7_looked_26 : decode cX7_looked 26 = .ok (.getfield 82, 3) := by decide +kernel
theorem dX7_looked_29 : decode cX7_looked 29 = .ok (.ifCond .ne 20, 3) := by decide +kernel
theorem dX7_looked_32 : decode cX7_looked 32 = .ok (.aload_n 0, 1) := by decide +kernel
theorem dX7_looked_33 : decode cX7_looked 33 = .ok (.aload_n 0, 1) := by decide +kernel
theorem dX7_looked_34 : decode cX7_looked 34 = .ok (.getfield 117, 3) := by decide +kernel
theorem dX7_looked_37 : decode cX7_looked 37 = .ok (.i2l, 1) := by decide +kernel
theorem dX7_looked_38 : decode cX7_looked 38 = .ok (.iload_n 1, 1) := by decide +kernel
theorem dX7_looked_39 : decode cX7_looked 39 = .ok (.i2l, 1) := by decide +kernel
theorem dX7_looked_40 : decode cX7_looked 40 = .ok (.iload_n 2, 1) := by decide +kernel
theorem dX7_looked_41 : decode cX7_looked 41 = .ok (.i2l, 1) := by decide +kernel
theorem dX7_looked_42 : decode cX7_looked 42 = .ok (.invokestatic 75, 3) := by decide +kernel
theorem dX7_looked_45 : decode cX7_looked 45 = .ok (.iconst 3, 1) := by decide +kernel
theorem dX7_looked_46 : decode cX7_looked 46 = .ok (.invokevirtual 120, 3) := by decide +kernel
theorem dX7_looked_49 : decode cX7_looked 49 = .ok (.aload_n 0, 1) := by decide +kernel
theorem dX7_looked_50 : decode cX7_looked 50 = .ok (.getfield 82, 3) := by decide +kernel
theorem dX7_looked_53 : decode cX7_looked 53 = .ok (.ifCond .ne 10, 3) := by decide +kernel
theorem dX7_looked_56 : decode cX7_looked 56 = .ok (.aload_n 0, 1) := by decide +kernel
theorem dX7_looked_57 : decode cX7_looked 57 = .ok (.getfield 117, 3) := by decide +kernel
theorem dX7_looked_60 : decode cX7_looked 60 = .ok (.goto 4, 3) := by decide +kernel
theorem dX7_looked_63 : decode cX7_looked 63 = .ok (.iconst 0, 1) := by decide +kernel
theorem dX7_looked_64 : decode cX7_looked 64 = .ok (.ireturn, 1) := by decide +kernel
theorem dX7_readNumber_0 : decode cX7_readNumber 0 = .ok (.aload_n 0, 1) := by decide +kernel
theorem dX7_readNumber_1 : decode cX7_readNumber 1 = .ok (.iload_n 1, 1) := by decide +kernel
theorem dX7_readNumber_2 : decode cX7_readNumber 2 = .ok (.iload_n 2, 1) := by decide +kernel
theorem dX7_readNumber_3 : decode cX7_readNumber 3 = .ok (.invokevirtual 124, 3) := by decide +kernel
theorem dX7_readNumber_6 : decode cX7_readNumber 6 = .ok (.istore_n 3, 1) := by decide +kernel
theorem dX7_readNumber_7 : decode cX7_readNumber 7 = .ok (.aload_n 0, 1) := by decide +kernel
theorem dX7_readNumber_8 : decode cX7_readNumber 8 = .ok (.invokevirtual 128, 3) := by decide +kernel
theorem dX7_readNumber_11 : decode cX7_readNumber 11 = .ok (.iload_n 3, 1) := by decide +kernel
theorem dX7_readNumber_12 : decode cX7_readNumber 12 = .ok (.ireturn, 1) := by decide +kernel
theorem dX7_readRota_0 : decode cX7_readRota 0 = .ok (.aload_n 0, 1) := by decide +kernel
theorem dX7_readRota_1 : decode cX7_readRota 1 = .ok (.getfield 82, 3) := by decide +kernel
theorem dX7_readRota_4 : decode cX7_readRota 4 = .ok (.ifCond .ne 101, 3) := by decide +kernel
theorem dX7_readRota_7 : decode cX7_readRota 7 = .ok (.aload_n 0, 1) := by decide +kernel
theorem dX7_readRota_8 : decode cX7_readRota 8 = .ok (.getfield 106, 3) := by decide +kernel
theorem dX7_readRota_11 : decode cX7_readRota 11 = .ok (.iconst 2, 1) := by decide +kernel
theorem dX7_readRota_12 : decode cX7_readRota 12 = .ok (.if_icmp .ne 93, 3) := by decide +kernel
theorem dX7_readRota_15 : decode cX7_readRota 15 = .ok (.aload_n 0, 1) := by decide +kernel
theorem dX7_readRota_16 : decode cX7_readRota 16 = .ok (.aload_n 0, 1) := by decide +kernel
theorem dX7_readRota_17 : decode cX7_readRota 17 = .ok (.getfield 20, 3) := by decide +kernel
theorem dX7_readRota_20 : decode cX7_readRota 20 = .ok (.bipush 17, 2) := by decide +kernel
theorem dX7_readRota_22 : decode cX7_readRota 22 = .ok (.iaload, 1) := by decide +kernel
theorem dX7_readRota_23 : decode cX7_readRota 23 = .ok (.bipush 8, 2) := by decide +kernel
theorem dX7_readRota_25 : decode cX7_readRota 25 = .ok (.if_icmp .ge 7, 3) := by decide +kernel
theorem dX7_readRota_28 : decode cX7_readRota 28 = .ok (.iconst 1, 1) := by decide +kernel
theorem dX7_readRota_29 : decode cX7_readRota 29 = .ok (.goto 4, 3) := by decide +kernel
theorem dX7_readRota_32 : decode cX7_readRota 32 = .ok (.iconst 0, 1) := by decide +kernel
theorem dX7_readRota_33 : decode cX7_readRota 33 = .ok (.iconst 5, 1) := by decide +kernel
theorem dX7_readRota_34 : decode cX7_readRota 34 = .ok (.invokevirtual 120, 3) := by decide +kernel
theorem dX7_readRota_37 : decode cX7_readRota 37 = .ok (.aload_n 0, 1) := by decide +kernel
theorem dX7_readRota_38 : decode cX7_readRota 38 = .ok (.getfield 82, 3) := by decide +kernel
theorem dX7_readRota_41 : decode cX7_readRota 41 = .ok (.ifCond .ne (-41), 3) := by decide +kernel
theorem dX7_readRota_44 : decode cX7_readRota 44 = .ok (.aload_n 0, 1) := by decide +kernel
theorem dX7_readRota_45 : decode cX7_readRota 45 = .ok (.iconst 0, 1) := by decide +kernel
theorem dX7_readRota_46 : decode cX7_readRota 46 = .ok (.iconst 4, 1) := by decide +kernel
theorem dX7_readRota_47 : decode cX7_readRota 47 = .ok (.invokevirtual 124, 3) := by decide +kernel
theorem dX7_readRota_50 : decode cX7_readRota 50 = .ok (.istore_n 1, 1) := by decide +kernel
theorem dX7_readRota_51 : decode cX7_readRota 51 = .ok (.aload_n 0, 1) := by decide +kernel
theorem dX7_readRota_52 : decode cX7_readRota 52 = .ok (.getfield 20, 3) := by decide +kernel
theorem dX7_readRota_55 : decode cX7_readRota 55 = .ok (.bipush 18, 2) := by decide +kernel
theorem dX7_readRota_57 : decode cX7_readRota 57 = .ok (.aload_n 0, 1) := by decide +kernel
theorem dX7_readRota_58 : decode cX7_readRota 58 = .ok (.getfield 20, 3) := by decide +kernel
theorem dX7_readRota_61 : decode cX7_readRota 61 = .ok (.bipush 17, 2) := by decide +kernel
theorem dX7_readRota_63 : decode cX7_readRota 63 = .ok (.iaload, 1) := by decide +kernel
theorem dX7_readRota_64 : decode cX7_readRota 64 = .ok (.iadd, 1) := by decide +kernel
theorem dX7_readRota_65 : decode cX7_readRota 65 = .ok (.iload_n 1, 1) := by decide +kernel
theorem dX7_readRota_66 : decode cX7_readRota 66 = .ok (.iastore, 1) := by decide +kernel
theorem dX7_readRota_67 : decode cX7_readRota 67 = .ok (.aload_n 0, 1) := by decide +kernel
theorem dX7_readRota_68 : decode cX7_readRota 68 = .ok (.getfield 20, 3) := by decide +kernel
theorem dX7_readRota_71 : decode cX7_readRota 71 = .ok (.bipush 17, 2) := by decide +kernel
theorem dX7_readRota_73 : decode cX7_readRota 73 = .ok (.dup2, 1) := by decide +kernel
theorem dX7_readRota_74 : decode cX7_readRota 74 = .ok (.iaload, 1) := by decide +kernel
theorem dX7_readRota_75 : decode cX7_readRota 75 = .ok (.iconst 1, 1) := by decide +kernel
theorem dX7_readRota_76 : decode cX7_readRota 76 = .ok (.iadd, 1) := by decide +kernel
theorem dX7_readRota_77 : decode cX7_readRota 77 = .ok (.iastore, 1) := by decide +kernel
theorem dX7_readRota_78 : decode cX7_readRota 78 = .ok (.aload_n 0, 1) := by decide +kernel
theorem dX7_readRota_79 : decode cX7_readRota 79 = .ok (.iload_n 1, 1) := by decide +kernel
theorem dX7_readRota_80 : decode cX7_readRota 80 = .ok (.aload_n 0, 1) := by decide +kernel
theorem dX7_readRota_81 : decode cX7_readRota 81 = .ok (.getfield 67, 3) := by decide +kernel
theorem dX7_readRota_84 : decode cX7_readRota 84 = .ok (.if_icmp .le 7, 3) := by decide +kernel
theorem dX7_readRota_87 : decode cX7_readRota 87 = .ok (.iload_n 1, 1) := by decide +kernel
theorem dX7_readRota_88 : decode cX7_readRota 88 = .ok (.goto 7, 3) := by decide +kernel
theorem dX7_readRota_91 : decode cX7_readRota 91 = .ok (.aload_n 0, 1) := by decide +kernel
theorem dX7_readRota_92 : decode cX7_readRota 92 = .ok (.getfield 67, 3) := by decide +kernel
theorem dX7_readRota_95 : decode cX7_readRota 95 = .ok (.putfield 67, 3) := by decide +kernel
theorem dX7_readRota_98 : decode cX7_readRota 98 = .ok (.aload_n 0, 1) := by decide +kernel
theorem dX7_readRota_99 : decode cX7_readRota 99 = .ok (.invokevirtual 128, 3) := by decide +kernel
theorem dX7_readRota_102 : decode cX7_readRota 102 = .ok (.goto (-102), 3) := by decide +kernel
theorem dX7_readRota_105 : decode cX7_readRota 105 = .ok (.return_, 1) := by decide +kernel
theorem dX7_readLineOf_0 : decode cX7_readLineOf 0 = .ok (.iload_n 1, 1) := by decide +kernel
theorem dX7_readLineOf_1 : decode cX7_readLineOf 1 = .ok (.lookupswitch 65 #[(4, 27), (5, 58)], 27) := by decide +kernel
theorem dX7_readLineOf_28 : decode cX7_readLineOf 28 = .ok (.aload_n 0, 1) := by decide +kernel
theorem dX7_readLineOf_29 : decode cX7_readLineOf 29 = .ok (.getfield 20, 3) := by decide +kernel
theorem dX7_readLineOf_32 : decode cX7_readLineOf 32 = .ok (.bipush 15, 2) := by decide +kernel
theorem dX7_readLineOf_34 : decode cX7_readLineOf 34 = .ok (.aload_n 0, 1) := by decide +kernel
theorem dX7_readLineOf_35 : decode cX7_readLineOf 35 = .ok (.iconst 1, 1) := by decide +kernel
theorem dX7_readLineOf_36 : decode cX7_readLineOf 36 = .ok (.bipush 99, 2) := by decide +kernel
theorem dX7_readLineOf_38 : decode cX7_readLineOf 38 = .ok (.invokevirtual 131, 3) := by decide +kernel
theorem dX7_readLineOf_41 : decode cX7_readLineOf 41 = .ok (.iastore, 1) := by decide +kernel
theorem dX7_readLineOf_42 : decode cX7_readLineOf 42 = .ok (.aload_n 0, 1) := by decide +kernel
theorem dX7_readLineOf_43 : decode cX7_readLineOf 43 = .ok (.getfield 20, 3) := by decide +kernel
theorem dX7_readLineOf_46 : decode cX7_readLineOf 46 = .ok (.bipush 16, 2) := by decide +kernel
theorem dX7_readLineOf_48 : decode cX7_readLineOf 48 = .ok (.aload_n 0, 1) := by decide +kernel
theorem dX7_readLineOf_49 : decode cX7_readLineOf 49 = .ok (.iconst 0, 1) := by decide +kernel
theorem dX7_readLineOf_50 : decode cX7_readLineOf 50 = .ok (.bipush 99, 2) := by decide +kernel
theorem dX7_readLineOf_52 : decode cX7_readLineOf 52 = .ok (.invokevirtual 131, 3) := by decide +kernel
theorem dX7_readLineOf_55 : decode cX7_readLineOf 55 = .ok (.iastore, 1) := by decide +kernel
theorem dX7_readLineOf_56 : decode cX7_readLineOf 56 = .ok (.goto 74, 3) := by decide +kernel
theorem dX7_readLineOf_59 : decode cX7_readLineOf 59 = .ok (.aload_n 0, 1) := by decide +kernel
theorem dX7_readLineOf_60 : decode cX7_readLineOf 60 = .ok (.invokevirtual 134, 3) := by decide +kernel
theorem dX7_readLineOf_63 : decode cX7_readLineOf 63 = .ok (.goto 67, 3) := by decide +kernel
theorem dX7_readLineOf_66 : decode cX7_readLineOf 66 = .ok (.aload_n 0, 1) := by decide +kernel
theorem dX7_readLineOf_67 : decode cX7_readLineOf 67 = .ok (.getfield 20, 3) := by decide +kernel
theorem dX7_readLineOf_70 : decode cX7_readLineOf 70 = .ok (.iconst 3, 1) := by decide +kernel
theorem dX7_readLineOf_71 : decode cX7_readLineOf 71 = .ok (.aload_n 0, 1) := by decide +kernel
theorem dX7_readLineOf_72 : decode cX7_readLineOf 72 = .ok (.getfield 56, 3) := by decide +kernel
theorem dX7_readLineOf_75 : decode cX7_readLineOf 75 = .ok (.imul, 1) := by decide +kernel
theorem dX7_readLineOf_76 : decode cX7_readLineOf 76 = .ok (.iconst 0, 1) := by decide +kernel
theorem dX7_readLineOf_77 : decode cX7_readLineOf 77 = .ok (.iadd, 1) := by decide +kernel
theorem dX7_readLineOf_78 : decode cX7_readLineOf 78 = .ok (.iload_n 1, 1) := by decide +kernel
theorem dX7_readLineOf_79 : decode cX7_readLineOf 79 = .ok (.iastore, 1) := by decide +kernel
theorem dX7_readLineOf_80 : decode cX7_readLineOf 80 = .ok (.aload_n 0, 1) := by decide +kernel
theorem dX7_readLineOf_81 : decode cX7_readLineOf 81 = .ok (.getfield 20, 3) := by decide +kernel
theorem dX7_readLineOf_84 : decode cX7_readLineOf 84 = .ok (.iconst 3, 1) := by decide +kernel
theorem dX7_readLineOf_85 : decode cX7_readLineOf 85 = .ok (.aload_n 0, 1) := by decide +kernel
theorem dX7_readLineOf_86 : decode cX7_readLineOf 86 = .ok (.getfield 56, 3) := by decide +kernel
theorem dX7_readLineOf_89 : decode cX7_readLineOf 89 = .ok (.imul, 1) := by decide +kernel
theorem dX7_readLineOf_90 : decode cX7_readLineOf 90 = .ok (.iconst 1, 1) := by decide +kernel
theorem dX7_readLineOf_91 : decode cX7_readLineOf 91 = .ok (.iadd, 1) := by decide +kernel
theorem dX7_readLineOf_92 : decode cX7_readLineOf 92 = .ok (.aload_n 0, 1) := by decide +kernel
theorem dX7_readLineOf_93 : decode cX7_readLineOf 93 = .ok (.iconst 0, 1) := by decide +kernel
theorem dX7_readLineOf_94 : decode cX7_readLineOf 94 = .ok (.bipush 99, 2) := by decide +kernel
theorem dX7_readLineOf_96 : decode cX7_readLineOf 96 = .ok (.invokevirtual 131, 3) := by decide +kernel
theorem dX7_readLineOf_99 : decode cX7_readLineOf 99 = .ok (.iastore, 1) := by decide +kernel
theorem dX7_readLineOf_100 : decode cX7_readLineOf 100 = .ok (.aload_n 0, 1) := by decide +kernel
theorem dX7_readLineOf_101 : decode cX7_readLineOf 101 = .ok (.getfield 20, 3) := by decide +kernel
theorem dX7_readLineOf_104 : decode cX7_readLineOf 104 = .ok (.iconst 3, 1) := by decide +kernel
theorem dX7_readLineOf_105 : decode cX7_readLineOf 105 = .ok (.aload_n 0, 1) := by decide +kernel
theorem dX7_readLineOf_106 : decode cX7_readLineOf 106 = .ok (.getfield 56, 3) := by decide +kernel
theorem dX7_readLineOf_109 : decode cX7_readLineOf 109 = .ok (.imul, 1) := by decide +kernel
theorem dX7_readLineOf_110 : decode cX7_readLineOf 110 = .ok (.iconst 2, 1) := by decide +kernel
theorem dX7_readLineOf_111 : decode cX7_readLineOf 111 = .ok (.iadd, 1) := by decide +kernel
theorem dX7_readLineOf_112 : decode cX7_readLineOf 112 = .ok (.aload_n 0, 1) := by decide +kernel
theorem dX7_readLineOf_113 : decode cX7_readLineOf 113 = .ok (.iconst 1, 1) := by decide +kernel
theorem dX7_readLineOf_114 : decode cX7_readLineOf 114 = .ok (.bipush 99, 2) := by decide +kernel
theorem dX7_readLineOf_116 : decode cX7_readLineOf 116 = .ok (.invokevirtual 131, 3) := by decide +kernel
theorem dX7_readLineOf_119 : decode cX7_readLineOf 119 = .ok (.iastore, 1) := by decide +kernel
theorem dX7_readLineOf_120 : decode cX7_readLineOf 120 = .ok (.aload_n 0, 1) := by decide +kernel
theorem dX7_readLineOf_121 : decode cX7_readLineOf 121 = .ok (.dup, 1) := by decide +kernel
theorem dX7_readLineOf_122 : decode cX7_readLineOf 122 = .ok (.getfield 56, 3) := by decide +kernel
theorem dX7_readLineOf_125 : decode cX7_readLineOf 125 = .ok (.iconst 1, 1) := by decide +kernel
theorem dX7_readLineOf_126 : decode cX7_readLineOf 126 = .ok (.iadd, 1) := by decide +kernel
theorem dX7_readLineOf_127 : decode cX7_readLineOf 127 = .ok (.putfield 56, 3) := by decide +kernel
theorem dX7_readLineOf_130 : decode cX7_readLineOf 130 = .ok (.return_, 1) := by decide +kernel
theorem dX7_readLine_0 : decode cX7_readLine 0 = .ok (.aload_n 0, 1) := by decide +kernel
theorem dX7_readLine_1 : decode cX7_readLine 1 = .ok (.getfield 106, 3) := by decide +kernel
theorem dX7_readLine_4 : decode cX7_readLine 4 = .ok (.iconst 1, 1) := by decide +kernel
theorem dX7_readLine_5 : decode cX7_readLine 5 = .ok (.if_icmp .ne 10, 3) := by decide +kernel
theorem dX7_readLine_8 : decode cX7_readLine 8 = .ok (.aload_n 0, 1) := by decide +kernel
theorem dX7_readLine_9 : decode cX7_readLine 9 = .ok (.invokevirtual 137, 3) := by decide +kernel
theorem dX7_readLine_12 : decode cX7_readLine 12 = .ok (.goto 5, 3) := by decide +kernel
theorem dX7_readLine_15 : decode cX7_readLine 15 = .ok (.bipush (-4), 2) := by decide +kernel
theorem dX7_readLine_17 : decode cX7_readLine 17 = .ok (.istore_n 1, 1) := by decide +kernel
theorem dX7_readLine_18 : decode cX7_readLine 18 = .ok (.aload_n 0, 1) := by decide +kernel
theorem dX7_readLine_19 : decode cX7_readLine 19 = .ok (.iload_n 1, 1) := by decide +kernel
theorem dX7_readLine_20 : decode cX7_readLine 20 = .ok (.bipush (-4), 2) := by decide +kernel
theorem dX7_readLine_22 : decode cX7_readLine 22 = .ok (.if_icmp .eq 7, 3) := by decide +kernel
theorem dX7_readLine_25 : decode cX7_readLine 25 = .ok (.iconst 1, 1) := by decide +kernel
theorem dX7_readLine_26 : decode cX7_readLine 26 = .ok (.goto 4, 3) := by decide +kernel
theorem dX7_readLine_29 : decode cX7_readLine 29 = .ok (.iconst 0, 1) := by decide +kernel
theorem dX7_readLine_30 : decode cX7_readLine 30 = .ok (.iconst 2, 1) := by decide +kernel
theorem dX7_readLine_31 : decode cX7_readLine 31 = .ok (.invokevirtual 120, 3) := by decide +kernel
theorem dX7_readLine_34 : decode cX7_readLine 34 = .ok (.aload_n 0, 1) := by decide +kernel
theorem dX7_readLine_35 : decode cX7_readLine 35 = .ok (.iload_n 1, 1) := by decide +kernel
theorem dX7_readLine_36 : decode cX7_readLine 36 = .ok (.iconst 4, 1) := by decide +kernel
theorem dX7_readLine_37 : decode cX7_readLine 37 = .ok (.if_icmp .ge 11, 3) := by decide +kernel
theorem dX7_readLine_40 : decode cX7_readLine 40 = .ok (.aload_n 0, 1) := by decide +kernel
theorem dX7_readLine_41 : decode cX7_readLine 41 = .ok (.getfield 56, 3) := by decide +kernel
theorem dX7_readLine_44 : decode cX7_readLine 44 = .ok (.iconst 5, 1) := by decide +kernel
theorem dX7_readLine_45 : decode cX7_readLine 45 = .ok (.if_icmp .ge 7, 3) := by decide +kernel
theorem dX7_readLine_48 : decode cX7_readLine 48 = .ok (.iconst 1, 1) := by decide +kernel
theorem dX7_readLine_49 : decode cX7_readLine 49 = .ok (.goto 4, 3) := by decide +kernel
theorem dX7_readLine_52 : decode cX7_readLine 52 = .ok (.iconst 0, 1) := by decide +kernel
theorem dX7_readLine_53 : decode cX7_readLine 53 = .ok (.iconst 5, 1) := by decide +kernel
theorem dX7_readLine_54 : decode cX7_readLine 54 = .ok (.invokevirtual 120, 3) := by decide +kernel
theorem dX7_readLine_57 : decode cX7_readLine 57 = .ok (.aload_n 0, 1) := by decide +kernel
theorem dX7_readLine_58 : decode cX7_readLine 58 = .ok (.iload_n 1, 1) := by decide +kernel
theorem dX7_readLine_59 : decode cX7_readLine 59 = .ok (.iconst 4, 1) := by decide +kernel
theorem dX7_readLine_60 : decode cX7_readLine 60 = .ok (.if_icmp .ne 10, 3) := by decide +kernel
theorem dX7_readLine_63 : decode cX7_readLine 63 = .ok (.aload_n 0, 1) := by decide +kernel
theorem dX7_readLine_64 : decode cX7_readLine 64 = .ok (.getfield 60, 3) := by decide +kernel
theorem dX7_readLine_67 : decode cX7_readLine 67 = .ok (.ifCond .ne 7, 3) := by decide +kernel
theorem dX7_readLine_70 : decode cX7_readLine 70 = .ok (.iconst 1, 1) := by decide +kernel
theorem dX7_readLine_71 : decode cX7_readLine 71 = .ok (.goto 4, 3) := by decide +kernel
theorem dX7_readLine_74 : decode cX7_readLine 74 = .ok (.iconst 0, 1) := by decide +kernel
theorem dX7_readLine_75 : decode cX7_readLine 75 = .ok (.iconst 4, 1) := by decide +kernel
theorem dX7_readLine_76 : decode cX7_readLine 76 = .ok (.invokevirtual 120, 3) := by decide +kernel
theorem dX7_readLine_79 : decode cX7_readLine 79 = .ok (.aload_n 0, 1) := by decide +kernel
theorem dX7_readLine_80 : decode cX7_readLine 80 = .ok (.iload_n 1, 1) := by decide +kernel
theorem dX7_readLine_81 : decode cX7_readLine 81 = .ok (.iconst 5, 1) := by decide +kernel
theorem dX7_readLine_82 : decode cX7_readLine 82 = .ok (.if_icmp .ne 10, 3) := by decide +kernel
theorem dX7_readLine_85 : decode cX7_readLine 85 = .ok (.aload_n 0, 1) := by decide +kernel
theorem dX7_readLine_86 : decode cX7_readLine 86 = .ok (.getfield 64, 3) := by decide +kernel
theorem dX7_readLine_89 : decode cX7_readLine 89 = .ok (.ifCond .ne 7, 3) := by decide +kernel
theorem dX7_readLine_92 : decode cX7_readLine 92 = .ok (.iconst 1, 1) := by decide +kernel
theorem dX7_readLine_93 : decode cX7_readLine 93 = .ok (.goto 4, 3) := by decide +kernel
theorem dX7_readLine_96 : decode cX7_readLine 96 = .ok (.iconst 0, 1) := by decide +kernel
theorem dX7_readLine_97 : decode cX7_readLine 97 = .ok (.iconst 4, 1) := by decide +kernel
theorem dX7_readLine_98 : decode cX7_readLine 98 = .ok (.invokevirtual 120, 3) := by decide +kernel
theorem dX7_readLine_101 : decode cX7_readLine 101 = .ok (.aload_n 0, 1) := by decide +kernel
theorem dX7_readLine_102 : decode cX7_readLine 102 = .ok (.aload_n 0, 1) := by decide +kernel
theorem dX7_readLine_103 : decode cX7_readLine 103 = .ok (.getfield 60, 3) := by decide +kernel
theorem dX7_readLine_106 : decode cX7_readLine 106 = .ok (.ifCond .ne 8, 3) := by decide +kernel
theorem dX7_readLine_109 : decode cX7_readLine 109 = .ok (.iload_n 1, 1) := by decide +kernel
theorem dX7_readLine_110 : decode cX7_readLine 110 = .ok (.iconst 4, 1) := by decide +kernel
theorem dX7_readLine_111 : decode cX7_readLine 111 = .ok (.if_icmp .ne 7, 3) := by decide +kernel
theorem dX7_readLine_114 : decode cX7_readLine 114 = .ok (.iconst 1, 1) := by decide +kernel
theorem dX7_readLine_115 : decode cX7_readLine 115 = .ok (.goto 4, 3) := by decide +kernel
theorem dX7_readLine_118 : decode cX7_readLine 118 = .ok (.iconst 0, 1) := by decide +kernel
theorem dX7_readLine_119 : decode cX7_readLine 119 = .ok (.putfield 60, 3) := by decide +kernel
theorem dX7_readLine_122 : decode cX7_readLine 122 = .ok (.aload_n 0, 1) := by decide +kernel
theorem dX7_readLine_123 : decode cX7_readLine 123 = .ok (.aload_n 0, 1) := by decide +kernel
theorem dX7_readLine_124 : decode cX7_readLine 124 = .ok (.getfield 64, 3) := by decide +kernel
theorem dX7_readLine_127 : decode cX7_readLine 127 = .ok (.ifCond .ne 8, 3) := by decide +kernel
theorem dX7_readLine_130 : decode cX7_readLine 130 = .ok (.iload_n 1, 1) := by decide +kernel
theorem dX7_readLine_131 : decode cX7_readLine 131 = .ok (.iconst 5, 1) := by decide +kernel
theorem dX7_readLine_132 : decode cX7_readLine 132 = .ok (.if_icmp .ne 7, 3) := by decide +kernel
theorem dX7_readLine_135 : decode cX7_readLine 135 = .ok (.iconst 1, 1) := by decide +kernel
theorem dX7_readLine_136 : decode cX7_readLine 136 = .ok (.goto 4, 3) := by decide +kernel
theorem dX7_readLine_139 : decode cX7_readLine 139 = .ok (.iconst 0, 1) := by decide +kernel
theorem dX7_readLine_140 : decode cX7_readLine 140 = .ok (.putfield 64, 3) := by decide +kernel
theorem dX7_readLine_143 : decode cX7_readLine 143 = .ok (.aload_n 0, 1) := by decide +kernel
theorem dX7_readLine_144 : decode cX7_readLine 144 = .ok (.invokevirtual 128, 3) := by decide +kernel
theorem dX7_readLine_147 : decode cX7_readLine 147 = .ok (.aload_n 0, 1) := by decide +kernel
theorem dX7_readLine_148 : decode cX7_readLine 148 = .ok (.getfield 82, 3) := by decide +kernel
theorem dX7_readLine_151 : decode cX7_readLine 151 = .ok (.ifCond .le 4, 3) := by decide +kernel
theorem dX7_readLine_154 : decode cX7_readLine 154 = .ok (.return_, 1) := by decide +kernel
theorem dX7_readLine_155 : decode cX7_readLine 155 = .ok (.aload_n 0, 1) := by decide +kernel
theorem dX7_readLine_156 : decode cX7_readLine 156 = .ok (.iload_n 1, 1) := by decide +kernel
theorem dX7_readLine_157 : decode cX7_readLine 157 = .ok (.invokevirtual 141, 3) := by decide +kernel
theorem dX7_readLine_160 : decode cX7_readLine 160 = .ok (.aload_n 0, 1) := by decide +kernel
theorem dX7_readLine_161 : decode cX7_readLine 161 = .ok (.getfield 82, 3) := by decide +kernel
theorem dX7_readLine_164 : decode cX7_readLine 164 = .ok (.ifCond .ne 21, 3) := by decide +kernel
theorem dX7_readLine_167 : decode cX7_readLine 167 = .ok (.aload_n 0, 1) := by decide +kernel
theorem dX7_readLine_168 : decode cX7_readLine 168 = .ok (.aload_n 0, 1) := by decide +kernel
theorem dX7_readLine_169 : decode cX7_readLine 169 = .ok (.getfield 106, 3) := by decide +kernel
theorem dX7_readLine_172 : decode cX7_readLine 172 = .ok (.iconst 3, 1) := by decide +kernel
theorem dX7_readLine_173 : decode cX7_readLine 173 = .ok (.if_icmp .ne 7, 3) := by decide +kernel
theorem dX7_readLine_176 : decode cX7_readLine 176 = .ok (.iconst 1, 1) := by decide +kernel
theorem dX7_readLine_177 : decode cX7_readLine 177 = .ok (.goto 4, 3) := by decide +kernel
theorem dX7_readLine_180 : decode cX7_readLine 180 = .ok (.iconst 0, 1) := by decide +kernel
theorem dX7_readLine_181 : decode cX7_readLine 181 = .ok (.iconst 2, 1) := by decide +kernel
theorem dX7_readLine_182 : decode cX7_readLine 182 = .ok (.invokevirtual 120, 3) := by decide +kernel
theorem dX7_readLine_185 : decode cX7_readLine 185 = .ok (.aload_n 0, 1) := by decide +kernel
theorem dX7_readLine_186 : decode cX7_readLine 186 = .ok (.invokevirtual 128, 3) := by decide +kernel
theorem dX7_readLine_189 : decode cX7_readLine 189 = .ok (.return_, 1) := by decide +kernel
theorem dX7_text_0 : decode cX7_text 0 = .ok (.iconst 0, 1) := by decide +kernel
theorem dX7_text_1 : decode cX7_text 1 = .ok (.istore_n 1, 1) := by decide +kernel
theorem dX7_text_2 : decode cX7_text 2 = .ok (.aload_n 0, 1) := by decide +kernel
theorem dX7_text_3 : decode cX7_text 3 = .ok (.iconst 0, 1) := by decide +kernel
theorem dX7_text_4 : decode cX7_text 4 = .ok (.putfield 82, 3) := by decide +kernel
theorem dX7_text_7 : decode cX7_text 7 = .ok (.aload_n 0, 1) := by decide +kernel
theorem dX7_text_8 : decode cX7_text 8 = .ok (.iconst 0, 1) := by decide +kernel
theorem dX7_text_9 : decode cX7_text 9 = .ok (.putfield 91, 3) := by decide +kernel
theorem dX7_text_12 : decode cX7_text 12 = .ok (.aload_n 0, 1) := by decide +kernel
theorem dX7_text_13 : decode cX7_text 13 = .ok (.invokevirtual 50, 3) := by decide +kernel
theorem dX7_text_16 : decode cX7_text 16 = .ok (.aload_n 0, 1) := by decide +kernel
theorem dX7_text_17 : decode cX7_text 17 = .ok (.invokevirtual 128, 3) := by decide +kernel
theorem dX7_text_20 : decode cX7_text 20 = .ok (.aload_n 0, 1) := by decide +kernel
theorem dX7_text_21 : decode cX7_text 21 = .ok (.getfield 82, 3) := by decide +kernel
theorem dX7_text_24 : decode cX7_text 24 = .ok (.ifCond .ne 20, 3) := by decide +kernel
theorem dX7_text_27 : decode cX7_text 27 = .ok (.aload_n 0, 1) := by decide +kernel
theorem dX7_text_28 : decode cX7_text 28 = .ok (.getfield 106, 3) := by decide +kernel
theorem dX7_text_31 : decode cX7_text 31 = .ok (.ifCond .eq 13, 3) := by decide +kernel
theorem dX7_text_34 : decode cX7_text 34 = .ok (.aload_n 0, 1) := by decide +kernel
theorem dX7_text_35 : decode cX7_text 35 = .ok (.invokevirtual 145, 3) := by decide +kernel
theorem dX7_text_38 : decode cX7_text 38 = .ok (.iinc 1 1, 3) := by decide +kernel
theorem dX7_text_41 : decode cX7_text 41 = .ok (.goto (-21), 3) := by decide +kernel
theorem dX7_text_44 : decode cX7_text 44 = .ok (.aload_n 0, 1) := by decide +kernel
theorem dX7_text_45 : decode cX7_text 45 = .ok (.getfield 82, 3) := by decide +kernel
theorem dX7_text_48 : decode cX7_text 48 = .ok (.ifCond .ne 25, 3) := by decide +kernel
theorem dX7_text_51 : decode cX7_text 51 = .ok (.aload_n 0, 1) := by decide +kernel
theorem dX7_text_52 : decode cX7_text 52 = .ok (.aload_n 0, 1) := by decide +kernel
theorem dX7_text_53 : decode cX7_text 53 = .ok (.getfield 67, 3) := by decide +kernel
theorem dX7_text_56 : decode cX7_text 56 = .ok (.aload_n 0, 1) := by decide +kernel
theorem dX7_text_57 : decode cX7_text 57 = .ok (.getfield 56, 3) := by decide +kernel
theorem dX7_text_60 : decode cX7_text 60 = .ok (.if_icmp .ge 7, 3) := by decide +kernel
theorem dX7_text_63 : decode cX7_text 63 = .ok (.iconst 1, 1) := by decide +kernel
theorem dX7_text_64 : decode cX7_text 64 = .ok (.goto 4, 3) := by decide +kernel
theorem dX7_text_67 : decode cX7_text 67 = .ok (.iconst 0, 1) := by decide +kernel
theorem dX7_text_68 : decode cX7_text 68 = .ok (.bipush 6, 2) := by decide +kernel
theorem dX7_text_70 : decode cX7_text 70 = .ok (.invokevirtual 120, 3) := by decide +kernel
theorem dX7_text_73 : decode cX7_text 73 = .ok (.aload_n 0, 1) := by decide +kernel
theorem dX7_text_74 : decode cX7_text 74 = .ok (.iconst 0, 1) := by decide +kernel
theorem dX7_text_75 : decode cX7_text 75 = .ok (.putfield 79, 3) := by decide +kernel
theorem dX7_text_78 : decode cX7_text 78 = .ok (.aload_n 0, 1) := by decide +kernel
theorem dX7_text_79 : decode cX7_text 79 = .ok (.getfield 82, 3) := by decide +kernel
theorem dX7_text_82 : decode cX7_text 82 = .ok (.ifCond .le 11, 3) := by decide +kernel
theorem dX7_text_85 : decode cX7_text 85 = .ok (.bipush (-10), 2) := by decide +kernel
theorem dX7_text_87 : decode cX7_text 87 = .ok (.aload_n 0, 1) := by decide +kernel
theorem dX7_text_88 : decode cX7_text 88 = .ok (.getfield 88, 3) := by decide +kernel
theorem dX7_text_91 : decode cX7_text 91 = .ok (.isub, 1) := by decide +kernel
theorem dX7_text_92 : decode cX7_text 92 = .ok (.ireturn, 1) := by decide +kernel
theorem dX7_text_93 : decode cX7_text 93 = .ok (.aload_n 0, 1) := by decide +kernel
theorem dX7_text_94 : decode cX7_text 94 = .ok (.invokevirtual 53, 3) := by decide +kernel
theorem dX7_text_97 : decode cX7_text 97 = .ok (.iload_n 1, 1) := by decide +kernel
theorem dX7_text_98 : decode cX7_text 98 = .ok (.ireturn, 1) := by decide +kernel
theorem dX7_fault_0 : decode cX7_fault 0 = .ok (.aload_n 0, 1) := by decide +kernel
theorem dX7_fault_1 : decode cX7_fault 1 = .ok (.getfield 82, 3) := by decide +kernel
theorem dX7_fault_4 : decode cX7_fault 4 = .ok (.ireturn, 1) := by decide +kernel
theorem dX7_isOne_0 : decode cX7_isOne 0 = .ok (.iload_n 1, 1) := by decide +kernel
theorem dX7_isOne_1 : decode cX7_isOne 1 = .ok (.i2l, 1) := by decide +kernel
theorem dX7_isOne_2 : decode cX7_isOne 2 = .ok (.lconst 0, 1) := by decide +kernel
theorem dX7_isOne_3 : decode cX7_isOne 3 = .ok (.aload_n 0, 1) := by decide +kernel
theorem dX7_isOne_4 : decode cX7_isOne 4 = .ok (.getfield 70, 3) := by decide +kernel
theorem dX7_isOne_7 : decode cX7_isOne 7 = .ok (.iconst 1, 1) := by decide +kernel
theorem dX7_isOne_8 : decode cX7_isOne 8 = .ok (.isub, 1) := by decide +kernel
theorem dX7_isOne_9 : decode cX7_isOne 9 = .ok (.i2l, 1) := by decide +kernel
theorem dX7_isOne_10 : decode cX7_isOne 10 = .ok (.invokestatic 75, 3) := by decide +kernel
theorem dX7_isOne_13 : decode cX7_isOne 13 = .ok (.ireturn, 1) := by decide +kernel
theorem dX7_isPart_0 : decode cX7_isPart 0 = .ok (.iload_n 0, 1) := by decide +kernel
theorem dX7_isPart_1 : decode cX7_isPart 1 = .ok (.i2l, 1) := by decide +kernel
theorem dX7_isPart_2 : decode cX7_isPart 2 = .ok (.lconst 0, 1) := by decide +kernel
theorem dX7_isPart_3 : decode cX7_isPart 3 = .ok (.lconst 1, 1) := by decide +kernel
theorem dX7_isPart_4 : decode cX7_isPart 4 = .ok (.invokestatic 75, 3) := by decide +kernel
theorem dX7_isPart_7 : decode cX7_isPart 7 = .ok (.ireturn, 1) := by decide +kernel
theorem dX7_starts_0 : decode cX7_starts 0 = .ok (.iconst 0, 1) := by decide +kernel
theorem dX7_starts_1 : decode cX7_starts 1 = .ok (.istore_n 1, 1) := by decide +kernel
theorem dX7_starts_2 : decode cX7_starts 2 = .ok (.iload_n 1, 1) := by decide +kernel
theorem dX7_starts_3 : decode cX7_starts 3 = .ok (.bipush 46, 2) := by decide +kernel
theorem dX7_starts_5 : decode cX7_starts 5 = .ok (.if_icmp .ge 21, 3) := by decide +kernel
theorem dX7_starts_8 : decode cX7_starts 8 = .ok (.aload_n 0, 1) := by decide +kernel
theorem dX7_starts_9 : decode cX7_starts 9 = .ok (.getfield 13, 3) := by decide +kernel
theorem dX7_starts_12 : decode cX7_starts 12 = .ok (.iload_n 1, 1) := by decide +kernel
theorem dX7_starts_13 : decode cX7_starts 13 = .ok (.aload_n 0, 1) := by decide +kernel
theorem dX7_starts_14 : decode cX7_starts 14 = .ok (.getfield 7, 3) := by decide +kernel
theorem dX7_starts_17 : decode cX7_starts 17 = .ok (.iload_n 1, 1) := by decide +kernel
theorem dX7_starts_18 : decode cX7_starts 18 = .ok (.iaload, 1) := by decide +kernel
theorem dX7_starts_19 : decode cX7_starts 19 = .ok (.iastore, 1) := by decide +kernel
theorem dX7_starts_20 : decode cX7_starts 20 = .ok (.iinc 1 1, 3) := by decide +kernel
theorem dX7_starts_23 : decode cX7_starts 23 = .ok (.goto (-21), 3) := by decide +kernel
theorem dX7_starts_26 : decode cX7_starts 26 = .ok (.aload_n 0, 1) := by decide +kernel
theorem dX7_starts_27 : decode cX7_starts 27 = .ok (.iconst 0, 1) := by decide +kernel
theorem dX7_starts_28 : decode cX7_starts 28 = .ok (.putfield 148, 3) := by decide +kernel
theorem dX7_starts_31 : decode cX7_starts 31 = .ok (.aload_n 0, 1) := by decide +kernel
theorem dX7_starts_32 : decode cX7_starts 32 = .ok (.iconst 0, 1) := by decide +kernel
theorem dX7_starts_33 : decode cX7_starts 33 = .ok (.putfield 151, 3) := by decide +kernel
theorem dX7_starts_36 : decode cX7_starts 36 = .ok (.return_, 1) := by decide +kernel
theorem dX7_settles_0 : decode cX7_settles 0 = .ok (.iconst 0, 1) := by decide +kernel
theorem dX7_settles_1 : decode cX7_settles 1 = .ok (.istore_n 1, 1) := by decide +kernel
theorem dX7_settles_2 : decode cX7_settles 2 = .ok (.iload_n 1, 1) := by decide +kernel
theorem dX7_settles_3 : decode cX7_settles 3 = .ok (.bipush 46, 2) := by decide +kernel
theorem dX7_settles_5 : decode cX7_settles 5 = .ok (.if_icmp .ge 21, 3) := by decide +kernel
theorem dX7_settles_8 : decode cX7_settles 8 = .ok (.aload_n 0, 1) := by decide +kernel
theorem dX7_settles_9 : decode cX7_settles 9 = .ok (.getfield 7, 3) := by decide +kernel
theorem dX7_settles_12 : decode cX7_settles 12 = .ok (.iload_n 1, 1) := by decide +kernel
theorem dX7_settles_13 : decode cX7_settles 13 = .ok (.aload_n 0, 1) := by decide +kernel
theorem dX7_settles_14 : decode cX7_settles 14 = .ok (.getfield 13, 3) := by decide +kernel
theorem dX7_settles_17 : decode cX7_settles 17 = .ok (.iload_n 1, 1) := by decide +kernel
theorem dX7_settles_18 : decode cX7_settles 18 = .ok (.iaload, 1) := by decide +kernel
theorem dX7_settles_19 : decode cX7_settles 19 = .ok (.iastore, 1) := by decide +kernel
theorem dX7_settles_20 : decode cX7_settles 20 = .ok (.iinc 1 1, 3) := by decide +kernel
theorem dX7_settles_23 : decode cX7_settles 23 = .ok (.goto (-21), 3) := by decide +kernel
theorem dX7_settles_26 : decode cX7_settles 26 = .ok (.return_, 1) := by decide +kernel
theorem dX7_of_0 : decode cX7_of 0 = .ok (.aload_n 0, 1) := by decide +kernel
theorem dX7_of_1 : decode cX7_of 1 = .ok (.getfield 13, 3) := by decide +kernel
theorem dX7_of_4 : decode cX7_of 4 = .ok (.iconst 3, 1) := by decide +kernel
theorem dX7_of_5 : decode cX7_of 5 = .ok (.iload_n 1, 1) := by decide +kernel
theorem dX7_of_6 : decode cX7_of 6 = .ok (.imul, 1) := by decide +kernel
theorem dX7_of_7 : decode cX7_of 7 = .ok (.iload_n 2, 1) := by decide +kernel
theorem dX7_of_8 : decode cX7_of 8 = .ok (.iadd, 1) := by decide +kernel
theorem dX7_of_9 : decode cX7_of 9 = .ok (.iaload, 1) := by decide +kernel
theorem dX7_of_10 : decode cX7_of 10 = .ok (.ireturn, 1) := by decide +kernel
theorem dX7_becomesOf_0 : decode cX7_becomesOf 0 = .ok (.aload_n 0, 1) := by decide +kernel
theorem dX7_becomesOf_1 : decode cX7_becomesOf 1 = .ok (.getfield 13, 3) := by decide +kernel
theorem dX7_becomesOf_4 : decode cX7_becomesOf 4 = .ok (.iconst 3, 1) := by decide +kernel
theorem dX7_becomesOf_5 : decode cX7_becomesOf 5 = .ok (.iload_n 1, 1) := by decide +kernel
theorem dX7_becomesOf_6 : decode cX7_becomesOf 6 = .ok (.imul, 1) := by decide +kernel
theorem dX7_becomesOf_7 : decode cX7_becomesOf 7 = .ok (.iload_n 2, 1) := by decide +kernel
theorem dX7_becomesOf_8 : decode cX7_becomesOf 8 = .ok (.iadd, 1) := by decide +kernel
theorem dX7_becomesOf_9 : decode cX7_becomesOf 9 = .ok (.iload_n 3, 1) := by decide +kernel
theorem dX7_becomesOf_10 : decode cX7_becomesOf 10 = .ok (.iastore, 1) := by decide +kernel
theorem dX7_becomesOf_11 : decode cX7_becomesOf 11 = .ok (.return_, 1) := by decide +kernel
theorem dX7_hand_0 : decode cX7_hand 0 = .ok (.iload_n 0, 1) := by decide +kernel
theorem dX7_hand_1 : decode cX7_hand 1 = .ok (.iconst 1, 1) := by decide +kernel
theorem dX7_hand_2 : decode cX7_hand 2 = .ok (.if_icmp .ne 8, 3) := by decide +kernel
theorem dX7_hand_5 : decode cX7_hand 5 = .ok (.bipush 8, 2) := by decide +kernel
theorem dX7_hand_7 : decode cX7_hand 7 = .ok (.goto 22, 3) := by decide +kernel
theorem dX7_hand_10 : decode cX7_hand 10 = .ok (.iload_n 0, 1) := by decide +kernel
theorem dX7_hand_11 : decode cX7_hand 11 = .ok (.iconst 2, 1) := by decide +kernel
theorem dX7_hand_12 : decode cX7_hand 12 = .ok (.if_icmp .ne 7, 3) := by decide +kernel
theorem dX7_hand_15 : decode cX7_hand 15 = .ok (.iconst 2, 1) := by decide +kernel
theorem dX7_hand_16 : decode cX7_hand 16 = .ok (.goto 13, 3) := by decide +kernel
theorem dX7_hand_19 : decode cX7_hand 19 = .ok (.iload_n 0, 1) := by decide +kernel
theorem dX7_hand_20 : decode cX7_hand 20 = .ok (.iconst 3, 1) := by decide +kernel
theorem dX7_hand_21 : decode cX7_hand 21 = .ok (.if_icmp .ne 7, 3) := by decide +kernel
theorem dX7_hand_24 : decode cX7_hand 24 = .ok (.iconst 5, 1) := by decide +kernel
theorem dX7_hand_25 : decode cX7_hand 25 = .ok (.goto 4, 3) := by decide +kernel
theorem dX7_hand_28 : decode cX7_hand 28 = .ok (.iconst 4, 1) := by decide +kernel
theorem dX7_hand_29 : decode cX7_hand 29 = .ok (.ireturn, 1) := by decide +kernel
theorem dX7_heals_0 : decode cX7_heals 0 = .ok (.iload_n 1, 1) := by decide +kernel
theorem dX7_heals_1 : decode cX7_heals 1 = .ok (.iconst 4, 1) := by decide +kernel
theorem dX7_heals_2 : decode cX7_heals 2 = .ok (.idiv, 1) := by decide +kernel
theorem dX7_heals_3 : decode cX7_heals 3 = .ok (.istore_n 2, 1) := by decide +kernel
theorem dX7_heals_4 : decode cX7_heals 4 = .ok (.iload_n 2, 1) := by decide +kernel
theorem dX7_heals_5 : decode cX7_heals 5 = .ok (.iconst 2, 1) := by decide +kernel
theorem dX7_heals_6 : decode cX7_heals 6 = .ok (.idiv, 1) := by decide +kernel
theorem dX7_heals_7 : decode cX7_heals 7 = .ok (.istore_n 3, 1) := by decide +kernel
theorem dX7_heals_8 : decode cX7_heals 8 = .ok (.iload_n 0, 1) := by decide +kernel
theorem dX7_heals_9 : decode cX7_heals 9 = .ok (.tableswitch 47 1 3 #[27, 29, 37], 27) := by decide +kernel
theorem dX7_heals_36 : decode cX7_heals 36 = .ok (.iload_n 3, 1) := by decide +kernel
theorem dX7_heals_37 : decode cX7_heals 37 = .ok (.ireturn, 1) := by decide +kernel
theorem dX7_heals_38 : decode cX7_heals 38 = .ok (.iload_n 1, 1) := by decide +kernel
theorem dX7_heals_39 : decode cX7_heals 39 = .ok (.iload_n 2, 1) := by decide +kernel
theorem dX7_heals_40 : decode cX7_heals 40 = .ok (.iconst 1, 1) := by decide +kernel
theorem dX7_heals_41 : decode cX7_heals 41 = .ok (.iadd, 1) := by decide +kernel
theorem dX7_heals_42 : decode cX7_heals 42 = .ok (.invokestatic 154, 3) := by decide +kernel
theorem dX7_heals_45 : decode cX7_heals 45 = .ok (.ireturn, 1) := by decide +kernel
theorem dX7_heals_46 : decode cX7_heals 46 = .ok (.iload_n 1, 1) := by decide +kernel
theorem dX7_heals_47 : decode cX7_heals 47 = .ok (.iconst 2, 1) := by decide +kernel
theorem dX7_heals_48 : decode cX7_heals 48 = .ok (.iload_n 3, 1) := by decide +kernel
theorem dX7_heals_49 : decode cX7_heals 49 = .ok (.imul, 1) := by decide +kernel
theorem dX7_heals_50 : decode cX7_heals 50 = .ok (.iconst 1, 1) := by decide +kernel
theorem dX7_heals_51 : decode cX7_heals 51 = .ok (.iadd, 1) := by decide +kernel
theorem dX7_heals_52 : decode cX7_heals 52 = .ok (.invokestatic 154, 3) := by decide +kernel
theorem dX7_heals_55 : decode cX7_heals 55 = .ok (.ireturn, 1) := by decide +kernel
theorem dX7_heals_56 : decode cX7_heals 56 = .ok (.iload_n 2, 1) := by decide +kernel
theorem dX7_heals_57 : decode cX7_heals 57 = .ok (.ireturn, 1) := by decide +kernel
theorem dX7_weightOfAll_0 : decode cX7_weightOfAll 0 = .ok (.aload_n 0, 1) := by decide +kernel
theorem dX7_weightOfAll_1 : decode cX7_weightOfAll 1 = .ok (.getfield 13, 3) := by decide +kernel
theorem dX7_weightOfAll_4 : decode cX7_weightOfAll 4 = .ok (.bipush 16, 2) := by decide +kernel
theorem dX7_weightOfAll_6 : decode cX7_weightOfAll 6 = .ok (.iaload, 1) := by decide +kernel
theorem dX7_weightOfAll_7 : decode cX7_weightOfAll 7 = .ok (.istore_n 1, 1) := by decide +kernel
theorem dX7_weightOfAll_8 : decode cX7_weightOfAll 8 = .ok (.iconst 0, 1) := by decide +kernel
theorem dX7_weightOfAll_9 : decode cX7_weightOfAll 9 = .ok (.istore_n 2, 1) := by decide +kernel
theorem dX7_weightOfAll_10 : decode cX7_weightOfAll 10 = .ok (.iload_n 2, 1) := by decide +kernel
theorem dX7_weightOfAll_11 : decode cX7_weightOfAll 11 = .ok (.aload_n 0, 1) := by decide +kernel
theorem dX7_weightOfAll_12 : decode cX7_weightOfAll 12 = .ok (.getfield 70, 3) := by decide +kernel
theorem dX7_weightOfAll_15 : decode cX7_weightOfAll 15 = .ok (.if_icmp .ge 18, 3) := by decide +kernel
theorem dX7_weightOfAll_18 : decode cX7_weightOfAll 18 = .ok (.iload_n 1, 1) := by decide +kernel
theorem dX7_weightOfAll_19 : decode cX7_weightOfAll 19 = .ok (.aload_n 0, 1) := by decide +kernel
theorem dX7_weightOfAll_20 : decode cX7_weightOfAll 20 = .ok (.iload_n 2, 1) := by decide +kernel
theorem dX7_weightOfAll_21 : decode cX7_weightOfAll 21 = .ok (.iconst 1, 1) := by decide +kernel
theorem dX7_weightOfAll_22 : decode cX7_weightOfAll 22 = .ok (.invokevirtual 157, 3) := by decide +kernel
theorem dX7_weightOfAll_25 : decode cX7_weightOfAll 25 = .ok (.iadd, 1) := by decide +kernel
theorem dX7_weightOfAll_26 : decode cX7_weightOfAll 26 = .ok (.istore_n 1, 1) := by decide +kernel
theorem dX7_weightOfAll_27 : decode cX7_weightOfAll 27 = .ok (.iinc 2 1, 3) := by decide +kernel
theorem dX7_weightOfAll_30 : decode cX7_weightOfAll 30 = .ok (.goto (-20), 3) := by decide +kernel
theorem dX7_weightOfAll_33 : decode cX7_weightOfAll 33 = .ok (.iload_n 1, 1) := by decide +kernel
theorem dX7_weightOfAll_34 : decode cX7_weightOfAll 34 = .ok (.ireturn, 1) := by decide +kernel
theorem dX7_spills_0 : decode cX7_spills 0 = .ok (.iload_n 1, 1) := by decide +kernel
theorem dX7_spills_1 : decode cX7_spills 1 = .ok (.istore_n 2, 1) := by decide +kernel
theorem dX7_spills_2 : decode cX7_spills 2 = .ok (.aload_n 0, 1) := by decide +kernel
theorem dX7_spills_3 : decode cX7_spills 3 = .ok (.getfield 13, 3) := by decide +kernel
theorem dX7_spills_6 : decode cX7_spills 6 = .ok (.bipush 16, 2) := by decide +kernel
theorem dX7_spills_8 : decode cX7_spills 8 = .ok (.iaload, 1) := by decide +kernel
theorem dX7_spills_9 : decode cX7_spills 9 = .ok (.aload_n 0, 1) := by decide +kernel
theorem dX7_spills_10 : decode cX7_spills 10 = .ok (.iload_n 1, 1) := by decide +kernel
theorem dX7_spills_11 : decode cX7_spills 11 = .ok (.iconst 2, 1) := by decide +kernel
theorem dX7_spills_12 : decode cX7_spills 12 = .ok (.invokevirtual 157, 3) := by decide +kernel
theorem dX7_spills_15 : decode cX7_spills 15 = .ok (.if_icmp .le 55, 3) := by decide +kernel
theorem dX7_spills_18 : decode cX7_spills 18 = .ok (.iload_n 2, 1) := by decide +kernel
theorem dX7_spills_19 : decode cX7_spills 19 = .ok (.iconst 1, 1) := by decide +kernel
theorem dX7_spills_20 : decode cX7_spills 20 = .ok (.iadd, 1) := by decide +kernel
theorem dX7_spills_21 : decode cX7_spills 21 = .ok (.aload_n 0, 1) := by decide +kernel
theorem dX7_spills_22 : decode cX7_spills 22 = .ok (.getfield 70, 3) := by decide +kernel
theorem dX7_spills_25 : decode cX7_spills 25 = .ok (.irem, 1) := by decide +kernel
theorem dX7_spills_26 : decode cX7_spills 26 = .ok (.istore_n 2, 1) := by decide +kernel
theorem dX7_spills_27 : decode cX7_spills 27 = .ok (.aload_n 0, 1) := by decide +kernel
theorem dX7_spills_28 : decode cX7_spills 28 = .ok (.iload_n 2, 1) := by decide +kernel
theorem dX7_spills_29 : decode cX7_spills 29 = .ok (.iconst 1, 1) := by decide +kernel
theorem dX7_spills_30 : decode cX7_spills 30 = .ok (.bipush 99, 2) := by decide +kernel
theorem dX7_spills_32 : decode cX7_spills 32 = .ok (.aload_n 0, 1) := by decide +kernel
theorem dX7_spills_33 : decode cX7_spills 33 = .ok (.iload_n 2, 1) := by decide +kernel
theorem dX7_spills_34 : decode cX7_spills 34 = .ok (.iconst 1, 1) := by decide +kernel
theorem dX7_spills_35 : decode cX7_spills 35 = .ok (.invokevirtual 157, 3) := by decide +kernel
theorem dX7_spills_38 : decode cX7_spills 38 = .ok (.iconst 1, 1) := by decide +kernel
theorem dX7_spills_39 : decode cX7_spills 39 = .ok (.iadd, 1) := by decide +kernel
theorem dX7_spills_40 : decode cX7_spills 40 = .ok (.invokestatic 154, 3) := by decide +kernel
theorem dX7_spills_43 : decode cX7_spills 43 = .ok (.invokevirtual 160, 3) := by decide +kernel
theorem dX7_spills_46 : decode cX7_spills 46 = .ok (.aload_n 0, 1) := by decide +kernel
theorem dX7_spills_47 : decode cX7_spills 47 = .ok (.getfield 13, 3) := by decide +kernel
theorem dX7_spills_50 : decode cX7_spills 50 = .ok (.bipush 16, 2) := by decide +kernel
theorem dX7_spills_52 : decode cX7_spills 52 = .ok (.dup2, 1) := by decide +kernel
theorem dX7_spills_53 : decode cX7_spills 53 = .ok (.iaload, 1) := by decide +kernel
theorem dX7_spills_54 : decode cX7_spills 54 = .ok (.iconst 1, 1) := by decide +kernel
theorem dX7_spills_55 : decode cX7_spills 55 = .ok (.isub, 1) := by decide +kernel
theorem dX7_spills_56 : decode cX7_spills 56 = .ok (.iastore, 1) := by decide +kernel
theorem dX7_spills_57 : decode cX7_spills 57 = .ok (.aload_n 0, 1) := by decide +kernel
theorem dX7_spills_58 : decode cX7_spills 58 = .ok (.dup, 1) := by decide +kernel
theorem dX7_spills_59 : decode cX7_spills 59 = .ok (.getfield 151, 3) := by decide +kernel
theorem dX7_spills_62 : decode cX7_spills 62 = .ok (.iconst 1, 1) := by decide +kernel
theorem dX7_spills_63 : decode cX7_spills 63 = .ok (.iadd, 1) := by decide +kernel
theorem dX7_spills_64 : decode cX7_spills 64 = .ok (.putfield 151, 3) := by decide +kernel
theorem dX7_spills_67 : decode cX7_spills 67 = .ok (.goto (-65), 3) := by decide +kernel
theorem dX7_spills_70 : decode cX7_spills 70 = .ok (.return_, 1) := by decide +kernel
theorem dX7_wheels_0 : decode cX7_wheels 0 = .ok (.aload_n 0, 1) := by decide +kernel
theorem dX7_wheels_1 : decode cX7_wheels 1 = .ok (.getfield 13, 3) := by decide +kernel
theorem dX7_wheels_4 : decode cX7_wheels 4 = .ok (.bipush 15, 2) := by decide +kernel
theorem dX7_wheels_6 : decode cX7_wheels 6 = .ok (.iaload, 1) := by decide +kernel
theorem dX7_wheels_7 : decode cX7_wheels 7 = .ok (.aload_n 0, 1) := by decide +kernel
theorem dX7_wheels_8 : decode cX7_wheels 8 = .ok (.getfield 13, 3) := by decide +kernel
theorem dX7_wheels_11 : decode cX7_wheels 11 = .ok (.bipush 16, 2) := by decide +kernel
theorem dX7_wheels_13 : decode cX7_wheels 13 = .ok (.iaload, 1) := by decide +kernel
theorem dX7_wheels_14 : decode cX7_wheels 14 = .ok (.if_icmp .le 21, 3) := by decide +kernel
theorem dX7_wheels_17 : decode cX7_wheels 17 = .ok (.aload_n 0, 1) := by decide +kernel
theorem dX7_wheels_18 : decode cX7_wheels 18 = .ok (.getfield 13, 3) := by decide +kernel
theorem dX7_wheels_21 : decode cX7_wheels 21 = .ok (.bipush 15, 2) := by decide +kernel
theorem dX7_wheels_23 : decode cX7_wheels 23 = .ok (.iaload, 1) := by decide +kernel
theorem dX7_wheels_24 : decode cX7_wheels 24 = .ok (.aload_n 0, 1) := by decide +kernel
theorem dX7_wheels_25 : decode cX7_wheels 25 = .ok (.getfield 13, 3) := by decide +kernel
theorem dX7_wheels_28 : decode cX7_wheels 28 = .ok (.bipush 16, 2) := by decide +kernel
theorem dX7_wheels_30 : decode cX7_wheels 30 = .ok (.iaload, 1) := by decide +kernel
theorem dX7_wheels_31 : decode cX7_wheels 31 = .ok (.isub, 1) := by decide +kernel
theorem dX7_wheels_32 : decode cX7_wheels 32 = .ok (.goto 4, 3) := by decide +kernel
theorem dX7_wheels_35 : decode cX7_wheels 35 = .ok (.iconst 0, 1) := by decide +kernel
theorem dX7_wheels_36 : decode cX7_wheels 36 = .ok (.istore_n 2, 1) := by decide +kernel
theorem dX7_wheels_37 : decode cX7_wheels 37 = .ok (.aload_n 0, 1) := by decide +kernel
theorem dX7_wheels_38 : decode cX7_wheels 38 = .ok (.iload_n 1, 1) := by decide +kernel
theorem dX7_wheels_39 : decode cX7_wheels 39 = .ok (.iconst 0, 1) := by decide +kernel
theorem dX7_wheels_40 : decode cX7_wheels 40 = .ok (.invokevirtual 157, 3) := by decide +kernel
theorem dX7_wheels_43 : decode cX7_wheels 43 = .ok (.invokestatic 164, 3) := by decide +kernel
theorem dX7_wheels_46 : decode cX7_wheels 46 = .ok (.aload_n 0, 1) := by decide +kernel
theorem dX7_wheels_47 : decode cX7_wheels 47 = .ok (.iload_n 1, 1) := by decide +kernel
theorem dX7_wheels_48 : decode cX7_wheels 48 = .ok (.iconst 1, 1) := by decide +kernel
theorem dX7_wheels_49 : decode cX7_wheels 49 = .ok (.invokevirtual 157, 3) := by decide +kernel
theorem dX7_wheels_52 : decode cX7_wheels 52 = .ok (.invokestatic 154, 3) := by decide +kernel
theorem dX7_wheels_55 : decode cX7_wheels 55 = .ok (.iload_n 2, 1) := by decide +kernel
theorem dX7_wheels_56 : decode cX7_wheels 56 = .ok (.invokestatic 154, 3) := by decide +kernel
theorem dX7_wheels_59 : decode cX7_wheels 59 = .ok (.istore_n 3, 1) := by decide +kernel
theorem dX7_wheels_60 : decode cX7_wheels 60 = .ok (.aload_n 0, 1) := by decide +kernel
theorem dX7_wheels_61 : decode cX7_wheels 61 = .ok (.iload_n 1, 1) := by decide +kernel
theorem dX7_wheels_62 : decode cX7_wheels 62 = .ok (.iconst 1, 1) := by decide +kernel
theorem dX7_wheels_63 : decode cX7_wheels 63 = .ok (.aload_n 0, 1) := by decide +kernel
theorem dX7_wheels_64 : decode cX7_wheels 64 = .ok (.iload_n 1, 1) := by decide +kernel
theorem dX7_wheels_65 : decode cX7_wheels 65 = .ok (.iconst 1, 1) := by decide +kernel
theorem dX7_wheels_66 : decode cX7_wheels 66 = .ok (.invokevirtual 157, 3) := by decide +kernel
theorem dX7_wheels_69 : decode cX7_wheels 69 = .ok (.iload_n 3, 1) := by decide +kernel
theorem dX7_wheels_70 : decode cX7_wheels 70 = .ok (.isub, 1) := by decide +kernel
theorem dX7_wheels_71 : decode cX7_wheels 71 = .ok (.invokevirtual 160, 3) := by decide +kernel
theorem dX7_wheels_74 : decode cX7_wheels 74 = .ok (.aload_n 0, 1) := by decide +kernel
theorem dX7_wheels_75 : decode cX7_wheels 75 = .ok (.getfield 13, 3) := by decide +kernel
theorem dX7_wheels_78 : decode cX7_wheels 78 = .ok (.bipush 16, 2) := by decide +kernel
theorem dX7_wheels_80 : decode cX7_wheels 80 = .ok (.dup2, 1) := by decide +kernel
theorem dX7_wheels_81 : decode cX7_wheels 81 = .ok (.iaload, 1) := by decide +kernel
theorem dX7_wheels_82 : decode cX7_wheels 82 = .ok (.iload_n 3, 1) := by decide +kernel
theorem dX7_wheels_83 : decode cX7_wheels 83 = .ok (.iadd, 1) := by decide +kernel
theorem dX7_wheels_84 : decode cX7_wheels 84 = .ok (.iastore, 1) := by decide +kernel
theorem dX7_wheels_85 : decode cX7_wheels 85 = .ok (.aload_n 0, 1) := by decide +kernel
theorem dX7_wheels_86 : decode cX7_wheels 86 = .ok (.iload_n 1, 1) := by decide +kernel
theorem dX7_wheels_87 : decode cX7_wheels 87 = .ok (.iconst 0, 1) := by decide +kernel
theorem dX7_wheels_88 : decode cX7_wheels 88 = .ok (.invokevirtual 157, 3) := by decide +kernel
theorem dX7_wheels_91 : decode cX7_wheels 91 = .ok (.aload_n 0, 1) := by decide +kernel
theorem dX7_wheels_92 : decode cX7_wheels 92 = .ok (.getfield 13, 3) := by decide +kernel
theorem dX7_wheels_95 : decode cX7_wheels 95 = .ok (.bipush 16, 2) := by decide +kernel
theorem dX7_wheels_97 : decode cX7_wheels 97 = .ok (.iaload, 1) := by decide +kernel
theorem dX7_wheels_98 : decode cX7_wheels 98 = .ok (.invokestatic 167, 3) := by decide +kernel
theorem dX7_wheels_101 : decode cX7_wheels 101 = .ok (.istore 4, 2) := by decide +kernel
theorem dX7_wheels_103 : decode cX7_wheels 103 = .ok (.aload_n 0, 1) := by decide +kernel
theorem dX7_wheels_104 : decode cX7_wheels 104 = .ok (.getfield 13, 3) := by decide +kernel
theorem dX7_wheels_107 : decode cX7_wheels 107 = .ok (.bipush 16, 2) := by decide +kernel
theorem dX7_wheels_109 : decode cX7_wheels 109 = .ok (.dup2, 1) := by decide +kernel
theorem dX7_wheels_110 : decode cX7_wheels 110 = .ok (.iaload, 1) := by decide +kernel
theorem dX7_wheels_111 : decode cX7_wheels 111 = .ok (.iload 4, 2) := by decide +kernel
theorem dX7_wheels_113 : decode cX7_wheels 113 = .ok (.isub, 1) := by decide +kernel
theorem dX7_wheels_114 : decode cX7_wheels 114 = .ok (.iastore, 1) := by decide +kernel
theorem dX7_wheels_115 : decode cX7_wheels 115 = .ok (.aload_n 0, 1) := by decide +kernel
theorem dX7_wheels_116 : decode cX7_wheels 116 = .ok (.dup, 1) := by decide +kernel
theorem dX7_wheels_117 : decode cX7_wheels 117 = .ok (.getfield 148, 3) := by decide +kernel
theorem dX7_wheels_120 : decode cX7_wheels 120 = .ok (.iload 4, 2) := by decide +kernel
theorem dX7_wheels_122 : decode cX7_wheels 122 = .ok (.iadd, 1) := by decide +kernel
theorem dX7_wheels_123 : decode cX7_wheels 123 = .ok (.putfield 148, 3) := by decide +kernel
theorem dX7_wheels_126 : decode cX7_wheels 126 = .ok (.aload_n 0, 1) := by decide +kernel
theorem dX7_wheels_127 : decode cX7_wheels 127 = .ok (.iload_n 1, 1) := by decide +kernel
theorem dX7_wheels_128 : decode cX7_wheels 128 = .ok (.invokevirtual 170, 3) := by decide +kernel
theorem dX7_wheels_131 : decode cX7_wheels 131 = .ok (.return_, 1) := by decide +kernel
theorem dX7_turnNow_0 : decode cX7_turnNow 0 = .ok (.aload_n 0, 1) := by decide +kernel
theorem dX7_turnNow_1 : decode cX7_turnNow 1 = .ok (.getfield 13, 3) := by decide +kernel
theorem dX7_turnNow_4 : decode cX7_turnNow 4 = .ok (.bipush 17, 2) := by decide +kernel
theorem dX7_turnNow_6 : decode cX7_turnNow 6 = .ok (.iaload, 1) := by decide +kernel
theorem dX7_turnNow_7 : decode cX7_turnNow 7 = .ok (.ifCond .ne 8, 3) := by decide +kernel
theorem dX7_turnNow_10 : decode cX7_turnNow 10 = .ok (.bipush (-4), 2) := by decide +kernel
theorem dX7_turnNow_12 : decode cX7_turnNow 12 = .ok (.goto 26, 3) := by decide +kernel
theorem dX7_turnNow_15 : decode cX7_turnNow 15 = .ok (.aload_n 0, 1) := by decide +kernel
theorem dX7_turnNow_16 : decode cX7_turnNow 16 = .ok (.getfield 13, 3) := by decide +kernel
theorem dX7_turnNow_19 : decode cX7_turnNow 19 = .ok (.bipush 18, 2) := by decide +kernel
theorem dX7_turnNow_21 : decode cX7_turnNow 21 = .ok (.aload_n 0, 1) := by decide +kernel
theorem dX7_turnNow_22 : decode cX7_turnNow 22 = .ok (.getfield 13, 3) := by decide +kernel
theorem dX7_turnNow_25 : decode cX7_turnNow 25 = .ok (.bipush 26, 2) := by decide +kernel
theorem dX7_turnNow_27 : decode cX7_turnNow 27 = .ok (.iaload, 1) := by decide +kernel
theorem dX7_turnNow_28 : decode cX7_turnNow 28 = .ok (.aload_n 0, 1) := by decide +kernel
theorem dX7_turnNow_29 : decode cX7_turnNow 29 = .ok (.getfield 13, 3) := by decide +kernel
theorem dX7_turnNow_32 : decode cX7_turnNow 32 = .ok (.bipush 17, 2) := by decide +kernel
theorem dX7_turnNow_34 : decode cX7_turnNow 34 = .ok (.iaload, 1) := by decide +kernel
theorem dX7_turnNow_35 : decode cX7_turnNow 35 = .ok (.irem, 1) := by decide +kernel
theorem dX7_turnNow_36 : decode cX7_turnNow 36 = .ok (.iadd, 1) := by decide +kernel
theorem dX7_turnNow_37 : decode cX7_turnNow 37 = .ok (.iaload, 1) := by decide +kernel
theorem dX7_turnNow_38 : decode cX7_turnNow 38 = .ok (.ireturn, 1) := by decide +kernel
theorem dX7_hourGoes_0 : decode cX7_hourGoes 0 = .ok (.aload_n 0, 1) := by decide +kernel
theorem dX7_hourGoes_1 : decode cX7_hourGoes 1 = .ok (.invokevirtual 173, 3) := by decide +kernel
theorem dX7_hourGoes_4 : decode cX7_hourGoes 4 = .ok (.istore_n 1, 1) := by decide +kernel
theorem dX7_hourGoes_5 : decode cX7_hourGoes 5 = .ok (.iload_n 1, 1) := by decide +kernel
theorem dX7_hourGoes_6 : decode cX7_hourGoes 6 = .ok (.bipush (-4), 2) := by decide +kernel
theorem dX7_hourGoes_8 : decode cX7_hourGoes 8 = .ok (.if_icmp .eq 8, 3) := by decide +kernel
theorem dX7_hourGoes_11 : decode cX7_hourGoes 11 = .ok (.aload_n 0, 1) := by decide +kernel
theorem dX7_hourGoes_12 : decode cX7_hourGoes 12 = .ok (.iload_n 1, 1) := by decide +kernel
theorem dX7_hourGoes_13 : decode cX7_hourGoes 13 = .ok (.invokevirtual 176, 3) := by decide +kernel
theorem dX7_hourGoes_16 : decode cX7_hourGoes 16 = .ok (.aload_n 0, 1) := by decide +kernel
theorem dX7_hourGoes_17 : decode cX7_hourGoes 17 = .ok (.getfield 13, 3) := by decide +kernel
theorem dX7_hourGoes_20 : decode cX7_hourGoes 20 = .ok (.bipush 26, 2) := by decide +kernel
theorem dX7_hourGoes_22 : decode cX7_hourGoes 22 = .ok (.dup2, 1) := by decide +kernel
theorem dX7_hourGoes_23 : decode cX7_hourGoes 23 = .ok (.iaload, 1) := by decide +kernel
theorem dX7_hourGoes_24 : decode cX7_hourGoes 24 = .ok (.iconst 1, 1) := by decide +kernel
theorem dX7_hourGoes_25 : decode cX7_hourGoes 25 = .ok (.iadd, 1) := by decide +kernel
theorem dX7_hourGoes_26 : decode cX7_hourGoes 26 = .ok (.iastore, 1) := by decide +kernel
theorem dX7_hourGoes_27 : decode cX7_hourGoes 27 = .ok (.return_, 1) := by decide +kernel
theorem dX7_hoursGo_0 : decode cX7_hoursGo 0 = .ok (.iconst 0, 1) := by decide +kernel
theorem dX7_hoursGo_1 : decode cX7_hoursGo 1 = .ok (.istore_n 2, 1) := by decide +kernel
theorem dX7_hoursGo_2 : decode cX7_hoursGo 2 = .ok (.iload_n 2, 1) := by decide +kernel
theorem dX7_hoursGo_3 : decode cX7_hoursGo 3 = .ok (.iload_n 1, 1) := by decide +kernel
theorem dX7_hoursGo_4 : decode cX7_hoursGo 4 = .ok (.if_icmp .ge 13, 3) := by decide +kernel
theorem dX7_hoursGo_7 : decode cX7_hoursGo 7 = .ok (.aload_n 0, 1) := by decide +kernel
theorem dX7_hoursGo_8 : decode cX7_hoursGo 8 = .ok (.invokevirtual 179, 3) := by decide +kernel
theorem dX7_hoursGo_11 : decode cX7_hoursGo 11 = .ok (.iinc 2 1, 3) := by decide +kernel
theorem dX7_hoursGo_14 : decode cX7_hoursGo 14 = .ok (.goto (-12), 3) := by decide +kernel
theorem dX7_hoursGo_17 : decode cX7_hoursGo 17 = .ok (.return_, 1) := by decide +kernel
theorem dX7_rule_0 : decode cX7_rule 0 = .ok (.aload_n 0, 1) := by decide +kernel
theorem dX7_rule_1 : decode cX7_rule 1 = .ok (.invokevirtual 182, 3) := by decide +kernel
