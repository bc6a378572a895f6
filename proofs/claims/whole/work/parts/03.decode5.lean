theorem dX7_rule_4 : decode cX7_rule 4 = .ok (.iload_n 1, 1) := by decide +kernel
theorem dX7_rule_5 : decode cX7_rule 5 = .ok (.tableswitch 90 0 6 #[43, 48, 56, 64, 72, 77, 85], 43) := by decide +kernel
theorem dX7_rule_48 : decode cX7_rule 48 = .ok (.aload_n 0, 1) := by decide +kernel
theorem dX7_rule_49 : decode cX7_rule 49 = .ok (.getfield 70, 3) := by decide +kernel
theorem dX7_rule_52 : decode cX7_rule 52 = .ok (.ireturn, 1) := by decide +kernel
theorem dX7_rule_53 : decode cX7_rule 53 = .ok (.aload_n 0, 1) := by decide +kernel
theorem dX7_rule_54 : decode cX7_rule 54 = .ok (.getfield 7, 3) := by decide +kernel
theorem dX7_rule_57 : decode cX7_rule 57 = .ok (.bipush 26, 2) := by decide +kernel
theorem dX7_rule_59 : decode cX7_rule 59 = .ok (.iaload, 1) := by decide +kernel
theorem dX7_rule_60 : decode cX7_rule 60 = .ok (.ireturn, 1) := by decide +kernel
theorem dX7_rule_61 : decode cX7_rule 61 = .ok (.aload_n 0, 1) := by decide +kernel
theorem dX7_rule_62 : decode cX7_rule 62 = .ok (.getfield 7, 3) := by decide +kernel
theorem dX7_rule_65 : decode cX7_rule 65 = .ok (.bipush 16, 2) := by decide +kernel
theorem dX7_rule_67 : decode cX7_rule 67 = .ok (.iaload, 1) := by decide +kernel
theorem dX7_rule_68 : decode cX7_rule 68 = .ok (.ireturn, 1) := by decide +kernel
theorem dX7_rule_69 : decode cX7_rule 69 = .ok (.aload_n 0, 1) := by decide +kernel
theorem dX7_rule_70 : decode cX7_rule 70 = .ok (.getfield 7, 3) := by decide +kernel
theorem dX7_rule_73 : decode cX7_rule 73 = .ok (.bipush 15, 2) := by decide +kernel
theorem dX7_rule_75 : decode cX7_rule 75 = .ok (.iaload, 1) := by decide +kernel
theorem dX7_rule_76 : decode cX7_rule 76 = .ok (.ireturn, 1) := by decide +kernel
theorem dX7_rule_77 : decode cX7_rule 77 = .ok (.aload_n 0, 1) := by decide +kernel
theorem dX7_rule_78 : decode cX7_rule 78 = .ok (.invokevirtual 185, 3) := by decide +kernel
theorem dX7_rule_81 : decode cX7_rule 81 = .ok (.ireturn, 1) := by decide +kernel
theorem dX7_rule_82 : decode cX7_rule 82 = .ok (.aload_n 0, 1) := by decide +kernel
theorem dX7_rule_83 : decode cX7_rule 83 = .ok (.getfield 7, 3) := by decide +kernel
theorem dX7_rule_86 : decode cX7_rule 86 = .ok (.bipush 17, 2) := by decide +kernel
theorem dX7_rule_88 : decode cX7_rule 88 = .ok (.iaload, 1) := by decide +kernel
theorem dX7_rule_89 : decode cX7_rule 89 = .ok (.ireturn, 1) := by decide +kernel
theorem dX7_rule_90 : decode cX7_rule 90 = .ok (.aload_n 0, 1) := by decide +kernel
theorem dX7_rule_91 : decode cX7_rule 91 = .ok (.invokevirtual 173, 3) := by decide +kernel
theorem dX7_rule_94 : decode cX7_rule 94 = .ok (.ireturn, 1) := by decide +kernel
theorem dX7_rule_95 : decode cX7_rule 95 = .ok (.iconst (-1), 1) := by decide +kernel
theorem dX7_rule_96 : decode cX7_rule 96 = .ok (.ireturn, 1) := by decide +kernel
theorem dX7_one_0 : decode cX7_one 0 = .ok (.aload_n 0, 1) := by decide +kernel
theorem dX7_one_1 : decode cX7_one 1 = .ok (.iload_n 1, 1) := by decide +kernel
theorem dX7_one_2 : decode cX7_one 2 = .ok (.invokevirtual 188, 3) := by decide +kernel
theorem dX7_one_5 : decode cX7_one 5 = .ok (.ifCond .ne 5, 3) := by decide +kernel
theorem dX7_one_8 : decode cX7_one 8 = .ok (.iconst (-1), 1) := by decide +kernel
theorem dX7_one_9 : decode cX7_one 9 = .ok (.ireturn, 1) := by decide +kernel
theorem dX7_one_10 : decode cX7_one 10 = .ok (.aload_n 0, 1) := by decide +kernel
theorem dX7_one_11 : decode cX7_one 11 = .ok (.invokevirtual 182, 3) := by decide +kernel
theorem dX7_one_14 : decode cX7_one 14 = .ok (.iconst 0, 1) := by decide +kernel
theorem dX7_one_15 : decode cX7_one 15 = .ok (.istore_n 3, 1) := by decide +kernel
theorem dX7_one_16 : decode cX7_one 16 = .ok (.iconst 0, 1) := by decide +kernel
theorem dX7_one_17 : decode cX7_one 17 = .ok (.istore 4, 2) := by decide +kernel
theorem dX7_one_19 : decode cX7_one 19 = .ok (.iload 4, 2) := by decide +kernel
theorem dX7_one_21 : decode cX7_one 21 = .ok (.aload_n 0, 1) := by decide +kernel
theorem dX7_one_22 : decode cX7_one 22 = .ok (.getfield 7, 3) := by decide +kernel
theorem dX7_one_25 : decode cX7_one 25 = .ok (.bipush 17, 2) := by decide +kernel
theorem dX7_one_27 : decode cX7_one 27 = .ok (.iaload, 1) := by decide +kernel
theorem dX7_one_28 : decode cX7_one 28 = .ok (.if_icmp .ge 34, 3) := by decide +kernel
theorem dX7_one_31 : decode cX7_one 31 = .ok (.iload_n 3, 1) := by decide +kernel
theorem dX7_one_32 : decode cX7_one 32 = .ok (.aload_n 0, 1) := by decide +kernel
theorem dX7_one_33 : decode cX7_one 33 = .ok (.getfield 7, 3) := by decide +kernel
theorem dX7_one_36 : decode cX7_one 36 = .ok (.bipush 18, 2) := by decide +kernel
theorem dX7_one_38 : decode cX7_one 38 = .ok (.iload 4, 2) := by decide +kernel
theorem dX7_one_40 : decode cX7_one 40 = .ok (.iadd, 1) := by decide +kernel
theorem dX7_one_41 : decode cX7_one 41 = .ok (.iaload, 1) := by decide +kernel
theorem dX7_one_42 : decode cX7_one 42 = .ok (.iload_n 1, 1) := by decide +kernel
theorem dX7_one_43 : decode cX7_one 43 = .ok (.if_icmp .ne 7, 3) := by decide +kernel
theorem dX7_one_46 : decode cX7_one 46 = .ok (.iconst 1, 1) := by decide +kernel
theorem dX7_one_47 : decode cX7_one 47 = .ok (.goto 4, 3) := by decide +kernel
theorem dX7_one_50 : decode cX7_one 50 = .ok (.iconst 0, 1) := by decide +kernel
theorem dX7_one_51 : decode cX7_one 51 = .ok (.invokestatic 192, 3) := by decide +kernel
theorem dX7_one_54 : decode cX7_one 54 = .ok (.iadd, 1) := by decide +kernel
theorem dX7_one_55 : decode cX7_one 55 = .ok (.istore_n 3, 1) := by decide +kernel
theorem dX7_one_56 : decode cX7_one 56 = .ok (.iinc 4 1, 3) := by decide +kernel
theorem dX7_one_59 : decode cX7_one 59 = .ok (.goto (-40), 3) := by decide +kernel
theorem dX7_one_62 : decode cX7_one 62 = .ok (.iload_n 2, 1) := by decide +kernel
theorem dX7_one_63 : decode cX7_one 63 = .ok (.tableswitch 73 0 5 #[37, 37, 37, 44, 54, 56], 37) := by decide +kernel
theorem dX7_one_100 : decode cX7_one 100 = .ok (.aload_n 0, 1) := by decide +kernel
theorem dX7_one_101 : decode cX7_one 101 = .ok (.iload_n 1, 1) := by decide +kernel
theorem dX7_one_102 : decode cX7_one 102 = .ok (.iload_n 2, 1) := by decide +kernel
theorem dX7_one_103 : decode cX7_one 103 = .ok (.invokevirtual 157, 3) := by decide +kernel
theorem dX7_one_106 : decode cX7_one 106 = .ok (.ireturn, 1) := by decide +kernel
theorem dX7_one_107 : decode cX7_one 107 = .ok (.aload_n 0, 1) := by decide +kernel
theorem dX7_one_108 : decode cX7_one 108 = .ok (.iload_n 1, 1) := by decide +kernel
theorem dX7_one_109 : decode cX7_one 109 = .ok (.iconst 0, 1) := by decide +kernel
theorem dX7_one_110 : decode cX7_one 110 = .ok (.invokevirtual 157, 3) := by decide +kernel
theorem dX7_one_113 : decode cX7_one 113 = .ok (.invokestatic 164, 3) := by decide +kernel
theorem dX7_one_116 : decode cX7_one 116 = .ok (.ireturn, 1) := by decide +kernel
theorem dX7_one_117 : decode cX7_one 117 = .ok (.iload_n 3, 1) := by decide +kernel
theorem dX7_one_118 : decode cX7_one 118 = .ok (.ireturn, 1) := by decide +kernel
theorem dX7_one_119 : decode cX7_one 119 = .ok (.aload_n 0, 1) := by decide +kernel
theorem dX7_one_120 : decode cX7_one 120 = .ok (.iload_n 1, 1) := by decide +kernel
theorem dX7_one_121 : decode cX7_one 121 = .ok (.iconst 0, 1) := by decide +kernel
theorem dX7_one_122 : decode cX7_one 122 = .ok (.invokevirtual 157, 3) := by decide +kernel
theorem dX7_one_125 : decode cX7_one 125 = .ok (.aload_n 0, 1) := by decide +kernel
theorem dX7_one_126 : decode cX7_one 126 = .ok (.getfield 7, 3) := by decide +kernel
theorem dX7_one_129 : decode cX7_one 129 = .ok (.bipush 16, 2) := by decide +kernel
theorem dX7_one_131 : decode cX7_one 131 = .ok (.iaload, 1) := by decide +kernel
theorem dX7_one_132 : decode cX7_one 132 = .ok (.invokestatic 167, 3) := by decide +kernel
theorem dX7_one_135 : decode cX7_one 135 = .ok (.ireturn, 1) := by decide +kernel
theorem dX7_one_136 : decode cX7_one 136 = .ok (.iconst (-1), 1) := by decide +kernel
theorem dX7_one_137 : decode cX7_one 137 = .ok (.ireturn, 1) := by decide +kernel
theorem dX7_turn_0 : decode cX7_turn 0 = .ok (.iload_n 1, 1) := by decide +kernel
theorem dX7_turn_1 : decode cX7_turn 1 = .ok (.i2l, 1) := by decide +kernel
theorem dX7_turn_2 : decode cX7_turn 2 = .ok (.lconst 0, 1) := by decide +kernel
theorem dX7_turn_3 : decode cX7_turn 3 = .ok (.aload_n 0, 1) := by decide +kernel
theorem dX7_turn_4 : decode cX7_turn 4 = .ok (.getfield 7, 3) := by decide +kernel
theorem dX7_turn_7 : decode cX7_turn 7 = .ok (.bipush 17, 2) := by decide +kernel
theorem dX7_turn_9 : decode cX7_turn 9 = .ok (.iaload, 1) := by decide +kernel
theorem dX7_turn_10 : decode cX7_turn 10 = .ok (.iconst 1, 1) := by decide +kernel
theorem dX7_turn_11 : decode cX7_turn 11 = .ok (.isub, 1) := by decide +kernel
theorem dX7_turn_12 : decode cX7_turn 12 = .ok (.i2l, 1) := by decide +kernel
theorem dX7_turn_13 : decode cX7_turn 13 = .ok (.invokestatic 75, 3) := by decide +kernel
theorem dX7_turn_16 : decode cX7_turn 16 = .ok (.ifCond .eq 15, 3) := by decide +kernel
theorem dX7_turn_19 : decode cX7_turn 19 = .ok (.aload_n 0, 1) := by decide +kernel
theorem dX7_turn_20 : decode cX7_turn 20 = .ok (.getfield 7, 3) := by decide +kernel
theorem dX7_turn_23 : decode cX7_turn 23 = .ok (.bipush 18, 2) := by decide +kernel
theorem dX7_turn_25 : decode cX7_turn 25 = .ok (.iload_n 1, 1) := by decide +kernel
theorem dX7_turn_26 : decode cX7_turn 26 = .ok (.iadd, 1) := by decide +kernel
theorem dX7_turn_27 : decode cX7_turn 27 = .ok (.iaload, 1) := by decide +kernel
theorem dX7_turn_28 : decode cX7_turn 28 = .ok (.goto 4, 3) := by decide +kernel
theorem dX7_turn_31 : decode cX7_turn 31 = .ok (.iconst (-1), 1) := by decide +kernel
theorem dX7_turn_32 : decode cX7_turn 32 = .ok (.ireturn, 1) := by decide +kernel
theorem dX7_becomes_0 : decode cX7_becomes 0 = .ok (.aload_n 0, 1) := by decide +kernel
theorem dX7_becomes_1 : decode cX7_becomes 1 = .ok (.getfield 7, 3) := by decide +kernel
theorem dX7_becomes_4 : decode cX7_becomes 4 = .ok (.iload_n 1, 1) := by decide +kernel
theorem dX7_becomes_5 : decode cX7_becomes 5 = .ok (.iaload, 1) := by decide +kernel
theorem dX7_becomes_6 : decode cX7_becomes 6 = .ok (.istore_n 3, 1) := by decide +kernel
theorem dX7_becomes_7 : decode cX7_becomes 7 = .ok (.aload_n 0, 1) := by decide +kernel
theorem dX7_becomes_8 : decode cX7_becomes 8 = .ok (.getfield 7, 3) := by decide +kernel
theorem dX7_becomes_11 : decode cX7_becomes 11 = .ok (.iload_n 1, 1) := by decide +kernel
theorem dX7_becomes_12 : decode cX7_becomes 12 = .ok (.iload_n 2, 1) := by decide +kernel
theorem dX7_becomes_13 : decode cX7_becomes 13 = .ok (.iastore, 1) := by decide +kernel
theorem dX7_becomes_14 : decode cX7_becomes 14 = .ok (.iload_n 3, 1) := by decide +kernel
theorem dX7_becomes_15 : decode cX7_becomes 15 = .ok (.ireturn, 1) := by decide +kernel
theorem dX7_alter_0 : decode cX7_alter 0 = .ok (.iload_n 2, 1) := by decide +kernel
theorem dX7_alter_1 : decode cX7_alter 1 = .ok (.ifCond .ne 15, 3) := by decide +kernel
theorem dX7_alter_4 : decode cX7_alter 4 = .ok (.iload_n 3, 1) := by decide +kernel
theorem dX7_alter_5 : decode cX7_alter 5 = .ok (.i2l, 1) := by decide +kernel
theorem dX7_alter_6 : decode cX7_alter 6 = .ok (.lconst 0, 1) := by decide +kernel
theorem dX7_alter_7 : decode cX7_alter 7 = .ok (.ldc2_w 196, 3) := by decide +kernel
theorem dX7_alter_10 : decode cX7_alter 10 = .ok (.invokestatic 75, 3) := by decide +kernel
theorem dX7_alter_13 : decode cX7_alter 13 = .ok (.goto 42, 3) := by decide +kernel
theorem dX7_alter_16 : decode cX7_alter 16 = .ok (.iload_n 2, 1) := by decide +kernel
theorem dX7_alter_17 : decode cX7_alter 17 = .ok (.iconst 1, 1) := by decide +kernel
theorem dX7_alter_18 : decode cX7_alter 18 = .ok (.if_icmp .ne 15, 3) := by decide +kernel
theorem dX7_alter_21 : decode cX7_alter 21 = .ok (.iload_n 3, 1) := by decide +kernel
theorem dX7_alter_22 : decode cX7_alter 22 = .ok (.i2l, 1) := by decide +kernel
theorem dX7_alter_23 : decode cX7_alter 23 = .ok (.lconst 0, 1) := by decide +kernel
theorem dX7_alter_24 : decode cX7_alter 24 = .ok (.ldc2_w 198, 3) := by decide +kernel
theorem dX7_alter_27 : decode cX7_alter 27 = .ok (.invokestatic 75, 3) := by decide +kernel
theorem dX7_alter_30 : decode cX7_alter 30 = .ok (.goto 25, 3) := by decide +kernel
theorem dX7_alter_33 : decode cX7_alter 33 = .ok (.iload_n 2, 1) := by decide +kernel
theorem dX7_alter_34 : decode cX7_alter 34 = .ok (.iconst 2, 1) := by decide +kernel
theorem dX7_alter_35 : decode cX7_alter 35 = .ok (.if_icmp .ne 19, 3) := by decide +kernel
theorem dX7_alter_38 : decode cX7_alter 38 = .ok (.iload_n 3, 1) := by decide +kernel
theorem dX7_alter_39 : decode cX7_alter 39 = .ok (.i2l, 1) := by decide +kernel
theorem dX7_alter_40 : decode cX7_alter 40 = .ok (.lconst 1, 1) := by decide +kernel
theorem dX7_alter_41 : decode cX7_alter 41 = .ok (.ldc2_w 198, 3) := by decide +kernel
theorem dX7_alter_44 : decode cX7_alter 44 = .ok (.invokestatic 75, 3) := by decide +kernel
theorem dX7_alter_47 : decode cX7_alter 47 = .ok (.ifCond .eq 7, 3) := by decide +kernel
theorem dX7_alter_50 : decode cX7_alter 50 = .ok (.iconst 1, 1) := by decide +kernel
theorem dX7_alter_51 : decode cX7_alter 51 = .ok (.goto 4, 3) := by decide +kernel
theorem dX7_alter_54 : decode cX7_alter 54 = .ok (.iconst 0, 1) := by decide +kernel
theorem dX7_alter_55 : decode cX7_alter 55 = .ok (.istore 4, 2) := by decide +kernel
theorem dX7_alter_57 : decode cX7_alter 57 = .ok (.aload_n 0, 1) := by decide +kernel
theorem dX7_alter_58 : decode cX7_alter 58 = .ok (.iload_n 1, 1) := by decide +kernel
theorem dX7_alter_59 : decode cX7_alter 59 = .ok (.invokevirtual 188, 3) := by decide +kernel
theorem dX7_alter_62 : decode cX7_alter 62 = .ok (.ifCond .eq 21, 3) := by decide +kernel
theorem dX7_alter_65 : decode cX7_alter 65 = .ok (.iload 4, 2) := by decide +kernel
theorem dX7_alter_67 : decode cX7_alter 67 = .ok (.ifCond .eq 16, 3) := by decide +kernel
theorem dX7_alter_70 : decode cX7_alter 70 = .ok (.aload_n 0, 1) := by decide +kernel
theorem dX7_alter_71 : decode cX7_alter 71 = .ok (.iconst 3, 1) := by decide +kernel
theorem dX7_alter_72 : decode cX7_alter 72 = .ok (.iload_n 1, 1) := by decide +kernel
theorem dX7_alter_73 : decode cX7_alter 73 = .ok (.imul, 1) := by decide +kernel
theorem dX7_alter_74 : decode cX7_alter 74 = .ok (.iload_n 2, 1) := by decide +kernel
theorem dX7_alter_75 : decode cX7_alter 75 = .ok (.iadd, 1) := by decide +kernel
theorem dX7_alter_76 : decode cX7_alter 76 = .ok (.iload_n 3, 1) := by decide +kernel
theorem dX7_alter_77 : decode cX7_alter 77 = .ok (.invokevirtual 200, 3) := by decide +kernel
theorem dX7_alter_80 : decode cX7_alter 80 = .ok (.goto 4, 3) := by decide +kernel
theorem dX7_alter_83 : decode cX7_alter 83 = .ok (.iconst (-1), 1) := by decide +kernel
theorem dX7_alter_84 : decode cX7_alter 84 = .ok (.ireturn, 1) := by decide +kernel
theorem dX7_takes_0 : decode cX7_takes 0 = .ok (.iload_n 1, 1) := by decide +kernel
theorem dX7_takes_1 : decode cX7_takes 1 = .ok (.i2l, 1) := by decide +kernel
theorem dX7_takes_2 : decode cX7_takes 2 = .ok (.lconst 1, 1) := by decide +kernel
theorem dX7_takes_3 : decode cX7_takes 3 = .ok (.ldc2_w 198, 3) := by decide +kernel
theorem dX7_takes_6 : decode cX7_takes 6 = .ok (.invokestatic 75, 3) := by decide +kernel
theorem dX7_takes_9 : decode cX7_takes 9 = .ok (.ifCond .eq 13, 3) := by decide +kernel
theorem dX7_takes_12 : decode cX7_takes 12 = .ok (.aload_n 0, 1) := by decide +kernel
theorem dX7_takes_13 : decode cX7_takes 13 = .ok (.bipush 15, 2) := by decide +kernel
theorem dX7_takes_15 : decode cX7_takes 15 = .ok (.iload_n 1, 1) := by decide +kernel
theorem dX7_takes_16 : decode cX7_takes 16 = .ok (.invokevirtual 200, 3) := by decide +kernel
theorem dX7_takes_19 : decode cX7_takes 19 = .ok (.goto 4, 3) := by decide +kernel
theorem dX7_takes_22 : decode cX7_takes 22 = .ok (.iconst (-1), 1) := by decide +kernel
theorem dX7_takes_23 : decode cX7_takes 23 = .ok (.ireturn, 1) := by decide +kernel
theorem dX7_load_0 : decode cX7_load 0 = .ok (.iload_n 1, 1) := by decide +kernel
theorem dX7_load_1 : decode cX7_load 1 = .ok (.i2l, 1) := by decide +kernel
theorem dX7_load_2 : decode cX7_load 2 = .ok (.lconst 0, 1) := by decide +kernel
theorem dX7_load_3 : decode cX7_load 3 = .ok (.ldc2_w 198, 3) := by decide +kernel
theorem dX7_load_6 : decode cX7_load 6 = .ok (.invokestatic 75, 3) := by decide +kernel
theorem dX7_load_9 : decode cX7_load 9 = .ok (.ifCond .eq 13, 3) := by decide +kernel
theorem dX7_load_12 : decode cX7_load 12 = .ok (.aload_n 0, 1) := by decide +kernel
theorem dX7_load_13 : decode cX7_load 13 = .ok (.bipush 16, 2) := by decide +kernel
theorem dX7_load_15 : decode cX7_load 15 = .ok (.iload_n 1, 1) := by decide +kernel
theorem dX7_load_16 : decode cX7_load 16 = .ok (.invokevirtual 200, 3) := by decide +kernel
theorem dX7_load_19 : decode cX7_load 19 = .ok (.goto 4, 3) := by decide +kernel
theorem dX7_load_22 : decode cX7_load 22 = .ok (.iconst (-1), 1) := by decide +kernel
theorem dX7_load_23 : decode cX7_load 23 = .ok (.ireturn, 1) := by decide +kernel
theorem dX7_rota_0 : decode cX7_rota 0 = .ok (.aload_n 0, 1) := by decide +kernel
theorem dX7_rota_1 : decode cX7_rota 1 = .ok (.iload_n 1, 1) := by decide +kernel
theorem dX7_rota_2 : decode cX7_rota 2 = .ok (.invokevirtual 188, 3) := by decide +kernel
theorem dX7_rota_5 : decode cX7_rota 5 = .ok (.ifCond .ne 5, 3) := by decide +kernel
theorem dX7_rota_8 : decode cX7_rota 8 = .ok (.iconst (-1), 1) := by decide +kernel
theorem dX7_rota_9 : decode cX7_rota 9 = .ok (.ireturn, 1) := by decide +kernel
theorem dX7_rota_10 : decode cX7_rota 10 = .ok (.aload_n 0, 1) := by decide +kernel
theorem dX7_rota_11 : decode cX7_rota 11 = .ok (.getfield 7, 3) := by decide +kernel
theorem dX7_rota_14 : decode cX7_rota 14 = .ok (.bipush 17, 2) := by decide +kernel
theorem dX7_rota_16 : decode cX7_rota 16 = .ok (.iaload, 1) := by decide +kernel
theorem dX7_rota_17 : decode cX7_rota 17 = .ok (.bipush 8, 2) := by decide +kernel
theorem dX7_rota_19 : decode cX7_rota 19 = .ok (.if_icmp .ne 6, 3) := by decide +kernel
theorem dX7_rota_22 : decode cX7_rota 22 = .ok (.bipush (-3), 2) := by decide +kernel
theorem dX7_rota_24 : decode cX7_rota 24 = .ok (.ireturn, 1) := by decide +kernel
theorem dX7_rota_25 : decode cX7_rota 25 = .ok (.aload_n 0, 1) := by decide +kernel
theorem dX7_rota_26 : decode cX7_rota 26 = .ok (.getfield 7, 3) := by decide +kernel
theorem dX7_rota_29 : decode cX7_rota 29 = .ok (.bipush 18, 2) := by decide +kernel
theorem dX7_rota_31 : decode cX7_rota 31 = .ok (.aload_n 0, 1) := by decide +kernel
theorem dX7_rota_32 : decode cX7_rota 32 = .ok (.getfield 7, 3) := by decide +kernel
theorem dX7_rota_35 : decode cX7_rota 35 = .ok (.bipush 17, 2) := by decide +kernel
theorem dX7_rota_37 : decode cX7_rota 37 = .ok (.iaload, 1) := by decide +kernel
theorem dX7_rota_38 : decode cX7_rota 38 = .ok (.iadd, 1) := by decide +kernel
theorem dX7_rota_39 : decode cX7_rota 39 = .ok (.iload_n 1, 1) := by decide +kernel
theorem dX7_rota_40 : decode cX7_rota 40 = .ok (.iastore, 1) := by decide +kernel
theorem dX7_rota_41 : decode cX7_rota 41 = .ok (.aload_n 0, 1) := by decide +kernel
theorem dX7_rota_42 : decode cX7_rota 42 = .ok (.getfield 7, 3) := by decide +kernel
theorem dX7_rota_45 : decode cX7_rota 45 = .ok (.bipush 17, 2) := by decide +kernel
theorem dX7_rota_47 : decode cX7_rota 47 = .ok (.dup2, 1) := by decide +kernel
theorem dX7_rota_48 : decode cX7_rota 48 = .ok (.iaload, 1) := by decide +kernel
theorem dX7_rota_49 : decode cX7_rota 49 = .ok (.iconst 1, 1) := by decide +kernel
theorem dX7_rota_50 : decode cX7_rota 50 = .ok (.iadd, 1) := by decide +kernel
theorem dX7_rota_51 : decode cX7_rota 51 = .ok (.iastore, 1) := by decide +kernel
theorem dX7_rota_52 : decode cX7_rota 52 = .ok (.aload_n 0, 1) := by decide +kernel
theorem dX7_rota_53 : decode cX7_rota 53 = .ok (.getfield 7, 3) := by decide +kernel
theorem dX7_rota_56 : decode cX7_rota 56 = .ok (.bipush 17, 2) := by decide +kernel
theorem dX7_rota_58 : decode cX7_rota 58 = .ok (.iaload, 1) := by decide +kernel
theorem dX7_rota_59 : decode cX7_rota 59 = .ok (.ireturn, 1) := by decide +kernel
theorem dX7_cut_0 : decode cX7_cut 0 = .ok (.iload_n 1, 1) := by decide +kernel
theorem dX7_cut_1 : decode cX7_cut 1 = .ok (.i2l, 1) := by decide +kernel
theorem dX7_cut_2 : decode cX7_cut 2 = .ok (.lconst 0, 1) := by decide +kernel
theorem dX7_cut_3 : decode cX7_cut 3 = .ok (.aload_n 0, 1) := by decide +kernel
theorem dX7_cut_4 : decode cX7_cut 4 = .ok (.getfield 7, 3) := by decide +kernel
theorem dX7_cut_7 : decode cX7_cut 7 = .ok (.bipush 17, 2) := by decide +kernel
theorem dX7_cut_9 : decode cX7_cut 9 = .ok (.iaload, 1) := by decide +kernel
theorem dX7_cut_10 : decode cX7_cut 10 = .ok (.i2l, 1) := by decide +kernel
theorem dX7_cut_11 : decode cX7_cut 11 = .ok (.invokestatic 75, 3) := by decide +kernel
theorem dX7_cut_14 : decode cX7_cut 14 = .ok (.ifCond .eq 13, 3) := by decide +kernel
theorem dX7_cut_17 : decode cX7_cut 17 = .ok (.aload_n 0, 1) := by decide +kernel
theorem dX7_cut_18 : decode cX7_cut 18 = .ok (.bipush 17, 2) := by decide +kernel
theorem dX7_cut_20 : decode cX7_cut 20 = .ok (.iload_n 1, 1) := by decide +kernel
theorem dX7_cut_21 : decode cX7_cut 21 = .ok (.invokevirtual 200, 3) := by decide +kernel
theorem dX7_cut_24 : decode cX7_cut 24 = .ok (.goto 4, 3) := by decide +kernel
theorem dX7_cut_27 : decode cX7_cut 27 = .ok (.iconst (-1), 1) := by decide +kernel
theorem dX7_cut_28 : decode cX7_cut 28 = .ok (.ireturn, 1) := by decide +kernel
theorem dX7_hours_0 : decode cX7_hours 0 = .ok (.iload_n 1, 1) := by decide +kernel
theorem dX7_hours_1 : decode cX7_hours 1 = .ok (.i2l, 1) := by decide +kernel
theorem dX7_hours_2 : decode cX7_hours 2 = .ok (.lconst 0, 1) := by decide +kernel
theorem dX7_hours_3 : decode cX7_hours 3 = .ok (.ldc2_w 203, 3) := by decide +kernel
theorem dX7_hours_6 : decode cX7_hours 6 = .ok (.invokestatic 75, 3) := by decide +kernel
theorem dX7_hours_9 : decode cX7_hours 9 = .ok (.ifCond .ne 5, 3) := by decide +kernel
theorem dX7_hours_12 : decode cX7_hours 12 = .ok (.iconst (-1), 1) := by decide +kernel
theorem dX7_hours_13 : decode cX7_hours 13 = .ok (.ireturn, 1) := by decide +kernel
theorem dX7_hours_14 : decode cX7_hours 14 = .ok (.aload_n 0, 1) := by decide +kernel
theorem dX7_hours_15 : decode cX7_hours 15 = .ok (.getfield 7, 3) := by decide +kernel
theorem dX7_hours_18 : decode cX7_hours 18 = .ok (.bipush 26, 2) := by decide +kernel
theorem dX7_hours_20 : decode cX7_hours 20 = .ok (.iaload, 1) := by decide +kernel
theorem dX7_hours_21 : decode cX7_hours 21 = .ok (.iload_n 1, 1) := by decide +kernel
theorem dX7_hours_22 : decode cX7_hours 22 = .ok (.iadd, 1) := by decide +kernel
theorem dX7_hours_23 : decode cX7_hours 23 = .ok (.sipush 999, 3) := by decide +kernel
theorem dX7_hours_26 : decode cX7_hours 26 = .ok (.if_icmp .le 6, 3) := by decide +kernel
theorem dX7_hours_29 : decode cX7_hours 29 = .ok (.bipush (-3), 2) := by decide +kernel
theorem dX7_hours_31 : decode cX7_hours 31 = .ok (.ireturn, 1) := by decide +kernel
theorem dX7_hours_32 : decode cX7_hours 32 = .ok (.aload_n 0, 1) := by decide +kernel
theorem dX7_hours_33 : decode cX7_hours 33 = .ok (.invokevirtual 182, 3) := by decide +kernel
theorem dX7_hours_36 : decode cX7_hours 36 = .ok (.aload_n 0, 1) := by decide +kernel
theorem dX7_hours_37 : decode cX7_hours 37 = .ok (.iload_n 1, 1) := by decide +kernel
theorem dX7_hours_38 : decode cX7_hours 38 = .ok (.invokevirtual 205, 3) := by decide +kernel
theorem dX7_hours_41 : decode cX7_hours 41 = .ok (.aload_n 0, 1) := by decide +kernel
theorem dX7_hours_42 : decode cX7_hours 42 = .ok (.invokevirtual 208, 3) := by decide +kernel
theorem dX7_hours_45 : decode cX7_hours 45 = .ok (.aload_n 0, 1) := by decide +kernel
theorem dX7_hours_46 : decode cX7_hours 46 = .ok (.getfield 148, 3) := by decide +kernel
theorem dX7_hours_49 : decode cX7_hours 49 = .ok (.ireturn, 1) := by decide +kernel
theorem dX7_isFar_0 : decode cX7_isFar 0 = .ok (.iload_n 0, 1) := by decide +kernel
theorem dX7_isFar_1 : decode cX7_isFar 1 = .ok (.i2l, 1) := by decide +kernel
theorem dX7_isFar_2 : decode cX7_isFar 2 = .ok (.lconst 0, 1) := by decide +kernel
theorem dX7_isFar_3 : decode cX7_isFar 3 = .ok (.ldc2_w 211, 3) := by decide +kernel
theorem dX7_isFar_6 : decode cX7_isFar 6 = .ok (.invokestatic 75, 3) := by decide +kernel
theorem dX7_isFar_9 : decode cX7_isFar 9 = .ok (.ireturn, 1) := by decide +kernel
theorem dX7_runs_0 : decode cX7_runs 0 = .ok (.iload_n 1, 1) := by decide +kernel
theorem dX7_runs_1 : decode cX7_runs 1 = .ok (.invokestatic 213, 3) := by decide +kernel
theorem dX7_runs_4 : decode cX7_runs 4 = .ok (.ifCond .eq 15, 3) := by decide +kernel
theorem dX7_runs_7 : decode cX7_runs 7 = .ok (.iload_n 2, 1) := by decide +kernel
theorem dX7_runs_8 : decode cX7_runs 8 = .ok (.i2l, 1) := by decide +kernel
theorem dX7_runs_9 : decode cX7_runs 9 = .ok (.lconst 0, 1) := by decide +kernel
theorem dX7_runs_10 : decode cX7_runs 10 = .ok (.ldc2_w 216, 3) := by decide +kernel
theorem dX7_runs_13 : decode cX7_runs 13 = .ok (.invokestatic 75, 3) := by decide +kernel
theorem dX7_runs_16 : decode cX7_runs 16 = .ok (.ifCond .ne 5, 3) := by decide +kernel
theorem dX7_runs_19 : decode cX7_runs 19 = .ok (.iconst (-1), 1) := by decide +kernel
theorem dX7_runs_20 : decode cX7_runs 20 = .ok (.ireturn, 1) := by decide +kernel
theorem dX7_runs_21 : decode cX7_runs 21 = .ok (.aload_n 0, 1) := by decide +kernel
theorem dX7_runs_22 : decode cX7_runs 22 = .ok (.invokevirtual 182, 3) := by decide +kernel
theorem dX7_runs_25 : decode cX7_runs 25 = .ok (.bipush (-4), 2) := by decide +kernel
theorem dX7_runs_27 : decode cX7_runs 27 = .ok (.istore_n 3, 1) := by decide +kernel
theorem dX7_runs_28 : decode cX7_runs 28 = .ok (.aload_n 0, 1) := by decide +kernel
theorem dX7_runs_29 : decode cX7_runs 29 = .ok (.getfield 13, 3) := by decide +kernel
theorem dX7_runs_32 : decode cX7_runs 32 = .ok (.bipush 16, 2) := by decide +kernel
theorem dX7_runs_34 : decode cX7_runs 34 = .ok (.iaload, 1) := by decide +kernel
theorem dX7_runs_35 : decode cX7_runs 35 = .ok (.istore 4, 2) := by decide +kernel
theorem dX7_runs_37 : decode cX7_runs 37 = .ok (.iconst 1, 1) := by decide +kernel
theorem dX7_runs_38 : decode cX7_runs 38 = .ok (.istore 5, 2) := by decide +kernel
theorem dX7_runs_40 : decode cX7_runs 40 = .ok (.iload 5, 2) := by decide +kernel
theorem dX7_runs_42 : decode cX7_runs 42 = .ok (.iload_n 1, 1) := by decide +kernel
theorem dX7_runs_43 : decode cX7_runs 43 = .ok (.if_icmp .gt 59, 3) := by decide +kernel
theorem dX7_runs_46 : decode cX7_runs 46 = .ok (.aload_n 0, 1) := by decide +kernel
theorem dX7_runs_47 : decode cX7_runs 47 = .ok (.invokevirtual 179, 3) := by decide +kernel
theorem dX7_runs_50 : decode cX7_runs 50 = .ok (.iload_n 3, 1) := by decide +kernel
theorem dX7_runs_51 : decode cX7_runs 51 = .ok (.bipush (-4), 2) := by decide +kernel
theorem dX7_runs_53 : decode cX7_runs 53 = .ok (.if_icmp .ne 15, 3) := by decide +kernel
theorem dX7_runs_56 : decode cX7_runs 56 = .ok (.aload_n 0, 1) := by decide +kernel
theorem dX7_runs_57 : decode cX7_runs 57 = .ok (.getfield 151, 3) := by decide +kernel
theorem dX7_runs_60 : decode cX7_runs 60 = .ok (.ifCond .le 8, 3) := by decide +kernel
theorem dX7_runs_63 : decode cX7_runs 63 = .ok (.iload 5, 2) := by decide +kernel
theorem dX7_runs_65 : decode cX7_runs 65 = .ok (.goto 4, 3) := by decide +kernel
theorem dX7_runs_68 : decode cX7_runs 68 = .ok (.iload_n 3, 1) := by decide +kernel
theorem dX7_runs_69 : decode cX7_runs 69 = .ok (.istore_n 3, 1) := by decide +kernel
theorem dX7_runs_70 : decode cX7_runs 70 = .ok (.aload_n 0, 1) := by decide +kernel
theorem dX7_runs_71 : decode cX7_runs 71 = .ok (.getfield 13, 3) := by decide +kernel
theorem dX7_runs_74 : decode cX7_runs 74 = .ok (.bipush 16, 2) := by decide +kernel
theorem dX7_runs_76 : decode cX7_runs 76 = .ok (.iaload, 1) := by decide +kernel
theorem dX7_runs_77 : decode cX7_runs 77 = .ok (.iload 4, 2) := by decide +kernel
theorem dX7_runs_79 : decode cX7_runs 79 = .ok (.if_icmp .le 13, 3) := by decide +kernel
theorem dX7_runs_82 : decode cX7_runs 82 = .ok (.aload_n 0, 1) := by decide +kernel
theorem dX7_runs_83 : decode cX7_runs 83 = .ok (.getfield 13, 3) := by decide +kernel
theorem dX7_runs_86 : decode cX7_runs 86 = .ok (.bipush 16, 2) := by decide +kernel
theorem dX7_runs_88 : decode cX7_runs 88 = .ok (.iaload, 1) := by decide +kernel
theorem dX7_runs_89 : decode cX7_runs 89 = .ok (.goto 5, 3) := by decide +kernel
theorem dX7_runs_92 : decode cX7_runs 92 = .ok (.iload 4, 2) := by decide +kernel
theorem dX7_runs_94 : decode cX7_runs 94 = .ok (.istore 4, 2) := by decide +kernel
theorem dX7_runs_96 : decode cX7_runs 96 = .ok (.iinc 5 1, 3) := by decide +kernel
theorem dX7_runs_99 : decode cX7_runs 99 = .ok (.goto (-59), 3) := by decide +kernel
theorem dX7_runs_102 : decode cX7_runs 102 = .ok (.iload_n 2, 1) := by decide +kernel
theorem dX7_runs_103 : decode cX7_runs 103 = .ok (.tableswitch 46 0 3 #[29, 34, 39, 44], 29) := by decide +kernel
theorem dX7_runs_132 : decode cX7_runs 132 = .ok (.aload_n 0, 1) := by decide +kernel
theorem dX7_runs_133 : decode cX7_runs 133 = .ok (.invokevirtual 185, 3) := by decide +kernel
theorem dX7_runs_136 : decode cX7_runs 136 = .ok (.ireturn, 1) := by decide +kernel
theorem dX7_runs_137 : decode cX7_runs 137 = .ok (.aload_n 0, 1) := by decide +kernel
theorem dX7_runs_138 : decode cX7_runs 138 = .ok (.getfield 148, 3) := by decide +kernel
theorem dX7_runs_141 : decode cX7_runs 141 = .ok (.ireturn, 1) := by decide +kernel
theorem dX7_runs_142 : decode cX7_runs 142 = .ok (.aload_n 0, 1) := by decide +kernel
theorem dX7_runs_143 : decode cX7_runs 143 = .ok (.getfield 151, 3) := by decide +kernel
theorem dX7_runs_146 : decode cX7_runs 146 = .ok (.ireturn, 1) := by decide +kernel
theorem dX7_runs_147 : decode cX7_runs 147 = .ok (.iload_n 3, 1) := by decide +kernel
theorem dX7_runs_148 : decode cX7_runs 148 = .ok (.ireturn, 1) := by decide +kernel
theorem dX7_runs_149 : decode cX7_runs 149 = .ok (.iload 4, 2) := by decide +kernel
theorem dX7_runs_151 : decode cX7_runs 151 = .ok (.ireturn, 1) := by decide +kernel
theorem dX7_ahead_0 : decode cX7_ahead 0 = .ok (.aload_n 0, 1) := by decide +kernel
theorem dX7_ahead_1 : decode cX7_ahead 1 = .ok (.iload_n 1, 1) := by decide +kernel
theorem dX7_ahead_2 : decode cX7_ahead 2 = .ok (.invokevirtual 188, 3) := by decide +kernel
theorem dX7_ahead_5 : decode cX7_ahead 5 = .ok (.ifCond .eq 10, 3) := by decide +kernel
theorem dX7_ahead_8 : decode cX7_ahead 8 = .ok (.iload_n 2, 1) := by decide +kernel
theorem dX7_ahead_9 : decode cX7_ahead 9 = .ok (.invokestatic 213, 3) := by decide +kernel
theorem dX7_ahead_12 : decode cX7_ahead 12 = .ok (.ifCond .ne 5, 3) := by decide +kernel
theorem dX7_ahead_15 : decode cX7_ahead 15 = .ok (.iconst (-1), 1) := by decide +kernel
theorem dX7_ahead_16 : decode cX7_ahead 16 = .ok (.ireturn, 1) := by decide +kernel
theorem dX7_ahead_17 : decode cX7_ahead 17 = .ok (.aload_n 0, 1) := by decide +kernel
theorem dX7_ahead_18 : decode cX7_ahead 18 = .ok (.invokevirtual 182, 3) := by decide +kernel
theorem dX7_ahead_21 : decode cX7_ahead 21 = .ok (.aload_n 0, 1) := by decide +kernel
theorem dX7_ahead_22 : decode cX7_ahead 22 = .ok (.iload_n 2, 1) := by decide +kernel
theorem dX7_ahead_23 : decode cX7_ahead 23 = .ok (.invokevirtual 205, 3) := by decide +kernel
theorem dX7_ahead_26 : decode cX7_ahead 26 = .ok (.aload_n 0, 1) := by decide +kernel
theorem dX7_ahead_27 : decode cX7_ahead 27 = .ok (.iload_n 1, 1) := by decide +kernel
theorem dX7_ahead_28 : decode cX7_ahead 28 = .ok (.iconst 1, 1) := by decide +kernel
theorem dX7_ahead_29 : decode cX7_ahead 29 = .ok (.invokevirtual 157, 3) := by decide +kernel
theorem dX7_ahead_32 : decode cX7_ahead 32 = .ok (.ireturn, 1) := by decide +kernel
theorem dX7_under_0 : decode cX7_under 0 = .ok (.iload_n 1, 1) := by decide +kernel
theorem dX7_under_1 : decode cX7_under 1 = .ok (.i2l, 1) := by decide +kernel
theorem dX7_under_2 : decode cX7_under 2 = .ok (.lconst 0, 1) := by decide +kernel
theorem dX7_under_3 : decode cX7_under 3 = .ok (.ldc2_w 218, 3) := by decide +kernel
theorem dX7_under_6 : decode cX7_under 6 = .ok (.invokestatic 75, 3) := by decide +kernel
theorem dX7_under_9 : decode cX7_under 9 = .ok (.ifCond .ne 5, 3) := by decide +kernel
theorem dX7_under_12 : decode cX7_under 12 = .ok (.iconst (-1), 1) := by decide +kernel
theorem dX7_under_13 : decode cX7_under 13 = .ok (.ireturn, 1) := by decide +kernel
theorem dX7_under_14 : decode cX7_under 14 = .ok (.aload_n 0, 1) := by decide +kernel
theorem dX7_under_15 : decode cX7_under 15 = .ok (.invokevirtual 182, 3) := by decide +kernel
theorem dX7_under_18 : decode cX7_under 18 = .ok (.iconst 0, 1) := by decide +kernel
theorem dX7_under_19 : decode cX7_under 19 = .ok (.istore_n 2, 1) := by decide +kernel
theorem dX7_under_20 : decode cX7_under 20 = .ok (.iload_n 2, 1) := by decide +kernel
theorem dX7_under_21 : decode cX7_under 21 = .ok (.bipush 60, 2) := by decide +kernel
theorem dX7_under_23 : decode cX7_under 23 = .ok (.if_icmp .gt 23, 3) := by decide +kernel
theorem dX7_under_26 : decode cX7_under 26 = .ok (.aload_n 0, 1) := by decide +kernel
theorem dX7_under_27 : decode cX7_under 27 = .ok (.invokevirtual 185, 3) := by decide +kernel
theorem dX7_under_30 : decode cX7_under 30 = .ok (.iload_n 1, 1) := by decide +kernel
theorem dX7_under_31 : decode cX7_under 31 = .ok (.if_icmp .gt 5, 3) := by decide +kernel
theorem dX7_under_34 : decode cX7_under 34 = .ok (.iload_n 2, 1) := by decide +kernel
theorem dX7_under_35 : decode cX7_under 35 = .ok (.ireturn, 1) := by decide +kernel
theorem dX7_under_36 : decode cX7_under 36 = .ok (.aload_n 0, 1) := by decide +kernel
theorem dX7_under_37 : decode cX7_under 37 = .ok (.invokevirtual 179, 3) := by decide +kernel
theorem dX7_under_40 : decode cX7_under 40 = .ok (.iinc 2 1, 3) := by decide +kernel
theorem dX7_under_43 : decode cX7_under 43 = .ok (.goto (-23), 3) := by decide +kernel
theorem dX7_under_46 : decode cX7_under 46 = .ok (.bipush (-4), 2) := by decide +kernel
theorem dX7_under_48 : decode cX7_under 48 = .ok (.ireturn, 1) := by decide +kernel
theorem dX7_light_0 : decode cX7_light 0 = .ok (.aload_n 0, 1) := by decide +kernel
theorem dX7_light_1 : decode cX7_light 1 = .ok (.iload_n 1, 1) := by decide +kernel
theorem dX7_light_2 : decode cX7_light 2 = .ok (.invokevirtual 188, 3) := by decide +kernel
theorem dX7_light_5 : decode cX7_light 5 = .ok (.ifCond .ne 5, 3) := by decide +kernel
theorem dX7_light_8 : decode cX7_light 8 = .ok (.iconst (-1), 1) := by decide +kernel
theorem dX7_light_9 : decode cX7_light 9 = .ok (.ireturn, 1) := by decide +kernel
theorem dX7_light_10 : decode cX7_light 10 = .ok (.aload_n 0, 1) := by decide +kernel
theorem dX7_light_11 : decode cX7_light 11 = .ok (.invokevirtual 182, 3) := by decide +kernel
theorem dX7_light_14 : decode cX7_light 14 = .ok (.iconst 0, 1) := by decide +kernel
theorem dX7_light_15 : decode cX7_light 15 = .ok (.istore_n 2, 1) := by decide +kernel
theorem dX7_light_16 : decode cX7_light 16 = .ok (.iload_n 2, 1) := by decide +kernel
theorem dX7_light_17 : decode cX7_light 17 = .ok (.bipush 60, 2) := by decide +kernel
theorem dX7_light_19 : decode cX7_light 19 = .ok (.if_icmp .gt 24, 3) := by decide +kernel
theorem dX7_light_22 : decode cX7_light 22 = .ok (.aload_n 0, 1) := by decide +kernel
theorem dX7_light_23 : decode cX7_light 23 = .ok (.iload_n 1, 1) := by decide +kernel
theorem dX7_light_24 : decode cX7_light 24 = .ok (.iconst 1, 1) := by decide +kernel
theorem dX7_light_25 : decode cX7_light 25 = .ok (.invokevirtual 157, 3) := by decide +kernel
theorem dX7_light_28 : decode cX7_light 28 = .ok (.ifCond .ne 5, 3) := by decide +kernel
theorem dX7_light_31 : decode cX7_light 31 = .ok (.iload_n 2, 1) := by decide +kernel
theorem dX7_light_32 : decode cX7_light 32 = .ok (.ireturn, 1) := by decide +kernel
theorem dX7_light_33 : decode cX7_light 33 = .ok (.aload_n 0, 1) := by decide +kernel
theorem dX7_light_34 : decode cX7_light 34 = .ok (.invokevirtual 179, 3) := by decide +kernel
theorem dX7_light_37 : decode cX7_light 37 = .ok (.iinc 2 1, 3) := by decide +kernel
theorem dX7_light_40 : decode cX7_light 40 = .ok (.goto (-24), 3) := by decide +kernel
theorem dX7_light_43 : decode cX7_light 43 = .ok (.bipush (-4), 2) := by decide +kernel
theorem dX7_light_45 : decode cX7_light 45 = .ok (.ireturn, 1) := by decide +kernel
theorem dX7_startsJudging_0 : decode cX7_startsJudging 0 = .ok (.aload_n 0, 1) := by decide +kernel
theorem dX7_startsJudging_1 : decode cX7_startsJudging 1 = .ok (.bipush (-4), 2) := by decide +kernel
theorem dX7_startsJudging_3 : decode cX7_startsJudging 3 = .ok (.putfield 220, 3) := by decide +kernel
theorem dX7_startsJudging_6 : decode cX7_startsJudging 6 = .ok (.aload_n 0, 1) := by decide +kernel
theorem dX7_startsJudging_7 : decode cX7_startsJudging 7 = .ok (.iload_n 1, 1) := by decide +kernel
theorem dX7_startsJudging_8 : decode cX7_startsJudging 8 = .ok (.putfield 223, 3) := by decide +kernel
theorem dX7_startsJudging_11 : decode cX7_startsJudging 11 = .ok (.return_, 1) := by decide +kernel
theorem dX7_judges_0 : decode cX7_judges 0 = .ok (.aload_n 0, 1) := by decide +kernel
theorem dX7_judges_1 : decode cX7_judges 1 = .ok (.iload_n 2, 1) := by decide +kernel
theorem dX7_judges_2 : decode cX7_judges 2 = .ok (.aload_n 0, 1) := by decide +kernel
theorem dX7_judges_3 : decode cX7_judges 3 = .ok (.getfield 223, 3) := by decide +kernel
theorem dX7_judges_6 : decode cX7_judges 6 = .ok (.if_icmp .ge 7, 3) := by decide +kernel
theorem dX7_judges_9 : decode cX7_judges 9 = .ok (.iload_n 1, 1) := by decide +kernel
theorem dX7_judges_10 : decode cX7_judges 10 = .ok (.goto 7, 3) := by decide +kernel
theorem dX7_judges_13 : decode cX7_judges 13 = .ok (.aload_n 0, 1) := by decide +kernel
theorem dX7_judges_14 : decode cX7_judges 14 = .ok (.getfield 220, 3) := by decide +kernel
theorem dX7_judges_17 : decode cX7_judges 17 = .ok (.putfield 220, 3) := by decide +kernel
theorem dX7_judges_20 : decode cX7_judges 20 = .ok (.aload_n 0, 1) := by decide +kernel
theorem dX7_judges_21 : decode cX7_judges 21 = .ok (.iload_n 2, 1) := by decide +kernel
theorem dX7_judges_22 : decode cX7_judges 22 = .ok (.aload_n 0, 1) := by decide +kernel
theorem dX7_judges_23 : decode cX7_judges 23 = .ok (.getfield 223, 3) := by decide +kernel
theorem dX7_judges_26 : decode cX7_judges 26 = .ok (.invokestatic 154, 3) := by decide +kernel
theorem dX7_judges_29 : decode cX7_judges 29 = .ok (.putfield 223, 3) := by decide +kernel
theorem dX7_judges_32 : decode cX7_judges 32 = .ok (.return_, 1) := by decide +kernel
theorem dX7_judged_0 : decode cX7_judged 0 = .ok (.aload_n 0, 1) := by decide +kernel
theorem dX7_judged_1 : decode cX7_judged 1 = .ok (.getfield 220, 3) := by decide +kernel
theorem dX7_judged_4 : decode cX7_judged 4 = .ok (.bipush (-4), 2) := by decide +kernel
theorem dX7_judged_6 : decode cX7_judged 6 = .ok (.if_icmp .ne 8, 3) := by decide +kernel
theorem dX7_judged_9 : decode cX7_judged 9 = .ok (.bipush (-4), 2) := by decide +kernel
theorem dX7_judged_11 : decode cX7_judged 11 = .ok (.goto 18, 3) := by decide +kernel
theorem dX7_judged_14 : decode cX7_judged 14 = .ok (.iload_n 1, 1) := by decide +kernel
theorem dX7_judged_15 : decode cX7_judged 15 = .ok (.ifCond .ne 10, 3) := by decide +kernel
theorem dX7_judged_18 : decode cX7_judged 18 = .ok (.aload_n 0, 1) := by decide +kernel
theorem dX7_judged_19 : decode cX7_judged 19 = .ok (.getfield 220, 3) := by decide +kernel
theorem dX7_judged_22 : decode cX7_judged 22 = .ok (.goto 7, 3) := by decide +kernel
theorem dX7_judged_25 : decode cX7_judged 25 = .ok (.aload_n 0, 1) := by decide +kernel
theorem dX7_judged_26 : decode cX7_judged 26 = .ok (.getfield 223, 3) := by decide +kernel
theorem dX7_judged_29 : decode cX7_judged 29 = .ok (.ireturn, 1) := by decide +kernel
theorem dX7_weightBehind_0 : decode cX7_weightBehind 0 = .ok (.aload_n 0, 1) := by decide +kernel
theorem dX7_weightBehind_1 : decode cX7_weightBehind 1 = .ok (.iload_n 1, 1) := by decide +kernel
theorem dX7_weightBehind_2 : decode cX7_weightBehind 2 = .ok (.invokevirtual 205, 3) := by decide +kernel
theorem dX7_weightBehind_5 : decode cX7_weightBehind 5 = .ok (.aload_n 0, 1) := by decide +kernel
theorem dX7_weightBehind_6 : decode cX7_weightBehind 6 = .ok (.invokevirtual 185, 3) := by decide +kernel
theorem dX7_weightBehind_9 : decode cX7_weightBehind 9 = .ok (.ireturn, 1) := by decide +kernel
theorem dX7_isRow_0 : decode cX7_isRow 0 = .ok (.iload_n 1, 1) := by decide +kernel
theorem dX7_isRow_1 : decode cX7_isRow 1 = .ok (.istore_n 2, 1) := by decide +kernel
theorem dX7_isRow_2 : decode cX7_isRow 2 = .ok (.iconst 1, 1) := by decide +kernel
theorem dX7_isRow_3 : decode cX7_isRow 3 = .ok (.istore_n 3, 1) := by decide +kernel
theorem dX7_isRow_4 : decode cX7_isRow 4 = .ok (.aload_n 0, 1) := by decide +kernel
theorem dX7_isRow_5 : decode cX7_isRow 5 = .ok (.getfield 7, 3) := by decide +kernel
theorem dX7_isRow_8 : decode cX7_isRow 8 = .ok (.bipush 17, 2) := by decide +kernel
theorem dX7_isRow_10 : decode cX7_isRow 10 = .ok (.iaload, 1) := by decide +kernel
theorem dX7_isRow_11 : decode cX7_isRow 11 = .ok (.iconst 1, 1) := by decide +kernel
theorem dX7_isRow_12 : decode cX7_isRow 12 = .ok (.isub, 1) := by decide +kernel
theorem dX7_isRow_13 : decode cX7_isRow 13 = .ok (.istore 4, 2) := by decide +kernel
theorem dX7_isRow_15 : decode cX7_isRow 15 = .ok (.iload 4, 2) := by decide +kernel
theorem dX7_isRow_17 : decode cX7_isRow 17 = .ok (.ifCond .lt 23, 3) := by decide +kernel
theorem dX7_isRow_20 : decode cX7_isRow 20 = .ok (.aload_n 0, 1) := by decide +kernel
theorem dX7_isRow_21 : decode cX7_isRow 21 = .ok (.getfield 26, 3) := by decide +kernel
theorem dX7_isRow_24 : decode cX7_isRow 24 = .ok (.iload 4, 2) := by decide +kernel
theorem dX7_isRow_26 : decode cX7_isRow 26 = .ok (.iload_n 2, 1) := by decide +kernel
theorem dX7_isRow_27 : decode cX7_isRow 27 = .ok (.iconst 5, 1) := by decide +kernel
theorem dX7_isRow_28 : decode cX7_isRow 28 = .ok (.irem, 1) := by decide +kernel
theorem dX7_isRow_29 : decode cX7_isRow 29 = .ok (.iastore, 1) := by decide +kernel
theorem dX7_isRow_30 : decode cX7_isRow 30 = .ok (.iload_n 2, 1) := by decide +kernel
theorem dX7_isRow_31 : decode cX7_isRow 31 = .ok (.iconst 5, 1) := by decide +kernel
theorem dX7_isRow_32 : decode cX7_isRow 32 = .ok (.idiv, 1) := by decide +kernel
theorem dX7_isRow_33 : decode cX7_isRow 33 = .ok (.istore_n 2, 1) := by decide +kernel
theorem dX7_isRow_34 : decode cX7_isRow 34 = .ok (.iinc 4 (-1), 3) := by decide +kernel
theorem dX7_isRow_37 : decode cX7_isRow 37 = .ok (.goto (-22), 3) := by decide +kernel
theorem dX7_isRow_40 : decode cX7_isRow 40 = .ok (.iconst 0, 1) := by decide +kernel
theorem dX7_isRow_41 : decode cX7_isRow 41 = .ok (.istore 4, 2) := by decide +kernel
theorem dX7_isRow_43 : decode cX7_isRow 43 = .ok (.iload 4, 2) := by decide +kernel
theorem dX7_isRow_45 : decode cX7_isRow 45 = .ok (.iconst 5, 1) := by decide +kernel
theorem dX7_isRow_46 : decode cX7_isRow 46 = .ok (.if_icmp .ge 97, 3) := by decide +kernel
theorem dX7_isRow_49 : decode cX7_isRow 49 = .ok (.iconst 0, 1) := by decide +kernel
theorem dX7_isRow_50 : decode cX7_isRow 50 = .ok (.istore 5, 2) := by decide +kernel
theorem dX7_isRow_52 : decode cX7_isRow 52 = .ok (.iconst 0, 1) := by decide +kernel
theorem dX7_isRow_53 : decode cX7_isRow 53 = .ok (.istore 6, 2) := by decide +kernel
theorem dX7_isRow_55 : decode cX7_isRow 55 = .ok (.iload 6, 2) := by decide +kernel
theorem dX7_isRow_57 : decode cX7_isRow 57 = .ok (.aload_n 0, 1) := by decide +kernel
theorem dX7_isRow_58 : decode cX7_isRow 58 = .ok (.getfield 7, 3) := by decide +kernel
theorem dX7_isRow_61 : decode cX7_isRow 61 = .ok (.bipush 17, 2) := by decide +kernel
theorem dX7_isRow_63 : decode cX7_isRow 63 = .ok (.iaload, 1) := by decide +kernel
theorem dX7_isRow_64 : decode cX7_isRow 64 = .ok (.if_icmp .ge 58, 3) := by decide +kernel
theorem dX7_isRow_67 : decode cX7_isRow 67 = .ok (.iload 5, 2) := by decide +kernel
theorem dX7_isRow_69 : decode cX7_isRow 69 = .ok (.aload_n 0, 1) := by decide +kernel
theorem dX7_isRow_70 : decode cX7_isRow 70 = .ok (.getfield 26, 3) := by decide +kernel
theorem dX7_isRow_73 : decode cX7_isRow 73 = .ok (.iload 6, 2) := by decide +kernel
theorem dX7_isRow_75 : decode cX7_isRow 75 = .ok (.iaload, 1) := by decide +kernel
theorem dX7_isRow_76 : decode cX7_isRow 76 = .ok (.iload 4, 2) := by decide +kernel
theorem dX7_isRow_78 : decode cX7_isRow 78 = .ok (.if_icmp .ne 7, 3) := by decide +kernel
theorem dX7_isRow_81 : decode cX7_isRow 81 = .ok (.iconst 1, 1) := by decide +kernel
theorem dX7_isRow_82 : decode cX7_isRow 82 = .ok (.goto 4, 3) := by decide +kernel
theorem dX7_isRow_85 : decode cX7_isRow 85 = .ok (.iconst 0, 1) := by decide +kernel
theorem dX7_isRow_86 : decode cX7_isRow 86 = .ok (.invokestatic 192, 3) := by decide +kernel
theorem dX7_isRow_89 : decode cX7_isRow 89 = .ok (.aload_n 0, 1) := by decide +kernel
theorem dX7_isRow_90 : decode cX7_isRow 90 = .ok (.getfield 7, 3) := by decide +kernel
theorem dX7_isRow_93 : decode cX7_isRow 93 = .ok (.bipush 18, 2) := by decide +kernel
theorem dX7_isRow_95 : decode cX7_isRow 95 = .ok (.iload 6, 2) := by decide +kernel
theorem dX7_isRow_97 : decode cX7_isRow 97 = .ok (.iadd, 1) := by decide +kernel
theorem dX7_isRow_98 : decode cX7_isRow 98 = .ok (.iaload, 1) := by decide +kernel
theorem dX7_isRow_99 : decode cX7_isRow 99 = .ok (.iload 4, 2) := by decide +kernel
theorem dX7_isRow_101 : decode cX7_isRow 101 = .ok (.if_icmp .ne 7, 3) := by decide +kernel
theorem dX7_isRow_104 : decode cX7_isRow 104 = .ok (.iconst 1, 1) := by decide +kernel
theorem dX7_isRow_105 : decode cX7_isRow 105 = .ok (.goto 4, 3) := by decide +kernel
theorem dX7_isRow_108 : decode cX7_isRow 108 = .ok (.iconst 0, 1) := by decide +kernel
theorem dX7_isRow_109 : decode cX7_isRow 109 = .ok (.invokestatic 192, 3) := by decide +kernel
theorem dX7_isRow_112 : decode cX7_isRow 112 = .ok (.isub, 1) := by decide +kernel
theorem dX7_isRow_113 : decode cX7_isRow 113 = .ok (.iadd, 1) := by decide +kernel
theorem dX7_isRow_114 : decode cX7_isRow 114 = .ok (.istore 5, 2) := by decide +kernel
theorem dX7_isRow_116 : decode cX7_isRow 116 = .ok (.iinc 6 1, 3) := by decide +kernel
theorem dX7_isRow_119 : decode cX7_isRow 119 = .ok (.goto (-64), 3) := by decide +kernel
theorem dX7_isRow_122 : decode cX7_isRow 122 = .ok (.iload_n 3, 1) := by decide +kernel
theorem dX7_isRow_123 : decode cX7_isRow 123 = .ok (.ifCond .eq 12, 3) := by decide +kernel
theorem dX7_isRow_126 : decode cX7_isRow 126 = .ok (.iload 5, 2) := by decide +kernel
theorem dX7_isRow_128 : decode cX7_isRow 128 = .ok (.ifCond .ne 7, 3) := by decide +kernel
theorem dX7_isRow_131 : decode cX7_isRow 131 = .ok (.iconst 1, 1) := by decide +kernel
theorem dX7_isRow_132 : decode cX7_isRow 132 = .ok (.goto 4, 3) := by decide +kernel
theorem dX7_isRow_135 : decode cX7_isRow 135 = .ok (.iconst 0, 1) := by decide +kernel
theorem dX7_isRow_136 : decode cX7_isRow 136 = .ok (.istore_n 3, 1) := by decide +kernel
theorem dX7_isRow_137 : decode cX7_isRow 137 = .ok (.iinc 4 1, 3) := by decide +kernel
theorem dX7_isRow_140 : decode cX7_isRow 140 = .ok (.goto (-97), 3) := by decide +kernel
theorem dX7_isRow_143 : decode cX7_isRow 143 = .ok (.iload_n 3, 1) := by decide +kernel
theorem dX7_isRow_144 : decode cX7_isRow 144 = .ok (.ireturn, 1) := by decide +kernel
theorem dX7_findOrder_0 : decode cX7_findOrder 0 = .ok (.iconst 1, 1) := by decide +kernel
theorem dX7_findOrder_1 : decode cX7_findOrder 1 = .ok (.istore_n 1, 1) := by decide +kernel
theorem dX7_findOrder_2 : decode cX7_findOrder 2 = .ok (.iconst 0, 1) := by decide +kernel
theorem dX7_findOrder_3 : decode cX7_findOrder 3 = .ok (.istore_n 2, 1) := by decide +kernel
theorem dX7_findOrder_4 : decode cX7_findOrder 4 = .ok (.iload_n 2, 1) := by decide +kernel
theorem dX7_findOrder_5 : decode cX7_findOrder 5 = .ok (.aload_n 0, 1) := by decide +kernel
theorem dX7_findOrder_6 : decode cX7_findOrder 6 = .ok (.getfield 7, 3) := by decide +kernel
theorem dX7_findOrder_9 : decode cX7_findOrder 9 = .ok (.bipush 17, 2) := by decide +kernel
theorem dX7_findOrder_11 : decode cX7_findOrder 11 = .ok (.iaload, 1) := by decide +kernel
theorem dX7_findOrder_12 : decode cX7_findOrder 12 = .ok (.if_icmp .ge 13, 3) := by decide +kernel
theorem dX7_findOrder_15 : decode cX7_findOrder 15 = .ok (.iload_n 1, 1) := by decide +kernel
theorem dX7_findOrder_16 : decode cX7_findOrder 16 = .ok (.iconst 5, 1) := by decide +kernel
theorem dX7_findOrder_17 : decode cX7_findOrder 17 = .ok (.imul, 1) := by decide +kernel
theorem dX7_findOrder_18 : decode cX7_findOrder 18 = .ok (.istore_n 1, 1) := by decide +kernel
theorem dX7_findOrder_19 : decode cX7_findOrder 19 = .ok (.iinc 2 1, 3) := by decide +kernel
theorem dX7_findOrder_22 : decode cX7_findOrder 22 = .ok (.goto (-18), 3) := by decide +kernel
theorem dX7_findOrder_25 : decode cX7_findOrder 25 = .ok (.aload_n 0, 1) := by decide +kernel
theorem dX7_findOrder_26 : decode cX7_findOrder 26 = .ok (.ldc 226, 2) := by decide +kernel
theorem dX7_findOrder_28 : decode cX7_findOrder 28 = .ok (.invokevirtual 227, 3) := by decide +kernel
theorem dX7_findOrder_31 : decode cX7_findOrder 31 = .ok (.iconst 0, 1) := by decide +kernel
theorem dX7_findOrder_32 : decode cX7_findOrder 32 = .ok (.istore_n 2, 1) := by decide +kernel
theorem dX7_findOrder_33 : decode cX7_findOrder 33 = .ok (.iload_n 2, 1) := by decide +kernel
theorem dX7_findOrder_34 : decode cX7_findOrder 34 = .ok (.iload_n 1, 1) := by decide +kernel
theorem dX7_findOrder_35 : decode cX7_findOrder 35 = .ok (.if_icmp .ge 111, 3) := by decide +kernel
theorem dX7_findOrder_38 : decode cX7_findOrder 38 = .ok (.aload_n 0, 1) := by decide +kernel
theorem dX7_findOrder_39 : decode cX7_findOrder 39 = .ok (.iload_n 2, 1) := by decide +kernel
theorem dX7_findOrder_40 : decode cX7_findOrder 40 = .ok (.invokevirtual 230, 3) := by decide +kernel
theorem dX7_findOrder_43 : decode cX7_findOrder 43 = .ok (.ifCond .eq 97, 3) := by decide +kernel
theorem dX7_findOrder_46 : decode cX7_findOrder 46 = .ok (.aload_n 0, 1) := by decide +kernel
theorem dX7_findOrder_47 : decode cX7_findOrder 47 = .ok (.invokevirtual 182, 3) := by decide +kernel
theorem dX7_findOrder_50 : decode cX7_findOrder 50 = .ok (.iconst 0, 1) := by decide +kernel
theorem dX7_findOrder_51 : decode cX7_findOrder 51 = .ok (.istore_n 3, 1) := by decide +kernel
theorem dX7_findOrder_52 : decode cX7_findOrder 52 = .ok (.iload_n 3, 1) := by decide +kernel
theorem dX7_findOrder_53 : decode cX7_findOrder 53 = .ok (.aload_n 0, 1) := by decide +kernel
theorem dX7_findOrder_54 : decode cX7_findOrder 54 = .ok (.getfield 7, 3) := by decide +kernel
theorem dX7_findOrder_57 : decode cX7_findOrder 57 = .ok (.bipush 17, 2) := by decide +kernel
theorem dX7_findOrder_59 : decode cX7_findOrder 59 = .ok (.iaload, 1) := by decide +kernel
theorem dX7_findOrder_60 : decode cX7_findOrder 60 = .ok (.if_icmp .ge 24, 3) := by decide +kernel
theorem dX7_findOrder_63 : decode cX7_findOrder 63 = .ok (.aload_n 0, 1) := by decide +kernel
theorem dX7_findOrder_64 : decode cX7_findOrder 64 = .ok (.getfield 13, 3) := by decide +kernel
theorem dX7_findOrder_67 : decode cX7_findOrder 67 = .ok (.bipush 18, 2) := by decide +kernel
theorem dX7_findOrder_69 : decode cX7_findOrder 69 = .ok (.iload_n 3, 1) := by decide +kernel
theorem dX7_findOrder_70 : decode cX7_findOrder 70 = .ok (.iadd, 1) := by decide +kernel
theorem dX7_findOrder_71 : decode cX7_findOrder 71 = .ok (.aload_n 0, 1) := by decide +kernel
theorem dX7_findOrder_72 : decode cX7_findOrder 72 = .ok (.getfield 26, 3) := by decide +kernel
theorem dX7_findOrder_75 : decode cX7_findOrder 75 = .ok (.iload_n 3, 1) := by decide +kernel
theorem dX7_findOrder_76 : decode cX7_findOrder 76 = .ok (.iaload, 1) := by decide +kernel
theorem dX7_findOrder_77 : decode cX7_findOrder 77 = .ok (.iastore, 1) := by decide +kernel
theorem dX7_findOrder_78 : decode cX7_findOrder 78 = .ok (.iinc 3 1, 3) := by decide +kernel
theorem dX7_findOrder_81 : decode cX7_findOrder 81 = .ok (.goto (-29), 3) := by decide +kernel
theorem dX7_findOrder_84 : decode cX7_findOrder 84 = .ok (.aload_n 0, 1) := by decide +kernel
theorem dX7_findOrder_85 : decode cX7_findOrder 85 = .ok (.bipush 24, 2) := by decide +kernel
theorem dX7_findOrder_87 : decode cX7_findOrder 87 = .ok (.invokevirtual 233, 3) := by decide +kernel
theorem dX7_findOrder_90 : decode cX7_findOrder 90 = .ok (.istore_n 3, 1) := by decide +kernel
theorem dX7_findOrder_91 : decode cX7_findOrder 91 = .ok (.iconst 0, 1) := by decide +kernel
theorem dX7_findOrder_92 : decode cX7_findOrder 92 = .ok (.istore 4, 2) := by decide +kernel
theorem dX7_findOrder_94 : decode cX7_findOrder 94 = .ok (.iload 4, 2) := by decide +kernel
theorem dX7_findOrder_96 : decode cX7_findOrder 96 = .ok (.aload_n 0, 1) := by decide +kernel
theorem dX7_findOrder_97 : decode cX7_findOrder 97 = .ok (.getfield 7, 3) := by decide +kernel
theorem dX7_findOrder_100 : decode cX7_findOrder 100 = .ok (.bipush 17, 2) := by decide +kernel
theorem dX7_findOrder_102 : decode cX7_findOrder 102 = .ok (.iaload, 1) := by decide +kernel
theorem dX7_findOrder_103 : decode cX7_findOrder 103 = .ok (.if_icmp .ge 31, 3) := by decide +kernel
theorem dX7_findOrder_106 : decode cX7_findOrder 106 = .ok (.iload_n 3, 1) := by decide +kernel
theorem dX7_findOrder_107 : decode cX7_findOrder 107 = .ok (.aload_n 0, 1) := by decide +kernel
theorem dX7_findOrder_108 : decode cX7_findOrder 108 = .ok (.getfield 223, 3) := by decide +kernel
theorem dX7_findOrder_111 : decode cX7_findOrder 111 = .ok (.if_icmp .ge 23, 3) := by decide +kernel
theorem dX7_findOrder_114 : decode cX7_findOrder 114 = .ok (.aload_n 0, 1) := by decide +kernel
theorem dX7_findOrder_115 : decode cX7_findOrder 115 = .ok (.getfield 29, 3) := by decide +kernel
theorem dX7_findOrder_118 : decode cX7_findOrder 118 = .ok (.iload 4, 2) := by decide +kernel
theorem dX7_findOrder_120 : decode cX7_findOrder 120 = .ok (.aload_n 0, 1) := by decide +kernel
theorem dX7_findOrder_121 : decode cX7_findOrder 121 = .ok (.getfield 26, 3) := by decide +kernel
theorem dX7_findOrder_124 : decode cX7_findOrder 124 = .ok (.iload 4, 2) := by decide +kernel
theorem dX7_findOrder_126 : decode cX7_findOrder 126 = .ok (.iaload, 1) := by decide +kernel
theorem dX7_findOrder_127 : decode cX7_findOrder 127 = .ok (.iastore, 1) := by decide +kernel
theorem dX7_findOrder_128 : decode cX7_findOrder 128 = .ok (.iinc 4 1, 3) := by decide +kernel
theorem dX7_findOrder_131 : decode cX7_findOrder 131 = .ok (.goto (-37), 3) := by decide +kernel
theorem dX7_findOrder_134 : decode cX7_findOrder 134 = .ok (.aload_n 0, 1) := by decide +kernel
theorem dX7_findOrder_135 : decode cX7_findOrder 135 = .ok (.iload_n 2, 1) := by decide +kernel
theorem dX7_findOrder_136 : decode cX7_findOrder 136 = .ok (.iload_n 3, 1) := by decide +kernel
theorem dX7_findOrder_137 : decode cX7_findOrder 137 = .ok (.invokevirtual 236, 3) := by decide +kernel
theorem dX7_findOrder_140 : decode cX7_findOrder 140 = .ok (.iinc 2 1, 3) := by decide +kernel
theorem dX7_findOrder_143 : decode cX7_findOrder 143 = .ok (.goto (-110), 3) := by decide +kernel
theorem dX7_findOrder_146 : decode cX7_findOrder 146 = .ok (.aload_n 0, 1) := by decide +kernel
theorem dX7_findOrder_147 : decode cX7_findOrder 147 = .ok (.getfield 223, 3) := by decide +kernel
theorem dX7_findOrder_150 : decode cX7_findOrder 150 = .ok (.ireturn, 1) := by decide +kernel
theorem dX7_order_0 : decode cX7_order 0 = .ok (.iload_n 1, 1) := by decide +kernel
theorem dX7_order_1 : decode cX7_order 1 = .ok (.ifCond .eq 19, 3) := by decide +kernel
theorem dX7_order_4 : decode cX7_order 4 = .ok (.iload_n 1, 1) := by decide +kernel
theorem dX7_order_5 : decode cX7_order 5 = .ok (.i2l, 1) := by decide +kernel
theorem dX7_order_6 : decode cX7_order 6 = .ok (.ldc2_w 240, 3) := by decide +kernel
theorem dX7_order_9 : decode cX7_order 9 = .ok (.ldc2_w 242, 3) := by decide +kernel
theorem dX7_order_12 : decode cX7_order 12 = .ok (.invokestatic 75, 3) := by decide +kernel
theorem dX7_order_15 : decode cX7_order 15 = .ok (.ifCond .ne 5, 3) := by decide +kernel
theorem dX7_order_18 : decode cX7_order 18 = .ok (.iconst (-1), 1) := by decide +kernel
theorem dX7_order_19 : decode cX7_order 19 = .ok (.ireturn, 1) := by decide +kernel
theorem dX7_order_20 : decode cX7_order 20 = .ok (.aload_n 0, 1) := by decide +kernel
theorem dX7_order_21 : decode cX7_order 21 = .ok (.getfield 7, 3) := by decide +kernel
theorem dX7_order_24 : decode cX7_order 24 = .ok (.bipush 17, 2) := by decide +kernel
theorem dX7_order_26 : decode cX7_order 26 = .ok (.iaload, 1) := by decide +kernel
theorem dX7_order_27 : decode cX7_order 27 = .ok (.iconst 5, 1) := by decide +kernel
theorem dX7_order_28 : decode cX7_order 28 = .ok (.if_icmp .le 6, 3) := by decide +kernel
theorem dX7_order_31 : decode cX7_order 31 = .ok (.bipush (-2), 2) := by decide +kernel
theorem dX7_order_33 : decode cX7_order 33 = .ok (.ireturn, 1) := by decide +kernel
theorem dX7_order_34 : decode cX7_order 34 = .ok (.aload_n 0, 1) := by decide +kernel
theorem dX7_order_35 : decode cX7_order 35 = .ok (.invokevirtual 244, 3) := by decide +kernel
theorem dX7_order_38 : decode cX7_order 38 = .ok (.istore_n 2, 1) := by decide +kernel
theorem dX7_order_39 : decode cX7_order 39 = .ok (.iload_n 1, 1) := by decide +kernel
theorem dX7_order_40 : decode cX7_order 40 = .ok (.ifCond .ne 7, 3) := by decide +kernel
theorem dX7_order_43 : decode cX7_order 43 = .ok (.iload_n 2, 1) := by decide +kernel
theorem dX7_order_44 : decode cX7_order 44 = .ok (.goto 31, 3) := by decide +kernel
theorem dX7_order_47 : decode cX7_order 47 = .ok (.iload_n 1, 1) := by decide +kernel
theorem dX7_order_48 : decode cX7_order 48 = .ok (.bipush 10, 2) := by decide +kernel
theorem dX7_order_50 : decode cX7_order 50 = .ok (.isub, 1) := by decide +kernel
theorem dX7_order_51 : decode cX7_order 51 = .ok (.aload_n 0, 1) := by decide +kernel
theorem dX7_order_52 : decode cX7_order 52 = .ok (.getfield 7, 3) := by decide +kernel
theorem dX7_order_55 : decode cX7_order 55 = .ok (.bipush 17, 2) := by decide +kernel
theorem dX7_order_57 : decode cX7_order 57 = .ok (.iaload, 1) := by decide +kernel
theorem dX7_order_58 : decode cX7_order 58 = .ok (.if_icmp .ge 15, 3) := by decide +kernel
theorem dX7_order_61 : decode cX7_order 61 = .ok (.aload_n 0, 1) := by decide +kernel
theorem dX7_order_62 : decode cX7_order 62 = .ok (.getfield 29, 3) := by decide +kernel
theorem dX7_order_65 : decode cX7_order 65 = .ok (.iload_n 1, 1) := by decide +kernel
theorem dX7_order_66 : decode cX7_order 66 = .ok (.bipush 10, 2) := by decide +kernel
theorem dX7_order_68 : decode cX7_order 68 = .ok (.isub, 1) := by decide +kernel
theorem dX7_order_69 : decode cX7_order 69 = .ok (.iaload, 1) := by decide +kernel
theorem dX7_order_70 : decode cX7_order 70 = .ok (.goto 5, 3) := by decide +kernel
theorem dX7_order_73 : decode cX7_order 73 = .ok (.bipush (-4), 2) := by decide +kernel
theorem dX7_order_75 : decode cX7_order 75 = .ok (.ireturn, 1) := by decide +kernel
theorem dX7_extra_0 : decode cX7_extra 0 = .ok (.iload_n 1, 1) := by decide +kernel
theorem dX7_extra_1 : decode cX7_extra 1 = .ok (.invokestatic 213, 3) := by decide +kernel
theorem dX7_extra_4 : decode cX7_extra 4 = .ok (.ifCond .eq 10, 3) := by decide +kernel
theorem dX7_extra_7 : decode cX7_extra 7 = .ok (.iload_n 2, 1) := by decide +kernel
theorem dX7_extra_8 : decode cX7_extra 8 = .ok (.invokestatic 247, 3) := by decide +kernel
theorem dX7_extra_11 : decode cX7_extra 11 = .ok (.ifCond .ne 5, 3) := by decide +kernel
theorem dX7_extra_14 : decode cX7_extra 14 = .ok (.iconst (-1), 1) := by decide +kernel
theorem dX7_extra_15 : decode cX7_extra 15 = .ok (.ireturn, 1) := by decide +kernel
theorem dX7_extra_16 : decode cX7_extra 16 = .ok (.aload_n 0, 1) := by decide +kernel
theorem dX7_extra_17 : decode cX7_extra 17 = .ok (.getfield 7, 3) := by decide +kernel
theorem dX7_extra_20 : decode cX7_extra 20 = .ok (.bipush 17, 2) := by decide +kernel
theorem dX7_extra_22 : decode cX7_extra 22 = .ok (.iaload, 1) := by decide +kernel
theorem dX7_extra_23 : decode cX7_extra 23 = .ok (.bipush 8, 2) := by decide +kernel
theorem dX7_extra_25 : decode cX7_extra 25 = .ok (.if_icmp .ne 6, 3) := by decide +kernel
theorem dX7_extra_28 : decode cX7_extra 28 = .ok (.bipush (-3), 2) := by decide +kernel
theorem dX7_extra_30 : decode cX7_extra 30 = .ok (.ireturn, 1) := by decide +kernel
theorem dX7_extra_31 : decode cX7_extra 31 = .ok (.aload_n 0, 1) := by decide +kernel
theorem dX7_extra_32 : decode cX7_extra 32 = .ok (.ldc 226, 2) := by decide +kernel
theorem dX7_extra_34 : decode cX7_extra 34 = .ok (.invokevirtual 227, 3) := by decide +kernel
theorem dX7_extra_37 : decode cX7_extra 37 = .ok (.iconst 0, 1) := by decide +kernel
theorem dX7_extra_38 : decode cX7_extra 38 = .ok (.istore_n 3, 1) := by decide +kernel
theorem dX7_extra_39 : decode cX7_extra 39 = .ok (.iload_n 3, 1) := by decide +kernel
theorem dX7_extra_40 : decode cX7_extra 40 = .ok (.aload_n 0, 1) := by decide +kernel
theorem dX7_extra_41 : decode cX7_extra 41 = .ok (.getfield 70, 3) := by decide +kernel
theorem dX7_extra_44 : decode cX7_extra 44 = .ok (.if_icmp .ge 50, 3) := by decide +kernel
theorem dX7_extra_47 : decode cX7_extra 47 = .ok (.aload_n 0, 1) := by decide +kernel
theorem dX7_extra_48 : decode cX7_extra 48 = .ok (.invokevirtual 182, 3) := by decide +kernel
theorem dX7_extra_51 : decode cX7_extra 51 = .ok (.aload_n 0, 1) := by decide +kernel
theorem dX7_extra_52 : decode cX7_extra 52 = .ok (.getfield 13, 3) := by decide +kernel
theorem dX7_extra_55 : decode cX7_extra 55 = .ok (.bipush 18, 2) := by decide +kernel
theorem dX7_extra_57 : decode cX7_extra 57 = .ok (.aload_n 0, 1) := by decide +kernel
theorem dX7_extra_58 : decode cX7_extra 58 = .ok (.getfield 13, 3) := by decide +kernel
theorem dX7_extra_61 : decode cX7_extra 61 = .ok (.bipush 17, 2) := by decide +kernel
theorem dX7_extra_63 : decode cX7_extra 63 = .ok (.iaload, 1) := by decide +kernel
theorem dX7_extra_64 : decode cX7_extra 64 = .ok (.iadd, 1) := by decide +kernel
theorem dX7_extra_65 : decode cX7_extra 65 = .ok (.iload_n 3, 1) := by decide +kernel
theorem dX7_extra_66 : decode cX7_extra 66 = .ok (.iastore, 1) := by decide +kernel
theorem dX7_extra_67 : decode cX7_extra 67 = .ok (.aload_n 0, 1) := by decide +kernel
theorem dX7_extra_68 : decode cX7_extra 68 = .ok (.getfield 13, 3) := by decide +kernel
theorem dX7_extra_71 : decode cX7_extra 71 = .ok (.bipush 17, 2) := by decide +kernel
theorem dX7_extra_73 : decode cX7_extra 73 = .ok (.dup2, 1) := by decide +kernel
theorem dX7_extra_74 : decode cX7_extra 74 = .ok (.iaload, 1) := by decide +kernel
theorem dX7_extra_75 : decode cX7_extra 75 = .ok (.iconst 1, 1) := by decide +kernel
theorem dX7_extra_76 : decode cX7_extra 76 = .ok (.iadd, 1) := by decide +kernel
theorem dX7_extra_77 : decode cX7_extra 77 = .ok (.iastore, 1) := by decide +kernel
theorem dX7_extra_78 : decode cX7_extra 78 = .ok (.aload_n 0, 1) := by decide +kernel
theorem dX7_extra_79 : decode cX7_extra 79 = .ok (.iload_n 3, 1) := by decide +kernel
theorem dX7_extra_80 : decode cX7_extra 80 = .ok (.aload_n 0, 1) := by decide +kernel
theorem dX7_extra_81 : decode cX7_extra 81 = .ok (.iload_n 1, 1) := by decide +kernel
theorem dX7_extra_82 : decode cX7_extra 82 = .ok (.invokevirtual 233, 3) := by decide +kernel
theorem dX7_extra_85 : decode cX7_extra 85 = .ok (.invokevirtual 236, 3) := by decide +kernel
theorem dX7_extra_88 : decode cX7_extra 88 = .ok (.iinc 3 1, 3) := by decide +kernel
theorem dX7_extra_91 : decode cX7_extra 91 = .ok (.goto (-52), 3) := by decide +kernel
theorem dX7_extra_94 : decode cX7_extra 94 = .ok (.aload_n 0, 1) := by decide +kernel
theorem dX7_extra_95 : decode cX7_extra 95 = .ok (.iload_n 2, 1) := by decide +kernel
theorem dX7_extra_96 : decode cX7_extra 96 = .ok (.invokevirtual 250, 3) := by decide +kernel
theorem dX7_extra_99 : decode cX7_extra 99 = .ok (.ireturn, 1) := by decide +kernel
theorem dX7_spare_0 : decode cX7_spare 0 = .ok (.iload_n 1, 1) := by decide +kernel
theorem dX7_spare_1 : decode cX7_spare 1 = .ok (.invokestatic 213, 3) := by decide +kernel
theorem dX7_spare_4 : decode cX7_spare 4 = .ok (.ifCond .eq 10, 3) := by decide +kernel
theorem dX7_spare_7 : decode cX7_spare 7 = .ok (.iload_n 2, 1) := by decide +kernel
theorem dX7_spare_8 : decode cX7_spare 8 = .ok (.invokestatic 247, 3) := by decide +kernel
theorem dX7_spare_11 : decode cX7_spare 11 = .ok (.ifCond .ne 5, 3) := by decide +kernel
theorem dX7_spare_14 : decode cX7_spare 14 = .ok (.iconst (-1), 1) := by decide +kernel
theorem dX7_spare_15 : decode cX7_spare 15 = .ok (.ireturn, 1) := by decide +kernel
theorem dX7_spare_16 : decode cX7_spare 16 = .ok (.aload_n 0, 1) := by decide +kernel
theorem dX7_spare_17 : decode cX7_spare 17 = .ok (.invokevirtual 182, 3) := by decide +kernel
theorem dX7_spare_20 : decode cX7_spare 20 = .ok (.aload_n 0, 1) := by decide +kernel
theorem dX7_spare_21 : decode cX7_spare 21 = .ok (.iload_n 1, 1) := by decide +kernel
theorem dX7_spare_22 : decode cX7_spare 22 = .ok (.invokevirtual 205, 3) := by decide +kernel
theorem dX7_spare_25 : decode cX7_spare 25 = .ok (.aload_n 0, 1) := by decide +kernel
theorem dX7_spare_26 : decode cX7_spare 26 = .ok (.aload_n 0, 1) := by decide +kernel
theorem dX7_spare_27 : decode cX7_spare 27 = .ok (.getfield 151, 3) := by decide +kernel
theorem dX7_spare_30 : decode cX7_spare 30 = .ok (.invokevirtual 227, 3) := by decide +kernel
theorem dX7_spare_33 : decode cX7_spare 33 = .ok (.iconst 0, 1) := by decide +kernel
theorem dX7_spare_34 : decode cX7_spare 34 = .ok (.istore_n 3, 1) := by decide +kernel
theorem dX7_spare_35 : decode cX7_spare 35 = .ok (.iload_n 3, 1) := by decide +kernel
theorem dX7_spare_36 : decode cX7_spare 36 = .ok (.aload_n 0, 1) := by decide +kernel
theorem dX7_spare_37 : decode cX7_spare 37 = .ok (.getfield 7, 3) := by decide +kernel
theorem dX7_spare_40 : decode cX7_spare 40 = .ok (.bipush 17, 2) := by decide +kernel
theorem dX7_spare_42 : decode cX7_spare 42 = .ok (.iaload, 1) := by decide +kernel
theorem dX7_spare_43 : decode cX7_spare 43 = .ok (.if_icmp .ge 76, 3) := by decide +kernel
theorem dX7_spare_46 : decode cX7_spare 46 = .ok (.aload_n 0, 1) := by decide +kernel
theorem dX7_spare_47 : decode cX7_spare 47 = .ok (.invokevirtual 182, 3) := by decide +kernel
theorem dX7_spare_50 : decode cX7_spare 50 = .ok (.iload_n 3, 1) := by decide +kernel
theorem dX7_spare_51 : decode cX7_spare 51 = .ok (.istore 4, 2) := by decide +kernel
theorem dX7_spare_53 : decode cX7_spare 53 = .ok (.iload 4, 2) := by decide +kernel
theorem dX7_spare_55 : decode cX7_spare 55 = .ok (.bipush 7, 2) := by decide +kernel
theorem dX7_spare_57 : decode cX7_spare 57 = .ok (.if_icmp .ge 31, 3) := by decide +kernel
theorem dX7_spare_60 : decode cX7_spare 60 = .ok (.aload_n 0, 1) := by decide +kernel
theorem dX7_spare_61 : decode cX7_spare 61 = .ok (.getfield 13, 3) := by decide +kernel
theorem dX7_spare_64 : decode cX7_spare 64 = .ok (.bipush 18, 2) := by decide +kernel
theorem dX7_spare_66 : decode cX7_spare 66 = .ok (.iload 4, 2) := by decide +kernel
theorem dX7_spare_68 : decode cX7_spare 68 = .ok (.iadd, 1) := by decide +kernel
theorem dX7_spare_69 : decode cX7_spare 69 = .ok (.aload_n 0, 1) := by decide +kernel
theorem dX7_spare_70 : decode cX7_spare 70 = .ok (.getfield 13, 3) := by decide +kernel
theorem dX7_spare_73 : decode cX7_spare 73 = .ok (.bipush 18, 2) := by decide +kernel
theorem dX7_spare_75 : decode cX7_spare 75 = .ok (.iload 4, 2) := by decide +kernel
theorem dX7_spare_77 : decode cX7_spare 77 = .ok (.iadd, 1) := by decide +kernel
theorem dX7_spare_78 : decode cX7_spare 78 = .ok (.iconst 1, 1) := by decide +kernel
theorem dX7_spare_79 : decode cX7_spare 79 = .ok (.iadd, 1) := by decide +kernel
theorem dX7_spare_80 : decode cX7_spare 80 = .ok (.iaload, 1) := by decide +kernel
theorem dX7_spare_81 : decode cX7_spare 81 = .ok (.iastore, 1) := by decide +kernel
theorem dX7_spare_82 : decode cX7_spare 82 = .ok (.iinc 4 1, 3) := by decide +kernel
theorem dX7_spare_85 : decode cX7_spare 85 = .ok (.goto (-32), 3) := by decide +kernel
theorem dX7_spare_88 : decode cX7_spare 88 = .ok (.aload_n 0, 1) := by decide +kernel
theorem dX7_spare_89 : decode cX7_spare 89 = .ok (.getfield 13, 3) := by decide +kernel
theorem dX7_spare_92 : decode cX7_spare 92 = .ok (.bipush 17, 2) := by decide +kernel
theorem dX7_spare_94 : decode cX7_spare 94 = .ok (.dup2, 1) := by decide +kernel
theorem dX7_spare_95 : decode cX7_spare 95 = .ok (.iaload, 1) := by decide +kernel
theorem dX7_spare_96 : decode cX7_spare 96 = .ok (.iconst 1, 1) := by decide +kernel
theorem dX7_spare_97 : decode cX7_spare 97 = .ok (.isub, 1) := by decide +kernel
theorem dX7_spare_98 : decode cX7_spare 98 = .ok (.iastore, 1) := by decide +kernel
theorem dX7_spare_99 : decode cX7_spare 99 = .ok (.aload_n 0, 1) := by decide +kernel
theorem dX7_spare_100 : decode cX7_spare 100 = .ok (.iload_n 1, 1) := by decide +kernel
theorem dX7_spare_101 : decode cX7_spare 101 = .ok (.invokevirtual 205, 3) := by decide +kernel
theorem dX7_spare_104 : decode cX7_spare 104 = .ok (.aload_n 0, 1) := by decide +kernel
theorem dX7_spare_105 : decode cX7_spare 105 = .ok (.iload_n 3, 1) := by decide +kernel
theorem dX7_spare_106 : decode cX7_spare 106 = .ok (.aload_n 0, 1) := by decide +kernel
theorem dX7_spare_107 : decode cX7_spare 107 = .ok (.getfield 151, 3) := by decide +kernel
theorem dX7_spare_110 : decode cX7_spare 110 = .ok (.invokevirtual 236, 3) := by decide +kernel
theorem dX7_spare_113 : decode cX7_spare 113 = .ok (.iinc 3 1, 3) := by decide +kernel
theorem dX7_spare_116 : decode cX7_spare 116 = .ok (.goto (-81), 3) := by decide +kernel
theorem dX7_spare_119 : decode cX7_spare 119 = .ok (.aload_n 0, 1) := by decide +kernel
theorem dX7_spare_120 : decode cX7_spare 120 = .ok (.iload_n 2, 1) := by decide +kernel
theorem dX7_spare_121 : decode cX7_spare 121 = .ok (.invokevirtual 250, 3) := by decide +kernel
theorem dX7_spare_124 : decode cX7_spare 124 = .ok (.ireturn, 1) := by decide +kernel
theorem dX7_swap_0 : decode cX7_swap 0 = .ok (.iload_n 1, 1) := by decide +kernel
theorem dX7_swap_1 : decode cX7_swap 1 = .ok (.invokestatic 213, 3) := by decide +kernel
theorem dX7_swap_4 : decode cX7_swap 4 = .ok (.ifCond .eq 10, 3) := by decide +kernel
theorem dX7_swap_7 : decode cX7_swap 7 = .ok (.iload_n 2, 1) := by decide +kernel
theorem dX7_swap_8 : decode cX7_swap 8 = .ok (.invokestatic 247, 3) := by decide +kernel
theorem dX7_swap_11 : decode cX7_swap 11 = .ok (.ifCond .ne 5, 3) := by decide +kernel
theorem dX7_swap_14 : decode cX7_swap 14 = .ok (.iconst (-1), 1) := by decide +kernel
theorem dX7_swap_15 : decode cX7_swap 15 = .ok (.ireturn, 1) := by decide +kernel
theorem dX7_swap_16 : decode cX7_swap 16 = .ok (.aload_n 0, 1) := by decide +kernel
theorem dX7_swap_17 : decode cX7_swap 17 = .ok (.invokevirtual 182, 3) := by decide +kernel
theorem dX7_swap_20 : decode cX7_swap 20 = .ok (.aload_n 0, 1) := by decide +kernel
theorem dX7_swap_21 : decode cX7_swap 21 = .ok (.aload_n 0, 1) := by decide +kernel
theorem dX7_swap_22 : decode cX7_swap 22 = .ok (.iload_n 1, 1) := by decide +kernel
theorem dX7_swap_23 : decode cX7_swap 23 = .ok (.invokevirtual 233, 3) := by decide +kernel
theorem dX7_swap_26 : decode cX7_swap 26 = .ok (.invokevirtual 227, 3) := by decide +kernel
theorem dX7_swap_29 : decode cX7_swap 29 = .ok (.iconst 0, 1) := by decide +kernel
theorem dX7_swap_30 : decode cX7_swap 30 = .ok (.istore_n 3, 1) := by decide +kernel
theorem dX7_swap_31 : decode cX7_swap 31 = .ok (.iload_n 3, 1) := by decide +kernel
theorem dX7_swap_32 : decode cX7_swap 32 = .ok (.aload_n 0, 1) := by decide +kernel
theorem dX7_swap_33 : decode cX7_swap 33 = .ok (.getfield 7, 3) := by decide +kernel
theorem dX7_swap_36 : decode cX7_swap 36 = .ok (.bipush 17, 2) := by decide +kernel
theorem dX7_swap_38 : decode cX7_swap 38 = .ok (.iaload, 1) := by decide +kernel
theorem dX7_swap_39 : decode cX7_swap 39 = .ok (.if_icmp .ge 90, 3) := by decide +kernel
theorem dX7_swap_42 : decode cX7_swap 42 = .ok (.iload_n 3, 1) := by decide +kernel
theorem dX7_swap_43 : decode cX7_swap 43 = .ok (.iconst 1, 1) := by decide +kernel
theorem dX7_swap_44 : decode cX7_swap 44 = .ok (.iadd, 1) := by decide +kernel
theorem dX7_swap_45 : decode cX7_swap 45 = .ok (.istore 4, 2) := by decide +kernel
theorem dX7_swap_47 : decode cX7_swap 47 = .ok (.iload 4, 2) := by decide +kernel
theorem dX7_swap_49 : decode cX7_swap 49 = .ok (.aload_n 0, 1) := by decide +kernel
theorem dX7_swap_50 : decode cX7_swap 50 = .ok (.getfield 7, 3) := by decide +kernel
theorem dX7_swap_53 : decode cX7_swap 53 = .ok (.bipush 17, 2) := by decide +kernel
theorem dX7_swap_55 : decode cX7_swap 55 = .ok (.iaload, 1) := by decide +kernel
theorem dX7_swap_56 : decode cX7_swap 56 = .ok (.if_icmp .ge 67, 3) := by decide +kernel
theorem dX7_swap_59 : decode cX7_swap 59 = .ok (.aload_n 0, 1) := by decide +kernel
theorem dX7_swap_60 : decode cX7_swap 60 = .ok (.invokevirtual 182, 3) := by decide +kernel
theorem dX7_swap_63 : decode cX7_swap 63 = .ok (.aload_n 0, 1) := by decide +kernel
theorem dX7_swap_64 : decode cX7_swap 64 = .ok (.getfield 13, 3) := by decide +kernel
theorem dX7_swap_67 : decode cX7_swap 67 = .ok (.bipush 18, 2) := by decide +kernel
theorem dX7_swap_69 : decode cX7_swap 69 = .ok (.iload_n 3, 1) := by decide +kernel
theorem dX7_swap_70 : decode cX7_swap 70 = .ok (.iadd, 1) := by decide +kernel
theorem dX7_swap_71 : decode cX7_swap 71 = .ok (.aload_n 0, 1) := by decide +kernel
theorem dX7_swap_72 : decode cX7_swap 72 = .ok (.getfield 7, 3) := by decide +kernel
theorem dX7_swap_75 : decode cX7_swap 75 = .ok (.bipush 18, 2) := by decide +kernel
theorem dX7_swap_77 : decode cX7_swap 77 = .ok (.iload 4, 2) := by decide +kernel
theorem dX7_swap_79 : decode cX7_swap 79 = .ok (.iadd, 1) := by decide +kernel
theorem dX7_swap_80 : decode cX7_swap 80 = .ok (.iaload, 1) := by decide +kernel
theorem dX7_swap_81 : decode cX7_swap 81 = .ok (.iastore, 1) := by decide +kernel
theorem dX7_swap_82 : decode cX7_swap 82 = .ok (.aload_n 0, 1) := by decide +kernel
theorem dX7_swap_83 : decode cX7_swap 83 = .ok (.getfield 13, 3) := by decide +kernel
theorem dX7_swap_86 : decode cX7_swap 86 = .ok (.bipush 18, 2) := by decide +kernel
theorem dX7_swap_88 : decode cX7_swap 88 = .ok (.iload 4, 2) := by decide +kernel
theorem dX7_swap_90 : decode cX7_swap 90 = .ok (.iadd, 1) := by decide +kernel
theorem dX7_swap_91 : decode cX7_swap 91 = .ok (.aload_n 0, 1) := by decide +kernel
theorem dX7_swap_92 : decode cX7_swap 92 = .ok (.getfield 7, 3) := by decide +kernel
theorem dX7_swap_95 : decode cX7_swap 95 = .ok (.bipush 18, 2) := by decide +kernel
theorem dX7_swap_97 : decode cX7_swap 97 = .ok (.iload_n 3, 1) := by decide +kernel
theorem dX7_swap_98 : decode cX7_swap 98 = .ok (.iadd, 1) := by decide +kernel
theorem dX7_swap_99 : decode cX7_swap 99 = .ok (.iaload, 1) := by decide +kernel
theorem dX7_swap_100 : decode cX7_swap 100 = .ok (.iastore, 1) := by decide +kernel
theorem dX7_swap_101 : decode cX7_swap 101 = .ok (.aload_n 0, 1) := by decide +kernel
theorem dX7_swap_102 : decode cX7_swap 102 = .ok (.bipush 10, 2) := by decide +kernel
theorem dX7_swap_104 : decode cX7_swap 104 = .ok (.iload_n 3, 1) := by decide +kernel
theorem dX7_swap_105 : decode cX7_swap 105 = .ok (.imul, 1) := by decide +kernel
theorem dX7_swap_106 : decode cX7_swap 106 = .ok (.iload 4, 2) := by decide +kernel
theorem dX7_swap_108 : decode cX7_swap 108 = .ok (.iadd, 1) := by decide +kernel
theorem dX7_swap_109 : decode cX7_swap 109 = .ok (.aload_n 0, 1) := by decide +kernel
theorem dX7_swap_110 : decode cX7_swap 110 = .ok (.iload_n 1, 1) := by decide +kernel
theorem dX7_swap_111 : decode cX7_swap 111 = .ok (.invokevirtual 233, 3) := by decide +kernel
theorem dX7_swap_114 : decode cX7_swap 114 = .ok (.invokevirtual 236, 3) := by decide +kernel
theorem dX7_swap_117 : decode cX7_swap 117 = .ok (.iinc 4 1, 3) := by decide +kernel
theorem dX7_swap_120 : decode cX7_swap 120 = .ok (.goto (-73), 3) := by decide +kernel
theorem dX7_swap_123 : decode cX7_swap 123 = .ok (.iinc 3 1, 3) := by decide +kernel
theorem dX7_swap_126 : decode cX7_swap 126 = .ok (.goto (-95), 3) := by decide +kernel
theorem dX7_swap_129 : decode cX7_swap 129 = .ok (.aload_n 0, 1) := by decide +kernel
theorem dX7_swap_130 : decode cX7_swap 130 = .ok (.iload_n 2, 1) := by decide +kernel
theorem dX7_swap_131 : decode cX7_swap 131 = .ok (.invokevirtual 250, 3) := by decide +kernel
theorem dX7_swap_134 : decode cX7_swap 134 = .ok (.ireturn, 1) := by decide +kernel
theorem dX7_most_0 : decode cX7_most 0 = .ok (.iload_n 1, 1) := by decide +kernel
theorem dX7_most_1 : decode cX7_most 1 = .ok (.invokestatic 213, 3) := by decide +kernel
theorem dX7_most_4 : decode cX7_most 4 = .ok (.ifCond .ne 5, 3) := by decide +kernel
theorem dX7_most_7 : decode cX7_most 7 = .ok (.iconst (-1), 1) := by decide +kernel
theorem dX7_most_8 : decode cX7_most 8 = .ok (.ireturn, 1) := by decide +kernel
theorem dX7_most_9 : decode cX7_most 9 = .ok (.bipush 99, 2) := by decide +kernel
theorem dX7_most_11 : decode cX7_most 11 = .ok (.istore_n 2, 1) := by decide +kernel
theorem dX7_most_12 : decode cX7_most 12 = .ok (.iload_n 2, 1) := by decide +kernel
theorem dX7_most_13 : decode cX7_most 13 = .ok (.ifCond .le 35, 3) := by decide +kernel
theorem dX7_most_16 : decode cX7_most 16 = .ok (.aload_n 0, 1) := by decide +kernel
theorem dX7_most_17 : decode cX7_most 17 = .ok (.invokevirtual 182, 3) := by decide +kernel
theorem dX7_most_20 : decode cX7_most 20 = .ok (.aload_n 0, 1) := by decide +kernel
theorem dX7_most_21 : decode cX7_most 21 = .ok (.getfield 13, 3) := by decide +kernel
theorem dX7_most_24 : decode cX7_most 24 = .ok (.bipush 15, 2) := by decide +kernel
theorem dX7_most_26 : decode cX7_most 26 = .ok (.iload_n 2, 1) := by decide +kernel
theorem dX7_most_27 : decode cX7_most 27 = .ok (.iastore, 1) := by decide +kernel
