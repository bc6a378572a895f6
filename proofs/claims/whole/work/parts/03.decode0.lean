theorem dX0_init_0 : decode cX0_init 0 = .ok (.aload_n 0, 1) := by decide +kernel
theorem dX0_init_1 : decode cX0_init 1 = .ok (.invokespecial 1, 3) := by decide +kernel
theorem dX0_init_4 : decode cX0_init 4 = .ok (.aload_n 0, 1) := by decide +kernel
theorem dX0_init_5 : decode cX0_init 5 = .ok (.new 7, 3) := by decide +kernel
theorem dX0_init_8 : decode cX0_init 8 = .ok (.dup, 1) := by decide +kernel
theorem dX0_init_9 : decode cX0_init 9 = .ok (.invokespecial 9, 3) := by decide +kernel
theorem dX0_init_12 : decode cX0_init 12 = .ok (.putfield 10, 3) := by decide +kernel
theorem dX0_init_15 : decode cX0_init 15 = .ok (.aload_n 0, 1) := by decide +kernel
theorem dX0_init_16 : decode cX0_init 16 = .ok (.new 16, 3) := by decide +kernel
theorem dX0_init_19 : decode cX0_init 19 = .ok (.dup, 1) := by decide +kernel
theorem dX0_init_20 : decode cX0_init 20 = .ok (.invokespecial 18, 3) := by decide +kernel
theorem dX0_init_23 : decode cX0_init 23 = .ok (.putfield 19, 3) := by decide +kernel
theorem dX0_init_26 : decode cX0_init 26 = .ok (.return_, 1) := by decide +kernel
theorem dX1_init_0 : decode cX1_init 0 = .ok (.aload_n 0, 1) := by decide +kernel
theorem dX1_init_1 : decode cX1_init 1 = .ok (.invokespecial 3, 3) := by decide +kernel
theorem dX1_init_4 : decode cX1_init 4 = .ok (.aload_n 0, 1) := by decide +kernel
theorem dX1_init_5 : decode cX1_init 5 = .ok (.aload_n 1, 1) := by decide +kernel
theorem dX1_init_6 : decode cX1_init 6 = .ok (.putfield 9, 3) := by decide +kernel
theorem dX1_init_9 : decode cX1_init 9 = .ok (.aload_n 0, 1) := by decide +kernel
theorem dX1_init_10 : decode cX1_init 10 = .ok (.aload_n 2, 1) := by decide +kernel
theorem dX1_init_11 : decode cX1_init 11 = .ok (.putfield 15, 3) := by decide +kernel
theorem dX1_init_14 : decode cX1_init 14 = .ok (.return_, 1) := by decide +kernel
theorem dX1_tell_0 : decode cX1_tell 0 = .ok (.aload_n 0, 1) := by decide +kernel
theorem dX1_tell_1 : decode cX1_tell 1 = .ok (.iconst 0, 1) := by decide +kernel
theorem dX1_tell_2 : decode cX1_tell 2 = .ok (.putfield 19, 3) := by decide +kernel
theorem dX1_tell_5 : decode cX1_tell 5 = .ok (.aload_n 0, 1) := by decide +kernel
theorem dX1_tell_6 : decode cX1_tell 6 = .ok (.iconst 0, 1) := by decide +kernel
theorem dX1_tell_7 : decode cX1_tell 7 = .ok (.putfield 23, 3) := by decide +kernel
theorem dX1_tell_10 : decode cX1_tell 10 = .ok (.aload_n 0, 1) := by decide +kernel
theorem dX1_tell_11 : decode cX1_tell 11 = .ok (.iconst 0, 1) := by decide +kernel
theorem dX1_tell_12 : decode cX1_tell 12 = .ok (.putfield 27, 3) := by decide +kernel
theorem dX1_tell_15 : decode cX1_tell 15 = .ok (.aload_n 0, 1) := by decide +kernel
theorem dX1_tell_16 : decode cX1_tell 16 = .ok (.getfield 15, 3) := by decide +kernel
theorem dX1_tell_19 : decode cX1_tell 19 = .ok (.invokevirtual 30, 3) := by decide +kernel
theorem dX1_tell_22 : decode cX1_tell 22 = .ok (.aload_n 0, 1) := by decide +kernel
theorem dX1_tell_23 : decode cX1_tell 23 = .ok (.getfield 9, 3) := by decide +kernel
theorem dX1_tell_26 : decode cX1_tell 26 = .ok (.iconst 0, 1) := by decide +kernel
theorem dX1_tell_27 : decode cX1_tell 27 = .ok (.putfield 35, 3) := by decide +kernel
theorem dX1_tell_30 : decode cX1_tell 30 = .ok (.aload_n 0, 1) := by decide +kernel
theorem dX1_tell_31 : decode cX1_tell 31 = .ok (.getfield 9, 3) := by decide +kernel
theorem dX1_tell_34 : decode cX1_tell 34 = .ok (.invokevirtual 40, 3) := by decide +kernel
theorem dX1_tell_37 : decode cX1_tell 37 = .ok (.iconst 0, 1) := by decide +kernel
theorem dX1_tell_38 : decode cX1_tell 38 = .ok (.istore_n 1, 1) := by decide +kernel
theorem dX1_tell_39 : decode cX1_tell 39 = .ok (.aload_n 0, 1) := by decide +kernel
theorem dX1_tell_40 : decode cX1_tell 40 = .ok (.getfield 9, 3) := by decide +kernel
theorem dX1_tell_43 : decode cX1_tell 43 = .ok (.getfield 43, 3) := by decide +kernel
theorem dX1_tell_46 : decode cX1_tell 46 = .ok (.ifCond .eq 41, 3) := by decide +kernel
theorem dX1_tell_49 : decode cX1_tell 49 = .ok (.iload_n 1, 1) := by decide +kernel
theorem dX1_tell_50 : decode cX1_tell 50 = .ok (.sipush 160, 3) := by decide +kernel
theorem dX1_tell_53 : decode cX1_tell 53 = .ok (.if_icmp .ge 34, 3) := by decide +kernel
theorem dX1_tell_56 : decode cX1_tell 56 = .ok (.aload_n 0, 1) := by decide +kernel
theorem dX1_tell_57 : decode cX1_tell 57 = .ok (.invokevirtual 46, 3) := by decide +kernel
theorem dX1_tell_60 : decode cX1_tell 60 = .ok (.ifCond .ne 14, 3) := by decide +kernel
theorem dX1_tell_63 : decode cX1_tell 63 = .ok (.bipush (-10), 2) := by decide +kernel
theorem dX1_tell_65 : decode cX1_tell 65 = .ok (.aload_n 0, 1) := by decide +kernel
theorem dX1_tell_66 : decode cX1_tell 66 = .ok (.getfield 9, 3) := by decide +kernel
theorem dX1_tell_69 : decode cX1_tell 69 = .ok (.getfield 50, 3) := by decide +kernel
theorem dX1_tell_72 : decode cX1_tell 72 = .ok (.isub, 1) := by decide +kernel
theorem dX1_tell_73 : decode cX1_tell 73 = .ok (.ireturn, 1) := by decide +kernel
theorem dX1_tell_74 : decode cX1_tell 74 = .ok (.iinc 1 1, 3) := by decide +kernel
theorem dX1_tell_77 : decode cX1_tell 77 = .ok (.aload_n 0, 1) := by decide +kernel
theorem dX1_tell_78 : decode cX1_tell 78 = .ok (.getfield 9, 3) := by decide +kernel
theorem dX1_tell_81 : decode cX1_tell 81 = .ok (.invokevirtual 40, 3) := by decide +kernel
theorem dX1_tell_84 : decode cX1_tell 84 = .ok (.goto (-45), 3) := by decide +kernel
theorem dX1_tell_87 : decode cX1_tell 87 = .ok (.iconst 0, 1) := by decide +kernel
theorem dX1_tell_88 : decode cX1_tell 88 = .ok (.istore_n 2, 1) := by decide +kernel
theorem dX1_tell_89 : decode cX1_tell 89 = .ok (.iload_n 2, 1) := by decide +kernel
theorem dX1_tell_90 : decode cX1_tell 90 = .ok (.aload_n 0, 1) := by decide +kernel
theorem dX1_tell_91 : decode cX1_tell 91 = .ok (.getfield 15, 3) := by decide +kernel
theorem dX1_tell_94 : decode cX1_tell 94 = .ok (.getfield 53, 3) := by decide +kernel
theorem dX1_tell_97 : decode cX1_tell 97 = .ok (.if_icmp .ge 45, 3) := by decide +kernel
theorem dX1_tell_100 : decode cX1_tell 100 = .ok (.aload_n 0, 1) := by decide +kernel
theorem dX1_tell_101 : decode cX1_tell 101 = .ok (.getfield 15, 3) := by decide +kernel
theorem dX1_tell_104 : decode cX1_tell 104 = .ok (.aload_n 0, 1) := by decide +kernel
theorem dX1_tell_105 : decode cX1_tell 105 = .ok (.getfield 15, 3) := by decide +kernel
theorem dX1_tell_108 : decode cX1_tell 108 = .ok (.getfield 56, 3) := by decide +kernel
theorem dX1_tell_111 : decode cX1_tell 111 = .ok (.iload_n 2, 1) := by decide +kernel
theorem dX1_tell_112 : decode cX1_tell 112 = .ok (.iaload, 1) := by decide +kernel
theorem dX1_tell_113 : decode cX1_tell 113 = .ok (.invokevirtual 60, 3) := by decide +kernel
theorem dX1_tell_116 : decode cX1_tell 116 = .ok (.ifCond .ne 20, 3) := by decide +kernel
theorem dX1_tell_119 : decode cX1_tell 119 = .ok (.aload_n 0, 1) := by decide +kernel
theorem dX1_tell_120 : decode cX1_tell 120 = .ok (.bipush 6, 2) := by decide +kernel
theorem dX1_tell_122 : decode cX1_tell 122 = .ok (.putfield 19, 3) := by decide +kernel
theorem dX1_tell_125 : decode cX1_tell 125 = .ok (.bipush (-10), 2) := by decide +kernel
theorem dX1_tell_127 : decode cX1_tell 127 = .ok (.aload_n 0, 1) := by decide +kernel
theorem dX1_tell_128 : decode cX1_tell 128 = .ok (.getfield 9, 3) := by decide +kernel
theorem dX1_tell_131 : decode cX1_tell 131 = .ok (.getfield 64, 3) := by decide +kernel
theorem dX1_tell_134 : decode cX1_tell 134 = .ok (.isub, 1) := by decide +kernel
theorem dX1_tell_135 : decode cX1_tell 135 = .ok (.ireturn, 1) := by decide +kernel
theorem dX1_tell_136 : decode cX1_tell 136 = .ok (.iinc 2 1, 3) := by decide +kernel
theorem dX1_tell_139 : decode cX1_tell 139 = .ok (.goto (-50), 3) := by decide +kernel
theorem dX1_tell_142 : decode cX1_tell 142 = .ok (.iload_n 1, 1) := by decide +kernel
theorem dX1_tell_143 : decode cX1_tell 143 = .ok (.ireturn, 1) := by decide +kernel
theorem dX1_readLine_0 : decode cX1_readLine 0 = .ok (.aload_n 0, 1) := by decide +kernel
theorem dX1_readLine_1 : decode cX1_readLine 1 = .ok (.iconst 1, 1) := by decide +kernel
theorem dX1_readLine_2 : decode cX1_readLine 2 = .ok (.invokevirtual 67, 3) := by decide +kernel
theorem dX1_readLine_5 : decode cX1_readLine 5 = .ok (.ifCond .ne 5, 3) := by decide +kernel
theorem dX1_readLine_8 : decode cX1_readLine 8 = .ok (.iconst 0, 1) := by decide +kernel
theorem dX1_readLine_9 : decode cX1_readLine 9 = .ok (.ireturn, 1) := by decide +kernel
theorem dX1_readLine_10 : decode cX1_readLine 10 = .ok (.aload_n 0, 1) := by decide +kernel
theorem dX1_readLine_11 : decode cX1_readLine 11 = .ok (.invokevirtual 70, 3) := by decide +kernel
theorem dX1_readLine_14 : decode cX1_readLine 14 = .ok (.istore_n 1, 1) := by decide +kernel
theorem dX1_readLine_15 : decode cX1_readLine 15 = .ok (.iload_n 1, 1) := by decide +kernel
theorem dX1_readLine_16 : decode cX1_readLine 16 = .ok (.iconst (-1), 1) := by decide +kernel
theorem dX1_readLine_17 : decode cX1_readLine 17 = .ok (.if_icmp .ne 9, 3) := by decide +kernel
theorem dX1_readLine_20 : decode cX1_readLine 20 = .ok (.aload_n 0, 1) := by decide +kernel
theorem dX1_readLine_21 : decode cX1_readLine 21 = .ok (.iconst 2, 1) := by decide +kernel
theorem dX1_readLine_22 : decode cX1_readLine 22 = .ok (.invokevirtual 74, 3) := by decide +kernel
theorem dX1_readLine_25 : decode cX1_readLine 25 = .ok (.ireturn, 1) := by decide +kernel
theorem dX1_readLine_26 : decode cX1_readLine 26 = .ok (.iload_n 1, 1) := by decide +kernel
theorem dX1_readLine_27 : decode cX1_readLine 27 = .ok (.iconst 4, 1) := by decide +kernel
theorem dX1_readLine_28 : decode cX1_readLine 28 = .ok (.if_icmp .ne 8, 3) := by decide +kernel
theorem dX1_readLine_31 : decode cX1_readLine 31 = .ok (.aload_n 0, 1) := by decide +kernel
theorem dX1_readLine_32 : decode cX1_readLine 32 = .ok (.invokevirtual 77, 3) := by decide +kernel
theorem dX1_readLine_35 : decode cX1_readLine 35 = .ok (.ireturn, 1) := by decide +kernel
theorem dX1_readLine_36 : decode cX1_readLine 36 = .ok (.iload_n 1, 1) := by decide +kernel
theorem dX1_readLine_37 : decode cX1_readLine 37 = .ok (.iconst 5, 1) := by decide +kernel
theorem dX1_readLine_38 : decode cX1_readLine 38 = .ok (.if_icmp .ne 10, 3) := by decide +kernel
theorem dX1_readLine_41 : decode cX1_readLine 41 = .ok (.aload_n 0, 1) := by decide +kernel
theorem dX1_readLine_42 : decode cX1_readLine 42 = .ok (.invokevirtual 80, 3) := by decide +kernel
theorem dX1_readLine_45 : decode cX1_readLine 45 = .ok (.goto 8, 3) := by decide +kernel
theorem dX1_readLine_48 : decode cX1_readLine 48 = .ok (.aload_n 0, 1) := by decide +kernel
theorem dX1_readLine_49 : decode cX1_readLine 49 = .ok (.iload_n 1, 1) := by decide +kernel
theorem dX1_readLine_50 : decode cX1_readLine 50 = .ok (.invokevirtual 83, 3) := by decide +kernel
theorem dX1_readLine_53 : decode cX1_readLine 53 = .ok (.ireturn, 1) := by decide +kernel
theorem dX1_lineOfName_0 : decode cX1_lineOfName 0 = .ok (.aload_n 0, 1) := by decide +kernel
theorem dX1_lineOfName_1 : decode cX1_lineOfName 1 = .ok (.getfield 9, 3) := by decide +kernel
theorem dX1_lineOfName_4 : decode cX1_lineOfName 4 = .ok (.ldc 86, 2) := by decide +kernel
theorem dX1_lineOfName_6 : decode cX1_lineOfName 6 = .ok (.invokevirtual 88, 3) := by decide +kernel
theorem dX1_lineOfName_9 : decode cX1_lineOfName 9 = .ok (.ifCond .eq 5, 3) := by decide +kernel
theorem dX1_lineOfName_12 : decode cX1_lineOfName 12 = .ok (.iconst 0, 1) := by decide +kernel
theorem dX1_lineOfName_13 : decode cX1_lineOfName 13 = .ok (.ireturn, 1) := by decide +kernel
theorem dX1_lineOfName_14 : decode cX1_lineOfName 14 = .ok (.aload_n 0, 1) := by decide +kernel
theorem dX1_lineOfName_15 : decode cX1_lineOfName 15 = .ok (.getfield 9, 3) := by decide +kernel
theorem dX1_lineOfName_18 : decode cX1_lineOfName 18 = .ok (.ldc 92, 2) := by decide +kernel
theorem dX1_lineOfName_20 : decode cX1_lineOfName 20 = .ok (.invokevirtual 88, 3) := by decide +kernel
theorem dX1_lineOfName_23 : decode cX1_lineOfName 23 = .ok (.ifCond .eq 5, 3) := by decide +kernel
theorem dX1_lineOfName_26 : decode cX1_lineOfName 26 = .ok (.iconst 1, 1) := by decide +kernel
theorem dX1_lineOfName_27 : decode cX1_lineOfName 27 = .ok (.ireturn, 1) := by decide +kernel
theorem dX1_lineOfName_28 : decode cX1_lineOfName 28 = .ok (.aload_n 0, 1) := by decide +kernel
theorem dX1_lineOfName_29 : decode cX1_lineOfName 29 = .ok (.getfield 9, 3) := by decide +kernel
theorem dX1_lineOfName_32 : decode cX1_lineOfName 32 = .ok (.ldc 94, 2) := by decide +kernel
theorem dX1_lineOfName_34 : decode cX1_lineOfName 34 = .ok (.invokevirtual 88, 3) := by decide +kernel
theorem dX1_lineOfName_37 : decode cX1_lineOfName 37 = .ok (.ifCond .eq 5, 3) := by decide +kernel
theorem dX1_lineOfName_40 : decode cX1_lineOfName 40 = .ok (.iconst 2, 1) := by decide +kernel
theorem dX1_lineOfName_41 : decode cX1_lineOfName 41 = .ok (.ireturn, 1) := by decide +kernel
theorem dX1_lineOfName_42 : decode cX1_lineOfName 42 = .ok (.aload_n 0, 1) := by decide +kernel
theorem dX1_lineOfName_43 : decode cX1_lineOfName 43 = .ok (.getfield 9, 3) := by decide +kernel
theorem dX1_lineOfName_46 : decode cX1_lineOfName 46 = .ok (.ldc 96, 2) := by decide +kernel
theorem dX1_lineOfName_48 : decode cX1_lineOfName 48 = .ok (.invokevirtual 88, 3) := by decide +kernel
theorem dX1_lineOfName_51 : decode cX1_lineOfName 51 = .ok (.ifCond .eq 5, 3) := by decide +kernel
theorem dX1_lineOfName_54 : decode cX1_lineOfName 54 = .ok (.iconst 3, 1) := by decide +kernel
theorem dX1_lineOfName_55 : decode cX1_lineOfName 55 = .ok (.ireturn, 1) := by decide +kernel
theorem dX1_lineOfName_56 : decode cX1_lineOfName 56 = .ok (.aload_n 0, 1) := by decide +kernel
theorem dX1_lineOfName_57 : decode cX1_lineOfName 57 = .ok (.getfield 9, 3) := by decide +kernel
theorem dX1_lineOfName_60 : decode cX1_lineOfName 60 = .ok (.ldc 98, 2) := by decide +kernel
theorem dX1_lineOfName_62 : decode cX1_lineOfName 62 = .ok (.invokevirtual 88, 3) := by decide +kernel
theorem dX1_lineOfName_65 : decode cX1_lineOfName 65 = .ok (.ifCond .eq 5, 3) := by decide +kernel
theorem dX1_lineOfName_68 : decode cX1_lineOfName 68 = .ok (.iconst 4, 1) := by decide +kernel
theorem dX1_lineOfName_69 : decode cX1_lineOfName 69 = .ok (.ireturn, 1) := by decide +kernel
theorem dX1_lineOfName_70 : decode cX1_lineOfName 70 = .ok (.aload_n 0, 1) := by decide +kernel
theorem dX1_lineOfName_71 : decode cX1_lineOfName 71 = .ok (.getfield 9, 3) := by decide +kernel
theorem dX1_lineOfName_74 : decode cX1_lineOfName 74 = .ok (.ldc 100, 2) := by decide +kernel
theorem dX1_lineOfName_76 : decode cX1_lineOfName 76 = .ok (.invokevirtual 88, 3) := by decide +kernel
theorem dX1_lineOfName_79 : decode cX1_lineOfName 79 = .ok (.ifCond .eq 7, 3) := by decide +kernel
theorem dX1_lineOfName_82 : decode cX1_lineOfName 82 = .ok (.iconst 5, 1) := by decide +kernel
theorem dX1_lineOfName_83 : decode cX1_lineOfName 83 = .ok (.goto 4, 3) := by decide +kernel
theorem dX1_lineOfName_86 : decode cX1_lineOfName 86 = .ok (.iconst (-1), 1) := by decide +kernel
theorem dX1_lineOfName_87 : decode cX1_lineOfName 87 = .ok (.ireturn, 1) := by decide +kernel
theorem dX1_readOne_0 : decode cX1_readOne 0 = .ok (.aload_n 0, 1) := by decide +kernel
theorem dX1_readOne_1 : decode cX1_readOne 1 = .ok (.getfield 15, 3) := by decide +kernel
theorem dX1_readOne_4 : decode cX1_readOne 4 = .ok (.getfield 101, 3) := by decide +kernel
theorem dX1_readOne_7 : decode cX1_readOne 7 = .ok (.iconst 5, 1) := by decide +kernel
theorem dX1_readOne_8 : decode cX1_readOne 8 = .ok (.if_icmp .lt 9, 3) := by decide +kernel
theorem dX1_readOne_11 : decode cX1_readOne 11 = .ok (.aload_n 0, 1) := by decide +kernel
theorem dX1_readOne_12 : decode cX1_readOne 12 = .ok (.iconst 5, 1) := by decide +kernel
theorem dX1_readOne_13 : decode cX1_readOne 13 = .ok (.invokevirtual 74, 3) := by decide +kernel
theorem dX1_readOne_16 : decode cX1_readOne 16 = .ok (.ireturn, 1) := by decide +kernel
theorem dX1_readOne_17 : decode cX1_readOne 17 = .ok (.aload_n 0, 1) := by decide +kernel
theorem dX1_readOne_18 : decode cX1_readOne 18 = .ok (.iconst 0, 1) := by decide +kernel
theorem dX1_readOne_19 : decode cX1_readOne 19 = .ok (.invokevirtual 104, 3) := by decide +kernel
theorem dX1_readOne_22 : decode cX1_readOne 22 = .ok (.ifCond .ne 5, 3) := by decide +kernel
theorem dX1_readOne_25 : decode cX1_readOne 25 = .ok (.iconst 0, 1) := by decide +kernel
theorem dX1_readOne_26 : decode cX1_readOne 26 = .ok (.ireturn, 1) := by decide +kernel
theorem dX1_readOne_27 : decode cX1_readOne 27 = .ok (.aload_n 0, 1) := by decide +kernel
theorem dX1_readOne_28 : decode cX1_readOne 28 = .ok (.getfield 9, 3) := by decide +kernel
theorem dX1_readOne_31 : decode cX1_readOne 31 = .ok (.getfield 107, 3) := by decide +kernel
theorem dX1_readOne_34 : decode cX1_readOne 34 = .ok (.istore_n 2, 1) := by decide +kernel
theorem dX1_readOne_35 : decode cX1_readOne 35 = .ok (.aload_n 0, 1) := by decide +kernel
theorem dX1_readOne_36 : decode cX1_readOne 36 = .ok (.iconst 1, 1) := by decide +kernel
theorem dX1_readOne_37 : decode cX1_readOne 37 = .ok (.invokevirtual 104, 3) := by decide +kernel
theorem dX1_readOne_40 : decode cX1_readOne 40 = .ok (.ifCond .ne 5, 3) := by decide +kernel
theorem dX1_readOne_43 : decode cX1_readOne 43 = .ok (.iconst 0, 1) := by decide +kernel
theorem dX1_readOne_44 : decode cX1_readOne 44 = .ok (.ireturn, 1) := by decide +kernel
theorem dX1_readOne_45 : decode cX1_readOne 45 = .ok (.aload_n 0, 1) := by decide +kernel
theorem dX1_readOne_46 : decode cX1_readOne 46 = .ok (.getfield 15, 3) := by decide +kernel
theorem dX1_readOne_49 : decode cX1_readOne 49 = .ok (.iload_n 1, 1) := by decide +kernel
theorem dX1_readOne_50 : decode cX1_readOne 50 = .ok (.iload_n 2, 1) := by decide +kernel
theorem dX1_readOne_51 : decode cX1_readOne 51 = .ok (.aload_n 0, 1) := by decide +kernel
theorem dX1_readOne_52 : decode cX1_readOne 52 = .ok (.getfield 9, 3) := by decide +kernel
theorem dX1_readOne_55 : decode cX1_readOne 55 = .ok (.getfield 107, 3) := by decide +kernel
theorem dX1_readOne_58 : decode cX1_readOne 58 = .ok (.invokevirtual 110, 3) := by decide +kernel
theorem dX1_readOne_61 : decode cX1_readOne 61 = .ok (.aload_n 0, 1) := by decide +kernel
theorem dX1_readOne_62 : decode cX1_readOne 62 = .ok (.invokevirtual 114, 3) := by decide +kernel
theorem dX1_readOne_65 : decode cX1_readOne 65 = .ok (.ireturn, 1) := by decide +kernel
theorem dX1_readBarrow_0 : decode cX1_readBarrow 0 = .ok (.aload_n 0, 1) := by decide +kernel
theorem dX1_readBarrow_1 : decode cX1_readBarrow 1 = .ok (.getfield 23, 3) := by decide +kernel
theorem dX1_readBarrow_4 : decode cX1_readBarrow 4 = .ok (.ifCond .eq 9, 3) := by decide +kernel
theorem dX1_readBarrow_7 : decode cX1_readBarrow 7 = .ok (.aload_n 0, 1) := by decide +kernel
theorem dX1_readBarrow_8 : decode cX1_readBarrow 8 = .ok (.iconst 4, 1) := by decide +kernel
theorem dX1_readBarrow_9 : decode cX1_readBarrow 9 = .ok (.invokevirtual 74, 3) := by decide +kernel
theorem dX1_readBarrow_12 : decode cX1_readBarrow 12 = .ok (.ireturn, 1) := by decide +kernel
theorem dX1_readBarrow_13 : decode cX1_readBarrow 13 = .ok (.aload_n 0, 1) := by decide +kernel
theorem dX1_readBarrow_14 : decode cX1_readBarrow 14 = .ok (.iconst 1, 1) := by decide +kernel
theorem dX1_readBarrow_15 : decode cX1_readBarrow 15 = .ok (.putfield 23, 3) := by decide +kernel
theorem dX1_readBarrow_18 : decode cX1_readBarrow 18 = .ok (.aload_n 0, 1) := by decide +kernel
theorem dX1_readBarrow_19 : decode cX1_readBarrow 19 = .ok (.iconst 1, 1) := by decide +kernel
theorem dX1_readBarrow_20 : decode cX1_readBarrow 20 = .ok (.invokevirtual 104, 3) := by decide +kernel
theorem dX1_readBarrow_23 : decode cX1_readBarrow 23 = .ok (.ifCond .ne 5, 3) := by decide +kernel
theorem dX1_readBarrow_26 : decode cX1_readBarrow 26 = .ok (.iconst 0, 1) := by decide +kernel
theorem dX1_readBarrow_27 : decode cX1_readBarrow 27 = .ok (.ireturn, 1) := by decide +kernel
theorem dX1_readBarrow_28 : decode cX1_readBarrow 28 = .ok (.aload_n 0, 1) := by decide +kernel
theorem dX1_readBarrow_29 : decode cX1_readBarrow 29 = .ok (.getfield 15, 3) := by decide +kernel
theorem dX1_readBarrow_32 : decode cX1_readBarrow 32 = .ok (.aload_n 0, 1) := by decide +kernel
theorem dX1_readBarrow_33 : decode cX1_readBarrow 33 = .ok (.getfield 9, 3) := by decide +kernel
theorem dX1_readBarrow_36 : decode cX1_readBarrow 36 = .ok (.getfield 107, 3) := by decide +kernel
theorem dX1_readBarrow_39 : decode cX1_readBarrow 39 = .ok (.putfield 117, 3) := by decide +kernel
theorem dX1_readBarrow_42 : decode cX1_readBarrow 42 = .ok (.aload_n 0, 1) := by decide +kernel
theorem dX1_readBarrow_43 : decode cX1_readBarrow 43 = .ok (.iconst 0, 1) := by decide +kernel
theorem dX1_readBarrow_44 : decode cX1_readBarrow 44 = .ok (.invokevirtual 104, 3) := by decide +kernel
theorem dX1_readBarrow_47 : decode cX1_readBarrow 47 = .ok (.ifCond .ne 5, 3) := by decide +kernel
theorem dX1_readBarrow_50 : decode cX1_readBarrow 50 = .ok (.iconst 0, 1) := by decide +kernel
theorem dX1_readBarrow_51 : decode cX1_readBarrow 51 = .ok (.ireturn, 1) := by decide +kernel
theorem dX1_readBarrow_52 : decode cX1_readBarrow 52 = .ok (.aload_n 0, 1) := by decide +kernel
theorem dX1_readBarrow_53 : decode cX1_readBarrow 53 = .ok (.getfield 15, 3) := by decide +kernel
theorem dX1_readBarrow_56 : decode cX1_readBarrow 56 = .ok (.aload_n 0, 1) := by decide +kernel
theorem dX1_readBarrow_57 : decode cX1_readBarrow 57 = .ok (.getfield 9, 3) := by decide +kernel
theorem dX1_readBarrow_60 : decode cX1_readBarrow 60 = .ok (.getfield 107, 3) := by decide +kernel
theorem dX1_readBarrow_63 : decode cX1_readBarrow 63 = .ok (.putfield 120, 3) := by decide +kernel
theorem dX1_readBarrow_66 : decode cX1_readBarrow 66 = .ok (.aload_n 0, 1) := by decide +kernel
theorem dX1_readBarrow_67 : decode cX1_readBarrow 67 = .ok (.invokevirtual 114, 3) := by decide +kernel
theorem dX1_readBarrow_70 : decode cX1_readBarrow 70 = .ok (.ireturn, 1) := by decide +kernel
theorem dX1_readRota_0 : decode cX1_readRota 0 = .ok (.aload_n 0, 1) := by decide +kernel
theorem dX1_readRota_1 : decode cX1_readRota 1 = .ok (.getfield 27, 3) := by decide +kernel
theorem dX1_readRota_4 : decode cX1_readRota 4 = .ok (.ifCond .eq 9, 3) := by decide +kernel
theorem dX1_readRota_7 : decode cX1_readRota 7 = .ok (.aload_n 0, 1) := by decide +kernel
theorem dX1_readRota_8 : decode cX1_readRota 8 = .ok (.iconst 4, 1) := by decide +kernel
theorem dX1_readRota_9 : decode cX1_readRota 9 = .ok (.invokevirtual 74, 3) := by decide +kernel
theorem dX1_readRota_12 : decode cX1_readRota 12 = .ok (.ireturn, 1) := by decide +kernel
theorem dX1_readRota_13 : decode cX1_readRota 13 = .ok (.aload_n 0, 1) := by decide +kernel
theorem dX1_readRota_14 : decode cX1_readRota 14 = .ok (.iconst 1, 1) := by decide +kernel
theorem dX1_readRota_15 : decode cX1_readRota 15 = .ok (.putfield 27, 3) := by decide +kernel
theorem dX1_readRota_18 : decode cX1_readRota 18 = .ok (.aload_n 0, 1) := by decide +kernel
theorem dX1_readRota_19 : decode cX1_readRota 19 = .ok (.getfield 9, 3) := by decide +kernel
theorem dX1_readRota_22 : decode cX1_readRota 22 = .ok (.invokevirtual 40, 3) := by decide +kernel
theorem dX1_readRota_25 : decode cX1_readRota 25 = .ok (.iconst 0, 1) := by decide +kernel
theorem dX1_readRota_26 : decode cX1_readRota 26 = .ok (.istore_n 1, 1) := by decide +kernel
theorem dX1_readRota_27 : decode cX1_readRota 27 = .ok (.iload_n 1, 1) := by decide +kernel
theorem dX1_readRota_28 : decode cX1_readRota 28 = .ok (.bipush 8, 2) := by decide +kernel
theorem dX1_readRota_30 : decode cX1_readRota 30 = .ok (.if_icmp .gt 70, 3) := by decide +kernel
theorem dX1_readRota_33 : decode cX1_readRota 33 = .ok (.aload_n 0, 1) := by decide +kernel
theorem dX1_readRota_34 : decode cX1_readRota 34 = .ok (.getfield 9, 3) := by decide +kernel
theorem dX1_readRota_37 : decode cX1_readRota 37 = .ok (.getfield 43, 3) := by decide +kernel
theorem dX1_readRota_40 : decode cX1_readRota 40 = .ok (.iconst 2, 1) := by decide +kernel
theorem dX1_readRota_41 : decode cX1_readRota 41 = .ok (.if_icmp .ne 59, 3) := by decide +kernel
theorem dX1_readRota_44 : decode cX1_readRota 44 = .ok (.iload_n 1, 1) := by decide +kernel
theorem dX1_readRota_45 : decode cX1_readRota 45 = .ok (.bipush 8, 2) := by decide +kernel
theorem dX1_readRota_47 : decode cX1_readRota 47 = .ok (.if_icmp .ne 9, 3) := by decide +kernel
theorem dX1_readRota_50 : decode cX1_readRota 50 = .ok (.aload_n 0, 1) := by decide +kernel
theorem dX1_readRota_51 : decode cX1_readRota 51 = .ok (.iconst 5, 1) := by decide +kernel
theorem dX1_readRota_52 : decode cX1_readRota 52 = .ok (.invokevirtual 74, 3) := by decide +kernel
theorem dX1_readRota_55 : decode cX1_readRota 55 = .ok (.ireturn, 1) := by decide +kernel
theorem dX1_readRota_56 : decode cX1_readRota 56 = .ok (.aload_n 0, 1) := by decide +kernel
theorem dX1_readRota_57 : decode cX1_readRota 57 = .ok (.getfield 9, 3) := by decide +kernel
theorem dX1_readRota_60 : decode cX1_readRota 60 = .ok (.getfield 107, 3) := by decide +kernel
theorem dX1_readRota_63 : decode cX1_readRota 63 = .ok (.iconst 5, 1) := by decide +kernel
theorem dX1_readRota_64 : decode cX1_readRota 64 = .ok (.if_icmp .lt 9, 3) := by decide +kernel
theorem dX1_readRota_67 : decode cX1_readRota 67 = .ok (.aload_n 0, 1) := by decide +kernel
theorem dX1_readRota_68 : decode cX1_readRota 68 = .ok (.iconst 3, 1) := by decide +kernel
theorem dX1_readRota_69 : decode cX1_readRota 69 = .ok (.invokevirtual 74, 3) := by decide +kernel
theorem dX1_readRota_72 : decode cX1_readRota 72 = .ok (.ireturn, 1) := by decide +kernel
theorem dX1_readRota_73 : decode cX1_readRota 73 = .ok (.aload_n 0, 1) := by decide +kernel
theorem dX1_readRota_74 : decode cX1_readRota 74 = .ok (.getfield 15, 3) := by decide +kernel
theorem dX1_readRota_77 : decode cX1_readRota 77 = .ok (.aload_n 0, 1) := by decide +kernel
theorem dX1_readRota_78 : decode cX1_readRota 78 = .ok (.getfield 9, 3) := by decide +kernel
theorem dX1_readRota_81 : decode cX1_readRota 81 = .ok (.getfield 107, 3) := by decide +kernel
theorem dX1_readRota_84 : decode cX1_readRota 84 = .ok (.invokevirtual 123, 3) := by decide +kernel
theorem dX1_readRota_87 : decode cX1_readRota 87 = .ok (.aload_n 0, 1) := by decide +kernel
theorem dX1_readRota_88 : decode cX1_readRota 88 = .ok (.getfield 9, 3) := by decide +kernel
theorem dX1_readRota_91 : decode cX1_readRota 91 = .ok (.invokevirtual 40, 3) := by decide +kernel
theorem dX1_readRota_94 : decode cX1_readRota 94 = .ok (.iinc 1 1, 3) := by decide +kernel
theorem dX1_readRota_97 : decode cX1_readRota 97 = .ok (.goto (-70), 3) := by decide +kernel
theorem dX1_readRota_100 : decode cX1_readRota 100 = .ok (.aload_n 0, 1) := by decide +kernel
theorem dX1_readRota_101 : decode cX1_readRota 101 = .ok (.iconst 3, 1) := by decide +kernel
theorem dX1_readRota_102 : decode cX1_readRota 102 = .ok (.invokevirtual 67, 3) := by decide +kernel
theorem dX1_readRota_105 : decode cX1_readRota 105 = .ok (.ireturn, 1) := by decide +kernel
theorem dX1_readNumber_0 : decode cX1_readNumber 0 = .ok (.aload_n 0, 1) := by decide +kernel
theorem dX1_readNumber_1 : decode cX1_readNumber 1 = .ok (.getfield 9, 3) := by decide +kernel
theorem dX1_readNumber_4 : decode cX1_readNumber 4 = .ok (.invokevirtual 40, 3) := by decide +kernel
theorem dX1_readNumber_7 : decode cX1_readNumber 7 = .ok (.aload_n 0, 1) := by decide +kernel
theorem dX1_readNumber_8 : decode cX1_readNumber 8 = .ok (.iconst 2, 1) := by decide +kernel
theorem dX1_readNumber_9 : decode cX1_readNumber 9 = .ok (.invokevirtual 67, 3) := by decide +kernel
theorem dX1_readNumber_12 : decode cX1_readNumber 12 = .ok (.ifCond .ne 5, 3) := by decide +kernel
theorem dX1_readNumber_15 : decode cX1_readNumber 15 = .ok (.iconst 0, 1) := by decide +kernel
theorem dX1_readNumber_16 : decode cX1_readNumber 16 = .ok (.ireturn, 1) := by decide +kernel
theorem dX1_readNumber_17 : decode cX1_readNumber 17 = .ok (.aload_n 0, 1) := by decide +kernel
theorem dX1_readNumber_18 : decode cX1_readNumber 18 = .ok (.getfield 9, 3) := by decide +kernel
theorem dX1_readNumber_21 : decode cX1_readNumber 21 = .ok (.getfield 107, 3) := by decide +kernel
theorem dX1_readNumber_24 : decode cX1_readNumber 24 = .ok (.iload_n 1, 1) := by decide +kernel
theorem dX1_readNumber_25 : decode cX1_readNumber 25 = .ok (.if_icmp .ge 11, 3) := by decide +kernel
theorem dX1_readNumber_28 : decode cX1_readNumber 28 = .ok (.aload_n 0, 1) := by decide +kernel
theorem dX1_readNumber_29 : decode cX1_readNumber 29 = .ok (.iconst 3, 1) := by decide +kernel
theorem dX1_readNumber_30 : decode cX1_readNumber 30 = .ok (.invokevirtual 74, 3) := by decide +kernel
theorem dX1_readNumber_33 : decode cX1_readNumber 33 = .ok (.ifCond .eq 7, 3) := by decide +kernel
theorem dX1_readNumber_36 : decode cX1_readNumber 36 = .ok (.iconst 1, 1) := by decide +kernel
theorem dX1_readNumber_37 : decode cX1_readNumber 37 = .ok (.goto 4, 3) := by decide +kernel
theorem dX1_readNumber_40 : decode cX1_readNumber 40 = .ok (.iconst 0, 1) := by decide +kernel
theorem dX1_readNumber_41 : decode cX1_readNumber 41 = .ok (.ireturn, 1) := by decide +kernel
theorem dX1_readStop_0 : decode cX1_readStop 0 = .ok (.aload_n 0, 1) := by decide +kernel
theorem dX1_readStop_1 : decode cX1_readStop 1 = .ok (.getfield 9, 3) := by decide +kernel
theorem dX1_readStop_4 : decode cX1_readStop 4 = .ok (.invokevirtual 40, 3) := by decide +kernel
theorem dX1_readStop_7 : decode cX1_readStop 7 = .ok (.aload_n 0, 1) := by decide +kernel
theorem dX1_readStop_8 : decode cX1_readStop 8 = .ok (.iconst 3, 1) := by decide +kernel
theorem dX1_readStop_9 : decode cX1_readStop 9 = .ok (.invokevirtual 67, 3) := by decide +kernel
theorem dX1_readStop_12 : decode cX1_readStop 12 = .ok (.ireturn, 1) := by decide +kernel
theorem dX1_expect_0 : decode cX1_expect 0 = .ok (.aload_n 0, 1) := by decide +kernel
theorem dX1_expect_1 : decode cX1_expect 1 = .ok (.getfield 9, 3) := by decide +kernel
theorem dX1_expect_4 : decode cX1_expect 4 = .ok (.getfield 43, 3) := by decide +kernel
theorem dX1_expect_7 : decode cX1_expect 7 = .ok (.iconst 4, 1) := by decide +kernel
theorem dX1_expect_8 : decode cX1_expect 8 = .ok (.if_icmp .ne 9, 3) := by decide +kernel
theorem dX1_expect_11 : decode cX1_expect 11 = .ok (.aload_n 0, 1) := by decide +kernel
theorem dX1_expect_12 : decode cX1_expect 12 = .ok (.iconst 1, 1) := by decide +kernel
theorem dX1_expect_13 : decode cX1_expect 13 = .ok (.invokevirtual 74, 3) := by decide +kernel
theorem dX1_expect_16 : decode cX1_expect 16 = .ok (.ireturn, 1) := by decide +kernel
theorem dX1_expect_17 : decode cX1_expect 17 = .ok (.aload_n 0, 1) := by decide +kernel
theorem dX1_expect_18 : decode cX1_expect 18 = .ok (.getfield 9, 3) := by decide +kernel
theorem dX1_expect_21 : decode cX1_expect 21 = .ok (.getfield 43, 3) := by decide +kernel
theorem dX1_expect_24 : decode cX1_expect 24 = .ok (.iload_n 1, 1) := by decide +kernel
theorem dX1_expect_25 : decode cX1_expect 25 = .ok (.if_icmp .eq 11, 3) := by decide +kernel
theorem dX1_expect_28 : decode cX1_expect 28 = .ok (.aload_n 0, 1) := by decide +kernel
theorem dX1_expect_29 : decode cX1_expect 29 = .ok (.iconst 2, 1) := by decide +kernel
theorem dX1_expect_30 : decode cX1_expect 30 = .ok (.invokevirtual 74, 3) := by decide +kernel
theorem dX1_expect_33 : decode cX1_expect 33 = .ok (.ifCond .eq 7, 3) := by decide +kernel
theorem dX1_expect_36 : decode cX1_expect 36 = .ok (.iconst 1, 1) := by decide +kernel
theorem dX1_expect_37 : decode cX1_expect 37 = .ok (.goto 4, 3) := by decide +kernel
theorem dX1_expect_40 : decode cX1_expect 40 = .ok (.iconst 0, 1) := by decide +kernel
theorem dX1_expect_41 : decode cX1_expect 41 = .ok (.ireturn, 1) := by decide +kernel
theorem dX1_refuse_0 : decode cX1_refuse 0 = .ok (.aload_n 0, 1) := by decide +kernel
theorem dX1_refuse_1 : decode cX1_refuse 1 = .ok (.iload_n 1, 1) := by decide +kernel
theorem dX1_refuse_2 : decode cX1_refuse 2 = .ok (.putfield 19, 3) := by decide +kernel
theorem dX1_refuse_5 : decode cX1_refuse 5 = .ok (.iconst 0, 1) := by decide +kernel
theorem dX1_refuse_6 : decode cX1_refuse 6 = .ok (.ireturn, 1) := by decide +kernel
theorem dX2_init_0 : decode cX2_init 0 = .ok (.aload_n 0, 1) := by decide +kernel
theorem dX2_init_1 : decode cX2_init 1 = .ok (.invokespecial 3, 3) := by decide +kernel
theorem dX2_init_4 : decode cX2_init 4 = .ok (.aload_n 0, 1) := by decide +kernel
theorem dX2_init_5 : decode cX2_init 5 = .ok (.bipush 40, 2) := by decide +kernel
theorem dX2_init_7 : decode cX2_init 7 = .ok (.newarray .int, 2) := by decide +kernel
theorem dX2_init_9 : decode cX2_init 9 = .ok (.putfield 9, 3) := by decide +kernel
theorem dX2_init_12 : decode cX2_init 12 = .ok (.aload_n 0, 1) := by decide +kernel
theorem dX2_init_13 : decode cX2_init 13 = .ok (.iconst (-1), 1) := by decide +kernel
theorem dX2_init_14 : decode cX2_init 14 = .ok (.putfield 15, 3) := by decide +kernel
theorem dX2_init_17 : decode cX2_init 17 = .ok (.return_, 1) := by decide +kernel
theorem dX2_renew_0 : decode cX2_renew 0 = .ok (.aload_n 0, 1) := by decide +kernel
theorem dX2_renew_1 : decode cX2_renew 1 = .ok (.iload_n 1, 1) := by decide +kernel
theorem dX2_renew_2 : decode cX2_renew 2 = .ok (.putfield 15, 3) := by decide +kernel
theorem dX2_renew_5 : decode cX2_renew 5 = .ok (.aload_n 0, 1) := by decide +kernel
theorem dX2_renew_6 : decode cX2_renew 6 = .ok (.iload_n 2, 1) := by decide +kernel
theorem dX2_renew_7 : decode cX2_renew 7 = .ok (.putfield 19, 3) := by decide +kernel
theorem dX2_renew_10 : decode cX2_renew 10 = .ok (.aload_n 0, 1) := by decide +kernel
theorem dX2_renew_11 : decode cX2_renew 11 = .ok (.getfield 9, 3) := by decide +kernel
theorem dX2_renew_14 : decode cX2_renew 14 = .ok (.iconst 0, 1) := by decide +kernel
theorem dX2_renew_15 : decode cX2_renew 15 = .ok (.invokestatic 22, 3) := by decide +kernel
theorem dX2_renew_18 : decode cX2_renew 18 = .ok (.return_, 1) := by decide +kernel
theorem dX2_isNothing_0 : decode cX2_isNothing 0 = .ok (.aload_n 0, 1) := by decide +kernel
theorem dX2_isNothing_1 : decode cX2_isNothing 1 = .ok (.getfield 15, 3) := by decide +kernel
theorem dX2_isNothing_4 : decode cX2_isNothing 4 = .ok (.iconst (-1), 1) := by decide +kernel
theorem dX2_isNothing_5 : decode cX2_isNothing 5 = .ok (.if_icmp .ne 7, 3) := by decide +kernel
theorem dX2_isNothing_8 : decode cX2_isNothing 8 = .ok (.iconst 1, 1) := by decide +kernel
theorem dX2_isNothing_9 : decode cX2_isNothing 9 = .ok (.goto 4, 3) := by decide +kernel
theorem dX2_isNothing_12 : decode cX2_isNothing 12 = .ok (.iconst 0, 1) := by decide +kernel
theorem dX2_isNothing_13 : decode cX2_isNothing 13 = .ok (.ireturn, 1) := by decide +kernel
theorem dX2_isOther_0 : decode cX2_isOther 0 = .ok (.aload_n 0, 1) := by decide +kernel
theorem dX2_isOther_1 : decode cX2_isOther 1 = .ok (.getfield 15, 3) := by decide +kernel
theorem dX2_isOther_4 : decode cX2_isOther 4 = .ok (.iconst (-1), 1) := by decide +kernel
theorem dX2_isOther_5 : decode cX2_isOther 5 = .ok (.if_icmp .eq 15, 3) := by decide +kernel
theorem dX2_isOther_8 : decode cX2_isOther 8 = .ok (.aload_n 0, 1) := by decide +kernel
theorem dX2_isOther_9 : decode cX2_isOther 9 = .ok (.getfield 15, 3) := by decide +kernel
theorem dX2_isOther_12 : decode cX2_isOther 12 = .ok (.iload_n 1, 1) := by decide +kernel
theorem dX2_isOther_13 : decode cX2_isOther 13 = .ok (.if_icmp .eq 7, 3) := by decide +kernel
theorem dX2_isOther_16 : decode cX2_isOther 16 = .ok (.iconst 1, 1) := by decide +kernel
theorem dX2_isOther_17 : decode cX2_isOther 17 = .ok (.goto 4, 3) := by decide +kernel
theorem dX2_isOther_20 : decode cX2_isOther 20 = .ok (.iconst 0, 1) := by decide +kernel
theorem dX2_isOther_21 : decode cX2_isOther 21 = .ok (.ireturn, 1) := by decide +kernel
theorem dX2_faultAt_0 : decode cX2_faultAt 0 = .ok (.aload_n 0, 1) := by decide +kernel
theorem dX2_faultAt_1 : decode cX2_faultAt 1 = .ok (.getfield 15, 3) := by decide +kernel
theorem dX2_faultAt_4 : decode cX2_faultAt 4 = .ok (.iconst (-1), 1) := by decide +kernel
theorem dX2_faultAt_5 : decode cX2_faultAt 5 = .ok (.if_icmp .ne 5, 3) := by decide +kernel
theorem dX2_faultAt_8 : decode cX2_faultAt 8 = .ok (.iconst 1, 1) := by decide +kernel
theorem dX2_faultAt_9 : decode cX2_faultAt 9 = .ok (.ireturn, 1) := by decide +kernel
theorem dX2_faultAt_10 : decode cX2_faultAt 10 = .ok (.iload_n 1, 1) := by decide +kernel
theorem dX2_faultAt_11 : decode cX2_faultAt 11 = .ok (.iconst 0, 1) := by decide +kernel
theorem dX2_faultAt_12 : decode cX2_faultAt 12 = .ok (.aload_n 0, 1) := by decide +kernel
theorem dX2_faultAt_13 : decode cX2_faultAt 13 = .ok (.getfield 19, 3) := by decide +kernel
theorem dX2_faultAt_16 : decode cX2_faultAt 16 = .ok (.iconst 1, 1) := by decide +kernel
theorem dX2_faultAt_17 : decode cX2_faultAt 17 = .ok (.isub, 1) := by decide +kernel
theorem dX2_faultAt_18 : decode cX2_faultAt 18 = .ok (.invokestatic 28, 3) := by decide +kernel
theorem dX2_faultAt_21 : decode cX2_faultAt 21 = .ok (.ifCond .eq 21, 3) := by decide +kernel
theorem dX2_faultAt_24 : decode cX2_faultAt 24 = .ok (.iload_n 2, 1) := by decide +kernel
theorem dX2_faultAt_25 : decode cX2_faultAt 25 = .ok (.iconst 0, 1) := by decide +kernel
theorem dX2_faultAt_26 : decode cX2_faultAt 26 = .ok (.aload_n 0, 1) := by decide +kernel
theorem dX2_faultAt_27 : decode cX2_faultAt 27 = .ok (.getfield 19, 3) := by decide +kernel
theorem dX2_faultAt_30 : decode cX2_faultAt 30 = .ok (.iconst 1, 1) := by decide +kernel
theorem dX2_faultAt_31 : decode cX2_faultAt 31 = .ok (.isub, 1) := by decide +kernel
theorem dX2_faultAt_32 : decode cX2_faultAt 32 = .ok (.invokestatic 28, 3) := by decide +kernel
theorem dX2_faultAt_35 : decode cX2_faultAt 35 = .ok (.ifCond .eq 7, 3) := by decide +kernel
theorem dX2_faultAt_38 : decode cX2_faultAt 38 = .ok (.iconst 0, 1) := by decide +kernel
theorem dX2_faultAt_39 : decode cX2_faultAt 39 = .ok (.goto 4, 3) := by decide +kernel
theorem dX2_faultAt_42 : decode cX2_faultAt 42 = .ok (.iconst 2, 1) := by decide +kernel
theorem dX2_faultAt_43 : decode cX2_faultAt 43 = .ok (.ireturn, 1) := by decide +kernel
theorem dX2_put_0 : decode cX2_put 0 = .ok (.aload_n 0, 1) := by decide +kernel
theorem dX2_put_1 : decode cX2_put 1 = .ok (.getfield 15, 3) := by decide +kernel
theorem dX2_put_4 : decode cX2_put 4 = .ok (.ifCond .ne 14, 3) := by decide +kernel
theorem dX2_put_7 : decode cX2_put 7 = .ok (.aload_n 0, 1) := by decide +kernel
theorem dX2_put_8 : decode cX2_put 8 = .ok (.getfield 9, 3) := by decide +kernel
theorem dX2_put_11 : decode cX2_put 11 = .ok (.iload_n 1, 1) := by decide +kernel
theorem dX2_put_12 : decode cX2_put 12 = .ok (.iload_n 2, 1) := by decide +kernel
theorem dX2_put_13 : decode cX2_put 13 = .ok (.i2b, 1) := by decide +kernel
theorem dX2_put_14 : decode cX2_put 14 = .ok (.iastore, 1) := by decide +kernel
theorem dX2_put_15 : decode cX2_put 15 = .ok (.goto 29, 3) := by decide +kernel
theorem dX2_put_18 : decode cX2_put 18 = .ok (.aload_n 0, 1) := by decide +kernel
theorem dX2_put_19 : decode cX2_put 19 = .ok (.getfield 15, 3) := by decide +kernel
theorem dX2_put_22 : decode cX2_put 22 = .ok (.iconst 1, 1) := by decide +kernel
theorem dX2_put_23 : decode cX2_put 23 = .ok (.if_icmp .ne 14, 3) := by decide +kernel
theorem dX2_put_26 : decode cX2_put 26 = .ok (.aload_n 0, 1) := by decide +kernel
theorem dX2_put_27 : decode cX2_put 27 = .ok (.getfield 9, 3) := by decide +kernel
theorem dX2_put_30 : decode cX2_put 30 = .ok (.iload_n 1, 1) := by decide +kernel
theorem dX2_put_31 : decode cX2_put 31 = .ok (.iload_n 2, 1) := by decide +kernel
theorem dX2_put_32 : decode cX2_put 32 = .ok (.i2s, 1) := by decide +kernel
theorem dX2_put_33 : decode cX2_put 33 = .ok (.iastore, 1) := by decide +kernel
theorem dX2_put_34 : decode cX2_put 34 = .ok (.goto 10, 3) := by decide +kernel
theorem dX2_put_37 : decode cX2_put 37 = .ok (.aload_n 0, 1) := by decide +kernel
theorem dX2_put_38 : decode cX2_put 38 = .ok (.getfield 9, 3) := by decide +kernel
theorem dX2_put_41 : decode cX2_put 41 = .ok (.iload_n 1, 1) := by decide +kernel
theorem dX2_put_42 : decode cX2_put 42 = .ok (.iload_n 2, 1) := by decide +kernel
theorem dX2_put_43 : decode cX2_put 43 = .ok (.iastore, 1) := by decide +kernel
theorem dX2_put_44 : decode cX2_put 44 = .ok (.return_, 1) := by decide +kernel
theorem dX3_init_0 : decode cX3_init 0 = .ok (.aload_n 0, 1) := by decide +kernel
theorem dX3_init_1 : decode cX3_init 1 = .ok (.invokespecial 3, 3) := by decide +kernel
theorem dX3_init_4 : decode cX3_init 4 = .ok (.aload_n 0, 1) := by decide +kernel
theorem dX3_init_5 : decode cX3_init 5 = .ok (.bipush 6, 2) := by decide +kernel
theorem dX3_init_7 : decode cX3_init 7 = .ok (.newarray .int, 2) := by decide +kernel
theorem dX3_init_9 : decode cX3_init 9 = .ok (.putfield 9, 3) := by decide +kernel
theorem dX3_init_12 : decode cX3_init 12 = .ok (.aload_n 0, 1) := by decide +kernel
theorem dX3_init_13 : decode cX3_init 13 = .ok (.bipush 6, 2) := by decide +kernel
theorem dX3_init_15 : decode cX3_init 15 = .ok (.newarray .int, 2) := by decide +kernel
theorem dX3_init_17 : decode cX3_init 17 = .ok (.putfield 15, 3) := by decide +kernel
theorem dX3_init_20 : decode cX3_init 20 = .ok (.aload_n 0, 1) := by decide +kernel
theorem dX3_init_21 : decode cX3_init 21 = .ok (.bipush 6, 2) := by decide +kernel
theorem dX3_init_23 : decode cX3_init 23 = .ok (.newarray .int, 2) := by decide +kernel
theorem dX3_init_25 : decode cX3_init 25 = .ok (.putfield 18, 3) := by decide +kernel
theorem dX3_init_28 : decode cX3_init 28 = .ok (.return_, 1) := by decide +kernel
theorem dX3_become_0 : decode cX3_become 0 = .ok (.aload_n 1, 1) := by decide +kernel
theorem dX3_become_1 : decode cX3_become 1 = .ok (.getfield 9, 3) := by decide +kernel
theorem dX3_become_4 : decode cX3_become 4 = .ok (.iconst 0, 1) := by decide +kernel
theorem dX3_become_5 : decode cX3_become 5 = .ok (.aload_n 0, 1) := by decide +kernel
theorem dX3_become_6 : decode cX3_become 6 = .ok (.getfield 9, 3) := by decide +kernel
theorem dX3_become_9 : decode cX3_become 9 = .ok (.iconst 0, 1) := by decide +kernel
theorem dX3_become_10 : decode cX3_become 10 = .ok (.bipush 6, 2) := by decide +kernel
theorem dX3_become_12 : decode cX3_become 12 = .ok (.invokestatic 21, 3) := by decide +kernel
theorem dX3_become_15 : decode cX3_become 15 = .ok (.aload_n 1, 1) := by decide +kernel
theorem dX3_become_16 : decode cX3_become 16 = .ok (.getfield 15, 3) := by decide +kernel
theorem dX3_become_19 : decode cX3_become 19 = .ok (.iconst 0, 1) := by decide +kernel
theorem dX3_become_20 : decode cX3_become 20 = .ok (.aload_n 0, 1) := by decide +kernel
theorem dX3_become_21 : decode cX3_become 21 = .ok (.getfield 15, 3) := by decide +kernel
theorem dX3_become_24 : decode cX3_become 24 = .ok (.iconst 0, 1) := by decide +kernel
theorem dX3_become_25 : decode cX3_become 25 = .ok (.bipush 6, 2) := by decide +kernel
theorem dX3_become_27 : decode cX3_become 27 = .ok (.invokestatic 21, 3) := by decide +kernel
theorem dX3_become_30 : decode cX3_become 30 = .ok (.aload_n 1, 1) := by decide +kernel
theorem dX3_become_31 : decode cX3_become 31 = .ok (.getfield 18, 3) := by decide +kernel
theorem dX3_become_34 : decode cX3_become 34 = .ok (.iconst 0, 1) := by decide +kernel
theorem dX3_become_35 : decode cX3_become 35 = .ok (.aload_n 0, 1) := by decide +kernel
theorem dX3_become_36 : decode cX3_become 36 = .ok (.getfield 18, 3) := by decide +kernel
theorem dX3_become_39 : decode cX3_become 39 = .ok (.iconst 0, 1) := by decide +kernel
theorem dX3_become_40 : decode cX3_become 40 = .ok (.bipush 6, 2) := by decide +kernel
theorem dX3_become_42 : decode cX3_become 42 = .ok (.invokestatic 21, 3) := by decide +kernel
theorem dX3_become_45 : decode cX3_become 45 = .ok (.aload_n 0, 1) := by decide +kernel
theorem dX3_become_46 : decode cX3_become 46 = .ok (.aload_n 1, 1) := by decide +kernel
theorem dX3_become_47 : decode cX3_become 47 = .ok (.getfield 27, 3) := by decide +kernel
theorem dX3_become_50 : decode cX3_become 50 = .ok (.putfield 27, 3) := by decide +kernel
theorem dX3_become_53 : decode cX3_become 53 = .ok (.return_, 1) := by decide +kernel
theorem dX3_add_0 : decode cX3_add 0 = .ok (.aload_n 0, 1) := by decide +kernel
theorem dX3_add_1 : decode cX3_add 1 = .ok (.getfield 27, 3) := by decide +kernel
theorem dX3_add_4 : decode cX3_add 4 = .ok (.bipush 6, 2) := by decide +kernel
theorem dX3_add_6 : decode cX3_add 6 = .ok (.if_icmp .ge 43, 3) := by decide +kernel
theorem dX3_add_9 : decode cX3_add 9 = .ok (.aload_n 0, 1) := by decide +kernel
theorem dX3_add_10 : decode cX3_add 10 = .ok (.getfield 9, 3) := by decide +kernel
theorem dX3_add_13 : decode cX3_add 13 = .ok (.aload_n 0, 1) := by decide +kernel
theorem dX3_add_14 : decode cX3_add 14 = .ok (.getfield 27, 3) := by decide +kernel
theorem dX3_add_17 : decode cX3_add 17 = .ok (.iload_n 1, 1) := by decide +kernel
theorem dX3_add_18 : decode cX3_add 18 = .ok (.iastore, 1) := by decide +kernel
theorem dX3_add_19 : decode cX3_add 19 = .ok (.aload_n 0, 1) := by decide +kernel
theorem dX3_add_20 : decode cX3_add 20 = .ok (.getfield 15, 3) := by decide +kernel
theorem dX3_add_23 : decode cX3_add 23 = .ok (.aload_n 0, 1) := by decide +kernel
theorem dX3_add_24 : decode cX3_add 24 = .ok (.getfield 27, 3) := by decide +kernel
theorem dX3_add_27 : decode cX3_add 27 = .ok (.iload_n 2, 1) := by decide +kernel
theorem dX3_add_28 : decode cX3_add 28 = .ok (.iastore, 1) := by decide +kernel
theorem dX3_add_29 : decode cX3_add 29 = .ok (.aload_n 0, 1) := by decide +kernel
theorem dX3_add_30 : decode cX3_add 30 = .ok (.getfield 18, 3) := by decide +kernel
theorem dX3_add_33 : decode cX3_add 33 = .ok (.aload_n 0, 1) := by decide +kernel
theorem dX3_add_34 : decode cX3_add 34 = .ok (.getfield 27, 3) := by decide +kernel
theorem dX3_add_37 : decode cX3_add 37 = .ok (.iload_n 3, 1) := by decide +kernel
theorem dX3_add_38 : decode cX3_add 38 = .ok (.iastore, 1) := by decide +kernel
theorem dX3_add_39 : decode cX3_add 39 = .ok (.aload_n 0, 1) := by decide +kernel
theorem dX3_add_40 : decode cX3_add 40 = .ok (.dup, 1) := by decide +kernel
theorem dX3_add_41 : decode cX3_add 41 = .ok (.getfield 27, 3) := by decide +kernel
theorem dX3_add_44 : decode cX3_add 44 = .ok (.iconst 1, 1) := by decide +kernel
theorem dX3_add_45 : decode cX3_add 45 = .ok (.iadd, 1) := by decide +kernel
theorem dX3_add_46 : decode cX3_add 46 = .ok (.putfield 27, 3) := by decide +kernel
theorem dX3_add_49 : decode cX3_add 49 = .ok (.return_, 1) := by decide +kernel
theorem dX3_fit_0 : decode cX3_fit 0 = .ok (.iconst (-1), 1) := by decide +kernel
theorem dX3_fit_1 : decode cX3_fit 1 = .ok (.istore_n 2, 1) := by decide +kernel
theorem dX3_fit_2 : decode cX3_fit 2 = .ok (.iconst 0, 1) := by decide +kernel
theorem dX3_fit_3 : decode cX3_fit 3 = .ok (.istore_n 3, 1) := by decide +kernel
theorem dX3_fit_4 : decode cX3_fit 4 = .ok (.iload_n 3, 1) := by decide +kernel
theorem dX3_fit_5 : decode cX3_fit 5 = .ok (.aload_n 0, 1) := by decide +kernel
theorem dX3_fit_6 : decode cX3_fit 6 = .ok (.getfield 27, 3) := by decide +kernel
theorem dX3_fit_9 : decode cX3_fit 9 = .ok (.if_icmp .ge 20, 3) := by decide +kernel
theorem dX3_fit_12 : decode cX3_fit 12 = .ok (.iload_n 2, 1) := by decide +kernel
theorem dX3_fit_13 : decode cX3_fit 13 = .ok (.aload_n 0, 1) := by decide +kernel
theorem dX3_fit_14 : decode cX3_fit 14 = .ok (.getfield 9, 3) := by decide +kernel
theorem dX3_fit_17 : decode cX3_fit 17 = .ok (.iload_n 3, 1) := by decide +kernel
theorem dX3_fit_18 : decode cX3_fit 18 = .ok (.iaload, 1) := by decide +kernel
theorem dX3_fit_19 : decode cX3_fit 19 = .ok (.invokestatic 31, 3) := by decide +kernel
theorem dX3_fit_22 : decode cX3_fit 22 = .ok (.istore_n 2, 1) := by decide +kernel
theorem dX3_fit_23 : decode cX3_fit 23 = .ok (.iinc 3 1, 3) := by decide +kernel
theorem dX3_fit_26 : decode cX3_fit 26 = .ok (.goto (-22), 3) := by decide +kernel
theorem dX3_fit_29 : decode cX3_fit 29 = .ok (.iconst 0, 1) := by decide +kernel
theorem dX3_fit_30 : decode cX3_fit 30 = .ok (.istore_n 3, 1) := by decide +kernel
theorem dX3_fit_31 : decode cX3_fit 31 = .ok (.iload_n 3, 1) := by decide +kernel
theorem dX3_fit_32 : decode cX3_fit 32 = .ok (.iload_n 2, 1) := by decide +kernel
theorem dX3_fit_33 : decode cX3_fit 33 = .ok (.if_icmp .gt 24, 3) := by decide +kernel
theorem dX3_fit_36 : decode cX3_fit 36 = .ok (.aload_n 0, 1) := by decide +kernel
theorem dX3_fit_37 : decode cX3_fit 37 = .ok (.iload_n 3, 1) := by decide +kernel
theorem dX3_fit_38 : decode cX3_fit 38 = .ok (.aload_n 1, 1) := by decide +kernel
theorem dX3_fit_39 : decode cX3_fit 39 = .ok (.invokevirtual 37, 3) := by decide +kernel
theorem dX3_fit_42 : decode cX3_fit 42 = .ok (.ifCond .ne 5, 3) := by decide +kernel
theorem dX3_fit_45 : decode cX3_fit 45 = .ok (.iconst 0, 1) := by decide +kernel
theorem dX3_fit_46 : decode cX3_fit 46 = .ok (.ireturn, 1) := by decide +kernel
theorem dX3_fit_47 : decode cX3_fit 47 = .ok (.aload_n 1, 1) := by decide +kernel
theorem dX3_fit_48 : decode cX3_fit 48 = .ok (.invokevirtual 41, 3) := by decide +kernel
theorem dX3_fit_51 : decode cX3_fit 51 = .ok (.iinc 3 1, 3) := by decide +kernel
theorem dX3_fit_54 : decode cX3_fit 54 = .ok (.goto (-23), 3) := by decide +kernel
theorem dX3_fit_57 : decode cX3_fit 57 = .ok (.iconst 1, 1) := by decide +kernel
theorem dX3_fit_58 : decode cX3_fit 58 = .ok (.ireturn, 1) := by decide +kernel
theorem dX3_fitBehind_0 : decode cX3_fitBehind 0 = .ok (.iconst 0, 1) := by decide +kernel
theorem dX3_fitBehind_1 : decode cX3_fitBehind 1 = .ok (.istore_n 3, 1) := by decide +kernel
theorem dX3_fitBehind_2 : decode cX3_fitBehind 2 = .ok (.iload_n 3, 1) := by decide +kernel
theorem dX3_fitBehind_3 : decode cX3_fitBehind 3 = .ok (.aload_n 0, 1) := by decide +kernel
theorem dX3_fitBehind_4 : decode cX3_fitBehind 4 = .ok (.getfield 27, 3) := by decide +kernel
theorem dX3_fitBehind_7 : decode cX3_fitBehind 7 = .ok (.if_icmp .ge 54, 3) := by decide +kernel
theorem dX3_fitBehind_10 : decode cX3_fitBehind 10 = .ok (.aload_n 0, 1) := by decide +kernel
theorem dX3_fitBehind_11 : decode cX3_fitBehind 11 = .ok (.getfield 9, 3) := by decide +kernel
theorem dX3_fitBehind_14 : decode cX3_fitBehind 14 = .ok (.iload_n 3, 1) := by decide +kernel
theorem dX3_fitBehind_15 : decode cX3_fitBehind 15 = .ok (.iaload, 1) := by decide +kernel
theorem dX3_fitBehind_16 : decode cX3_fitBehind 16 = .ok (.iload_n 1, 1) := by decide +kernel
theorem dX3_fitBehind_17 : decode cX3_fitBehind 17 = .ok (.if_icmp .ne 38, 3) := by decide +kernel
theorem dX3_fitBehind_20 : decode cX3_fitBehind 20 = .ok (.aload_n 2, 1) := by decide +kernel
theorem dX3_fitBehind_21 : decode cX3_fitBehind 21 = .ok (.aload_n 0, 1) := by decide +kernel
theorem dX3_fitBehind_22 : decode cX3_fitBehind 22 = .ok (.getfield 15, 3) := by decide +kernel
theorem dX3_fitBehind_25 : decode cX3_fitBehind 25 = .ok (.iload_n 3, 1) := by decide +kernel
theorem dX3_fitBehind_26 : decode cX3_fitBehind 26 = .ok (.iaload, 1) := by decide +kernel
theorem dX3_fitBehind_27 : decode cX3_fitBehind 27 = .ok (.invokevirtual 46, 3) := by decide +kernel
theorem dX3_fitBehind_30 : decode cX3_fitBehind 30 = .ok (.ifCond .eq 25, 3) := by decide +kernel
theorem dX3_fitBehind_33 : decode cX3_fitBehind 33 = .ok (.aload_n 2, 1) := by decide +kernel
theorem dX3_fitBehind_34 : decode cX3_fitBehind 34 = .ok (.getfield 50, 3) := by decide +kernel
theorem dX3_fitBehind_37 : decode cX3_fitBehind 37 = .ok (.aload_n 0, 1) := by decide +kernel
theorem dX3_fitBehind_38 : decode cX3_fitBehind 38 = .ok (.getfield 15, 3) := by decide +kernel
theorem dX3_fitBehind_41 : decode cX3_fitBehind 41 = .ok (.iload_n 3, 1) := by decide +kernel
theorem dX3_fitBehind_42 : decode cX3_fitBehind 42 = .ok (.iaload, 1) := by decide +kernel
theorem dX3_fitBehind_43 : decode cX3_fitBehind 43 = .ok (.iaload, 1) := by decide +kernel
theorem dX3_fitBehind_44 : decode cX3_fitBehind 44 = .ok (.aload_n 0, 1) := by decide +kernel
theorem dX3_fitBehind_45 : decode cX3_fitBehind 45 = .ok (.getfield 18, 3) := by decide +kernel
theorem dX3_fitBehind_48 : decode cX3_fitBehind 48 = .ok (.iload_n 3, 1) := by decide +kernel
theorem dX3_fitBehind_49 : decode cX3_fitBehind 49 = .ok (.iaload, 1) := by decide +kernel
theorem dX3_fitBehind_50 : decode cX3_fitBehind 50 = .ok (.if_icmp .eq 5, 3) := by decide +kernel
theorem dX3_fitBehind_53 : decode cX3_fitBehind 53 = .ok (.iconst 0, 1) := by decide +kernel
theorem dX3_fitBehind_54 : decode cX3_fitBehind 54 = .ok (.ireturn, 1) := by decide +kernel
theorem dX3_fitBehind_55 : decode cX3_fitBehind 55 = .ok (.iinc 3 1, 3) := by decide +kernel
theorem dX3_fitBehind_58 : decode cX3_fitBehind 58 = .ok (.goto (-56), 3) := by decide +kernel
theorem dX3_fitBehind_61 : decode cX3_fitBehind 61 = .ok (.iconst 1, 1) := by decide +kernel
theorem dX3_fitBehind_62 : decode cX3_fitBehind 62 = .ok (.ireturn, 1) := by decide +kernel
theorem dX4_init_0 : decode cX4_init 0 = .ok (.aload_n 0, 1) := by decide +kernel
theorem dX4_init_1 : decode cX4_init 1 = .ok (.invokespecial 3, 3) := by decide +kernel
theorem dX4_init_4 : decode cX4_init 4 = .ok (.aload_n 0, 1) := by decide +kernel
theorem dX4_init_5 : decode cX4_init 5 = .ok (.sipush 160, 3) := by decide +kernel
theorem dX4_init_8 : decode cX4_init 8 = .ok (.newarray .byte, 2) := by decide +kernel
theorem dX4_init_10 : decode cX4_init 10 = .ok (.putfield 9, 3) := by decide +kernel
theorem dX4_init_13 : decode cX4_init 13 = .ok (.return_, 1) := by decide +kernel
theorem dX4_advance_0 : decode cX4_advance 0 = .ok (.aload_n 0, 1) := by decide +kernel
theorem dX4_advance_1 : decode cX4_advance 1 = .ok (.getfield 15, 3) := by decide +kernel
theorem dX4_advance_4 : decode cX4_advance 4 = .ok (.aload_n 0, 1) := by decide +kernel
theorem dX4_advance_5 : decode cX4_advance 5 = .ok (.getfield 19, 3) := by decide +kernel
theorem dX4_advance_8 : decode cX4_advance 8 = .ok (.if_icmp .ge 30, 3) := by decide +kernel
theorem dX4_advance_11 : decode cX4_advance 11 = .ok (.aload_n 0, 1) := by decide +kernel
theorem dX4_advance_12 : decode cX4_advance 12 = .ok (.getfield 9, 3) := by decide +kernel
theorem dX4_advance_15 : decode cX4_advance 15 = .ok (.aload_n 0, 1) := by decide +kernel
theorem dX4_advance_16 : decode cX4_advance 16 = .ok (.getfield 15, 3) := by decide +kernel
theorem dX4_advance_19 : decode cX4_advance 19 = .ok (.baload, 1) := by decide +kernel
theorem dX4_advance_20 : decode cX4_advance 20 = .ok (.bipush 32, 2) := by decide +kernel
theorem dX4_advance_22 : decode cX4_advance 22 = .ok (.if_icmp .ne 16, 3) := by decide +kernel
theorem dX4_advance_25 : decode cX4_advance 25 = .ok (.aload_n 0, 1) := by decide +kernel
theorem dX4_advance_26 : decode cX4_advance 26 = .ok (.dup, 1) := by decide +kernel
theorem dX4_advance_27 : decode cX4_advance 27 = .ok (.getfield 15, 3) := by decide +kernel
theorem dX4_advance_30 : decode cX4_advance 30 = .ok (.iconst 1, 1) := by decide +kernel
theorem dX4_advance_31 : decode cX4_advance 31 = .ok (.iadd, 1) := by decide +kernel
theorem dX4_advance_32 : decode cX4_advance 32 = .ok (.putfield 15, 3) := by decide +kernel
theorem dX4_advance_35 : decode cX4_advance 35 = .ok (.goto (-35), 3) := by decide +kernel
theorem dX4_advance_38 : decode cX4_advance 38 = .ok (.aload_n 0, 1) := by decide +kernel
theorem dX4_advance_39 : decode cX4_advance 39 = .ok (.aload_n 0, 1) := by decide +kernel
theorem dX4_advance_40 : decode cX4_advance 40 = .ok (.getfield 15, 3) := by decide +kernel
theorem dX4_advance_43 : decode cX4_advance 43 = .ok (.putfield 22, 3) := by decide +kernel
theorem dX4_advance_46 : decode cX4_advance 46 = .ok (.aload_n 0, 1) := by decide +kernel
theorem dX4_advance_47 : decode cX4_advance 47 = .ok (.getfield 15, 3) := by decide +kernel
theorem dX4_advance_50 : decode cX4_advance 50 = .ok (.aload_n 0, 1) := by decide +kernel
theorem dX4_advance_51 : decode cX4_advance 51 = .ok (.getfield 19, 3) := by decide +kernel
theorem dX4_advance_54 : decode cX4_advance 54 = .ok (.if_icmp .lt 9, 3) := by decide +kernel
theorem dX4_advance_57 : decode cX4_advance 57 = .ok (.aload_n 0, 1) := by decide +kernel
theorem dX4_advance_58 : decode cX4_advance 58 = .ok (.iconst 0, 1) := by decide +kernel
theorem dX4_advance_59 : decode cX4_advance 59 = .ok (.putfield 25, 3) := by decide +kernel
theorem dX4_advance_62 : decode cX4_advance 62 = .ok (.return_, 1) := by decide +kernel
theorem dX4_advance_63 : decode cX4_advance 63 = .ok (.aload_n 0, 1) := by decide +kernel
theorem dX4_advance_64 : decode cX4_advance 64 = .ok (.getfield 9, 3) := by decide +kernel
theorem dX4_advance_67 : decode cX4_advance 67 = .ok (.aload_n 0, 1) := by decide +kernel
theorem dX4_advance_68 : decode cX4_advance 68 = .ok (.getfield 15, 3) := by decide +kernel
theorem dX4_advance_71 : decode cX4_advance 71 = .ok (.baload, 1) := by decide +kernel
theorem dX4_advance_72 : decode cX4_advance 72 = .ok (.istore_n 1, 1) := by decide +kernel
theorem dX4_advance_73 : decode cX4_advance 73 = .ok (.aload_n 0, 1) := by decide +kernel
theorem dX4_advance_74 : decode cX4_advance 74 = .ok (.dup, 1) := by decide +kernel
theorem dX4_advance_75 : decode cX4_advance 75 = .ok (.getfield 15, 3) := by decide +kernel
theorem dX4_advance_78 : decode cX4_advance 78 = .ok (.iconst 1, 1) := by decide +kernel
theorem dX4_advance_79 : decode cX4_advance 79 = .ok (.iadd, 1) := by decide +kernel
theorem dX4_advance_80 : decode cX4_advance 80 = .ok (.putfield 15, 3) := by decide +kernel
theorem dX4_advance_83 : decode cX4_advance 83 = .ok (.iload_n 1, 1) := by decide +kernel
theorem dX4_advance_84 : decode cX4_advance 84 = .ok (.bipush 97, 2) := by decide +kernel
theorem dX4_advance_86 : decode cX4_advance 86 = .ok (.if_icmp .lt 16, 3) := by decide +kernel
theorem dX4_advance_89 : decode cX4_advance 89 = .ok (.iload_n 1, 1) := by decide +kernel
theorem dX4_advance_90 : decode cX4_advance 90 = .ok (.bipush 122, 2) := by decide +kernel
theorem dX4_advance_92 : decode cX4_advance 92 = .ok (.if_icmp .gt 10, 3) := by decide +kernel
theorem dX4_advance_95 : decode cX4_advance 95 = .ok (.aload_n 0, 1) := by decide +kernel
theorem dX4_advance_96 : decode cX4_advance 96 = .ok (.invokevirtual 28, 3) := by decide +kernel
theorem dX4_advance_99 : decode cX4_advance 99 = .ok (.goto 41, 3) := by decide +kernel
theorem dX4_advance_102 : decode cX4_advance 102 = .ok (.iload_n 1, 1) := by decide +kernel
theorem dX4_advance_103 : decode cX4_advance 103 = .ok (.bipush 48, 2) := by decide +kernel
theorem dX4_advance_105 : decode cX4_advance 105 = .ok (.if_icmp .lt 20, 3) := by decide +kernel
theorem dX4_advance_108 : decode cX4_advance 108 = .ok (.iload_n 1, 1) := by decide +kernel
theorem dX4_advance_109 : decode cX4_advance 109 = .ok (.bipush 57, 2) := by decide +kernel
theorem dX4_advance_111 : decode cX4_advance 111 = .ok (.if_icmp .gt 14, 3) := by decide +kernel
theorem dX4_advance_114 : decode cX4_advance 114 = .ok (.aload_n 0, 1) := by decide +kernel
theorem dX4_advance_115 : decode cX4_advance 115 = .ok (.iload_n 1, 1) := by decide +kernel
theorem dX4_advance_116 : decode cX4_advance 116 = .ok (.bipush 48, 2) := by decide +kernel
theorem dX4_advance_118 : decode cX4_advance 118 = .ok (.isub, 1) := by decide +kernel
theorem dX4_advance_119 : decode cX4_advance 119 = .ok (.invokevirtual 31, 3) := by decide +kernel
theorem dX4_advance_122 : decode cX4_advance 122 = .ok (.goto 18, 3) := by decide +kernel
theorem dX4_advance_125 : decode cX4_advance 125 = .ok (.aload_n 0, 1) := by decide +kernel
theorem dX4_advance_126 : decode cX4_advance 126 = .ok (.iload_n 1, 1) := by decide +kernel
theorem dX4_advance_127 : decode cX4_advance 127 = .ok (.bipush 59, 2) := by decide +kernel
theorem dX4_advance_129 : decode cX4_advance 129 = .ok (.if_icmp .ne 7, 3) := by decide +kernel
theorem dX4_advance_132 : decode cX4_advance 132 = .ok (.iconst 3, 1) := by decide +kernel
theorem dX4_advance_133 : decode cX4_advance 133 = .ok (.goto 4, 3) := by decide +kernel
theorem dX4_advance_136 : decode cX4_advance 136 = .ok (.iconst 4, 1) := by decide +kernel
theorem dX4_advance_137 : decode cX4_advance 137 = .ok (.putfield 25, 3) := by decide +kernel
theorem dX4_advance_140 : decode cX4_advance 140 = .ok (.return_, 1) := by decide +kernel
theorem dX4_endName_0 : decode cX4_endName 0 = .ok (.aload_n 0, 1) := by decide +kernel
theorem dX4_endName_1 : decode cX4_endName 1 = .ok (.getfield 15, 3) := by decide +kernel
theorem dX4_endName_4 : decode cX4_endName 4 = .ok (.aload_n 0, 1) := by decide +kernel
theorem dX4_endName_5 : decode cX4_endName 5 = .ok (.getfield 19, 3) := by decide +kernel
theorem dX4_endName_8 : decode cX4_endName 8 = .ok (.if_icmp .ge 44, 3) := by decide +kernel
theorem dX4_endName_11 : decode cX4_endName 11 = .ok (.aload_n 0, 1) := by decide +kernel
theorem dX4_endName_12 : decode cX4_endName 12 = .ok (.getfield 9, 3) := by decide +kernel
theorem dX4_endName_15 : decode cX4_endName 15 = .ok (.aload_n 0, 1) := by decide +kernel
theorem dX4_endName_16 : decode cX4_endName 16 = .ok (.getfield 15, 3) := by decide +kernel
theorem dX4_endName_19 : decode cX4_endName 19 = .ok (.baload, 1) := by decide +kernel
theorem dX4_endName_20 : decode cX4_endName 20 = .ok (.bipush 97, 2) := by decide +kernel
theorem dX4_endName_22 : decode cX4_endName 22 = .ok (.if_icmp .lt 30, 3) := by decide +kernel
theorem dX4_endName_25 : decode cX4_endName 25 = .ok (.aload_n 0, 1) := by decide +kernel
theorem dX4_endName_26 : decode cX4_endName 26 = .ok (.getfield 9, 3) := by decide +kernel
theorem dX4_endName_29 : decode cX4_endName 29 = .ok (.aload_n 0, 1) := by decide +kernel
theorem dX4_endName_30 : decode cX4_endName 30 = .ok (.getfield 15, 3) := by decide +kernel
theorem dX4_endName_33 : decode cX4_endName 33 = .ok (.baload, 1) := by decide +kernel
theorem dX4_endName_34 : decode cX4_endName 34 = .ok (.bipush 122, 2) := by decide +kernel
theorem dX4_endName_36 : decode cX4_endName 36 = .ok (.if_icmp .gt 16, 3) := by decide +kernel
theorem dX4_endName_39 : decode cX4_endName 39 = .ok (.aload_n 0, 1) := by decide +kernel
theorem dX4_endName_40 : decode cX4_endName 40 = .ok (.dup, 1) := by decide +kernel
theorem dX4_endName_41 : decode cX4_endName 41 = .ok (.getfield 15, 3) := by decide +kernel
theorem dX4_endName_44 : decode cX4_endName 44 = .ok (.iconst 1, 1) := by decide +kernel
theorem dX4_endName_45 : decode cX4_endName 45 = .ok (.iadd, 1) := by decide +kernel
theorem dX4_endName_46 : decode cX4_endName 46 = .ok (.putfield 15, 3) := by decide +kernel
theorem dX4_endName_49 : decode cX4_endName 49 = .ok (.goto (-49), 3) := by decide +kernel
theorem dX4_endName_52 : decode cX4_endName 52 = .ok (.aload_n 0, 1) := by decide +kernel
theorem dX4_endName_53 : decode cX4_endName 53 = .ok (.iconst 1, 1) := by decide +kernel
theorem dX4_endName_54 : decode cX4_endName 54 = .ok (.putfield 25, 3) := by decide +kernel
theorem dX4_endName_57 : decode cX4_endName 57 = .ok (.return_, 1) := by decide +kernel
theorem dX4_endNumber_0 : decode cX4_endNumber 0 = .ok (.aload_n 0, 1) := by decide +kernel
theorem dX4_endNumber_1 : decode cX4_endNumber 1 = .ok (.iload_n 1, 1) := by decide +kernel
theorem dX4_endNumber_2 : decode cX4_endNumber 2 = .ok (.putfield 35, 3) := by decide +kernel
theorem dX4_endNumber_5 : decode cX4_endNumber 5 = .ok (.aload_n 0, 1) := by decide +kernel
theorem dX4_endNumber_6 : decode cX4_endNumber 6 = .ok (.getfield 15, 3) := by decide +kernel
theorem dX4_endNumber_9 : decode cX4_endNumber 9 = .ok (.aload_n 0, 1) := by decide +kernel
theorem dX4_endNumber_10 : decode cX4_endNumber 10 = .ok (.getfield 19, 3) := by decide +kernel
theorem dX4_endNumber_13 : decode cX4_endNumber 13 = .ok (.if_icmp .ge 68, 3) := by decide +kernel
theorem dX4_endNumber_16 : decode cX4_endNumber 16 = .ok (.aload_n 0, 1) := by decide +kernel
theorem dX4_endNumber_17 : decode cX4_endNumber 17 = .ok (.getfield 9, 3) := by decide +kernel
theorem dX4_endNumber_20 : decode cX4_endNumber 20 = .ok (.aload_n 0, 1) := by decide +kernel
theorem dX4_endNumber_21 : decode cX4_endNumber 21 = .ok (.getfield 15, 3) := by decide +kernel
theorem dX4_endNumber_24 : decode cX4_endNumber 24 = .ok (.baload, 1) := by decide +kernel
theorem dX4_endNumber_25 : decode cX4_endNumber 25 = .ok (.bipush 48, 2) := by decide +kernel
theorem dX4_endNumber_27 : decode cX4_endNumber 27 = .ok (.if_icmp .lt 54, 3) := by decide +kernel
theorem dX4_endNumber_30 : decode cX4_endNumber 30 = .ok (.aload_n 0, 1) := by decide +kernel
theorem dX4_endNumber_31 : decode cX4_endNumber 31 = .ok (.getfield 9, 3) := by decide +kernel
theorem dX4_endNumber_34 : decode cX4_endNumber 34 = .ok (.aload_n 0, 1) := by decide +kernel
theorem dX4_endNumber_35 : decode cX4_endNumber 35 = .ok (.getfield 15, 3) := by decide +kernel
theorem dX4_endNumber_38 : decode cX4_endNumber 38 = .ok (.baload, 1) := by decide +kernel
theorem dX4_endNumber_39 : decode cX4_endNumber 39 = .ok (.bipush 57, 2) := by decide +kernel
theorem dX4_endNumber_41 : decode cX4_endNumber 41 = .ok (.if_icmp .gt 40, 3) := by decide +kernel
theorem dX4_endNumber_44 : decode cX4_endNumber 44 = .ok (.aload_n 0, 1) := by decide +kernel
theorem dX4_endNumber_45 : decode cX4_endNumber 45 = .ok (.aload_n 0, 1) := by decide +kernel
theorem dX4_endNumber_46 : decode cX4_endNumber 46 = .ok (.getfield 35, 3) := by decide +kernel
theorem dX4_endNumber_49 : decode cX4_endNumber 49 = .ok (.bipush 10, 2) := by decide +kernel
theorem dX4_endNumber_51 : decode cX4_endNumber 51 = .ok (.imul, 1) := by decide +kernel
theorem dX4_endNumber_52 : decode cX4_endNumber 52 = .ok (.aload_n 0, 1) := by decide +kernel
theorem dX4_endNumber_53 : decode cX4_endNumber 53 = .ok (.getfield 9, 3) := by decide +kernel
theorem dX4_endNumber_56 : decode cX4_endNumber 56 = .ok (.aload_n 0, 1) := by decide +kernel
theorem dX4_endNumber_57 : decode cX4_endNumber 57 = .ok (.getfield 15, 3) := by decide +kernel
theorem dX4_endNumber_60 : decode cX4_endNumber 60 = .ok (.baload, 1) := by decide +kernel
theorem dX4_endNumber_61 : decode cX4_endNumber 61 = .ok (.iadd, 1) := by decide +kernel
theorem dX4_endNumber_62 : decode cX4_endNumber 62 = .ok (.bipush 48, 2) := by decide +kernel
theorem dX4_endNumber_64 : decode cX4_endNumber 64 = .ok (.isub, 1) := by decide +kernel
theorem dX4_endNumber_65 : decode cX4_endNumber 65 = .ok (.putfield 35, 3) := by decide +kernel
theorem dX4_endNumber_68 : decode cX4_endNumber 68 = .ok (.aload_n 0, 1) := by decide +kernel
theorem dX4_endNumber_69 : decode cX4_endNumber 69 = .ok (.dup, 1) := by decide +kernel
theorem dX4_endNumber_70 : decode cX4_endNumber 70 = .ok (.getfield 15, 3) := by decide +kernel
theorem dX4_endNumber_73 : decode cX4_endNumber 73 = .ok (.iconst 1, 1) := by decide +kernel
theorem dX4_endNumber_74 : decode cX4_endNumber 74 = .ok (.iadd, 1) := by decide +kernel
theorem dX4_endNumber_75 : decode cX4_endNumber 75 = .ok (.putfield 15, 3) := by decide +kernel
theorem dX4_endNumber_78 : decode cX4_endNumber 78 = .ok (.goto (-73), 3) := by decide +kernel
theorem dX4_endNumber_81 : decode cX4_endNumber 81 = .ok (.aload_n 0, 1) := by decide +kernel
theorem dX4_endNumber_82 : decode cX4_endNumber 82 = .ok (.aload_n 0, 1) := by decide +kernel
theorem dX4_endNumber_83 : decode cX4_endNumber 83 = .ok (.getfield 15, 3) := by decide +kernel
theorem dX4_endNumber_86 : decode cX4_endNumber 86 = .ok (.aload_n 0, 1) := by decide +kernel
theorem dX4_endNumber_87 : decode cX4_endNumber 87 = .ok (.getfield 22, 3) := by decide +kernel
theorem dX4_endNumber_90 : decode cX4_endNumber 90 = .ok (.isub, 1) := by decide +kernel
theorem dX4_endNumber_91 : decode cX4_endNumber 91 = .ok (.iconst 2, 1) := by decide +kernel
theorem dX4_endNumber_92 : decode cX4_endNumber 92 = .ok (.if_icmp .gt 7, 3) := by decide +kernel
theorem dX4_endNumber_95 : decode cX4_endNumber 95 = .ok (.iconst 2, 1) := by decide +kernel
theorem dX4_endNumber_96 : decode cX4_endNumber 96 = .ok (.goto 4, 3) := by decide +kernel
theorem dX4_endNumber_99 : decode cX4_endNumber 99 = .ok (.iconst 4, 1) := by decide +kernel
theorem dX4_endNumber_100 : decode cX4_endNumber 100 = .ok (.putfield 25, 3) := by decide +kernel
theorem dX4_endNumber_103 : decode cX4_endNumber 103 = .ok (.return_, 1) := by decide +kernel
theorem dX4_spells_0 : decode cX4_spells 0 = .ok (.aload_n 0, 1) := by decide +kernel
theorem dX4_spells_1 : decode cX4_spells 1 = .ok (.getfield 15, 3) := by decide +kernel
theorem dX4_spells_4 : decode cX4_spells 4 = .ok (.aload_n 0, 1) := by decide +kernel
theorem dX4_spells_5 : decode cX4_spells 5 = .ok (.getfield 22, 3) := by decide +kernel
theorem dX4_spells_8 : decode cX4_spells 8 = .ok (.isub, 1) := by decide +kernel
theorem dX4_spells_9 : decode cX4_spells 9 = .ok (.aload_n 1, 1) := by decide +kernel
theorem dX4_spells_10 : decode cX4_spells 10 = .ok (.invokevirtual 38, 3) := by decide +kernel
theorem dX4_spells_13 : decode cX4_spells 13 = .ok (.if_icmp .eq 5, 3) := by decide +kernel
theorem dX4_spells_16 : decode cX4_spells 16 = .ok (.iconst 0, 1) := by decide +kernel
theorem dX4_spells_17 : decode cX4_spells 17 = .ok (.ireturn, 1) := by decide +kernel
theorem dX4_spells_18 : decode cX4_spells 18 = .ok (.iconst 0, 1) := by decide +kernel
theorem dX4_spells_19 : decode cX4_spells 19 = .ok (.istore_n 2, 1) := by decide +kernel
theorem dX4_spells_20 : decode cX4_spells 20 = .ok (.iload_n 2, 1) := by decide +kernel
theorem dX4_spells_21 : decode cX4_spells 21 = .ok (.aload_n 1, 1) := by decide +kernel
theorem dX4_spells_22 : decode cX4_spells 22 = .ok (.invokevirtual 38, 3) := by decide +kernel
theorem dX4_spells_25 : decode cX4_spells 25 = .ok (.if_icmp .ge 43, 3) := by decide +kernel
theorem dX4_spells_28 : decode cX4_spells 28 = .ok (.aload_n 0, 1) := by decide +kernel
theorem dX4_spells_29 : decode cX4_spells 29 = .ok (.getfield 22, 3) := by decide +kernel
theorem dX4_spells_32 : decode cX4_spells 32 = .ok (.iload_n 2, 1) := by decide +kernel
theorem dX4_spells_33 : decode cX4_spells 33 = .ok (.iadd, 1) := by decide +kernel
theorem dX4_spells_34 : decode cX4_spells 34 = .ok (.aload_n 0, 1) := by decide +kernel
theorem dX4_spells_35 : decode cX4_spells 35 = .ok (.getfield 19, 3) := by decide +kernel
theorem dX4_spells_38 : decode cX4_spells 38 = .ok (.if_icmp .ge 30, 3) := by decide +kernel
theorem dX4_spells_41 : decode cX4_spells 41 = .ok (.aload_n 0, 1) := by decide +kernel
theorem dX4_spells_42 : decode cX4_spells 42 = .ok (.getfield 9, 3) := by decide +kernel
theorem dX4_spells_45 : decode cX4_spells 45 = .ok (.aload_n 0, 1) := by decide +kernel
theorem dX4_spells_46 : decode cX4_spells 46 = .ok (.getfield 22, 3) := by decide +kernel
theorem dX4_spells_49 : decode cX4_spells 49 = .ok (.iload_n 2, 1) := by decide +kernel
theorem dX4_spells_50 : decode cX4_spells 50 = .ok (.iadd, 1) := by decide +kernel
theorem dX4_spells_51 : decode cX4_spells 51 = .ok (.baload, 1) := by decide +kernel
theorem dX4_spells_52 : decode cX4_spells 52 = .ok (.aload_n 1, 1) := by decide +kernel
theorem dX4_spells_53 : decode cX4_spells 53 = .ok (.iload_n 2, 1) := by decide +kernel
theorem dX4_spells_54 : decode cX4_spells 54 = .ok (.invokevirtual 44, 3) := by decide +kernel
theorem dX4_spells_57 : decode cX4_spells 57 = .ok (.if_icmp .eq 5, 3) := by decide +kernel
theorem dX4_spells_60 : decode cX4_spells 60 = .ok (.iconst 0, 1) := by decide +kernel
theorem dX4_spells_61 : decode cX4_spells 61 = .ok (.ireturn, 1) := by decide +kernel
theorem dX4_spells_62 : decode cX4_spells 62 = .ok (.iinc 2 1, 3) := by decide +kernel
theorem dX4_spells_65 : decode cX4_spells 65 = .ok (.goto (-45), 3) := by decide +kernel
theorem dX4_spells_68 : decode cX4_spells 68 = .ok (.iconst 1, 1) := by decide +kernel
theorem dX4_spells_69 : decode cX4_spells 69 = .ok (.ireturn, 1) := by decide +kernel
theorem dX5_init_0 : decode cX5_init 0 = .ok (.aload_n 0, 1) := by decide +kernel
theorem dX5_init_1 : decode cX5_init 1 = .ok (.invokespecial 3, 3) := by decide +kernel
theorem dX5_init_4 : decode cX5_init 4 = .ok (.aload_n 0, 1) := by decide +kernel
theorem dX5_init_5 : decode cX5_init 5 = .ok (.iconst 5, 1) := by decide +kernel
theorem dX5_init_6 : decode cX5_init 6 = .ok (.newarray .int, 2) := by decide +kernel
theorem dX5_init_8 : decode cX5_init 8 = .ok (.putfield 9, 3) := by decide +kernel
theorem dX5_init_11 : decode cX5_init 11 = .ok (.aload_n 0, 1) := by decide +kernel
theorem dX5_init_12 : decode cX5_init 12 = .ok (.iconst 5, 1) := by decide +kernel
theorem dX5_init_13 : decode cX5_init 13 = .ok (.newarray .int, 2) := by decide +kernel
theorem dX5_init_15 : decode cX5_init 15 = .ok (.putfield 15, 3) := by decide +kernel
theorem dX5_init_18 : decode cX5_init 18 = .ok (.aload_n 0, 1) := by decide +kernel
theorem dX5_init_19 : decode cX5_init 19 = .ok (.iconst 5, 1) := by decide +kernel
theorem dX5_init_20 : decode cX5_init 20 = .ok (.newarray .int, 2) := by decide +kernel
theorem dX5_init_22 : decode cX5_init 22 = .ok (.putfield 18, 3) := by decide +kernel
theorem dX5_init_25 : decode cX5_init 25 = .ok (.aload_n 0, 1) := by decide +kernel
theorem dX5_init_26 : decode cX5_init 26 = .ok (.bipush 8, 2) := by decide +kernel
theorem dX5_init_28 : decode cX5_init 28 = .ok (.newarray .int, 2) := by decide +kernel
theorem dX5_init_30 : decode cX5_init 30 = .ok (.putfield 21, 3) := by decide +kernel
theorem dX5_init_33 : decode cX5_init 33 = .ok (.aload_n 0, 1) := by decide +kernel
theorem dX5_init_34 : decode cX5_init 34 = .ok (.bipush 30, 2) := by decide +kernel
theorem dX5_init_36 : decode cX5_init 36 = .ok (.putfield 24, 3) := by decide +kernel
theorem dX5_init_39 : decode cX5_init 39 = .ok (.return_, 1) := by decide +kernel
theorem dX5_clear_0 : decode cX5_clear 0 = .ok (.aload_n 0, 1) := by decide +kernel
theorem dX5_clear_1 : decode cX5_clear 1 = .ok (.iconst 0, 1) := by decide +kernel
theorem dX5_clear_2 : decode cX5_clear 2 = .ok (.putfield 28, 3) := by decide +kernel
theorem dX5_clear_5 : decode cX5_clear 5 = .ok (.aload_n 0, 1) := by decide +kernel
theorem dX5_clear_6 : decode cX5_clear 6 = .ok (.iconst 0, 1) := by decide +kernel
theorem dX5_clear_7 : decode cX5_clear 7 = .ok (.putfield 31, 3) := by decide +kernel
theorem dX5_clear_10 : decode cX5_clear 10 = .ok (.aload_n 0, 1) := by decide +kernel
theorem dX5_clear_11 : decode cX5_clear 11 = .ok (.bipush 30, 2) := by decide +kernel
theorem dX5_clear_13 : decode cX5_clear 13 = .ok (.putfield 24, 3) := by decide +kernel
theorem dX5_clear_16 : decode cX5_clear 16 = .ok (.aload_n 0, 1) := by decide +kernel
theorem dX5_clear_17 : decode cX5_clear 17 = .ok (.iconst 0, 1) := by decide +kernel
theorem dX5_clear_18 : decode cX5_clear 18 = .ok (.putfield 34, 3) := by decide +kernel
theorem dX5_clear_21 : decode cX5_clear 21 = .ok (.aload_n 0, 1) := by decide +kernel
theorem dX5_clear_22 : decode cX5_clear 22 = .ok (.iconst 0, 1) := by decide +kernel
theorem dX5_clear_23 : decode cX5_clear 23 = .ok (.putfield 37, 3) := by decide +kernel
theorem dX5_clear_26 : decode cX5_clear 26 = .ok (.aload_n 0, 1) := by decide +kernel
theorem dX5_clear_27 : decode cX5_clear 27 = .ok (.iconst 0, 1) := by decide +kernel
theorem dX5_clear_28 : decode cX5_clear 28 = .ok (.putfield 40, 3) := by decide +kernel
theorem dX5_clear_31 : decode cX5_clear 31 = .ok (.aload_n 0, 1) := by decide +kernel
theorem dX5_clear_32 : decode cX5_clear 32 = .ok (.iconst 0, 1) := by decide +kernel
theorem dX5_clear_33 : decode cX5_clear 33 = .ok (.putfield 43, 3) := by decide +kernel
theorem dX5_clear_36 : decode cX5_clear 36 = .ok (.return_, 1) := by decide +kernel
theorem dX5_become_0 : decode cX5_become 0 = .ok (.aload_n 1, 1) := by decide +kernel
theorem dX5_become_1 : decode cX5_become 1 = .ok (.getfield 9, 3) := by decide +kernel
theorem dX5_become_4 : decode cX5_become 4 = .ok (.iconst 0, 1) := by decide +kernel
theorem dX5_become_5 : decode cX5_become 5 = .ok (.aload_n 0, 1) := by decide +kernel
theorem dX5_become_6 : decode cX5_become 6 = .ok (.getfield 9, 3) := by decide +kernel
theorem dX5_become_9 : decode cX5_become 9 = .ok (.iconst 0, 1) := by decide +kernel
theorem dX5_become_10 : decode cX5_become 10 = .ok (.iconst 5, 1) := by decide +kernel
theorem dX5_become_11 : decode cX5_become 11 = .ok (.invokestatic 46, 3) := by decide +kernel
theorem dX5_become_14 : decode cX5_become 14 = .ok (.aload_n 1, 1) := by decide +kernel
theorem dX5_become_15 : decode cX5_become 15 = .ok (.getfield 15, 3) := by decide +kernel
theorem dX5_become_18 : decode cX5_become 18 = .ok (.iconst 0, 1) := by decide +kernel
theorem dX5_become_19 : decode cX5_become 19 = .ok (.aload_n 0, 1) := by decide +kernel
theorem dX5_become_20 : decode cX5_become 20 = .ok (.getfield 15, 3) := by decide +kernel
theorem dX5_become_23 : decode cX5_become 23 = .ok (.iconst 0, 1) := by decide +kernel
theorem dX5_become_24 : decode cX5_become 24 = .ok (.iconst 5, 1) := by decide +kernel
theorem dX5_become_25 : decode cX5_become 25 = .ok (.invokestatic 46, 3) := by decide +kernel
theorem dX5_become_28 : decode cX5_become 28 = .ok (.aload_n 1, 1) := by decide +kernel
theorem dX5_become_29 : decode cX5_become 29 = .ok (.getfield 18, 3) := by decide +kernel
theorem dX5_become_32 : decode cX5_become 32 = .ok (.iconst 0, 1) := by decide +kernel
theorem dX5_become_33 : decode cX5_become 33 = .ok (.aload_n 0, 1) := by decide +kernel
theorem dX5_become_34 : decode cX5_become 34 = .ok (.getfield 18, 3) := by decide +kernel
theorem dX5_become_37 : decode cX5_become 37 = .ok (.iconst 0, 1) := by decide +kernel
theorem dX5_become_38 : decode cX5_become 38 = .ok (.iconst 5, 1) := by decide +kernel
theorem dX5_become_39 : decode cX5_become 39 = .ok (.invokestatic 46, 3) := by decide +kernel
theorem dX5_become_42 : decode cX5_become 42 = .ok (.aload_n 1, 1) := by decide +kernel
theorem dX5_become_43 : decode cX5_become 43 = .ok (.getfield 21, 3) := by decide +kernel
theorem dX5_become_46 : decode cX5_become 46 = .ok (.iconst 0, 1) := by decide +kernel
theorem dX5_become_47 : decode cX5_become 47 = .ok (.aload_n 0, 1) := by decide +kernel
theorem dX5_become_48 : decode cX5_become 48 = .ok (.getfield 21, 3) := by decide +kernel
theorem dX5_become_51 : decode cX5_become 51 = .ok (.iconst 0, 1) := by decide +kernel
theorem dX5_become_52 : decode cX5_become 52 = .ok (.bipush 8, 2) := by decide +kernel
theorem dX5_become_54 : decode cX5_become 54 = .ok (.invokestatic 46, 3) := by decide +kernel
theorem dX5_become_57 : decode cX5_become 57 = .ok (.aload_n 0, 1) := by decide +kernel
theorem dX5_become_58 : decode cX5_become 58 = .ok (.aload_n 1, 1) := by decide +kernel
theorem dX5_become_59 : decode cX5_become 59 = .ok (.getfield 28, 3) := by decide +kernel
theorem dX5_become_62 : decode cX5_become 62 = .ok (.putfield 28, 3) := by decide +kernel
theorem dX5_become_65 : decode cX5_become 65 = .ok (.aload_n 0, 1) := by decide +kernel
theorem dX5_become_66 : decode cX5_become 66 = .ok (.aload_n 1, 1) := by decide +kernel
theorem dX5_become_67 : decode cX5_become 67 = .ok (.getfield 31, 3) := by decide +kernel
theorem dX5_become_70 : decode cX5_become 70 = .ok (.putfield 31, 3) := by decide +kernel
theorem dX5_become_73 : decode cX5_become 73 = .ok (.aload_n 0, 1) := by decide +kernel
theorem dX5_become_74 : decode cX5_become 74 = .ok (.aload_n 1, 1) := by decide +kernel
theorem dX5_become_75 : decode cX5_become 75 = .ok (.getfield 24, 3) := by decide +kernel
theorem dX5_become_78 : decode cX5_become 78 = .ok (.putfield 24, 3) := by decide +kernel
theorem dX5_become_81 : decode cX5_become 81 = .ok (.aload_n 0, 1) := by decide +kernel
theorem dX5_become_82 : decode cX5_become 82 = .ok (.aload_n 1, 1) := by decide +kernel
theorem dX5_become_83 : decode cX5_become 83 = .ok (.getfield 34, 3) := by decide +kernel
theorem dX5_become_86 : decode cX5_become 86 = .ok (.putfield 34, 3) := by decide +kernel
theorem dX5_become_89 : decode cX5_become 89 = .ok (.aload_n 0, 1) := by decide +kernel
theorem dX5_become_90 : decode cX5_become 90 = .ok (.aload_n 1, 1) := by decide +kernel
theorem dX5_become_91 : decode cX5_become 91 = .ok (.getfield 37, 3) := by decide +kernel
theorem dX5_become_94 : decode cX5_become 94 = .ok (.putfield 37, 3) := by decide +kernel
theorem dX5_become_97 : decode cX5_become 97 = .ok (.aload_n 0, 1) := by decide +kernel
theorem dX5_become_98 : decode cX5_become 98 = .ok (.iconst 0, 1) := by decide +kernel
theorem dX5_become_99 : decode cX5_become 99 = .ok (.putfield 40, 3) := by decide +kernel
theorem dX5_become_102 : decode cX5_become 102 = .ok (.aload_n 0, 1) := by decide +kernel
theorem dX5_become_103 : decode cX5_become 103 = .ok (.iconst 0, 1) := by decide +kernel
theorem dX5_become_104 : decode cX5_become 104 = .ok (.putfield 43, 3) := by decide +kernel
