theorem dX6_ahead_5 : decode cX6_ahead 5 = .ok (.invokevirtual 116, 3) := by decide +kernel
theorem dX6_ahead_8 : decode cX6_ahead 8 = .ok (.ifCond .eq 13, 3) := by decide +kernel
theorem dX6_ahead_11 : decode cX6_ahead 11 = .ok (.iload_n 2, 1) := by decide +kernel
theorem dX6_ahead_12 : decode cX6_ahead 12 = .ok (.iconst 0, 1) := by decide +kernel
theorem dX6_ahead_13 : decode cX6_ahead 13 = .ok (.bipush 60, 2) := by decide +kernel
theorem dX6_ahead_15 : decode cX6_ahead 15 = .ok (.invokestatic 67, 3) := by decide +kernel
theorem dX6_ahead_18 : decode cX6_ahead 18 = .ok (.ifCond .ne 5, 3) := by decide +kernel
theorem dX6_ahead_21 : decode cX6_ahead 21 = .ok (.iconst (-1), 1) := by decide +kernel
theorem dX6_ahead_22 : decode cX6_ahead 22 = .ok (.ireturn, 1) := by decide +kernel
theorem dX6_ahead_23 : decode cX6_ahead 23 = .ok (.aload_n 0, 1) := by decide +kernel
theorem dX6_ahead_24 : decode cX6_ahead 24 = .ok (.getfield 16, 3) := by decide +kernel
theorem dX6_ahead_27 : decode cX6_ahead 27 = .ok (.aload_n 0, 1) := by decide +kernel
theorem dX6_ahead_28 : decode cX6_ahead 28 = .ok (.getfield 10, 3) := by decide +kernel
theorem dX6_ahead_31 : decode cX6_ahead 31 = .ok (.invokevirtual 86, 3) := by decide +kernel
theorem dX6_ahead_34 : decode cX6_ahead 34 = .ok (.aload_n 0, 1) := by decide +kernel
theorem dX6_ahead_35 : decode cX6_ahead 35 = .ok (.getfield 16, 3) := by decide +kernel
theorem dX6_ahead_38 : decode cX6_ahead 38 = .ok (.iload_n 2, 1) := by decide +kernel
theorem dX6_ahead_39 : decode cX6_ahead 39 = .ok (.invokevirtual 150, 3) := by decide +kernel
theorem dX6_ahead_42 : decode cX6_ahead 42 = .ok (.aload_n 0, 1) := by decide +kernel
theorem dX6_ahead_43 : decode cX6_ahead 43 = .ok (.getfield 16, 3) := by decide +kernel
theorem dX6_ahead_46 : decode cX6_ahead 46 = .ok (.getfield 123, 3) := by decide +kernel
theorem dX6_ahead_49 : decode cX6_ahead 49 = .ok (.iload_n 1, 1) := by decide +kernel
theorem dX6_ahead_50 : decode cX6_ahead 50 = .ok (.iaload, 1) := by decide +kernel
theorem dX6_ahead_51 : decode cX6_ahead 51 = .ok (.ireturn, 1) := by decide +kernel
theorem dX6_under_0 : decode cX6_under 0 = .ok (.iload_n 1, 1) := by decide +kernel
theorem dX6_under_1 : decode cX6_under 1 = .ok (.iconst 0, 1) := by decide +kernel
theorem dX6_under_2 : decode cX6_under 2 = .ok (.sipush 999, 3) := by decide +kernel
theorem dX6_under_5 : decode cX6_under 5 = .ok (.invokestatic 67, 3) := by decide +kernel
theorem dX6_under_8 : decode cX6_under 8 = .ok (.ifCond .ne 5, 3) := by decide +kernel
theorem dX6_under_11 : decode cX6_under 11 = .ok (.iconst (-1), 1) := by decide +kernel
theorem dX6_under_12 : decode cX6_under 12 = .ok (.ireturn, 1) := by decide +kernel
theorem dX6_under_13 : decode cX6_under 13 = .ok (.aload_n 0, 1) := by decide +kernel
theorem dX6_under_14 : decode cX6_under 14 = .ok (.getfield 16, 3) := by decide +kernel
theorem dX6_under_17 : decode cX6_under 17 = .ok (.aload_n 0, 1) := by decide +kernel
theorem dX6_under_18 : decode cX6_under 18 = .ok (.getfield 10, 3) := by decide +kernel
theorem dX6_under_21 : decode cX6_under 21 = .ok (.invokevirtual 86, 3) := by decide +kernel
theorem dX6_under_24 : decode cX6_under 24 = .ok (.iconst 0, 1) := by decide +kernel
theorem dX6_under_25 : decode cX6_under 25 = .ok (.istore_n 2, 1) := by decide +kernel
theorem dX6_under_26 : decode cX6_under 26 = .ok (.iload_n 2, 1) := by decide +kernel
theorem dX6_under_27 : decode cX6_under 27 = .ok (.bipush 60, 2) := by decide +kernel
theorem dX6_under_29 : decode cX6_under 29 = .ok (.if_icmp .gt 29, 3) := by decide +kernel
theorem dX6_under_32 : decode cX6_under 32 = .ok (.aload_n 0, 1) := by decide +kernel
theorem dX6_under_33 : decode cX6_under 33 = .ok (.getfield 16, 3) := by decide +kernel
theorem dX6_under_36 : decode cX6_under 36 = .ok (.invokevirtual 107, 3) := by decide +kernel
theorem dX6_under_39 : decode cX6_under 39 = .ok (.iload_n 1, 1) := by decide +kernel
theorem dX6_under_40 : decode cX6_under 40 = .ok (.if_icmp .gt 5, 3) := by decide +kernel
theorem dX6_under_43 : decode cX6_under 43 = .ok (.iload_n 2, 1) := by decide +kernel
theorem dX6_under_44 : decode cX6_under 44 = .ok (.ireturn, 1) := by decide +kernel
theorem dX6_under_45 : decode cX6_under 45 = .ok (.aload_n 0, 1) := by decide +kernel
theorem dX6_under_46 : decode cX6_under 46 = .ok (.getfield 16, 3) := by decide +kernel
theorem dX6_under_49 : decode cX6_under 49 = .ok (.invokevirtual 156, 3) := by decide +kernel
theorem dX6_under_52 : decode cX6_under 52 = .ok (.iinc 2 1, 3) := by decide +kernel
theorem dX6_under_55 : decode cX6_under 55 = .ok (.goto (-29), 3) := by decide +kernel
theorem dX6_under_58 : decode cX6_under 58 = .ok (.bipush (-4), 2) := by decide +kernel
theorem dX6_under_60 : decode cX6_under 60 = .ok (.ireturn, 1) := by decide +kernel
theorem dX6_light_0 : decode cX6_light 0 = .ok (.aload_n 0, 1) := by decide +kernel
theorem dX6_light_1 : decode cX6_light 1 = .ok (.getfield 10, 3) := by decide +kernel
theorem dX6_light_4 : decode cX6_light 4 = .ok (.iload_n 1, 1) := by decide +kernel
theorem dX6_light_5 : decode cX6_light 5 = .ok (.invokevirtual 116, 3) := by decide +kernel
theorem dX6_light_8 : decode cX6_light 8 = .ok (.ifCond .ne 5, 3) := by decide +kernel
theorem dX6_light_11 : decode cX6_light 11 = .ok (.iconst (-1), 1) := by decide +kernel
theorem dX6_light_12 : decode cX6_light 12 = .ok (.ireturn, 1) := by decide +kernel
theorem dX6_light_13 : decode cX6_light 13 = .ok (.aload_n 0, 1) := by decide +kernel
theorem dX6_light_14 : decode cX6_light 14 = .ok (.getfield 16, 3) := by decide +kernel
theorem dX6_light_17 : decode cX6_light 17 = .ok (.aload_n 0, 1) := by decide +kernel
theorem dX6_light_18 : decode cX6_light 18 = .ok (.getfield 10, 3) := by decide +kernel
theorem dX6_light_21 : decode cX6_light 21 = .ok (.invokevirtual 86, 3) := by decide +kernel
theorem dX6_light_24 : decode cX6_light 24 = .ok (.iconst 0, 1) := by decide +kernel
theorem dX6_light_25 : decode cX6_light 25 = .ok (.istore_n 2, 1) := by decide +kernel
theorem dX6_light_26 : decode cX6_light 26 = .ok (.iload_n 2, 1) := by decide +kernel
theorem dX6_light_27 : decode cX6_light 27 = .ok (.bipush 60, 2) := by decide +kernel
theorem dX6_light_29 : decode cX6_light 29 = .ok (.if_icmp .gt 30, 3) := by decide +kernel
theorem dX6_light_32 : decode cX6_light 32 = .ok (.aload_n 0, 1) := by decide +kernel
theorem dX6_light_33 : decode cX6_light 33 = .ok (.getfield 16, 3) := by decide +kernel
theorem dX6_light_36 : decode cX6_light 36 = .ok (.getfield 123, 3) := by decide +kernel
theorem dX6_light_39 : decode cX6_light 39 = .ok (.iload_n 1, 1) := by decide +kernel
theorem dX6_light_40 : decode cX6_light 40 = .ok (.iaload, 1) := by decide +kernel
theorem dX6_light_41 : decode cX6_light 41 = .ok (.ifCond .ne 5, 3) := by decide +kernel
theorem dX6_light_44 : decode cX6_light 44 = .ok (.iload_n 2, 1) := by decide +kernel
theorem dX6_light_45 : decode cX6_light 45 = .ok (.ireturn, 1) := by decide +kernel
theorem dX6_light_46 : decode cX6_light 46 = .ok (.aload_n 0, 1) := by decide +kernel
theorem dX6_light_47 : decode cX6_light 47 = .ok (.getfield 16, 3) := by decide +kernel
theorem dX6_light_50 : decode cX6_light 50 = .ok (.invokevirtual 156, 3) := by decide +kernel
theorem dX6_light_53 : decode cX6_light 53 = .ok (.iinc 2 1, 3) := by decide +kernel
theorem dX6_light_56 : decode cX6_light 56 = .ok (.goto (-30), 3) := by decide +kernel
theorem dX6_light_59 : decode cX6_light 59 = .ok (.bipush (-4), 2) := by decide +kernel
theorem dX6_light_61 : decode cX6_light 61 = .ok (.ireturn, 1) := by decide +kernel
theorem dX6_order_0 : decode cX6_order 0 = .ok (.iload_n 1, 1) := by decide +kernel
theorem dX6_order_1 : decode cX6_order 1 = .ok (.ifCond .eq 16, 3) := by decide +kernel
theorem dX6_order_4 : decode cX6_order 4 = .ok (.iload_n 1, 1) := by decide +kernel
theorem dX6_order_5 : decode cX6_order 5 = .ok (.bipush 10, 2) := by decide +kernel
theorem dX6_order_7 : decode cX6_order 7 = .ok (.bipush 14, 2) := by decide +kernel
theorem dX6_order_9 : decode cX6_order 9 = .ok (.invokestatic 67, 3) := by decide +kernel
theorem dX6_order_12 : decode cX6_order 12 = .ok (.ifCond .ne 5, 3) := by decide +kernel
theorem dX6_order_15 : decode cX6_order 15 = .ok (.iconst (-1), 1) := by decide +kernel
theorem dX6_order_16 : decode cX6_order 16 = .ok (.ireturn, 1) := by decide +kernel
theorem dX6_order_17 : decode cX6_order 17 = .ok (.aload_n 0, 1) := by decide +kernel
theorem dX6_order_18 : decode cX6_order 18 = .ok (.getfield 10, 3) := by decide +kernel
theorem dX6_order_21 : decode cX6_order 21 = .ok (.getfield 110, 3) := by decide +kernel
theorem dX6_order_24 : decode cX6_order 24 = .ok (.iconst 5, 1) := by decide +kernel
theorem dX6_order_25 : decode cX6_order 25 = .ok (.if_icmp .le 6, 3) := by decide +kernel
theorem dX6_order_28 : decode cX6_order 28 = .ok (.bipush (-2), 2) := by decide +kernel
theorem dX6_order_30 : decode cX6_order 30 = .ok (.ireturn, 1) := by decide +kernel
theorem dX6_order_31 : decode cX6_order 31 = .ok (.aload_n 0, 1) := by decide +kernel
theorem dX6_order_32 : decode cX6_order 32 = .ok (.invokevirtual 167, 3) := by decide +kernel
theorem dX6_order_35 : decode cX6_order 35 = .ok (.istore_n 2, 1) := by decide +kernel
theorem dX6_order_36 : decode cX6_order 36 = .ok (.iload_n 1, 1) := by decide +kernel
theorem dX6_order_37 : decode cX6_order 37 = .ok (.ifCond .ne 5, 3) := by decide +kernel
theorem dX6_order_40 : decode cX6_order 40 = .ok (.iload_n 2, 1) := by decide +kernel
theorem dX6_order_41 : decode cX6_order 41 = .ok (.ireturn, 1) := by decide +kernel
theorem dX6_order_42 : decode cX6_order 42 = .ok (.iload_n 1, 1) := by decide +kernel
theorem dX6_order_43 : decode cX6_order 43 = .ok (.bipush 10, 2) := by decide +kernel
theorem dX6_order_45 : decode cX6_order 45 = .ok (.isub, 1) := by decide +kernel
theorem dX6_order_46 : decode cX6_order 46 = .ok (.aload_n 0, 1) := by decide +kernel
theorem dX6_order_47 : decode cX6_order 47 = .ok (.getfield 10, 3) := by decide +kernel
theorem dX6_order_50 : decode cX6_order 50 = .ok (.getfield 110, 3) := by decide +kernel
theorem dX6_order_53 : decode cX6_order 53 = .ok (.if_icmp .ge 15, 3) := by decide +kernel
theorem dX6_order_56 : decode cX6_order 56 = .ok (.aload_n 0, 1) := by decide +kernel
theorem dX6_order_57 : decode cX6_order 57 = .ok (.getfield 62, 3) := by decide +kernel
theorem dX6_order_60 : decode cX6_order 60 = .ok (.iload_n 1, 1) := by decide +kernel
theorem dX6_order_61 : decode cX6_order 61 = .ok (.bipush 10, 2) := by decide +kernel
theorem dX6_order_63 : decode cX6_order 63 = .ok (.isub, 1) := by decide +kernel
theorem dX6_order_64 : decode cX6_order 64 = .ok (.iaload, 1) := by decide +kernel
theorem dX6_order_65 : decode cX6_order 65 = .ok (.goto 5, 3) := by decide +kernel
theorem dX6_order_68 : decode cX6_order 68 = .ok (.bipush (-4), 2) := by decide +kernel
theorem dX6_order_70 : decode cX6_order 70 = .ok (.ireturn, 1) := by decide +kernel
theorem dX6_extra_0 : decode cX6_extra 0 = .ok (.iload_n 1, 1) := by decide +kernel
theorem dX6_extra_1 : decode cX6_extra 1 = .ok (.iconst 0, 1) := by decide +kernel
theorem dX6_extra_2 : decode cX6_extra 2 = .ok (.bipush 60, 2) := by decide +kernel
theorem dX6_extra_4 : decode cX6_extra 4 = .ok (.invokestatic 67, 3) := by decide +kernel
theorem dX6_extra_7 : decode cX6_extra 7 = .ok (.ifCond .eq 12, 3) := by decide +kernel
theorem dX6_extra_10 : decode cX6_extra 10 = .ok (.iload_n 2, 1) := by decide +kernel
theorem dX6_extra_11 : decode cX6_extra 11 = .ok (.iconst 0, 1) := by decide +kernel
theorem dX6_extra_12 : decode cX6_extra 12 = .ok (.iconst 1, 1) := by decide +kernel
theorem dX6_extra_13 : decode cX6_extra 13 = .ok (.invokestatic 67, 3) := by decide +kernel
theorem dX6_extra_16 : decode cX6_extra 16 = .ok (.ifCond .ne 5, 3) := by decide +kernel
theorem dX6_extra_19 : decode cX6_extra 19 = .ok (.iconst (-1), 1) := by decide +kernel
theorem dX6_extra_20 : decode cX6_extra 20 = .ok (.ireturn, 1) := by decide +kernel
theorem dX6_extra_21 : decode cX6_extra 21 = .ok (.aload_n 0, 1) := by decide +kernel
theorem dX6_extra_22 : decode cX6_extra 22 = .ok (.getfield 10, 3) := by decide +kernel
theorem dX6_extra_25 : decode cX6_extra 25 = .ok (.getfield 110, 3) := by decide +kernel
theorem dX6_extra_28 : decode cX6_extra 28 = .ok (.bipush 8, 2) := by decide +kernel
theorem dX6_extra_30 : decode cX6_extra 30 = .ok (.if_icmp .lt 6, 3) := by decide +kernel
theorem dX6_extra_33 : decode cX6_extra 33 = .ok (.bipush (-3), 2) := by decide +kernel
theorem dX6_extra_35 : decode cX6_extra 35 = .ok (.ireturn, 1) := by decide +kernel
theorem dX6_extra_36 : decode cX6_extra 36 = .ok (.bipush (-4), 2) := by decide +kernel
theorem dX6_extra_38 : decode cX6_extra 38 = .ok (.istore_n 3, 1) := by decide +kernel
theorem dX6_extra_39 : decode cX6_extra 39 = .ok (.bipush (-4), 2) := by decide +kernel
theorem dX6_extra_41 : decode cX6_extra 41 = .ok (.istore 4, 2) := by decide +kernel
theorem dX6_extra_43 : decode cX6_extra 43 = .ok (.iconst 0, 1) := by decide +kernel
theorem dX6_extra_44 : decode cX6_extra 44 = .ok (.istore 5, 2) := by decide +kernel
theorem dX6_extra_46 : decode cX6_extra 46 = .ok (.iload 5, 2) := by decide +kernel
theorem dX6_extra_48 : decode cX6_extra 48 = .ok (.aload_n 0, 1) := by decide +kernel
theorem dX6_extra_49 : decode cX6_extra 49 = .ok (.getfield 10, 3) := by decide +kernel
theorem dX6_extra_52 : decode cX6_extra 52 = .ok (.getfield 95, 3) := by decide +kernel
theorem dX6_extra_55 : decode cX6_extra 55 = .ok (.if_icmp .ge 67, 3) := by decide +kernel
theorem dX6_extra_58 : decode cX6_extra 58 = .ok (.aload_n 0, 1) := by decide +kernel
theorem dX6_extra_59 : decode cX6_extra 59 = .ok (.getfield 16, 3) := by decide +kernel
theorem dX6_extra_62 : decode cX6_extra 62 = .ok (.aload_n 0, 1) := by decide +kernel
theorem dX6_extra_63 : decode cX6_extra 63 = .ok (.getfield 10, 3) := by decide +kernel
theorem dX6_extra_66 : decode cX6_extra 66 = .ok (.invokevirtual 86, 3) := by decide +kernel
theorem dX6_extra_69 : decode cX6_extra 69 = .ok (.aload_n 0, 1) := by decide +kernel
theorem dX6_extra_70 : decode cX6_extra 70 = .ok (.getfield 16, 3) := by decide +kernel
theorem dX6_extra_73 : decode cX6_extra 73 = .ok (.iload 5, 2) := by decide +kernel
theorem dX6_extra_75 : decode cX6_extra 75 = .ok (.invokevirtual 146, 3) := by decide +kernel
theorem dX6_extra_78 : decode cX6_extra 78 = .ok (.aload_n 0, 1) := by decide +kernel
theorem dX6_extra_79 : decode cX6_extra 79 = .ok (.getfield 16, 3) := by decide +kernel
theorem dX6_extra_82 : decode cX6_extra 82 = .ok (.iload_n 1, 1) := by decide +kernel
theorem dX6_extra_83 : decode cX6_extra 83 = .ok (.invokevirtual 150, 3) := by decide +kernel
theorem dX6_extra_86 : decode cX6_extra 86 = .ok (.iload_n 3, 1) := by decide +kernel
theorem dX6_extra_87 : decode cX6_extra 87 = .ok (.bipush (-4), 2) := by decide +kernel
theorem dX6_extra_89 : decode cX6_extra 89 = .ok (.if_icmp .eq 15, 3) := by decide +kernel
theorem dX6_extra_92 : decode cX6_extra 92 = .ok (.aload_n 0, 1) := by decide +kernel
theorem dX6_extra_93 : decode cX6_extra 93 = .ok (.getfield 16, 3) := by decide +kernel
theorem dX6_extra_96 : decode cX6_extra 96 = .ok (.invokevirtual 107, 3) := by decide +kernel
theorem dX6_extra_99 : decode cX6_extra 99 = .ok (.iload 4, 2) := by decide +kernel
theorem dX6_extra_101 : decode cX6_extra 101 = .ok (.if_icmp .ge 15, 3) := by decide +kernel
theorem dX6_extra_104 : decode cX6_extra 104 = .ok (.iload 5, 2) := by decide +kernel
theorem dX6_extra_106 : decode cX6_extra 106 = .ok (.istore_n 3, 1) := by decide +kernel
theorem dX6_extra_107 : decode cX6_extra 107 = .ok (.aload_n 0, 1) := by decide +kernel
theorem dX6_extra_108 : decode cX6_extra 108 = .ok (.getfield 16, 3) := by decide +kernel
theorem dX6_extra_111 : decode cX6_extra 111 = .ok (.invokevirtual 107, 3) := by decide +kernel
theorem dX6_extra_114 : decode cX6_extra 114 = .ok (.istore 4, 2) := by decide +kernel
theorem dX6_extra_116 : decode cX6_extra 116 = .ok (.iinc 5 1, 3) := by decide +kernel
theorem dX6_extra_119 : decode cX6_extra 119 = .ok (.goto (-73), 3) := by decide +kernel
theorem dX6_extra_122 : decode cX6_extra 122 = .ok (.iload_n 2, 1) := by decide +kernel
theorem dX6_extra_123 : decode cX6_extra 123 = .ok (.ifCond .ne 7, 3) := by decide +kernel
theorem dX6_extra_126 : decode cX6_extra 126 = .ok (.iload_n 3, 1) := by decide +kernel
theorem dX6_extra_127 : decode cX6_extra 127 = .ok (.goto 5, 3) := by decide +kernel
theorem dX6_extra_130 : decode cX6_extra 130 = .ok (.iload 4, 2) := by decide +kernel
theorem dX6_extra_132 : decode cX6_extra 132 = .ok (.ireturn, 1) := by decide +kernel
theorem dX6_spare_0 : decode cX6_spare 0 = .ok (.iload_n 1, 1) := by decide +kernel
theorem dX6_spare_1 : decode cX6_spare 1 = .ok (.iconst 0, 1) := by decide +kernel
theorem dX6_spare_2 : decode cX6_spare 2 = .ok (.bipush 60, 2) := by decide +kernel
theorem dX6_spare_4 : decode cX6_spare 4 = .ok (.invokestatic 67, 3) := by decide +kernel
theorem dX6_spare_7 : decode cX6_spare 7 = .ok (.ifCond .eq 12, 3) := by decide +kernel
theorem dX6_spare_10 : decode cX6_spare 10 = .ok (.iload_n 2, 1) := by decide +kernel
theorem dX6_spare_11 : decode cX6_spare 11 = .ok (.iconst 0, 1) := by decide +kernel
theorem dX6_spare_12 : decode cX6_spare 12 = .ok (.iconst 1, 1) := by decide +kernel
theorem dX6_spare_13 : decode cX6_spare 13 = .ok (.invokestatic 67, 3) := by decide +kernel
theorem dX6_spare_16 : decode cX6_spare 16 = .ok (.ifCond .ne 5, 3) := by decide +kernel
theorem dX6_spare_19 : decode cX6_spare 19 = .ok (.iconst (-1), 1) := by decide +kernel
theorem dX6_spare_20 : decode cX6_spare 20 = .ok (.ireturn, 1) := by decide +kernel
theorem dX6_spare_21 : decode cX6_spare 21 = .ok (.aload_n 0, 1) := by decide +kernel
theorem dX6_spare_22 : decode cX6_spare 22 = .ok (.getfield 16, 3) := by decide +kernel
theorem dX6_spare_25 : decode cX6_spare 25 = .ok (.aload_n 0, 1) := by decide +kernel
theorem dX6_spare_26 : decode cX6_spare 26 = .ok (.getfield 10, 3) := by decide +kernel
theorem dX6_spare_29 : decode cX6_spare 29 = .ok (.invokevirtual 86, 3) := by decide +kernel
theorem dX6_spare_32 : decode cX6_spare 32 = .ok (.aload_n 0, 1) := by decide +kernel
theorem dX6_spare_33 : decode cX6_spare 33 = .ok (.getfield 16, 3) := by decide +kernel
theorem dX6_spare_36 : decode cX6_spare 36 = .ok (.iload_n 1, 1) := by decide +kernel
theorem dX6_spare_37 : decode cX6_spare 37 = .ok (.invokevirtual 150, 3) := by decide +kernel
theorem dX6_spare_40 : decode cX6_spare 40 = .ok (.aload_n 0, 1) := by decide +kernel
theorem dX6_spare_41 : decode cX6_spare 41 = .ok (.getfield 16, 3) := by decide +kernel
theorem dX6_spare_44 : decode cX6_spare 44 = .ok (.getfield 164, 3) := by decide +kernel
theorem dX6_spare_47 : decode cX6_spare 47 = .ok (.istore_n 3, 1) := by decide +kernel
theorem dX6_spare_48 : decode cX6_spare 48 = .ok (.bipush (-4), 2) := by decide +kernel
theorem dX6_spare_50 : decode cX6_spare 50 = .ok (.istore 4, 2) := by decide +kernel
theorem dX6_spare_52 : decode cX6_spare 52 = .ok (.iconst 0, 1) := by decide +kernel
theorem dX6_spare_53 : decode cX6_spare 53 = .ok (.istore 5, 2) := by decide +kernel
theorem dX6_spare_55 : decode cX6_spare 55 = .ok (.iload 5, 2) := by decide +kernel
theorem dX6_spare_57 : decode cX6_spare 57 = .ok (.aload_n 0, 1) := by decide +kernel
theorem dX6_spare_58 : decode cX6_spare 58 = .ok (.getfield 10, 3) := by decide +kernel
theorem dX6_spare_61 : decode cX6_spare 61 = .ok (.getfield 110, 3) := by decide +kernel
theorem dX6_spare_64 : decode cX6_spare 64 = .ok (.if_icmp .ge 60, 3) := by decide +kernel
theorem dX6_spare_67 : decode cX6_spare 67 = .ok (.aload_n 0, 1) := by decide +kernel
theorem dX6_spare_68 : decode cX6_spare 68 = .ok (.getfield 16, 3) := by decide +kernel
theorem dX6_spare_71 : decode cX6_spare 71 = .ok (.aload_n 0, 1) := by decide +kernel
theorem dX6_spare_72 : decode cX6_spare 72 = .ok (.getfield 10, 3) := by decide +kernel
theorem dX6_spare_75 : decode cX6_spare 75 = .ok (.invokevirtual 86, 3) := by decide +kernel
theorem dX6_spare_78 : decode cX6_spare 78 = .ok (.aload_n 0, 1) := by decide +kernel
theorem dX6_spare_79 : decode cX6_spare 79 = .ok (.getfield 16, 3) := by decide +kernel
theorem dX6_spare_82 : decode cX6_spare 82 = .ok (.iload 5, 2) := by decide +kernel
theorem dX6_spare_84 : decode cX6_spare 84 = .ok (.invokevirtual 170, 3) := by decide +kernel
theorem dX6_spare_87 : decode cX6_spare 87 = .ok (.aload_n 0, 1) := by decide +kernel
theorem dX6_spare_88 : decode cX6_spare 88 = .ok (.getfield 16, 3) := by decide +kernel
theorem dX6_spare_91 : decode cX6_spare 91 = .ok (.iload_n 1, 1) := by decide +kernel
theorem dX6_spare_92 : decode cX6_spare 92 = .ok (.invokevirtual 150, 3) := by decide +kernel
theorem dX6_spare_95 : decode cX6_spare 95 = .ok (.aload_n 0, 1) := by decide +kernel
theorem dX6_spare_96 : decode cX6_spare 96 = .ok (.getfield 16, 3) := by decide +kernel
theorem dX6_spare_99 : decode cX6_spare 99 = .ok (.getfield 164, 3) := by decide +kernel
theorem dX6_spare_102 : decode cX6_spare 102 = .ok (.iload_n 3, 1) := by decide +kernel
theorem dX6_spare_103 : decode cX6_spare 103 = .ok (.if_icmp .ge 15, 3) := by decide +kernel
theorem dX6_spare_106 : decode cX6_spare 106 = .ok (.iload 5, 2) := by decide +kernel
theorem dX6_spare_108 : decode cX6_spare 108 = .ok (.istore 4, 2) := by decide +kernel
theorem dX6_spare_110 : decode cX6_spare 110 = .ok (.aload_n 0, 1) := by decide +kernel
theorem dX6_spare_111 : decode cX6_spare 111 = .ok (.getfield 16, 3) := by decide +kernel
theorem dX6_spare_114 : decode cX6_spare 114 = .ok (.getfield 164, 3) := by decide +kernel
theorem dX6_spare_117 : decode cX6_spare 117 = .ok (.istore_n 3, 1) := by decide +kernel
theorem dX6_spare_118 : decode cX6_spare 118 = .ok (.iinc 5 1, 3) := by decide +kernel
theorem dX6_spare_121 : decode cX6_spare 121 = .ok (.goto (-66), 3) := by decide +kernel
theorem dX6_spare_124 : decode cX6_spare 124 = .ok (.iload_n 2, 1) := by decide +kernel
theorem dX6_spare_125 : decode cX6_spare 125 = .ok (.ifCond .eq 10, 3) := by decide +kernel
theorem dX6_spare_128 : decode cX6_spare 128 = .ok (.iload 4, 2) := by decide +kernel
theorem dX6_spare_130 : decode cX6_spare 130 = .ok (.bipush (-4), 2) := by decide +kernel
theorem dX6_spare_132 : decode cX6_spare 132 = .ok (.if_icmp .ne 8, 3) := by decide +kernel
theorem dX6_spare_135 : decode cX6_spare 135 = .ok (.iload 4, 2) := by decide +kernel
theorem dX6_spare_137 : decode cX6_spare 137 = .ok (.goto 4, 3) := by decide +kernel
theorem dX6_spare_140 : decode cX6_spare 140 = .ok (.iload_n 3, 1) := by decide +kernel
theorem dX6_spare_141 : decode cX6_spare 141 = .ok (.ireturn, 1) := by decide +kernel
theorem dX6_swap_0 : decode cX6_swap 0 = .ok (.iload_n 1, 1) := by decide +kernel
theorem dX6_swap_1 : decode cX6_swap 1 = .ok (.iconst 0, 1) := by decide +kernel
theorem dX6_swap_2 : decode cX6_swap 2 = .ok (.bipush 60, 2) := by decide +kernel
theorem dX6_swap_4 : decode cX6_swap 4 = .ok (.invokestatic 67, 3) := by decide +kernel
theorem dX6_swap_7 : decode cX6_swap 7 = .ok (.ifCond .eq 12, 3) := by decide +kernel
theorem dX6_swap_10 : decode cX6_swap 10 = .ok (.iload_n 2, 1) := by decide +kernel
theorem dX6_swap_11 : decode cX6_swap 11 = .ok (.iconst 0, 1) := by decide +kernel
theorem dX6_swap_12 : decode cX6_swap 12 = .ok (.iconst 1, 1) := by decide +kernel
theorem dX6_swap_13 : decode cX6_swap 13 = .ok (.invokestatic 67, 3) := by decide +kernel
theorem dX6_swap_16 : decode cX6_swap 16 = .ok (.ifCond .ne 5, 3) := by decide +kernel
theorem dX6_swap_19 : decode cX6_swap 19 = .ok (.iconst (-1), 1) := by decide +kernel
theorem dX6_swap_20 : decode cX6_swap 20 = .ok (.ireturn, 1) := by decide +kernel
theorem dX6_swap_21 : decode cX6_swap 21 = .ok (.aload_n 0, 1) := by decide +kernel
theorem dX6_swap_22 : decode cX6_swap 22 = .ok (.getfield 16, 3) := by decide +kernel
theorem dX6_swap_25 : decode cX6_swap 25 = .ok (.aload_n 0, 1) := by decide +kernel
theorem dX6_swap_26 : decode cX6_swap 26 = .ok (.getfield 10, 3) := by decide +kernel
theorem dX6_swap_29 : decode cX6_swap 29 = .ok (.invokevirtual 86, 3) := by decide +kernel
theorem dX6_swap_32 : decode cX6_swap 32 = .ok (.aload_n 0, 1) := by decide +kernel
theorem dX6_swap_33 : decode cX6_swap 33 = .ok (.getfield 16, 3) := by decide +kernel
theorem dX6_swap_36 : decode cX6_swap 36 = .ok (.iload_n 1, 1) := by decide +kernel
theorem dX6_swap_37 : decode cX6_swap 37 = .ok (.invokevirtual 150, 3) := by decide +kernel
theorem dX6_swap_40 : decode cX6_swap 40 = .ok (.aload_n 0, 1) := by decide +kernel
theorem dX6_swap_41 : decode cX6_swap 41 = .ok (.getfield 16, 3) := by decide +kernel
theorem dX6_swap_44 : decode cX6_swap 44 = .ok (.invokevirtual 107, 3) := by decide +kernel
theorem dX6_swap_47 : decode cX6_swap 47 = .ok (.istore_n 3, 1) := by decide +kernel
theorem dX6_swap_48 : decode cX6_swap 48 = .ok (.bipush (-4), 2) := by decide +kernel
theorem dX6_swap_50 : decode cX6_swap 50 = .ok (.istore 4, 2) := by decide +kernel
theorem dX6_swap_52 : decode cX6_swap 52 = .ok (.iconst 0, 1) := by decide +kernel
theorem dX6_swap_53 : decode cX6_swap 53 = .ok (.istore 5, 2) := by decide +kernel
theorem dX6_swap_55 : decode cX6_swap 55 = .ok (.iload 5, 2) := by decide +kernel
theorem dX6_swap_57 : decode cX6_swap 57 = .ok (.aload_n 0, 1) := by decide +kernel
theorem dX6_swap_58 : decode cX6_swap 58 = .ok (.getfield 10, 3) := by decide +kernel
theorem dX6_swap_61 : decode cX6_swap 61 = .ok (.getfield 110, 3) := by decide +kernel
theorem dX6_swap_64 : decode cX6_swap 64 = .ok (.if_icmp .ge 95, 3) := by decide +kernel
theorem dX6_swap_67 : decode cX6_swap 67 = .ok (.iload 5, 2) := by decide +kernel
theorem dX6_swap_69 : decode cX6_swap 69 = .ok (.iconst 1, 1) := by decide +kernel
theorem dX6_swap_70 : decode cX6_swap 70 = .ok (.iadd, 1) := by decide +kernel
theorem dX6_swap_71 : decode cX6_swap 71 = .ok (.istore 6, 2) := by decide +kernel
theorem dX6_swap_73 : decode cX6_swap 73 = .ok (.iload 6, 2) := by decide +kernel
theorem dX6_swap_75 : decode cX6_swap 75 = .ok (.aload_n 0, 1) := by decide +kernel
theorem dX6_swap_76 : decode cX6_swap 76 = .ok (.getfield 10, 3) := by decide +kernel
theorem dX6_swap_79 : decode cX6_swap 79 = .ok (.getfield 110, 3) := by decide +kernel
theorem dX6_swap_82 : decode cX6_swap 82 = .ok (.if_icmp .ge 71, 3) := by decide +kernel
theorem dX6_swap_85 : decode cX6_swap 85 = .ok (.aload_n 0, 1) := by decide +kernel
theorem dX6_swap_86 : decode cX6_swap 86 = .ok (.getfield 16, 3) := by decide +kernel
theorem dX6_swap_89 : decode cX6_swap 89 = .ok (.aload_n 0, 1) := by decide +kernel
theorem dX6_swap_90 : decode cX6_swap 90 = .ok (.getfield 10, 3) := by decide +kernel
theorem dX6_swap_93 : decode cX6_swap 93 = .ok (.invokevirtual 86, 3) := by decide +kernel
theorem dX6_swap_96 : decode cX6_swap 96 = .ok (.aload_n 0, 1) := by decide +kernel
theorem dX6_swap_97 : decode cX6_swap 97 = .ok (.getfield 16, 3) := by decide +kernel
theorem dX6_swap_100 : decode cX6_swap 100 = .ok (.getfield 140, 3) := by decide +kernel
theorem dX6_swap_103 : decode cX6_swap 103 = .ok (.iload 5, 2) := by decide +kernel
theorem dX6_swap_105 : decode cX6_swap 105 = .ok (.iload 6, 2) := by decide +kernel
theorem dX6_swap_107 : decode cX6_swap 107 = .ok (.invokestatic 173, 3) := by decide +kernel
theorem dX6_swap_110 : decode cX6_swap 110 = .ok (.aload_n 0, 1) := by decide +kernel
theorem dX6_swap_111 : decode cX6_swap 111 = .ok (.getfield 16, 3) := by decide +kernel
theorem dX6_swap_114 : decode cX6_swap 114 = .ok (.iload_n 1, 1) := by decide +kernel
theorem dX6_swap_115 : decode cX6_swap 115 = .ok (.invokevirtual 150, 3) := by decide +kernel
theorem dX6_swap_118 : decode cX6_swap 118 = .ok (.aload_n 0, 1) := by decide +kernel
theorem dX6_swap_119 : decode cX6_swap 119 = .ok (.getfield 16, 3) := by decide +kernel
theorem dX6_swap_122 : decode cX6_swap 122 = .ok (.invokevirtual 107, 3) := by decide +kernel
theorem dX6_swap_125 : decode cX6_swap 125 = .ok (.iload_n 3, 1) := by decide +kernel
theorem dX6_swap_126 : decode cX6_swap 126 = .ok (.if_icmp .ge 21, 3) := by decide +kernel
theorem dX6_swap_129 : decode cX6_swap 129 = .ok (.bipush 10, 2) := by decide +kernel
theorem dX6_swap_131 : decode cX6_swap 131 = .ok (.iload 5, 2) := by decide +kernel
theorem dX6_swap_133 : decode cX6_swap 133 = .ok (.imul, 1) := by decide +kernel
theorem dX6_swap_134 : decode cX6_swap 134 = .ok (.iload 6, 2) := by decide +kernel
theorem dX6_swap_136 : decode cX6_swap 136 = .ok (.iadd, 1) := by decide +kernel
theorem dX6_swap_137 : decode cX6_swap 137 = .ok (.istore 4, 2) := by decide +kernel
theorem dX6_swap_139 : decode cX6_swap 139 = .ok (.aload_n 0, 1) := by decide +kernel
theorem dX6_swap_140 : decode cX6_swap 140 = .ok (.getfield 16, 3) := by decide +kernel
theorem dX6_swap_143 : decode cX6_swap 143 = .ok (.invokevirtual 107, 3) := by decide +kernel
theorem dX6_swap_146 : decode cX6_swap 146 = .ok (.istore_n 3, 1) := by decide +kernel
theorem dX6_swap_147 : decode cX6_swap 147 = .ok (.iinc 6 1, 3) := by decide +kernel
theorem dX6_swap_150 : decode cX6_swap 150 = .ok (.goto (-77), 3) := by decide +kernel
theorem dX6_swap_153 : decode cX6_swap 153 = .ok (.iinc 5 1, 3) := by decide +kernel
theorem dX6_swap_156 : decode cX6_swap 156 = .ok (.goto (-101), 3) := by decide +kernel
theorem dX6_swap_159 : decode cX6_swap 159 = .ok (.iload_n 2, 1) := by decide +kernel
theorem dX6_swap_160 : decode cX6_swap 160 = .ok (.ifCond .eq 10, 3) := by decide +kernel
theorem dX6_swap_163 : decode cX6_swap 163 = .ok (.iload 4, 2) := by decide +kernel
theorem dX6_swap_165 : decode cX6_swap 165 = .ok (.bipush (-4), 2) := by decide +kernel
theorem dX6_swap_167 : decode cX6_swap 167 = .ok (.if_icmp .ne 8, 3) := by decide +kernel
theorem dX6_swap_170 : decode cX6_swap 170 = .ok (.iload 4, 2) := by decide +kernel
theorem dX6_swap_172 : decode cX6_swap 172 = .ok (.goto 4, 3) := by decide +kernel
theorem dX6_swap_175 : decode cX6_swap 175 = .ok (.iload_n 3, 1) := by decide +kernel
theorem dX6_swap_176 : decode cX6_swap 176 = .ok (.ireturn, 1) := by decide +kernel
theorem dX6_most_0 : decode cX6_most 0 = .ok (.iload_n 1, 1) := by decide +kernel
theorem dX6_most_1 : decode cX6_most 1 = .ok (.iconst 0, 1) := by decide +kernel
theorem dX6_most_2 : decode cX6_most 2 = .ok (.bipush 60, 2) := by decide +kernel
theorem dX6_most_4 : decode cX6_most 4 = .ok (.invokestatic 67, 3) := by decide +kernel
theorem dX6_most_7 : decode cX6_most 7 = .ok (.ifCond .ne 5, 3) := by decide +kernel
theorem dX6_most_10 : decode cX6_most 10 = .ok (.iconst (-1), 1) := by decide +kernel
theorem dX6_most_11 : decode cX6_most 11 = .ok (.ireturn, 1) := by decide +kernel
theorem dX6_most_12 : decode cX6_most 12 = .ok (.bipush 99, 2) := by decide +kernel
theorem dX6_most_14 : decode cX6_most 14 = .ok (.istore_n 2, 1) := by decide +kernel
theorem dX6_most_15 : decode cX6_most 15 = .ok (.iload_n 2, 1) := by decide +kernel
theorem dX6_most_16 : decode cX6_most 16 = .ok (.iconst 1, 1) := by decide +kernel
theorem dX6_most_17 : decode cX6_most 17 = .ok (.if_icmp .lt 41, 3) := by decide +kernel
theorem dX6_most_20 : decode cX6_most 20 = .ok (.aload_n 0, 1) := by decide +kernel
theorem dX6_most_21 : decode cX6_most 21 = .ok (.getfield 16, 3) := by decide +kernel
theorem dX6_most_24 : decode cX6_most 24 = .ok (.aload_n 0, 1) := by decide +kernel
theorem dX6_most_25 : decode cX6_most 25 = .ok (.getfield 10, 3) := by decide +kernel
theorem dX6_most_28 : decode cX6_most 28 = .ok (.invokevirtual 86, 3) := by decide +kernel
theorem dX6_most_31 : decode cX6_most 31 = .ok (.aload_n 0, 1) := by decide +kernel
theorem dX6_most_32 : decode cX6_most 32 = .ok (.getfield 16, 3) := by decide +kernel
theorem dX6_most_35 : decode cX6_most 35 = .ok (.iload_n 2, 1) := by decide +kernel
theorem dX6_most_36 : decode cX6_most 36 = .ok (.putfield 104, 3) := by decide +kernel
theorem dX6_most_39 : decode cX6_most 39 = .ok (.aload_n 0, 1) := by decide +kernel
theorem dX6_most_40 : decode cX6_most 40 = .ok (.getfield 16, 3) := by decide +kernel
theorem dX6_most_43 : decode cX6_most 43 = .ok (.iload_n 1, 1) := by decide +kernel
theorem dX6_most_44 : decode cX6_most 44 = .ok (.invokevirtual 177, 3) := by decide +kernel
theorem dX6_most_47 : decode cX6_most 47 = .ok (.ifCond .eq 5, 3) := by decide +kernel
theorem dX6_most_50 : decode cX6_most 50 = .ok (.iload_n 2, 1) := by decide +kernel
theorem dX6_most_51 : decode cX6_most 51 = .ok (.ireturn, 1) := by decide +kernel
theorem dX6_most_52 : decode cX6_most 52 = .ok (.iinc 2 (-1), 3) := by decide +kernel
theorem dX6_most_55 : decode cX6_most 55 = .ok (.goto (-40), 3) := by decide +kernel
theorem dX6_most_58 : decode cX6_most 58 = .ok (.bipush (-4), 2) := by decide +kernel
theorem dX6_most_60 : decode cX6_most 60 = .ok (.ireturn, 1) := by decide +kernel
theorem dX6_need_0 : decode cX6_need 0 = .ok (.aload_n 0, 1) := by decide +kernel
theorem dX6_need_1 : decode cX6_need 1 = .ok (.getfield 10, 3) := by decide +kernel
theorem dX6_need_4 : decode cX6_need 4 = .ok (.iload_n 1, 1) := by decide +kernel
theorem dX6_need_5 : decode cX6_need 5 = .ok (.invokevirtual 116, 3) := by decide +kernel
theorem dX6_need_8 : decode cX6_need 8 = .ok (.ifCond .eq 13, 3) := by decide +kernel
theorem dX6_need_11 : decode cX6_need 11 = .ok (.iload_n 2, 1) := by decide +kernel
theorem dX6_need_12 : decode cX6_need 12 = .ok (.iconst 0, 1) := by decide +kernel
theorem dX6_need_13 : decode cX6_need 13 = .ok (.bipush 60, 2) := by decide +kernel
theorem dX6_need_15 : decode cX6_need 15 = .ok (.invokestatic 67, 3) := by decide +kernel
theorem dX6_need_18 : decode cX6_need 18 = .ok (.ifCond .ne 5, 3) := by decide +kernel
theorem dX6_need_21 : decode cX6_need 21 = .ok (.iconst (-1), 1) := by decide +kernel
theorem dX6_need_22 : decode cX6_need 22 = .ok (.ireturn, 1) := by decide +kernel
theorem dX6_need_23 : decode cX6_need 23 = .ok (.iconst 1, 1) := by decide +kernel
theorem dX6_need_24 : decode cX6_need 24 = .ok (.istore_n 3, 1) := by decide +kernel
theorem dX6_need_25 : decode cX6_need 25 = .ok (.iload_n 3, 1) := by decide +kernel
theorem dX6_need_26 : decode cX6_need 26 = .ok (.bipush 99, 2) := by decide +kernel
theorem dX6_need_28 : decode cX6_need 28 = .ok (.if_icmp .gt 43, 3) := by decide +kernel
theorem dX6_need_31 : decode cX6_need 31 = .ok (.aload_n 0, 1) := by decide +kernel
theorem dX6_need_32 : decode cX6_need 32 = .ok (.getfield 16, 3) := by decide +kernel
theorem dX6_need_35 : decode cX6_need 35 = .ok (.aload_n 0, 1) := by decide +kernel
theorem dX6_need_36 : decode cX6_need 36 = .ok (.getfield 10, 3) := by decide +kernel
theorem dX6_need_39 : decode cX6_need 39 = .ok (.invokevirtual 86, 3) := by decide +kernel
theorem dX6_need_42 : decode cX6_need 42 = .ok (.aload_n 0, 1) := by decide +kernel
theorem dX6_need_43 : decode cX6_need 43 = .ok (.getfield 16, 3) := by decide +kernel
theorem dX6_need_46 : decode cX6_need 46 = .ok (.getfield 126, 3) := by decide +kernel
theorem dX6_need_49 : decode cX6_need 49 = .ok (.iload_n 1, 1) := by decide +kernel
theorem dX6_need_50 : decode cX6_need 50 = .ok (.iload_n 3, 1) := by decide +kernel
theorem dX6_need_51 : decode cX6_need 51 = .ok (.iastore, 1) := by decide +kernel
theorem dX6_need_52 : decode cX6_need 52 = .ok (.aload_n 0, 1) := by decide +kernel
theorem dX6_need_53 : decode cX6_need 53 = .ok (.getfield 16, 3) := by decide +kernel
theorem dX6_need_56 : decode cX6_need 56 = .ok (.iload_n 2, 1) := by decide +kernel
theorem dX6_need_57 : decode cX6_need 57 = .ok (.invokevirtual 177, 3) := by decide +kernel
theorem dX6_need_60 : decode cX6_need 60 = .ok (.ifCond .eq 5, 3) := by decide +kernel
theorem dX6_need_63 : decode cX6_need 63 = .ok (.iload_n 3, 1) := by decide +kernel
theorem dX6_need_64 : decode cX6_need 64 = .ok (.ireturn, 1) := by decide +kernel
theorem dX6_need_65 : decode cX6_need 65 = .ok (.iinc 3 1, 3) := by decide +kernel
theorem dX6_need_68 : decode cX6_need 68 = .ok (.goto (-43), 3) := by decide +kernel
theorem dX6_need_71 : decode cX6_need 71 = .ok (.bipush (-4), 2) := by decide +kernel
theorem dX6_need_73 : decode cX6_need 73 = .ok (.ireturn, 1) := by decide +kernel
theorem dX6_kind_0 : decode cX6_kind 0 = .ok (.aload_n 0, 1) := by decide +kernel
theorem dX6_kind_1 : decode cX6_kind 1 = .ok (.getfield 10, 3) := by decide +kernel
theorem dX6_kind_4 : decode cX6_kind 4 = .ok (.iload_n 1, 1) := by decide +kernel
theorem dX6_kind_5 : decode cX6_kind 5 = .ok (.invokevirtual 116, 3) := by decide +kernel
theorem dX6_kind_8 : decode cX6_kind 8 = .ok (.ifCond .eq 22, 3) := by decide +kernel
theorem dX6_kind_11 : decode cX6_kind 11 = .ok (.iload_n 2, 1) := by decide +kernel
theorem dX6_kind_12 : decode cX6_kind 12 = .ok (.iconst 0, 1) := by decide +kernel
theorem dX6_kind_13 : decode cX6_kind 13 = .ok (.bipush 60, 2) := by decide +kernel
theorem dX6_kind_15 : decode cX6_kind 15 = .ok (.invokestatic 67, 3) := by decide +kernel
theorem dX6_kind_18 : decode cX6_kind 18 = .ok (.ifCond .eq 12, 3) := by decide +kernel
theorem dX6_kind_21 : decode cX6_kind 21 = .ok (.iload_n 3, 1) := by decide +kernel
theorem dX6_kind_22 : decode cX6_kind 22 = .ok (.iconst 0, 1) := by decide +kernel
theorem dX6_kind_23 : decode cX6_kind 23 = .ok (.iconst 1, 1) := by decide +kernel
theorem dX6_kind_24 : decode cX6_kind 24 = .ok (.invokestatic 67, 3) := by decide +kernel
theorem dX6_kind_27 : decode cX6_kind 27 = .ok (.ifCond .ne 5, 3) := by decide +kernel
theorem dX6_kind_30 : decode cX6_kind 30 = .ok (.iconst (-1), 1) := by decide +kernel
theorem dX6_kind_31 : decode cX6_kind 31 = .ok (.ireturn, 1) := by decide +kernel
theorem dX6_kind_32 : decode cX6_kind 32 = .ok (.bipush (-4), 2) := by decide +kernel
theorem dX6_kind_34 : decode cX6_kind 34 = .ok (.istore 4, 2) := by decide +kernel
theorem dX6_kind_36 : decode cX6_kind 36 = .ok (.bipush (-4), 2) := by decide +kernel
theorem dX6_kind_38 : decode cX6_kind 38 = .ok (.istore 5, 2) := by decide +kernel
theorem dX6_kind_40 : decode cX6_kind 40 = .ok (.iconst 0, 1) := by decide +kernel
theorem dX6_kind_41 : decode cX6_kind 41 = .ok (.istore 6, 2) := by decide +kernel
theorem dX6_kind_43 : decode cX6_kind 43 = .ok (.iload 6, 2) := by decide +kernel
theorem dX6_kind_45 : decode cX6_kind 45 = .ok (.iconst 4, 1) := by decide +kernel
theorem dX6_kind_46 : decode cX6_kind 46 = .ok (.if_icmp .ge 71, 3) := by decide +kernel
theorem dX6_kind_49 : decode cX6_kind 49 = .ok (.aload_n 0, 1) := by decide +kernel
theorem dX6_kind_50 : decode cX6_kind 50 = .ok (.getfield 16, 3) := by decide +kernel
theorem dX6_kind_53 : decode cX6_kind 53 = .ok (.aload_n 0, 1) := by decide +kernel
theorem dX6_kind_54 : decode cX6_kind 54 = .ok (.getfield 10, 3) := by decide +kernel
theorem dX6_kind_57 : decode cX6_kind 57 = .ok (.invokevirtual 86, 3) := by decide +kernel
theorem dX6_kind_60 : decode cX6_kind 60 = .ok (.aload_n 0, 1) := by decide +kernel
theorem dX6_kind_61 : decode cX6_kind 61 = .ok (.getfield 16, 3) := by decide +kernel
theorem dX6_kind_64 : decode cX6_kind 64 = .ok (.getfield 120, 3) := by decide +kernel
theorem dX6_kind_67 : decode cX6_kind 67 = .ok (.iload_n 1, 1) := by decide +kernel
theorem dX6_kind_68 : decode cX6_kind 68 = .ok (.iload 6, 2) := by decide +kernel
theorem dX6_kind_70 : decode cX6_kind 70 = .ok (.iastore, 1) := by decide +kernel
theorem dX6_kind_71 : decode cX6_kind 71 = .ok (.aload_n 0, 1) := by decide +kernel
theorem dX6_kind_72 : decode cX6_kind 72 = .ok (.getfield 16, 3) := by decide +kernel
theorem dX6_kind_75 : decode cX6_kind 75 = .ok (.iload_n 2, 1) := by decide +kernel
theorem dX6_kind_76 : decode cX6_kind 76 = .ok (.invokevirtual 150, 3) := by decide +kernel
theorem dX6_kind_79 : decode cX6_kind 79 = .ok (.iload 4, 2) := by decide +kernel
theorem dX6_kind_81 : decode cX6_kind 81 = .ok (.bipush (-4), 2) := by decide +kernel
theorem dX6_kind_83 : decode cX6_kind 83 = .ok (.if_icmp .eq 15, 3) := by decide +kernel
theorem dX6_kind_86 : decode cX6_kind 86 = .ok (.aload_n 0, 1) := by decide +kernel
theorem dX6_kind_87 : decode cX6_kind 87 = .ok (.getfield 16, 3) := by decide +kernel
theorem dX6_kind_90 : decode cX6_kind 90 = .ok (.invokevirtual 107, 3) := by decide +kernel
theorem dX6_kind_93 : decode cX6_kind 93 = .ok (.iload 5, 2) := by decide +kernel
theorem dX6_kind_95 : decode cX6_kind 95 = .ok (.if_icmp .ge 16, 3) := by decide +kernel
theorem dX6_kind_98 : decode cX6_kind 98 = .ok (.iload 6, 2) := by decide +kernel
theorem dX6_kind_100 : decode cX6_kind 100 = .ok (.istore 4, 2) := by decide +kernel
theorem dX6_kind_102 : decode cX6_kind 102 = .ok (.aload_n 0, 1) := by decide +kernel
theorem dX6_kind_103 : decode cX6_kind 103 = .ok (.getfield 16, 3) := by decide +kernel
theorem dX6_kind_106 : decode cX6_kind 106 = .ok (.invokevirtual 107, 3) := by decide +kernel
theorem dX6_kind_109 : decode cX6_kind 109 = .ok (.istore 5, 2) := by decide +kernel
theorem dX6_kind_111 : decode cX6_kind 111 = .ok (.iinc 6 1, 3) := by decide +kernel
theorem dX6_kind_114 : decode cX6_kind 114 = .ok (.goto (-71), 3) := by decide +kernel
theorem dX6_kind_117 : decode cX6_kind 117 = .ok (.iload_n 3, 1) := by decide +kernel
theorem dX6_kind_118 : decode cX6_kind 118 = .ok (.ifCond .ne 8, 3) := by decide +kernel
theorem dX6_kind_121 : decode cX6_kind 121 = .ok (.iload 4, 2) := by decide +kernel
theorem dX6_kind_123 : decode cX6_kind 123 = .ok (.goto 5, 3) := by decide +kernel
theorem dX6_kind_126 : decode cX6_kind 126 = .ok (.iload 5, 2) := by decide +kernel
theorem dX6_kind_128 : decode cX6_kind 128 = .ok (.ireturn, 1) := by decide +kernel
theorem dX6_luck_0 : decode cX6_luck 0 = .ok (.iload_n 1, 1) := by decide +kernel
theorem dX6_luck_1 : decode cX6_luck 1 = .ok (.iload_n 2, 1) := by decide +kernel
theorem dX6_luck_2 : decode cX6_luck 2 = .ok (.iload 4, 2) := by decide +kernel
theorem dX6_luck_4 : decode cX6_luck 4 = .ok (.invokestatic 180, 3) := by decide +kernel
theorem dX6_luck_7 : decode cX6_luck 7 = .ok (.ifCond .eq 14, 3) := by decide +kernel
theorem dX6_luck_10 : decode cX6_luck 10 = .ok (.iload_n 3, 1) := by decide +kernel
theorem dX6_luck_11 : decode cX6_luck 11 = .ok (.iconst 0, 1) := by decide +kernel
theorem dX6_luck_12 : decode cX6_luck 12 = .ok (.sipush 999, 3) := by decide +kernel
theorem dX6_luck_15 : decode cX6_luck 15 = .ok (.invokestatic 67, 3) := by decide +kernel
theorem dX6_luck_18 : decode cX6_luck 18 = .ok (.ifCond .ne 7, 3) := by decide +kernel
theorem dX6_luck_21 : decode cX6_luck 21 = .ok (.ldc2_w 183, 3) := by decide +kernel
theorem dX6_luck_24 : decode cX6_luck 24 = .ok (.lreturn, 1) := by decide +kernel
theorem dX6_luck_25 : decode cX6_luck 25 = .ok (.lconst 0, 1) := by decide +kernel
theorem dX6_luck_26 : decode cX6_luck 26 = .ok (.lstore 5, 2) := by decide +kernel
theorem dX6_luck_28 : decode cX6_luck 28 = .ok (.iconst 0, 1) := by decide +kernel
theorem dX6_luck_29 : decode cX6_luck 29 = .ok (.istore 7, 2) := by decide +kernel
theorem dX6_luck_31 : decode cX6_luck 31 = .ok (.iload 7, 2) := by decide +kernel
theorem dX6_luck_33 : decode cX6_luck 33 = .ok (.iconst 1, 1) := by decide +kernel
theorem dX6_luck_34 : decode cX6_luck 34 = .ok (.iload_n 2, 1) := by decide +kernel
theorem dX6_luck_35 : decode cX6_luck 35 = .ok (.ishl, 1) := by decide +kernel
theorem dX6_luck_36 : decode cX6_luck 36 = .ok (.if_icmp .ge 37, 3) := by decide +kernel
theorem dX6_luck_39 : decode cX6_luck 39 = .ok (.aload_n 0, 1) := by decide +kernel
theorem dX6_luck_40 : decode cX6_luck 40 = .ok (.iload 7, 2) := by decide +kernel
theorem dX6_luck_42 : decode cX6_luck 42 = .ok (.iload_n 1, 1) := by decide +kernel
theorem dX6_luck_43 : decode cX6_luck 43 = .ok (.iload_n 2, 1) := by decide +kernel
theorem dX6_luck_44 : decode cX6_luck 44 = .ok (.invokevirtual 185, 3) := by decide +kernel
theorem dX6_luck_47 : decode cX6_luck 47 = .ok (.lstore 8, 2) := by decide +kernel
theorem dX6_luck_49 : decode cX6_luck 49 = .ok (.aload_n 0, 1) := by decide +kernel
theorem dX6_luck_50 : decode cX6_luck 50 = .ok (.getfield 16, 3) := by decide +kernel
theorem dX6_luck_53 : decode cX6_luck 53 = .ok (.invokevirtual 107, 3) := by decide +kernel
theorem dX6_luck_56 : decode cX6_luck 56 = .ok (.iload_n 3, 1) := by decide +kernel
theorem dX6_luck_57 : decode cX6_luck 57 = .ok (.if_icmp .gt 10, 3) := by decide +kernel
theorem dX6_luck_60 : decode cX6_luck 60 = .ok (.lload 5, 2) := by decide +kernel
theorem dX6_luck_62 : decode cX6_luck 62 = .ok (.lload 8, 2) := by decide +kernel
theorem dX6_luck_64 : decode cX6_luck 64 = .ok (.ladd, 1) := by decide +kernel
theorem dX6_luck_65 : decode cX6_luck 65 = .ok (.lstore 5, 2) := by decide +kernel
theorem dX6_luck_67 : decode cX6_luck 67 = .ok (.iinc 7 1, 3) := by decide +kernel
theorem dX6_luck_70 : decode cX6_luck 70 = .ok (.goto (-39), 3) := by decide +kernel
theorem dX6_luck_73 : decode cX6_luck 73 = .ok (.lload 5, 2) := by decide +kernel
theorem dX6_luck_75 : decode cX6_luck 75 = .ok (.iload_n 2, 1) := by decide +kernel
theorem dX6_luck_76 : decode cX6_luck 76 = .ok (.invokestatic 189, 3) := by decide +kernel
theorem dX6_luck_79 : decode cX6_luck 79 = .ok (.iload 4, 2) := by decide +kernel
theorem dX6_luck_81 : decode cX6_luck 81 = .ok (.invokestatic 193, 3) := by decide +kernel
theorem dX6_luck_84 : decode cX6_luck 84 = .ok (.lreturn, 1) := by decide +kernel
theorem dX6_mean_0 : decode cX6_mean 0 = .ok (.iload_n 1, 1) := by decide +kernel
theorem dX6_mean_1 : decode cX6_mean 1 = .ok (.iload_n 2, 1) := by decide +kernel
theorem dX6_mean_2 : decode cX6_mean 2 = .ok (.iload_n 3, 1) := by decide +kernel
theorem dX6_mean_3 : decode cX6_mean 3 = .ok (.invokestatic 180, 3) := by decide +kernel
theorem dX6_mean_6 : decode cX6_mean 6 = .ok (.ifCond .ne 7, 3) := by decide +kernel
theorem dX6_mean_9 : decode cX6_mean 9 = .ok (.ldc2_w 183, 3) := by decide +kernel
theorem dX6_mean_12 : decode cX6_mean 12 = .ok (.lreturn, 1) := by decide +kernel
theorem dX6_mean_13 : decode cX6_mean 13 = .ok (.lconst 0, 1) := by decide +kernel
theorem dX6_mean_14 : decode cX6_mean 14 = .ok (.lstore 4, 2) := by decide +kernel
theorem dX6_mean_16 : decode cX6_mean 16 = .ok (.iconst 0, 1) := by decide +kernel
theorem dX6_mean_17 : decode cX6_mean 17 = .ok (.istore 6, 2) := by decide +kernel
theorem dX6_mean_19 : decode cX6_mean 19 = .ok (.iload 6, 2) := by decide +kernel
theorem dX6_mean_21 : decode cX6_mean 21 = .ok (.iconst 1, 1) := by decide +kernel
theorem dX6_mean_22 : decode cX6_mean 22 = .ok (.iload_n 2, 1) := by decide +kernel
theorem dX6_mean_23 : decode cX6_mean 23 = .ok (.ishl, 1) := by decide +kernel
theorem dX6_mean_24 : decode cX6_mean 24 = .ok (.if_icmp .ge 35, 3) := by decide +kernel
theorem dX6_mean_27 : decode cX6_mean 27 = .ok (.aload_n 0, 1) := by decide +kernel
theorem dX6_mean_28 : decode cX6_mean 28 = .ok (.iload 6, 2) := by decide +kernel
theorem dX6_mean_30 : decode cX6_mean 30 = .ok (.iload_n 1, 1) := by decide +kernel
theorem dX6_mean_31 : decode cX6_mean 31 = .ok (.iload_n 2, 1) := by decide +kernel
theorem dX6_mean_32 : decode cX6_mean 32 = .ok (.invokevirtual 185, 3) := by decide +kernel
theorem dX6_mean_35 : decode cX6_mean 35 = .ok (.lstore 7, 2) := by decide +kernel
theorem dX6_mean_37 : decode cX6_mean 37 = .ok (.lload 4, 2) := by decide +kernel
theorem dX6_mean_39 : decode cX6_mean 39 = .ok (.lload 7, 2) := by decide +kernel
theorem dX6_mean_41 : decode cX6_mean 41 = .ok (.aload_n 0, 1) := by decide +kernel
theorem dX6_mean_42 : decode cX6_mean 42 = .ok (.getfield 16, 3) := by decide +kernel
theorem dX6_mean_45 : decode cX6_mean 45 = .ok (.invokevirtual 107, 3) := by decide +kernel
theorem dX6_mean_48 : decode cX6_mean 48 = .ok (.i2l, 1) := by decide +kernel
theorem dX6_mean_49 : decode cX6_mean 49 = .ok (.lmul, 1) := by decide +kernel
theorem dX6_mean_50 : decode cX6_mean 50 = .ok (.ladd, 1) := by decide +kernel
theorem dX6_mean_51 : decode cX6_mean 51 = .ok (.lstore 4, 2) := by decide +kernel
theorem dX6_mean_53 : decode cX6_mean 53 = .ok (.iinc 6 1, 3) := by decide +kernel
theorem dX6_mean_56 : decode cX6_mean 56 = .ok (.goto (-37), 3) := by decide +kernel
theorem dX6_mean_59 : decode cX6_mean 59 = .ok (.lload 4, 2) := by decide +kernel
theorem dX6_mean_61 : decode cX6_mean 61 = .ok (.iload_n 2, 1) := by decide +kernel
theorem dX6_mean_62 : decode cX6_mean 62 = .ok (.invokestatic 189, 3) := by decide +kernel
theorem dX6_mean_65 : decode cX6_mean 65 = .ok (.iload_n 3, 1) := by decide +kernel
theorem dX6_mean_66 : decode cX6_mean 66 = .ok (.invokestatic 193, 3) := by decide +kernel
theorem dX6_mean_69 : decode cX6_mean 69 = .ok (.lreturn, 1) := by decide +kernel
theorem dX6_see_0 : decode cX6_see 0 = .ok (.iload_n 1, 1) := by decide +kernel
theorem dX6_see_1 : decode cX6_see 1 = .ok (.iconst 0, 1) := by decide +kernel
theorem dX6_see_2 : decode cX6_see 2 = .ok (.bipush 24, 2) := by decide +kernel
theorem dX6_see_4 : decode cX6_see 4 = .ok (.invokestatic 67, 3) := by decide +kernel
theorem dX6_see_7 : decode cX6_see 7 = .ok (.ifCond .eq 24, 3) := by decide +kernel
theorem dX6_see_10 : decode cX6_see 10 = .ok (.aload_n 0, 1) := by decide +kernel
theorem dX6_see_11 : decode cX6_see 11 = .ok (.getfield 10, 3) := by decide +kernel
theorem dX6_see_14 : decode cX6_see 14 = .ok (.iload_n 2, 1) := by decide +kernel
theorem dX6_see_15 : decode cX6_see 15 = .ok (.invokevirtual 116, 3) := by decide +kernel
theorem dX6_see_18 : decode cX6_see 18 = .ok (.ifCond .eq 13, 3) := by decide +kernel
theorem dX6_see_21 : decode cX6_see 21 = .ok (.iload_n 3, 1) := by decide +kernel
theorem dX6_see_22 : decode cX6_see 22 = .ok (.iconst 0, 1) := by decide +kernel
theorem dX6_see_23 : decode cX6_see 23 = .ok (.bipush 99, 2) := by decide +kernel
theorem dX6_see_25 : decode cX6_see 25 = .ok (.invokestatic 67, 3) := by decide +kernel
theorem dX6_see_28 : decode cX6_see 28 = .ok (.ifCond .ne 5, 3) := by decide +kernel
theorem dX6_see_31 : decode cX6_see 31 = .ok (.iconst (-1), 1) := by decide +kernel
theorem dX6_see_32 : decode cX6_see 32 = .ok (.ireturn, 1) := by decide +kernel
theorem dX6_see_33 : decode cX6_see 33 = .ok (.aload_n 0, 1) := by decide +kernel
theorem dX6_see_34 : decode cX6_see 34 = .ok (.getfield 26, 3) := by decide +kernel
theorem dX6_see_37 : decode cX6_see 37 = .ok (.getfield 90, 3) := by decide +kernel
theorem dX6_see_40 : decode cX6_see 40 = .ok (.bipush 6, 2) := by decide +kernel
theorem dX6_see_42 : decode cX6_see 42 = .ok (.if_icmp .lt 6, 3) := by decide +kernel
theorem dX6_see_45 : decode cX6_see 45 = .ok (.bipush (-3), 2) := by decide +kernel
theorem dX6_see_47 : decode cX6_see 47 = .ok (.ireturn, 1) := by decide +kernel
theorem dX6_see_48 : decode cX6_see 48 = .ok (.aload_n 0, 1) := by decide +kernel
theorem dX6_see_49 : decode cX6_see 49 = .ok (.getfield 26, 3) := by decide +kernel
theorem dX6_see_52 : decode cX6_see 52 = .ok (.iload_n 1, 1) := by decide +kernel
theorem dX6_see_53 : decode cX6_see 53 = .ok (.iload_n 2, 1) := by decide +kernel
theorem dX6_see_54 : decode cX6_see 54 = .ok (.iload_n 3, 1) := by decide +kernel
theorem dX6_see_55 : decode cX6_see 55 = .ok (.invokevirtual 197, 3) := by decide +kernel
theorem dX6_see_58 : decode cX6_see 58 = .ok (.aload_n 0, 1) := by decide +kernel
theorem dX6_see_59 : decode cX6_see 59 = .ok (.getfield 26, 3) := by decide +kernel
theorem dX6_see_62 : decode cX6_see 62 = .ok (.getfield 90, 3) := by decide +kernel
theorem dX6_see_65 : decode cX6_see 65 = .ok (.ireturn, 1) := by decide +kernel
theorem dX6_forget_0 : decode cX6_forget 0 = .ok (.iload_n 1, 1) := by decide +kernel
theorem dX6_forget_1 : decode cX6_forget 1 = .ok (.iconst 0, 1) := by decide +kernel
theorem dX6_forget_2 : decode cX6_forget 2 = .ok (.aload_n 0, 1) := by decide +kernel
theorem dX6_forget_3 : decode cX6_forget 3 = .ok (.getfield 26, 3) := by decide +kernel
theorem dX6_forget_6 : decode cX6_forget 6 = .ok (.getfield 90, 3) := by decide +kernel
theorem dX6_forget_9 : decode cX6_forget 9 = .ok (.invokestatic 67, 3) := by decide +kernel
theorem dX6_forget_12 : decode cX6_forget 12 = .ok (.ifCond .ne 5, 3) := by decide +kernel
theorem dX6_forget_15 : decode cX6_forget 15 = .ok (.iconst (-1), 1) := by decide +kernel
theorem dX6_forget_16 : decode cX6_forget 16 = .ok (.ireturn, 1) := by decide +kernel
theorem dX6_forget_17 : decode cX6_forget 17 = .ok (.aload_n 0, 1) := by decide +kernel
theorem dX6_forget_18 : decode cX6_forget 18 = .ok (.getfield 26, 3) := by decide +kernel
theorem dX6_forget_21 : decode cX6_forget 21 = .ok (.getfield 90, 3) := by decide +kernel
theorem dX6_forget_24 : decode cX6_forget 24 = .ok (.istore_n 2, 1) := by decide +kernel
theorem dX6_forget_25 : decode cX6_forget 25 = .ok (.aload_n 0, 1) := by decide +kernel
theorem dX6_forget_26 : decode cX6_forget 26 = .ok (.getfield 26, 3) := by decide +kernel
theorem dX6_forget_29 : decode cX6_forget 29 = .ok (.iload_n 1, 1) := by decide +kernel
theorem dX6_forget_30 : decode cX6_forget 30 = .ok (.putfield 90, 3) := by decide +kernel
theorem dX6_forget_33 : decode cX6_forget 33 = .ok (.iload_n 2, 1) := by decide +kernel
theorem dX6_forget_34 : decode cX6_forget 34 = .ok (.ireturn, 1) := by decide +kernel
theorem dX6_kinds_0 : decode cX6_kinds 0 = .ok (.aload_n 0, 1) := by decide +kernel
theorem dX6_kinds_1 : decode cX6_kinds 1 = .ok (.getfield 10, 3) := by decide +kernel
theorem dX6_kinds_4 : decode cX6_kinds 4 = .ok (.iload_n 1, 1) := by decide +kernel
theorem dX6_kinds_5 : decode cX6_kinds 5 = .ok (.invokevirtual 116, 3) := by decide +kernel
theorem dX6_kinds_8 : decode cX6_kinds 8 = .ok (.ifCond .eq 11, 3) := by decide +kernel
theorem dX6_kinds_11 : decode cX6_kinds 11 = .ok (.aload_n 0, 1) := by decide +kernel
theorem dX6_kinds_12 : decode cX6_kinds 12 = .ok (.iload_n 1, 1) := by decide +kernel
theorem dX6_kinds_13 : decode cX6_kinds 13 = .ok (.invokevirtual 201, 3) := by decide +kernel
theorem dX6_kinds_16 : decode cX6_kinds 16 = .ok (.goto 4, 3) := by decide +kernel
theorem dX6_kinds_19 : decode cX6_kinds 19 = .ok (.iconst (-1), 1) := by decide +kernel
theorem dX6_kinds_20 : decode cX6_kinds 20 = .ok (.ireturn, 1) := by decide +kernel
theorem dX6_griefs_0 : decode cX6_griefs 0 = .ok (.aload_n 0, 1) := by decide +kernel
theorem dX6_griefs_1 : decode cX6_griefs 1 = .ok (.getfield 10, 3) := by decide +kernel
theorem dX6_griefs_4 : decode cX6_griefs 4 = .ok (.iload_n 1, 1) := by decide +kernel
theorem dX6_griefs_5 : decode cX6_griefs 5 = .ok (.invokevirtual 116, 3) := by decide +kernel
theorem dX6_griefs_8 : decode cX6_griefs 8 = .ok (.ifCond .ne 5, 3) := by decide +kernel
theorem dX6_griefs_11 : decode cX6_griefs 11 = .ok (.iconst (-1), 1) := by decide +kernel
theorem dX6_griefs_12 : decode cX6_griefs 12 = .ok (.ireturn, 1) := by decide +kernel
theorem dX6_griefs_13 : decode cX6_griefs 13 = .ok (.iconst 0, 1) := by decide +kernel
theorem dX6_griefs_14 : decode cX6_griefs 14 = .ok (.istore_n 2, 1) := by decide +kernel
theorem dX6_griefs_15 : decode cX6_griefs 15 = .ok (.iconst 0, 1) := by decide +kernel
theorem dX6_griefs_16 : decode cX6_griefs 16 = .ok (.istore_n 3, 1) := by decide +kernel
theorem dX6_griefs_17 : decode cX6_griefs 17 = .ok (.iload_n 3, 1) := by decide +kernel
theorem dX6_griefs_18 : decode cX6_griefs 18 = .ok (.bipush 30, 2) := by decide +kernel
theorem dX6_griefs_20 : decode cX6_griefs 20 = .ok (.if_icmp .gt 50, 3) := by decide +kernel
theorem dX6_griefs_23 : decode cX6_griefs 23 = .ok (.aload_n 0, 1) := by decide +kernel
theorem dX6_griefs_24 : decode cX6_griefs 24 = .ok (.getfield 16, 3) := by decide +kernel
theorem dX6_griefs_27 : decode cX6_griefs 27 = .ok (.aload_n 0, 1) := by decide +kernel
theorem dX6_griefs_28 : decode cX6_griefs 28 = .ok (.getfield 10, 3) := by decide +kernel
theorem dX6_griefs_31 : decode cX6_griefs 31 = .ok (.invokevirtual 86, 3) := by decide +kernel
theorem dX6_griefs_34 : decode cX6_griefs 34 = .ok (.aload_n 0, 1) := by decide +kernel
theorem dX6_griefs_35 : decode cX6_griefs 35 = .ok (.getfield 16, 3) := by decide +kernel
theorem dX6_griefs_38 : decode cX6_griefs 38 = .ok (.getfield 123, 3) := by decide +kernel
theorem dX6_griefs_41 : decode cX6_griefs 41 = .ok (.iload_n 1, 1) := by decide +kernel
theorem dX6_griefs_42 : decode cX6_griefs 42 = .ok (.iload_n 3, 1) := by decide +kernel
theorem dX6_griefs_43 : decode cX6_griefs 43 = .ok (.iastore, 1) := by decide +kernel
theorem dX6_griefs_44 : decode cX6_griefs 44 = .ok (.aload_n 0, 1) := by decide +kernel
theorem dX6_griefs_45 : decode cX6_griefs 45 = .ok (.getfield 26, 3) := by decide +kernel
theorem dX6_griefs_48 : decode cX6_griefs 48 = .ok (.aload_n 0, 1) := by decide +kernel
theorem dX6_griefs_49 : decode cX6_griefs 49 = .ok (.getfield 16, 3) := by decide +kernel
theorem dX6_griefs_52 : decode cX6_griefs 52 = .ok (.invokevirtual 204, 3) := by decide +kernel
theorem dX6_griefs_55 : decode cX6_griefs 55 = .ok (.ifCond .eq 9, 3) := by decide +kernel
theorem dX6_griefs_58 : decode cX6_griefs 58 = .ok (.iload_n 2, 1) := by decide +kernel
theorem dX6_griefs_59 : decode cX6_griefs 59 = .ok (.iconst 1, 1) := by decide +kernel
theorem dX6_griefs_60 : decode cX6_griefs 60 = .ok (.iload_n 3, 1) := by decide +kernel
theorem dX6_griefs_61 : decode cX6_griefs 61 = .ok (.ishl, 1) := by decide +kernel
theorem dX6_griefs_62 : decode cX6_griefs 62 = .ok (.ior, 1) := by decide +kernel
theorem dX6_griefs_63 : decode cX6_griefs 63 = .ok (.istore_n 2, 1) := by decide +kernel
theorem dX6_griefs_64 : decode cX6_griefs 64 = .ok (.iinc 3 1, 3) := by decide +kernel
theorem dX6_griefs_67 : decode cX6_griefs 67 = .ok (.goto (-50), 3) := by decide +kernel
theorem dX6_griefs_70 : decode cX6_griefs 70 = .ok (.iload_n 2, 1) := by decide +kernel
theorem dX6_griefs_71 : decode cX6_griefs 71 = .ok (.ireturn, 1) := by decide +kernel
theorem dX6_ask_0 : decode cX6_ask 0 = .ok (.aload_n 0, 1) := by decide +kernel
theorem dX6_ask_1 : decode cX6_ask 1 = .ok (.getfield 10, 3) := by decide +kernel
theorem dX6_ask_4 : decode cX6_ask 4 = .ok (.iload_n 1, 1) := by decide +kernel
theorem dX6_ask_5 : decode cX6_ask 5 = .ok (.invokevirtual 116, 3) := by decide +kernel
theorem dX6_ask_8 : decode cX6_ask 8 = .ok (.ifCond .eq 12, 3) := by decide +kernel
theorem dX6_ask_11 : decode cX6_ask 11 = .ok (.iload_n 2, 1) := by decide +kernel
theorem dX6_ask_12 : decode cX6_ask 12 = .ok (.iconst 0, 1) := by decide +kernel
theorem dX6_ask_13 : decode cX6_ask 13 = .ok (.iconst 1, 1) := by decide +kernel
theorem dX6_ask_14 : decode cX6_ask 14 = .ok (.invokestatic 67, 3) := by decide +kernel
theorem dX6_ask_17 : decode cX6_ask 17 = .ok (.ifCond .ne 5, 3) := by decide +kernel
theorem dX6_ask_20 : decode cX6_ask 20 = .ok (.iconst (-1), 1) := by decide +kernel
theorem dX6_ask_21 : decode cX6_ask 21 = .ok (.ireturn, 1) := by decide +kernel
theorem dX6_ask_22 : decode cX6_ask 22 = .ok (.aload_n 0, 1) := by decide +kernel
theorem dX6_ask_23 : decode cX6_ask 23 = .ok (.iload_n 1, 1) := by decide +kernel
theorem dX6_ask_24 : decode cX6_ask 24 = .ok (.invokevirtual 201, 3) := by decide +kernel
theorem dX6_ask_27 : decode cX6_ask 27 = .ok (.istore_n 3, 1) := by decide +kernel
theorem dX6_ask_28 : decode cX6_ask 28 = .ok (.iload_n 3, 1) := by decide +kernel
theorem dX6_ask_29 : decode cX6_ask 29 = .ok (.invokestatic 208, 3) := by decide +kernel
theorem dX6_ask_32 : decode cX6_ask 32 = .ok (.istore 4, 2) := by decide +kernel
theorem dX6_ask_34 : decode cX6_ask 34 = .ok (.bipush (-4), 2) := by decide +kernel
theorem dX6_ask_36 : decode cX6_ask 36 = .ok (.istore 5, 2) := by decide +kernel
theorem dX6_ask_38 : decode cX6_ask 38 = .ok (.iconst 0, 1) := by decide +kernel
theorem dX6_ask_39 : decode cX6_ask 39 = .ok (.istore 6, 2) := by decide +kernel
theorem dX6_ask_41 : decode cX6_ask 41 = .ok (.iload 6, 2) := by decide +kernel
theorem dX6_ask_43 : decode cX6_ask 43 = .ok (.iconst 4, 1) := by decide +kernel
theorem dX6_ask_44 : decode cX6_ask 44 = .ok (.if_icmp .ge 37, 3) := by decide +kernel
theorem dX6_ask_47 : decode cX6_ask 47 = .ok (.aload_n 0, 1) := by decide +kernel
theorem dX6_ask_48 : decode cX6_ask 48 = .ok (.getfield 19, 3) := by decide +kernel
theorem dX6_ask_51 : decode cX6_ask 51 = .ok (.iload 6, 2) := by decide +kernel
theorem dX6_ask_53 : decode cX6_ask 53 = .ok (.aaload, 1) := by decide +kernel
theorem dX6_ask_54 : decode cX6_ask 54 = .ok (.aload_n 0, 1) := by decide +kernel
theorem dX6_ask_55 : decode cX6_ask 55 = .ok (.getfield 10, 3) := by decide +kernel
theorem dX6_ask_58 : decode cX6_ask 58 = .ok (.invokevirtual 86, 3) := by decide +kernel
theorem dX6_ask_61 : decode cX6_ask 61 = .ok (.aload_n 0, 1) := by decide +kernel
theorem dX6_ask_62 : decode cX6_ask 62 = .ok (.getfield 19, 3) := by decide +kernel
theorem dX6_ask_65 : decode cX6_ask 65 = .ok (.iload 6, 2) := by decide +kernel
theorem dX6_ask_67 : decode cX6_ask 67 = .ok (.aaload, 1) := by decide +kernel
theorem dX6_ask_68 : decode cX6_ask 68 = .ok (.getfield 120, 3) := by decide +kernel
theorem dX6_ask_71 : decode cX6_ask 71 = .ok (.iload_n 1, 1) := by decide +kernel
theorem dX6_ask_72 : decode cX6_ask 72 = .ok (.iload 6, 2) := by decide +kernel
theorem dX6_ask_74 : decode cX6_ask 74 = .ok (.iastore, 1) := by decide +kernel
theorem dX6_ask_75 : decode cX6_ask 75 = .ok (.iinc 6 1, 3) := by decide +kernel
theorem dX6_ask_78 : decode cX6_ask 78 = .ok (.goto (-37), 3) := by decide +kernel
theorem dX6_ask_81 : decode cX6_ask 81 = .ok (.iconst 0, 1) := by decide +kernel
theorem dX6_ask_82 : decode cX6_ask 82 = .ok (.istore 6, 2) := by decide +kernel
theorem dX6_ask_84 : decode cX6_ask 84 = .ok (.iload 6, 2) := by decide +kernel
theorem dX6_ask_86 : decode cX6_ask 86 = .ok (.bipush 24, 2) := by decide +kernel
theorem dX6_ask_88 : decode cX6_ask 88 = .ok (.if_icmp .gt 85, 3) := by decide +kernel
theorem dX6_ask_91 : decode cX6_ask 91 = .ok (.iconst 0, 1) := by decide +kernel
theorem dX6_ask_92 : decode cX6_ask 92 = .ok (.istore 7, 2) := by decide +kernel
theorem dX6_ask_94 : decode cX6_ask 94 = .ok (.iload 7, 2) := by decide +kernel
theorem dX6_ask_96 : decode cX6_ask 96 = .ok (.aload_n 0, 1) := by decide +kernel
theorem dX6_ask_97 : decode cX6_ask 97 = .ok (.getfield 10, 3) := by decide +kernel
theorem dX6_ask_100 : decode cX6_ask 100 = .ok (.getfield 95, 3) := by decide +kernel
theorem dX6_ask_103 : decode cX6_ask 103 = .ok (.if_icmp .ge 39, 3) := by decide +kernel
theorem dX6_ask_106 : decode cX6_ask 106 = .ok (.aload_n 0, 1) := by decide +kernel
theorem dX6_ask_107 : decode cX6_ask 107 = .ok (.iload_n 3, 1) := by decide +kernel
theorem dX6_ask_108 : decode cX6_ask 108 = .ok (.iload 7, 2) := by decide +kernel
theorem dX6_ask_110 : decode cX6_ask 110 = .ok (.invokevirtual 213, 3) := by decide +kernel
theorem dX6_ask_113 : decode cX6_ask 113 = .ok (.istore 8, 2) := by decide +kernel
theorem dX6_ask_115 : decode cX6_ask 115 = .ok (.iload 8, 2) := by decide +kernel
theorem dX6_ask_117 : decode cX6_ask 117 = .ok (.iload 4, 2) := by decide +kernel
theorem dX6_ask_119 : decode cX6_ask 119 = .ok (.if_icmp .ge 17, 3) := by decide +kernel
theorem dX6_ask_122 : decode cX6_ask 122 = .ok (.iload 8, 2) := by decide +kernel
theorem dX6_ask_124 : decode cX6_ask 124 = .ok (.istore 4, 2) := by decide +kernel
theorem dX6_ask_126 : decode cX6_ask 126 = .ok (.bipush 10, 2) := by decide +kernel
theorem dX6_ask_128 : decode cX6_ask 128 = .ok (.iload 6, 2) := by decide +kernel
theorem dX6_ask_130 : decode cX6_ask 130 = .ok (.imul, 1) := by decide +kernel
theorem dX6_ask_131 : decode cX6_ask 131 = .ok (.iload 7, 2) := by decide +kernel
theorem dX6_ask_133 : decode cX6_ask 133 = .ok (.iadd, 1) := by decide +kernel
theorem dX6_ask_134 : decode cX6_ask 134 = .ok (.istore 5, 2) := by decide +kernel
theorem dX6_ask_136 : decode cX6_ask 136 = .ok (.iinc 7 1, 3) := by decide +kernel
theorem dX6_ask_139 : decode cX6_ask 139 = .ok (.goto (-45), 3) := by decide +kernel
theorem dX6_ask_142 : decode cX6_ask 142 = .ok (.iconst 0, 1) := by decide +kernel
theorem dX6_ask_143 : decode cX6_ask 143 = .ok (.istore 7, 2) := by decide +kernel
theorem dX6_ask_145 : decode cX6_ask 145 = .ok (.iload 7, 2) := by decide +kernel
theorem dX6_ask_147 : decode cX6_ask 147 = .ok (.iconst 4, 1) := by decide +kernel
theorem dX6_ask_148 : decode cX6_ask 148 = .ok (.if_icmp .ge 19, 3) := by decide +kernel
theorem dX6_ask_151 : decode cX6_ask 151 = .ok (.aload_n 0, 1) := by decide +kernel
theorem dX6_ask_152 : decode cX6_ask 152 = .ok (.getfield 19, 3) := by decide +kernel
theorem dX6_ask_155 : decode cX6_ask 155 = .ok (.iload 7, 2) := by decide +kernel
theorem dX6_ask_157 : decode cX6_ask 157 = .ok (.aaload, 1) := by decide +kernel
theorem dX6_ask_158 : decode cX6_ask 158 = .ok (.invokevirtual 156, 3) := by decide +kernel
theorem dX6_ask_161 : decode cX6_ask 161 = .ok (.iinc 7 1, 3) := by decide +kernel
theorem dX6_ask_164 : decode cX6_ask 164 = .ok (.goto (-19), 3) := by decide +kernel
theorem dX6_ask_167 : decode cX6_ask 167 = .ok (.iinc 6 1, 3) := by decide +kernel
theorem dX6_ask_170 : decode cX6_ask 170 = .ok (.goto (-86), 3) := by decide +kernel
theorem dX6_ask_173 : decode cX6_ask 173 = .ok (.iload_n 2, 1) := by decide +kernel
theorem dX6_ask_174 : decode cX6_ask 174 = .ok (.ifCond .eq 10, 3) := by decide +kernel
theorem dX6_ask_177 : decode cX6_ask 177 = .ok (.iload 5, 2) := by decide +kernel
theorem dX6_ask_179 : decode cX6_ask 179 = .ok (.bipush (-4), 2) := by decide +kernel
theorem dX6_ask_181 : decode cX6_ask 181 = .ok (.if_icmp .ne 8, 3) := by decide +kernel
theorem dX6_ask_184 : decode cX6_ask 184 = .ok (.iload 5, 2) := by decide +kernel
theorem dX6_ask_186 : decode cX6_ask 186 = .ok (.goto 5, 3) := by decide +kernel
theorem dX6_ask_189 : decode cX6_ask 189 = .ok (.iload 4, 2) := by decide +kernel
theorem dX6_ask_191 : decode cX6_ask 191 = .ok (.ireturn, 1) := by decide +kernel
theorem dX6_drift_0 : decode cX6_drift 0 = .ok (.iload_n 2, 1) := by decide +kernel
theorem dX6_drift_1 : decode cX6_drift 1 = .ok (.iconst 1, 1) := by decide +kernel
theorem dX6_drift_2 : decode cX6_drift 2 = .ok (.bipush 60, 2) := by decide +kernel
theorem dX6_drift_4 : decode cX6_drift 4 = .ok (.invokestatic 67, 3) := by decide +kernel
theorem dX6_drift_7 : decode cX6_drift 7 = .ok (.ifCond .eq 12, 3) := by decide +kernel
theorem dX6_drift_10 : decode cX6_drift 10 = .ok (.iload_n 3, 1) := by decide +kernel
theorem dX6_drift_11 : decode cX6_drift 11 = .ok (.iconst 0, 1) := by decide +kernel
theorem dX6_drift_12 : decode cX6_drift 12 = .ok (.iconst 1, 1) := by decide +kernel
theorem dX6_drift_13 : decode cX6_drift 13 = .ok (.invokestatic 67, 3) := by decide +kernel
theorem dX6_drift_16 : decode cX6_drift 16 = .ok (.ifCond .ne 5, 3) := by decide +kernel
theorem dX6_drift_19 : decode cX6_drift 19 = .ok (.iconst (-1), 1) := by decide +kernel
theorem dX6_drift_20 : decode cX6_drift 20 = .ok (.ireturn, 1) := by decide +kernel
theorem dX6_drift_21 : decode cX6_drift 21 = .ok (.aload_n 0, 1) := by decide +kernel
theorem dX6_drift_22 : decode cX6_drift 22 = .ok (.getfield 10, 3) := by decide +kernel
theorem dX6_drift_25 : decode cX6_drift 25 = .ok (.getfield 95, 3) := by decide +kernel
theorem dX6_drift_28 : decode cX6_drift 28 = .ok (.istore 4, 2) := by decide +kernel
theorem dX6_drift_30 : decode cX6_drift 30 = .ok (.iload 4, 2) := by decide +kernel
theorem dX6_drift_32 : decode cX6_drift 32 = .ok (.ifCond .gt 6, 3) := by decide +kernel
theorem dX6_drift_35 : decode cX6_drift 35 = .ok (.bipush (-2), 2) := by decide +kernel
theorem dX6_drift_37 : decode cX6_drift 37 = .ok (.ireturn, 1) := by decide +kernel
theorem dX6_drift_38 : decode cX6_drift 38 = .ok (.aload_n 0, 1) := by decide +kernel
theorem dX6_drift_39 : decode cX6_drift 39 = .ok (.getfield 16, 3) := by decide +kernel
theorem dX6_drift_42 : decode cX6_drift 42 = .ok (.aload_n 0, 1) := by decide +kernel
theorem dX6_drift_43 : decode cX6_drift 43 = .ok (.getfield 10, 3) := by decide +kernel
theorem dX6_drift_46 : decode cX6_drift 46 = .ok (.invokevirtual 86, 3) := by decide +kernel
theorem dX6_drift_49 : decode cX6_drift 49 = .ok (.iload_n 1, 1) := by decide +kernel
theorem dX6_drift_50 : decode cX6_drift 50 = .ok (.istore 5, 2) := by decide +kernel
theorem dX6_drift_52 : decode cX6_drift 52 = .ok (.iconst 0, 1) := by decide +kernel
theorem dX6_drift_53 : decode cX6_drift 53 = .ok (.istore 6, 2) := by decide +kernel
theorem dX6_drift_55 : decode cX6_drift 55 = .ok (.iload 6, 2) := by decide +kernel
theorem dX6_drift_57 : decode cX6_drift 57 = .ok (.iload_n 2, 1) := by decide +kernel
theorem dX6_drift_58 : decode cX6_drift 58 = .ok (.if_icmp .ge 65, 3) := by decide +kernel
theorem dX6_drift_61 : decode cX6_drift 61 = .ok (.iload 5, 2) := by decide +kernel
theorem dX6_drift_63 : decode cX6_drift 63 = .ok (.ldc 216, 2) := by decide +kernel
theorem dX6_drift_65 : decode cX6_drift 65 = .ok (.imul, 1) := by decide +kernel
theorem dX6_drift_66 : decode cX6_drift 66 = .ok (.sipush 12345, 3) := by decide +kernel
theorem dX6_drift_69 : decode cX6_drift 69 = .ok (.iadd, 1) := by decide +kernel
theorem dX6_drift_70 : decode cX6_drift 70 = .ok (.istore 5, 2) := by decide +kernel
theorem dX6_drift_72 : decode cX6_drift 72 = .ok (.iload 5, 2) := by decide +kernel
theorem dX6_drift_74 : decode cX6_drift 74 = .ok (.bipush 16, 2) := by decide +kernel
theorem dX6_drift_76 : decode cX6_drift 76 = .ok (.iushr, 1) := by decide +kernel
theorem dX6_drift_77 : decode cX6_drift 77 = .ok (.sipush 32767, 3) := by decide +kernel
theorem dX6_drift_80 : decode cX6_drift 80 = .ok (.iand, 1) := by decide +kernel
theorem dX6_drift_81 : decode cX6_drift 81 = .ok (.istore 7, 2) := by decide +kernel
theorem dX6_drift_83 : decode cX6_drift 83 = .ok (.aload_n 0, 1) := by decide +kernel
theorem dX6_drift_84 : decode cX6_drift 84 = .ok (.getfield 16, 3) := by decide +kernel
theorem dX6_drift_87 : decode cX6_drift 87 = .ok (.iload 7, 2) := by decide +kernel
theorem dX6_drift_89 : decode cX6_drift 89 = .ok (.bipush 8, 2) := by decide +kernel
theorem dX6_drift_91 : decode cX6_drift 91 = .ok (.idiv, 1) := by decide +kernel
theorem dX6_drift_92 : decode cX6_drift 92 = .ok (.iload 4, 2) := by decide +kernel
theorem dX6_drift_94 : decode cX6_drift 94 = .ok (.irem, 1) := by decide +kernel
theorem dX6_drift_95 : decode cX6_drift 95 = .ok (.iload 7, 2) := by decide +kernel
theorem dX6_drift_97 : decode cX6_drift 97 = .ok (.bipush 64, 2) := by decide +kernel
theorem dX6_drift_99 : decode cX6_drift 99 = .ok (.idiv, 1) := by decide +kernel
theorem dX6_drift_100 : decode cX6_drift 100 = .ok (.iconst 3, 1) := by decide +kernel
theorem dX6_drift_101 : decode cX6_drift 101 = .ok (.irem, 1) := by decide +kernel
theorem dX6_drift_102 : decode cX6_drift 102 = .ok (.invokevirtual 217, 3) := by decide +kernel
theorem dX6_drift_105 : decode cX6_drift 105 = .ok (.aload_n 0, 1) := by decide +kernel
theorem dX6_drift_106 : decode cX6_drift 106 = .ok (.getfield 16, 3) := by decide +kernel
theorem dX6_drift_109 : decode cX6_drift 109 = .ok (.iload 7, 2) := by decide +kernel
theorem dX6_drift_111 : decode cX6_drift 111 = .ok (.iload 4, 2) := by decide +kernel
theorem dX6_drift_113 : decode cX6_drift 113 = .ok (.irem, 1) := by decide +kernel
theorem dX6_drift_114 : decode cX6_drift 114 = .ok (.invokevirtual 221, 3) := by decide +kernel
theorem dX6_drift_117 : decode cX6_drift 117 = .ok (.iinc 6 1, 3) := by decide +kernel
theorem dX6_drift_120 : decode cX6_drift 120 = .ok (.goto (-65), 3) := by decide +kernel
theorem dX6_drift_123 : decode cX6_drift 123 = .ok (.iload_n 3, 1) := by decide +kernel
theorem dX6_drift_124 : decode cX6_drift 124 = .ok (.ifCond .ne 13, 3) := by decide +kernel
theorem dX6_drift_127 : decode cX6_drift 127 = .ok (.aload_n 0, 1) := by decide +kernel
theorem dX6_drift_128 : decode cX6_drift 128 = .ok (.getfield 16, 3) := by decide +kernel
theorem dX6_drift_131 : decode cX6_drift 131 = .ok (.invokevirtual 107, 3) := by decide +kernel
theorem dX6_drift_134 : decode cX6_drift 134 = .ok (.goto 10, 3) := by decide +kernel
theorem dX6_drift_137 : decode cX6_drift 137 = .ok (.aload_n 0, 1) := by decide +kernel
theorem dX6_drift_138 : decode cX6_drift 138 = .ok (.getfield 16, 3) := by decide +kernel
theorem dX6_drift_141 : decode cX6_drift 141 = .ok (.getfield 164, 3) := by decide +kernel
theorem dX6_drift_144 : decode cX6_drift 144 = .ok (.ireturn, 1) := by decide +kernel
theorem dX6_keep_0 : decode cX6_keep 0 = .ok (.iload_n 1, 1) := by decide +kernel
theorem dX6_keep_1 : decode cX6_keep 1 = .ok (.iconst 0, 1) := by decide +kernel
theorem dX6_keep_2 : decode cX6_keep 2 = .ok (.iconst 1, 1) := by decide +kernel
theorem dX6_keep_3 : decode cX6_keep 3 = .ok (.invokestatic 67, 3) := by decide +kernel
theorem dX6_keep_6 : decode cX6_keep 6 = .ok (.ifCond .ne 5, 3) := by decide +kernel
theorem dX6_keep_9 : decode cX6_keep 9 = .ok (.iconst (-1), 1) := by decide +kernel
theorem dX6_keep_10 : decode cX6_keep 10 = .ok (.ireturn, 1) := by decide +kernel
theorem dX6_keep_11 : decode cX6_keep 11 = .ok (.aload_n 0, 1) := by decide +kernel
theorem dX6_keep_12 : decode cX6_keep 12 = .ok (.getfield 32, 3) := by decide +kernel
theorem dX6_keep_15 : decode cX6_keep 15 = .ok (.iload_n 1, 1) := by decide +kernel
theorem dX6_keep_16 : decode cX6_keep 16 = .ok (.aaload, 1) := by decide +kernel
theorem dX6_keep_17 : decode cX6_keep 17 = .ok (.astore_n 2, 1) := by decide +kernel
theorem dX6_keep_18 : decode cX6_keep 18 = .ok (.aload_n 2, 1) := by decide +kernel
theorem dX6_keep_19 : decode cX6_keep 19 = .ok (.getfield 91, 3) := by decide +kernel
theorem dX6_keep_22 : decode cX6_keep 22 = .ok (.ifCond .eq 7, 3) := by decide +kernel
theorem dX6_keep_25 : decode cX6_keep 25 = .ok (.iconst 1, 1) := by decide +kernel
theorem dX6_keep_26 : decode cX6_keep 26 = .ok (.goto 4, 3) := by decide +kernel
theorem dX6_keep_29 : decode cX6_keep 29 = .ok (.iconst 0, 1) := by decide +kernel
theorem dX6_keep_30 : decode cX6_keep 30 = .ok (.istore_n 3, 1) := by decide +kernel
theorem dX6_keep_31 : decode cX6_keep 31 = .ok (.aload_n 2, 1) := by decide +kernel
theorem dX6_keep_32 : decode cX6_keep 32 = .ok (.getfield 224, 3) := by decide +kernel
theorem dX6_keep_35 : decode cX6_keep 35 = .ok (.aload_n 0, 1) := by decide +kernel
theorem dX6_keep_36 : decode cX6_keep 36 = .ok (.getfield 10, 3) := by decide +kernel
theorem dX6_keep_39 : decode cX6_keep 39 = .ok (.invokevirtual 86, 3) := by decide +kernel
theorem dX6_keep_42 : decode cX6_keep 42 = .ok (.aload_n 2, 1) := by decide +kernel
theorem dX6_keep_43 : decode cX6_keep 43 = .ok (.getfield 227, 3) := by decide +kernel
theorem dX6_keep_46 : decode cX6_keep 46 = .ok (.aload_n 0, 1) := by decide +kernel
theorem dX6_keep_47 : decode cX6_keep 47 = .ok (.getfield 26, 3) := by decide +kernel
theorem dX6_keep_50 : decode cX6_keep 50 = .ok (.invokevirtual 228, 3) := by decide +kernel
theorem dX6_keep_53 : decode cX6_keep 53 = .ok (.aload_n 2, 1) := by decide +kernel
theorem dX6_keep_54 : decode cX6_keep 54 = .ok (.iconst 1, 1) := by decide +kernel
theorem dX6_keep_55 : decode cX6_keep 55 = .ok (.putfield 91, 3) := by decide +kernel
theorem dX6_keep_58 : decode cX6_keep 58 = .ok (.iload_n 3, 1) := by decide +kernel
theorem dX6_keep_59 : decode cX6_keep 59 = .ok (.ireturn, 1) := by decide +kernel
theorem dX6_back_0 : decode cX6_back 0 = .ok (.iload_n 1, 1) := by decide +kernel
theorem dX6_back_1 : decode cX6_back 1 = .ok (.iconst 0, 1) := by decide +kernel
theorem dX6_back_2 : decode cX6_back 2 = .ok (.iconst 1, 1) := by decide +kernel
theorem dX6_back_3 : decode cX6_back 3 = .ok (.invokestatic 67, 3) := by decide +kernel
theorem dX6_back_6 : decode cX6_back 6 = .ok (.ifCond .ne 5, 3) := by decide +kernel
theorem dX6_back_9 : decode cX6_back 9 = .ok (.iconst (-1), 1) := by decide +kernel
theorem dX6_back_10 : decode cX6_back 10 = .ok (.ireturn, 1) := by decide +kernel
theorem dX6_back_11 : decode cX6_back 11 = .ok (.aload_n 0, 1) := by decide +kernel
theorem dX6_back_12 : decode cX6_back 12 = .ok (.getfield 32, 3) := by decide +kernel
theorem dX6_back_15 : decode cX6_back 15 = .ok (.iload_n 1, 1) := by decide +kernel
theorem dX6_back_16 : decode cX6_back 16 = .ok (.aaload, 1) := by decide +kernel
theorem dX6_back_17 : decode cX6_back 17 = .ok (.astore_n 2, 1) := by decide +kernel
theorem dX6_back_18 : decode cX6_back 18 = .ok (.aload_n 2, 1) := by decide +kernel
theorem dX6_back_19 : decode cX6_back 19 = .ok (.getfield 91, 3) := by decide +kernel
theorem dX6_back_22 : decode cX6_back 22 = .ok (.ifCond .ne 6, 3) := by decide +kernel
theorem dX6_back_25 : decode cX6_back 25 = .ok (.bipush (-2), 2) := by decide +kernel
theorem dX6_back_27 : decode cX6_back 27 = .ok (.ireturn, 1) := by decide +kernel
theorem dX6_back_28 : decode cX6_back 28 = .ok (.aload_n 0, 1) := by decide +kernel
theorem dX6_back_29 : decode cX6_back 29 = .ok (.getfield 10, 3) := by decide +kernel
theorem dX6_back_32 : decode cX6_back 32 = .ok (.aload_n 2, 1) := by decide +kernel
theorem dX6_back_33 : decode cX6_back 33 = .ok (.getfield 224, 3) := by decide +kernel
theorem dX6_back_36 : decode cX6_back 36 = .ok (.invokevirtual 86, 3) := by decide +kernel
theorem dX6_back_39 : decode cX6_back 39 = .ok (.aload_n 0, 1) := by decide +kernel
theorem dX6_back_40 : decode cX6_back 40 = .ok (.getfield 26, 3) := by decide +kernel
theorem dX6_back_43 : decode cX6_back 43 = .ok (.aload_n 2, 1) := by decide +kernel
theorem dX6_back_44 : decode cX6_back 44 = .ok (.getfield 227, 3) := by decide +kernel
theorem dX6_back_47 : decode cX6_back 47 = .ok (.invokevirtual 228, 3) := by decide +kernel
