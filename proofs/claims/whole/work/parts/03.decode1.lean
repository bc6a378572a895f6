theorem dX5_become_107 : decode cX5_become 107 = .ok (.return_, 1) := by decide +kernel
theorem dX5_has_0 : decode cX5_has 0 = .ok (.iload_n 1, 1) := by decide +kernel
theorem dX5_has_1 : decode cX5_has 1 = .ok (.ifCond .lt 15, 3) := by decide +kernel
theorem dX5_has_4 : decode cX5_has 4 = .ok (.iload_n 1, 1) := by decide +kernel
theorem dX5_has_5 : decode cX5_has 5 = .ok (.aload_n 0, 1) := by decide +kernel
theorem dX5_has_6 : decode cX5_has 6 = .ok (.getfield 28, 3) := by decide +kernel
theorem dX5_has_9 : decode cX5_has 9 = .ok (.if_icmp .ge 7, 3) := by decide +kernel
theorem dX5_has_12 : decode cX5_has 12 = .ok (.iconst 1, 1) := by decide +kernel
theorem dX5_has_13 : decode cX5_has 13 = .ok (.goto 4, 3) := by decide +kernel
theorem dX5_has_16 : decode cX5_has 16 = .ok (.iconst 0, 1) := by decide +kernel
theorem dX5_has_17 : decode cX5_has 17 = .ok (.ireturn, 1) := by decide +kernel
theorem dX5_mayAlter_0 : decode cX5_mayAlter 0 = .ok (.aload_n 0, 1) := by decide +kernel
theorem dX5_mayAlter_1 : decode cX5_mayAlter 1 = .ok (.iload_n 1, 1) := by decide +kernel
theorem dX5_mayAlter_2 : decode cX5_mayAlter 2 = .ok (.invokevirtual 52, 3) := by decide +kernel
theorem dX5_mayAlter_5 : decode cX5_mayAlter 5 = .ok (.ifCond .ne 5, 3) := by decide +kernel
theorem dX5_mayAlter_8 : decode cX5_mayAlter 8 = .ok (.iconst 0, 1) := by decide +kernel
theorem dX5_mayAlter_9 : decode cX5_mayAlter 9 = .ok (.ireturn, 1) := by decide +kernel
theorem dX5_mayAlter_10 : decode cX5_mayAlter 10 = .ok (.iload_n 2, 1) := by decide +kernel
theorem dX5_mayAlter_11 : decode cX5_mayAlter 11 = .ok (.tableswitch 48 0 2 #[25, 32, 40], 25) := by decide +kernel
theorem dX5_mayAlter_36 : decode cX5_mayAlter 36 = .ok (.iload_n 3, 1) := by decide +kernel
theorem dX5_mayAlter_37 : decode cX5_mayAlter 37 = .ok (.iconst 0, 1) := by decide +kernel
theorem dX5_mayAlter_38 : decode cX5_mayAlter 38 = .ok (.iconst 3, 1) := by decide +kernel
theorem dX5_mayAlter_39 : decode cX5_mayAlter 39 = .ok (.invokestatic 56, 3) := by decide +kernel
theorem dX5_mayAlter_42 : decode cX5_mayAlter 42 = .ok (.ireturn, 1) := by decide +kernel
theorem dX5_mayAlter_43 : decode cX5_mayAlter 43 = .ok (.iload_n 3, 1) := by decide +kernel
theorem dX5_mayAlter_44 : decode cX5_mayAlter 44 = .ok (.iconst 0, 1) := by decide +kernel
theorem dX5_mayAlter_45 : decode cX5_mayAlter 45 = .ok (.bipush 99, 2) := by decide +kernel
theorem dX5_mayAlter_47 : decode cX5_mayAlter 47 = .ok (.invokestatic 56, 3) := by decide +kernel
theorem dX5_mayAlter_50 : decode cX5_mayAlter 50 = .ok (.ireturn, 1) := by decide +kernel
theorem dX5_mayAlter_51 : decode cX5_mayAlter 51 = .ok (.iload_n 3, 1) := by decide +kernel
theorem dX5_mayAlter_52 : decode cX5_mayAlter 52 = .ok (.iconst 1, 1) := by decide +kernel
theorem dX5_mayAlter_53 : decode cX5_mayAlter 53 = .ok (.bipush 99, 2) := by decide +kernel
theorem dX5_mayAlter_55 : decode cX5_mayAlter 55 = .ok (.invokestatic 56, 3) := by decide +kernel
theorem dX5_mayAlter_58 : decode cX5_mayAlter 58 = .ok (.ireturn, 1) := by decide +kernel
theorem dX5_mayAlter_59 : decode cX5_mayAlter 59 = .ok (.iconst 0, 1) := by decide +kernel
theorem dX5_mayAlter_60 : decode cX5_mayAlter 60 = .ok (.ireturn, 1) := by decide +kernel
theorem dX5_addOne_0 : decode cX5_addOne 0 = .ok (.aload_n 0, 1) := by decide +kernel
theorem dX5_addOne_1 : decode cX5_addOne 1 = .ok (.getfield 28, 3) := by decide +kernel
theorem dX5_addOne_4 : decode cX5_addOne 4 = .ok (.iconst 5, 1) := by decide +kernel
theorem dX5_addOne_5 : decode cX5_addOne 5 = .ok (.if_icmp .ge 43, 3) := by decide +kernel
theorem dX5_addOne_8 : decode cX5_addOne 8 = .ok (.aload_n 0, 1) := by decide +kernel
theorem dX5_addOne_9 : decode cX5_addOne 9 = .ok (.getfield 9, 3) := by decide +kernel
theorem dX5_addOne_12 : decode cX5_addOne 12 = .ok (.aload_n 0, 1) := by decide +kernel
theorem dX5_addOne_13 : decode cX5_addOne 13 = .ok (.getfield 28, 3) := by decide +kernel
theorem dX5_addOne_16 : decode cX5_addOne 16 = .ok (.iload_n 1, 1) := by decide +kernel
theorem dX5_addOne_17 : decode cX5_addOne 17 = .ok (.iastore, 1) := by decide +kernel
theorem dX5_addOne_18 : decode cX5_addOne 18 = .ok (.aload_n 0, 1) := by decide +kernel
theorem dX5_addOne_19 : decode cX5_addOne 19 = .ok (.getfield 15, 3) := by decide +kernel
theorem dX5_addOne_22 : decode cX5_addOne 22 = .ok (.aload_n 0, 1) := by decide +kernel
theorem dX5_addOne_23 : decode cX5_addOne 23 = .ok (.getfield 28, 3) := by decide +kernel
theorem dX5_addOne_26 : decode cX5_addOne 26 = .ok (.iload_n 2, 1) := by decide +kernel
theorem dX5_addOne_27 : decode cX5_addOne 27 = .ok (.iastore, 1) := by decide +kernel
theorem dX5_addOne_28 : decode cX5_addOne 28 = .ok (.aload_n 0, 1) := by decide +kernel
theorem dX5_addOne_29 : decode cX5_addOne 29 = .ok (.getfield 18, 3) := by decide +kernel
theorem dX5_addOne_32 : decode cX5_addOne 32 = .ok (.aload_n 0, 1) := by decide +kernel
theorem dX5_addOne_33 : decode cX5_addOne 33 = .ok (.getfield 28, 3) := by decide +kernel
theorem dX5_addOne_36 : decode cX5_addOne 36 = .ok (.iload_n 3, 1) := by decide +kernel
theorem dX5_addOne_37 : decode cX5_addOne 37 = .ok (.iastore, 1) := by decide +kernel
theorem dX5_addOne_38 : decode cX5_addOne 38 = .ok (.aload_n 0, 1) := by decide +kernel
theorem dX5_addOne_39 : decode cX5_addOne 39 = .ok (.dup, 1) := by decide +kernel
theorem dX5_addOne_40 : decode cX5_addOne 40 = .ok (.getfield 28, 3) := by decide +kernel
theorem dX5_addOne_43 : decode cX5_addOne 43 = .ok (.iconst 1, 1) := by decide +kernel
theorem dX5_addOne_44 : decode cX5_addOne 44 = .ok (.iadd, 1) := by decide +kernel
theorem dX5_addOne_45 : decode cX5_addOne 45 = .ok (.putfield 28, 3) := by decide +kernel
theorem dX5_addOne_48 : decode cX5_addOne 48 = .ok (.return_, 1) := by decide +kernel
theorem dX5_addTurn_0 : decode cX5_addTurn 0 = .ok (.aload_n 0, 1) := by decide +kernel
theorem dX5_addTurn_1 : decode cX5_addTurn 1 = .ok (.getfield 31, 3) := by decide +kernel
theorem dX5_addTurn_4 : decode cX5_addTurn 4 = .ok (.bipush 8, 2) := by decide +kernel
theorem dX5_addTurn_6 : decode cX5_addTurn 6 = .ok (.if_icmp .ge 23, 3) := by decide +kernel
theorem dX5_addTurn_9 : decode cX5_addTurn 9 = .ok (.aload_n 0, 1) := by decide +kernel
theorem dX5_addTurn_10 : decode cX5_addTurn 10 = .ok (.getfield 21, 3) := by decide +kernel
theorem dX5_addTurn_13 : decode cX5_addTurn 13 = .ok (.aload_n 0, 1) := by decide +kernel
theorem dX5_addTurn_14 : decode cX5_addTurn 14 = .ok (.getfield 31, 3) := by decide +kernel
theorem dX5_addTurn_17 : decode cX5_addTurn 17 = .ok (.iload_n 1, 1) := by decide +kernel
theorem dX5_addTurn_18 : decode cX5_addTurn 18 = .ok (.iastore, 1) := by decide +kernel
theorem dX5_addTurn_19 : decode cX5_addTurn 19 = .ok (.aload_n 0, 1) := by decide +kernel
theorem dX5_addTurn_20 : decode cX5_addTurn 20 = .ok (.dup, 1) := by decide +kernel
theorem dX5_addTurn_21 : decode cX5_addTurn 21 = .ok (.getfield 31, 3) := by decide +kernel
theorem dX5_addTurn_24 : decode cX5_addTurn 24 = .ok (.iconst 1, 1) := by decide +kernel
theorem dX5_addTurn_25 : decode cX5_addTurn 25 = .ok (.iadd, 1) := by decide +kernel
theorem dX5_addTurn_26 : decode cX5_addTurn 26 = .ok (.putfield 31, 3) := by decide +kernel
theorem dX5_addTurn_29 : decode cX5_addTurn 29 = .ok (.return_, 1) := by decide +kernel
theorem dX5_dropTurn_0 : decode cX5_dropTurn 0 = .ok (.iload_n 1, 1) := by decide +kernel
theorem dX5_dropTurn_1 : decode cX5_dropTurn 1 = .ok (.iconst 1, 1) := by decide +kernel
theorem dX5_dropTurn_2 : decode cX5_dropTurn 2 = .ok (.iadd, 1) := by decide +kernel
theorem dX5_dropTurn_3 : decode cX5_dropTurn 3 = .ok (.istore_n 2, 1) := by decide +kernel
theorem dX5_dropTurn_4 : decode cX5_dropTurn 4 = .ok (.iload_n 2, 1) := by decide +kernel
theorem dX5_dropTurn_5 : decode cX5_dropTurn 5 = .ok (.aload_n 0, 1) := by decide +kernel
theorem dX5_dropTurn_6 : decode cX5_dropTurn 6 = .ok (.getfield 31, 3) := by decide +kernel
theorem dX5_dropTurn_9 : decode cX5_dropTurn 9 = .ok (.if_icmp .ge 23, 3) := by decide +kernel
theorem dX5_dropTurn_12 : decode cX5_dropTurn 12 = .ok (.aload_n 0, 1) := by decide +kernel
theorem dX5_dropTurn_13 : decode cX5_dropTurn 13 = .ok (.getfield 21, 3) := by decide +kernel
theorem dX5_dropTurn_16 : decode cX5_dropTurn 16 = .ok (.iload_n 2, 1) := by decide +kernel
theorem dX5_dropTurn_17 : decode cX5_dropTurn 17 = .ok (.iconst 1, 1) := by decide +kernel
theorem dX5_dropTurn_18 : decode cX5_dropTurn 18 = .ok (.isub, 1) := by decide +kernel
theorem dX5_dropTurn_19 : decode cX5_dropTurn 19 = .ok (.aload_n 0, 1) := by decide +kernel
theorem dX5_dropTurn_20 : decode cX5_dropTurn 20 = .ok (.getfield 21, 3) := by decide +kernel
theorem dX5_dropTurn_23 : decode cX5_dropTurn 23 = .ok (.iload_n 2, 1) := by decide +kernel
theorem dX5_dropTurn_24 : decode cX5_dropTurn 24 = .ok (.iaload, 1) := by decide +kernel
theorem dX5_dropTurn_25 : decode cX5_dropTurn 25 = .ok (.iastore, 1) := by decide +kernel
theorem dX5_dropTurn_26 : decode cX5_dropTurn 26 = .ok (.iinc 2 1, 3) := by decide +kernel
theorem dX5_dropTurn_29 : decode cX5_dropTurn 29 = .ok (.goto (-25), 3) := by decide +kernel
theorem dX5_dropTurn_32 : decode cX5_dropTurn 32 = .ok (.aload_n 0, 1) := by decide +kernel
theorem dX5_dropTurn_33 : decode cX5_dropTurn 33 = .ok (.dup, 1) := by decide +kernel
theorem dX5_dropTurn_34 : decode cX5_dropTurn 34 = .ok (.getfield 31, 3) := by decide +kernel
theorem dX5_dropTurn_37 : decode cX5_dropTurn 37 = .ok (.iconst 1, 1) := by decide +kernel
theorem dX5_dropTurn_38 : decode cX5_dropTurn 38 = .ok (.isub, 1) := by decide +kernel
theorem dX5_dropTurn_39 : decode cX5_dropTurn 39 = .ok (.putfield 31, 3) := by decide +kernel
theorem dX5_dropTurn_42 : decode cX5_dropTurn 42 = .ok (.return_, 1) := by decide +kernel
theorem dX5_turnsOf_0 : decode cX5_turnsOf 0 = .ok (.iconst 0, 1) := by decide +kernel
theorem dX5_turnsOf_1 : decode cX5_turnsOf 1 = .ok (.istore_n 2, 1) := by decide +kernel
theorem dX5_turnsOf_2 : decode cX5_turnsOf 2 = .ok (.iconst 0, 1) := by decide +kernel
theorem dX5_turnsOf_3 : decode cX5_turnsOf 3 = .ok (.istore_n 3, 1) := by decide +kernel
theorem dX5_turnsOf_4 : decode cX5_turnsOf 4 = .ok (.iload_n 3, 1) := by decide +kernel
theorem dX5_turnsOf_5 : decode cX5_turnsOf 5 = .ok (.aload_n 0, 1) := by decide +kernel
theorem dX5_turnsOf_6 : decode cX5_turnsOf 6 = .ok (.getfield 31, 3) := by decide +kernel
theorem dX5_turnsOf_9 : decode cX5_turnsOf 9 = .ok (.if_icmp .ge 22, 3) := by decide +kernel
theorem dX5_turnsOf_12 : decode cX5_turnsOf 12 = .ok (.aload_n 0, 1) := by decide +kernel
theorem dX5_turnsOf_13 : decode cX5_turnsOf 13 = .ok (.getfield 21, 3) := by decide +kernel
theorem dX5_turnsOf_16 : decode cX5_turnsOf 16 = .ok (.iload_n 3, 1) := by decide +kernel
theorem dX5_turnsOf_17 : decode cX5_turnsOf 17 = .ok (.iaload, 1) := by decide +kernel
theorem dX5_turnsOf_18 : decode cX5_turnsOf 18 = .ok (.iload_n 1, 1) := by decide +kernel
theorem dX5_turnsOf_19 : decode cX5_turnsOf 19 = .ok (.if_icmp .ne 6, 3) := by decide +kernel
theorem dX5_turnsOf_22 : decode cX5_turnsOf 22 = .ok (.iinc 2 1, 3) := by decide +kernel
theorem dX5_turnsOf_25 : decode cX5_turnsOf 25 = .ok (.iinc 3 1, 3) := by decide +kernel
theorem dX5_turnsOf_28 : decode cX5_turnsOf 28 = .ok (.goto (-24), 3) := by decide +kernel
theorem dX5_turnsOf_31 : decode cX5_turnsOf 31 = .ok (.iload_n 2, 1) := by decide +kernel
theorem dX5_turnsOf_32 : decode cX5_turnsOf 32 = .ok (.ireturn, 1) := by decide +kernel
theorem dX5_whose_0 : decode cX5_whose 0 = .ok (.aload_n 0, 1) := by decide +kernel
theorem dX5_whose_1 : decode cX5_whose 1 = .ok (.getfield 31, 3) := by decide +kernel
theorem dX5_whose_4 : decode cX5_whose 4 = .ok (.ifCond .le 20, 3) := by decide +kernel
theorem dX5_whose_7 : decode cX5_whose 7 = .ok (.aload_n 0, 1) := by decide +kernel
theorem dX5_whose_8 : decode cX5_whose 8 = .ok (.getfield 21, 3) := by decide +kernel
theorem dX5_whose_11 : decode cX5_whose 11 = .ok (.aload_n 0, 1) := by decide +kernel
theorem dX5_whose_12 : decode cX5_whose 12 = .ok (.getfield 37, 3) := by decide +kernel
theorem dX5_whose_15 : decode cX5_whose 15 = .ok (.aload_n 0, 1) := by decide +kernel
theorem dX5_whose_16 : decode cX5_whose 16 = .ok (.getfield 31, 3) := by decide +kernel
theorem dX5_whose_19 : decode cX5_whose 19 = .ok (.irem, 1) := by decide +kernel
theorem dX5_whose_20 : decode cX5_whose 20 = .ok (.iaload, 1) := by decide +kernel
theorem dX5_whose_21 : decode cX5_whose 21 = .ok (.goto 5, 3) := by decide +kernel
theorem dX5_whose_24 : decode cX5_whose 24 = .ok (.bipush (-4), 2) := by decide +kernel
theorem dX5_whose_26 : decode cX5_whose 26 = .ok (.ireturn, 1) := by decide +kernel
theorem dX5_all_0 : decode cX5_all 0 = .ok (.aload_n 0, 1) := by decide +kernel
theorem dX5_all_1 : decode cX5_all 1 = .ok (.getfield 15, 3) := by decide +kernel
theorem dX5_all_4 : decode cX5_all 4 = .ok (.aload_n 0, 1) := by decide +kernel
theorem dX5_all_5 : decode cX5_all 5 = .ok (.getfield 28, 3) := by decide +kernel
theorem dX5_all_8 : decode cX5_all 8 = .ok (.invokestatic 60, 3) := by decide +kernel
theorem dX5_all_11 : decode cX5_all 11 = .ok (.aload_n 0, 1) := by decide +kernel
theorem dX5_all_12 : decode cX5_all 12 = .ok (.getfield 34, 3) := by decide +kernel
theorem dX5_all_15 : decode cX5_all 15 = .ok (.iadd, 1) := by decide +kernel
theorem dX5_all_16 : decode cX5_all 16 = .ok (.ireturn, 1) := by decide +kernel
theorem dX5_sum_0 : decode cX5_sum 0 = .ok (.iconst 0, 1) := by decide +kernel
theorem dX5_sum_1 : decode cX5_sum 1 = .ok (.istore_n 2, 1) := by decide +kernel
theorem dX5_sum_2 : decode cX5_sum 2 = .ok (.iconst 0, 1) := by decide +kernel
theorem dX5_sum_3 : decode cX5_sum 3 = .ok (.istore_n 3, 1) := by decide +kernel
theorem dX5_sum_4 : decode cX5_sum 4 = .ok (.iload_n 3, 1) := by decide +kernel
theorem dX5_sum_5 : decode cX5_sum 5 = .ok (.iload_n 1, 1) := by decide +kernel
theorem dX5_sum_6 : decode cX5_sum 6 = .ok (.if_icmp .ge 15, 3) := by decide +kernel
theorem dX5_sum_9 : decode cX5_sum 9 = .ok (.iload_n 2, 1) := by decide +kernel
theorem dX5_sum_10 : decode cX5_sum 10 = .ok (.aload_n 0, 1) := by decide +kernel
theorem dX5_sum_11 : decode cX5_sum 11 = .ok (.iload_n 3, 1) := by decide +kernel
theorem dX5_sum_12 : decode cX5_sum 12 = .ok (.iaload, 1) := by decide +kernel
theorem dX5_sum_13 : decode cX5_sum 13 = .ok (.iadd, 1) := by decide +kernel
theorem dX5_sum_14 : decode cX5_sum 14 = .ok (.istore_n 2, 1) := by decide +kernel
theorem dX5_sum_15 : decode cX5_sum 15 = .ok (.iinc 3 1, 3) := by decide +kernel
theorem dX5_sum_18 : decode cX5_sum 18 = .ok (.goto (-14), 3) := by decide +kernel
theorem dX5_sum_21 : decode cX5_sum 21 = .ok (.iload_n 2, 1) := by decide +kernel
theorem dX5_sum_22 : decode cX5_sum 22 = .ok (.ireturn, 1) := by decide +kernel
theorem dX5_hand_0 : decode cX5_hand 0 = .ok (.iload_n 0, 1) := by decide +kernel
theorem dX5_hand_1 : decode cX5_hand 1 = .ok (.tableswitch 34 1 3 #[27, 30, 32], 27) := by decide +kernel
theorem dX5_hand_28 : decode cX5_hand 28 = .ok (.bipush 8, 2) := by decide +kernel
theorem dX5_hand_30 : decode cX5_hand 30 = .ok (.ireturn, 1) := by decide +kernel
theorem dX5_hand_31 : decode cX5_hand 31 = .ok (.iconst 2, 1) := by decide +kernel
theorem dX5_hand_32 : decode cX5_hand 32 = .ok (.ireturn, 1) := by decide +kernel
theorem dX5_hand_33 : decode cX5_hand 33 = .ok (.iconst 5, 1) := by decide +kernel
theorem dX5_hand_34 : decode cX5_hand 34 = .ok (.ireturn, 1) := by decide +kernel
theorem dX5_hand_35 : decode cX5_hand 35 = .ok (.iconst 4, 1) := by decide +kernel
theorem dX5_hand_36 : decode cX5_hand 36 = .ok (.ireturn, 1) := by decide +kernel
theorem dX5_heals_0 : decode cX5_heals 0 = .ok (.iload_n 1, 1) := by decide +kernel
theorem dX5_heals_1 : decode cX5_heals 1 = .ok (.iconst 4, 1) := by decide +kernel
theorem dX5_heals_2 : decode cX5_heals 2 = .ok (.idiv, 1) := by decide +kernel
theorem dX5_heals_3 : decode cX5_heals 3 = .ok (.istore_n 2, 1) := by decide +kernel
theorem dX5_heals_4 : decode cX5_heals 4 = .ok (.iload_n 2, 1) := by decide +kernel
theorem dX5_heals_5 : decode cX5_heals 5 = .ok (.iconst 2, 1) := by decide +kernel
theorem dX5_heals_6 : decode cX5_heals 6 = .ok (.idiv, 1) := by decide +kernel
theorem dX5_heals_7 : decode cX5_heals 7 = .ok (.istore_n 3, 1) := by decide +kernel
theorem dX5_heals_8 : decode cX5_heals 8 = .ok (.iload_n 0, 1) := by decide +kernel
theorem dX5_heals_9 : decode cX5_heals 9 = .ok (.tableswitch 47 1 3 #[27, 29, 37], 27) := by decide +kernel
theorem dX5_heals_36 : decode cX5_heals 36 = .ok (.iload_n 3, 1) := by decide +kernel
theorem dX5_heals_37 : decode cX5_heals 37 = .ok (.ireturn, 1) := by decide +kernel
theorem dX5_heals_38 : decode cX5_heals 38 = .ok (.iload_n 2, 1) := by decide +kernel
theorem dX5_heals_39 : decode cX5_heals 39 = .ok (.iconst 1, 1) := by decide +kernel
theorem dX5_heals_40 : decode cX5_heals 40 = .ok (.iadd, 1) := by decide +kernel
theorem dX5_heals_41 : decode cX5_heals 41 = .ok (.iload_n 1, 1) := by decide +kernel
theorem dX5_heals_42 : decode cX5_heals 42 = .ok (.invokestatic 64, 3) := by decide +kernel
theorem dX5_heals_45 : decode cX5_heals 45 = .ok (.ireturn, 1) := by decide +kernel
theorem dX5_heals_46 : decode cX5_heals 46 = .ok (.iconst 2, 1) := by decide +kernel
theorem dX5_heals_47 : decode cX5_heals 47 = .ok (.iload_n 3, 1) := by decide +kernel
theorem dX5_heals_48 : decode cX5_heals 48 = .ok (.imul, 1) := by decide +kernel
theorem dX5_heals_49 : decode cX5_heals 49 = .ok (.iconst 1, 1) := by decide +kernel
theorem dX5_heals_50 : decode cX5_heals 50 = .ok (.iadd, 1) := by decide +kernel
theorem dX5_heals_51 : decode cX5_heals 51 = .ok (.iload_n 1, 1) := by decide +kernel
theorem dX5_heals_52 : decode cX5_heals 52 = .ok (.invokestatic 64, 3) := by decide +kernel
theorem dX5_heals_55 : decode cX5_heals 55 = .ok (.ireturn, 1) := by decide +kernel
theorem dX5_heals_56 : decode cX5_heals 56 = .ok (.iload_n 2, 1) := by decide +kernel
theorem dX5_heals_57 : decode cX5_heals 57 = .ok (.ireturn, 1) := by decide +kernel
theorem dX5_pass_0 : decode cX5_pass 0 = .ok (.aload_n 0, 1) := by decide +kernel
theorem dX5_pass_1 : decode cX5_pass 1 = .ok (.iconst 0, 1) := by decide +kernel
theorem dX5_pass_2 : decode cX5_pass 2 = .ok (.putfield 40, 3) := by decide +kernel
theorem dX5_pass_5 : decode cX5_pass 5 = .ok (.aload_n 0, 1) := by decide +kernel
theorem dX5_pass_6 : decode cX5_pass 6 = .ok (.iconst 0, 1) := by decide +kernel
theorem dX5_pass_7 : decode cX5_pass 7 = .ok (.putfield 43, 3) := by decide +kernel
theorem dX5_pass_10 : decode cX5_pass 10 = .ok (.iconst 0, 1) := by decide +kernel
theorem dX5_pass_11 : decode cX5_pass 11 = .ok (.istore_n 2, 1) := by decide +kernel
theorem dX5_pass_12 : decode cX5_pass 12 = .ok (.iload_n 2, 1) := by decide +kernel
theorem dX5_pass_13 : decode cX5_pass 13 = .ok (.iload_n 1, 1) := by decide +kernel
theorem dX5_pass_14 : decode cX5_pass 14 = .ok (.if_icmp .ge 13, 3) := by decide +kernel
theorem dX5_pass_17 : decode cX5_pass 17 = .ok (.aload_n 0, 1) := by decide +kernel
theorem dX5_pass_18 : decode cX5_pass 18 = .ok (.invokevirtual 70, 3) := by decide +kernel
theorem dX5_pass_21 : decode cX5_pass 21 = .ok (.iinc 2 1, 3) := by decide +kernel
theorem dX5_pass_24 : decode cX5_pass 24 = .ok (.goto (-12), 3) := by decide +kernel
theorem dX5_pass_27 : decode cX5_pass 27 = .ok (.return_, 1) := by decide +kernel
theorem dX5_passDry_0 : decode cX5_passDry 0 = .ok (.iconst 0, 1) := by decide +kernel
theorem dX5_passDry_1 : decode cX5_passDry 1 = .ok (.istore_n 2, 1) := by decide +kernel
theorem dX5_passDry_2 : decode cX5_passDry 2 = .ok (.iload_n 2, 1) := by decide +kernel
theorem dX5_passDry_3 : decode cX5_passDry 3 = .ok (.iload_n 1, 1) := by decide +kernel
theorem dX5_passDry_4 : decode cX5_passDry 4 = .ok (.if_icmp .ge 20, 3) := by decide +kernel
theorem dX5_passDry_7 : decode cX5_passDry 7 = .ok (.aload_n 0, 1) := by decide +kernel
theorem dX5_passDry_8 : decode cX5_passDry 8 = .ok (.getfield 43, 3) := by decide +kernel
theorem dX5_passDry_11 : decode cX5_passDry 11 = .ok (.ifCond .ne 13, 3) := by decide +kernel
theorem dX5_passDry_14 : decode cX5_passDry 14 = .ok (.aload_n 0, 1) := by decide +kernel
theorem dX5_passDry_15 : decode cX5_passDry 15 = .ok (.invokevirtual 70, 3) := by decide +kernel
theorem dX5_passDry_18 : decode cX5_passDry 18 = .ok (.iinc 2 1, 3) := by decide +kernel
theorem dX5_passDry_21 : decode cX5_passDry 21 = .ok (.goto (-19), 3) := by decide +kernel
theorem dX5_passDry_24 : decode cX5_passDry 24 = .ok (.aload_n 0, 1) := by decide +kernel
theorem dX5_passDry_25 : decode cX5_passDry 25 = .ok (.getfield 43, 3) := by decide +kernel
theorem dX5_passDry_28 : decode cX5_passDry 28 = .ok (.ifCond .ne 7, 3) := by decide +kernel
theorem dX5_passDry_31 : decode cX5_passDry 31 = .ok (.iconst 1, 1) := by decide +kernel
theorem dX5_passDry_32 : decode cX5_passDry 32 = .ok (.goto 4, 3) := by decide +kernel
theorem dX5_passDry_35 : decode cX5_passDry 35 = .ok (.iconst 0, 1) := by decide +kernel
theorem dX5_passDry_36 : decode cX5_passDry 36 = .ok (.ireturn, 1) := by decide +kernel
theorem dX5_passOne_0 : decode cX5_passOne 0 = .ok (.aload_n 0, 1) := by decide +kernel
theorem dX5_passOne_1 : decode cX5_passOne 1 = .ok (.aload_n 0, 1) := by decide +kernel
theorem dX5_passOne_2 : decode cX5_passOne 2 = .ok (.invokevirtual 73, 3) := by decide +kernel
theorem dX5_passOne_5 : decode cX5_passOne 5 = .ok (.invokevirtual 77, 3) := by decide +kernel
theorem dX5_passOne_8 : decode cX5_passOne 8 = .ok (.aload_n 0, 1) := by decide +kernel
theorem dX5_passOne_9 : decode cX5_passOne 9 = .ok (.dup, 1) := by decide +kernel
theorem dX5_passOne_10 : decode cX5_passOne 10 = .ok (.getfield 37, 3) := by decide +kernel
theorem dX5_passOne_13 : decode cX5_passOne 13 = .ok (.iconst 1, 1) := by decide +kernel
theorem dX5_passOne_14 : decode cX5_passOne 14 = .ok (.iadd, 1) := by decide +kernel
theorem dX5_passOne_15 : decode cX5_passOne 15 = .ok (.putfield 37, 3) := by decide +kernel
theorem dX5_passOne_18 : decode cX5_passOne 18 = .ok (.return_, 1) := by decide +kernel
theorem dX5_wheel_0 : decode cX5_wheel 0 = .ok (.aload_n 0, 1) := by decide +kernel
theorem dX5_wheel_1 : decode cX5_wheel 1 = .ok (.iload_n 1, 1) := by decide +kernel
theorem dX5_wheel_2 : decode cX5_wheel 2 = .ok (.invokevirtual 52, 3) := by decide +kernel
theorem dX5_wheel_5 : decode cX5_wheel 5 = .ok (.ifCond .ne 4, 3) := by decide +kernel
theorem dX5_wheel_8 : decode cX5_wheel 8 = .ok (.return_, 1) := by decide +kernel
theorem dX5_wheel_9 : decode cX5_wheel 9 = .ok (.aload_n 0, 1) := by decide +kernel
theorem dX5_wheel_10 : decode cX5_wheel 10 = .ok (.getfield 9, 3) := by decide +kernel
theorem dX5_wheel_13 : decode cX5_wheel 13 = .ok (.iload_n 1, 1) := by decide +kernel
theorem dX5_wheel_14 : decode cX5_wheel 14 = .ok (.iaload, 1) := by decide +kernel
theorem dX5_wheel_15 : decode cX5_wheel 15 = .ok (.invokestatic 81, 3) := by decide +kernel
theorem dX5_wheel_18 : decode cX5_wheel 18 = .ok (.aload_n 0, 1) := by decide +kernel
theorem dX5_wheel_19 : decode cX5_wheel 19 = .ok (.getfield 15, 3) := by decide +kernel
theorem dX5_wheel_22 : decode cX5_wheel 22 = .ok (.iload_n 1, 1) := by decide +kernel
theorem dX5_wheel_23 : decode cX5_wheel 23 = .ok (.iaload, 1) := by decide +kernel
theorem dX5_wheel_24 : decode cX5_wheel 24 = .ok (.invokestatic 64, 3) := by decide +kernel
theorem dX5_wheel_27 : decode cX5_wheel 27 = .ok (.aload_n 0, 1) := by decide +kernel
theorem dX5_wheel_28 : decode cX5_wheel 28 = .ok (.getfield 24, 3) := by decide +kernel
theorem dX5_wheel_31 : decode cX5_wheel 31 = .ok (.aload_n 0, 1) := by decide +kernel
theorem dX5_wheel_32 : decode cX5_wheel 32 = .ok (.getfield 34, 3) := by decide +kernel
theorem dX5_wheel_35 : decode cX5_wheel 35 = .ok (.isub, 1) := by decide +kernel
theorem dX5_wheel_36 : decode cX5_wheel 36 = .ok (.iconst 0, 1) := by decide +kernel
theorem dX5_wheel_37 : decode cX5_wheel 37 = .ok (.invokestatic 85, 3) := by decide +kernel
theorem dX5_wheel_40 : decode cX5_wheel 40 = .ok (.invokestatic 64, 3) := by decide +kernel
theorem dX5_wheel_43 : decode cX5_wheel 43 = .ok (.istore_n 2, 1) := by decide +kernel
theorem dX5_wheel_44 : decode cX5_wheel 44 = .ok (.aload_n 0, 1) := by decide +kernel
theorem dX5_wheel_45 : decode cX5_wheel 45 = .ok (.getfield 15, 3) := by decide +kernel
theorem dX5_wheel_48 : decode cX5_wheel 48 = .ok (.iload_n 1, 1) := by decide +kernel
theorem dX5_wheel_49 : decode cX5_wheel 49 = .ok (.dup2, 1) := by decide +kernel
theorem dX5_wheel_50 : decode cX5_wheel 50 = .ok (.iaload, 1) := by decide +kernel
theorem dX5_wheel_51 : decode cX5_wheel 51 = .ok (.iload_n 2, 1) := by decide +kernel
theorem dX5_wheel_52 : decode cX5_wheel 52 = .ok (.isub, 1) := by decide +kernel
theorem dX5_wheel_53 : decode cX5_wheel 53 = .ok (.iastore, 1) := by decide +kernel
theorem dX5_wheel_54 : decode cX5_wheel 54 = .ok (.aload_n 0, 1) := by decide +kernel
theorem dX5_wheel_55 : decode cX5_wheel 55 = .ok (.dup, 1) := by decide +kernel
theorem dX5_wheel_56 : decode cX5_wheel 56 = .ok (.getfield 34, 3) := by decide +kernel
theorem dX5_wheel_59 : decode cX5_wheel 59 = .ok (.iload_n 2, 1) := by decide +kernel
theorem dX5_wheel_60 : decode cX5_wheel 60 = .ok (.iadd, 1) := by decide +kernel
theorem dX5_wheel_61 : decode cX5_wheel 61 = .ok (.putfield 34, 3) := by decide +kernel
theorem dX5_wheel_64 : decode cX5_wheel 64 = .ok (.aload_n 0, 1) := by decide +kernel
theorem dX5_wheel_65 : decode cX5_wheel 65 = .ok (.getfield 9, 3) := by decide +kernel
theorem dX5_wheel_68 : decode cX5_wheel 68 = .ok (.iload_n 1, 1) := by decide +kernel
theorem dX5_wheel_69 : decode cX5_wheel 69 = .ok (.iaload, 1) := by decide +kernel
theorem dX5_wheel_70 : decode cX5_wheel 70 = .ok (.aload_n 0, 1) := by decide +kernel
theorem dX5_wheel_71 : decode cX5_wheel 71 = .ok (.getfield 34, 3) := by decide +kernel
theorem dX5_wheel_74 : decode cX5_wheel 74 = .ok (.invokestatic 88, 3) := by decide +kernel
theorem dX5_wheel_77 : decode cX5_wheel 77 = .ok (.istore_n 3, 1) := by decide +kernel
theorem dX5_wheel_78 : decode cX5_wheel 78 = .ok (.aload_n 0, 1) := by decide +kernel
theorem dX5_wheel_79 : decode cX5_wheel 79 = .ok (.dup, 1) := by decide +kernel
theorem dX5_wheel_80 : decode cX5_wheel 80 = .ok (.getfield 34, 3) := by decide +kernel
theorem dX5_wheel_83 : decode cX5_wheel 83 = .ok (.iload_n 3, 1) := by decide +kernel
theorem dX5_wheel_84 : decode cX5_wheel 84 = .ok (.isub, 1) := by decide +kernel
theorem dX5_wheel_85 : decode cX5_wheel 85 = .ok (.putfield 34, 3) := by decide +kernel
theorem dX5_wheel_88 : decode cX5_wheel 88 = .ok (.aload_n 0, 1) := by decide +kernel
theorem dX5_wheel_89 : decode cX5_wheel 89 = .ok (.dup, 1) := by decide +kernel
theorem dX5_wheel_90 : decode cX5_wheel 90 = .ok (.getfield 40, 3) := by decide +kernel
theorem dX5_wheel_93 : decode cX5_wheel 93 = .ok (.iload_n 3, 1) := by decide +kernel
theorem dX5_wheel_94 : decode cX5_wheel 94 = .ok (.iadd, 1) := by decide +kernel
theorem dX5_wheel_95 : decode cX5_wheel 95 = .ok (.putfield 40, 3) := by decide +kernel
theorem dX5_wheel_98 : decode cX5_wheel 98 = .ok (.aload_n 0, 1) := by decide +kernel
theorem dX5_wheel_99 : decode cX5_wheel 99 = .ok (.getfield 34, 3) := by decide +kernel
theorem dX5_wheel_102 : decode cX5_wheel 102 = .ok (.aload_n 0, 1) := by decide +kernel
theorem dX5_wheel_103 : decode cX5_wheel 103 = .ok (.getfield 18, 3) := by decide +kernel
theorem dX5_wheel_106 : decode cX5_wheel 106 = .ok (.iload_n 1, 1) := by decide +kernel
theorem dX5_wheel_107 : decode cX5_wheel 107 = .ok (.iaload, 1) := by decide +kernel
theorem dX5_wheel_108 : decode cX5_wheel 108 = .ok (.if_icmp .le 29, 3) := by decide +kernel
theorem dX5_wheel_111 : decode cX5_wheel 111 = .ok (.aload_n 0, 1) := by decide +kernel
theorem dX5_wheel_112 : decode cX5_wheel 112 = .ok (.iload_n 1, 1) := by decide +kernel
theorem dX5_wheel_113 : decode cX5_wheel 113 = .ok (.aload_n 0, 1) := by decide +kernel
theorem dX5_wheel_114 : decode cX5_wheel 114 = .ok (.getfield 34, 3) := by decide +kernel
theorem dX5_wheel_117 : decode cX5_wheel 117 = .ok (.aload_n 0, 1) := by decide +kernel
theorem dX5_wheel_118 : decode cX5_wheel 118 = .ok (.getfield 18, 3) := by decide +kernel
theorem dX5_wheel_121 : decode cX5_wheel 121 = .ok (.iload_n 1, 1) := by decide +kernel
theorem dX5_wheel_122 : decode cX5_wheel 122 = .ok (.iaload, 1) := by decide +kernel
theorem dX5_wheel_123 : decode cX5_wheel 123 = .ok (.isub, 1) := by decide +kernel
theorem dX5_wheel_124 : decode cX5_wheel 124 = .ok (.invokevirtual 91, 3) := by decide +kernel
theorem dX5_wheel_127 : decode cX5_wheel 127 = .ok (.aload_n 0, 1) := by decide +kernel
theorem dX5_wheel_128 : decode cX5_wheel 128 = .ok (.aload_n 0, 1) := by decide +kernel
theorem dX5_wheel_129 : decode cX5_wheel 129 = .ok (.getfield 18, 3) := by decide +kernel
theorem dX5_wheel_132 : decode cX5_wheel 132 = .ok (.iload_n 1, 1) := by decide +kernel
theorem dX5_wheel_133 : decode cX5_wheel 133 = .ok (.iaload, 1) := by decide +kernel
theorem dX5_wheel_134 : decode cX5_wheel 134 = .ok (.putfield 34, 3) := by decide +kernel
theorem dX5_wheel_137 : decode cX5_wheel 137 = .ok (.return_, 1) := by decide +kernel
theorem dX5_spill_0 : decode cX5_spill 0 = .ok (.aload_n 0, 1) := by decide +kernel
theorem dX5_spill_1 : decode cX5_spill 1 = .ok (.dup, 1) := by decide +kernel
theorem dX5_spill_2 : decode cX5_spill 2 = .ok (.getfield 43, 3) := by decide +kernel
theorem dX5_spill_5 : decode cX5_spill 5 = .ok (.iload_n 2, 1) := by decide +kernel
theorem dX5_spill_6 : decode cX5_spill 6 = .ok (.iadd, 1) := by decide +kernel
theorem dX5_spill_7 : decode cX5_spill 7 = .ok (.putfield 43, 3) := by decide +kernel
theorem dX5_spill_10 : decode cX5_spill 10 = .ok (.iload_n 1, 1) := by decide +kernel
theorem dX5_spill_11 : decode cX5_spill 11 = .ok (.istore_n 3, 1) := by decide +kernel
theorem dX5_spill_12 : decode cX5_spill 12 = .ok (.iconst 0, 1) := by decide +kernel
theorem dX5_spill_13 : decode cX5_spill 13 = .ok (.istore 4, 2) := by decide +kernel
theorem dX5_spill_15 : decode cX5_spill 15 = .ok (.iload 4, 2) := by decide +kernel
theorem dX5_spill_17 : decode cX5_spill 17 = .ok (.iload_n 2, 1) := by decide +kernel
theorem dX5_spill_18 : decode cX5_spill 18 = .ok (.if_icmp .ge 46, 3) := by decide +kernel
theorem dX5_spill_21 : decode cX5_spill 21 = .ok (.iload_n 3, 1) := by decide +kernel
theorem dX5_spill_22 : decode cX5_spill 22 = .ok (.iconst 1, 1) := by decide +kernel
theorem dX5_spill_23 : decode cX5_spill 23 = .ok (.iadd, 1) := by decide +kernel
theorem dX5_spill_24 : decode cX5_spill 24 = .ok (.aload_n 0, 1) := by decide +kernel
theorem dX5_spill_25 : decode cX5_spill 25 = .ok (.getfield 28, 3) := by decide +kernel
theorem dX5_spill_28 : decode cX5_spill 28 = .ok (.if_icmp .ge 9, 3) := by decide +kernel
theorem dX5_spill_31 : decode cX5_spill 31 = .ok (.iload_n 3, 1) := by decide +kernel
theorem dX5_spill_32 : decode cX5_spill 32 = .ok (.iconst 1, 1) := by decide +kernel
theorem dX5_spill_33 : decode cX5_spill 33 = .ok (.iadd, 1) := by decide +kernel
theorem dX5_spill_34 : decode cX5_spill 34 = .ok (.goto 4, 3) := by decide +kernel
theorem dX5_spill_37 : decode cX5_spill 37 = .ok (.iconst 0, 1) := by decide +kernel
theorem dX5_spill_38 : decode cX5_spill 38 = .ok (.istore_n 3, 1) := by decide +kernel
theorem dX5_spill_39 : decode cX5_spill 39 = .ok (.aload_n 0, 1) := by decide +kernel
theorem dX5_spill_40 : decode cX5_spill 40 = .ok (.getfield 15, 3) := by decide +kernel
theorem dX5_spill_43 : decode cX5_spill 43 = .ok (.iload_n 3, 1) := by decide +kernel
theorem dX5_spill_44 : decode cX5_spill 44 = .ok (.aload_n 0, 1) := by decide +kernel
theorem dX5_spill_45 : decode cX5_spill 45 = .ok (.getfield 15, 3) := by decide +kernel
theorem dX5_spill_48 : decode cX5_spill 48 = .ok (.iload_n 3, 1) := by decide +kernel
theorem dX5_spill_49 : decode cX5_spill 49 = .ok (.iaload, 1) := by decide +kernel
theorem dX5_spill_50 : decode cX5_spill 50 = .ok (.iconst 1, 1) := by decide +kernel
theorem dX5_spill_51 : decode cX5_spill 51 = .ok (.iadd, 1) := by decide +kernel
theorem dX5_spill_52 : decode cX5_spill 52 = .ok (.bipush 99, 2) := by decide +kernel
theorem dX5_spill_54 : decode cX5_spill 54 = .ok (.invokestatic 64, 3) := by decide +kernel
theorem dX5_spill_57 : decode cX5_spill 57 = .ok (.iastore, 1) := by decide +kernel
theorem dX5_spill_58 : decode cX5_spill 58 = .ok (.iinc 4 1, 3) := by decide +kernel
theorem dX5_spill_61 : decode cX5_spill 61 = .ok (.goto (-46), 3) := by decide +kernel
theorem dX5_spill_64 : decode cX5_spill 64 = .ok (.return_, 1) := by decide +kernel
theorem dX5_grieve_0 : decode cX5_grieve 0 = .ok (.aload_n 0, 1) := by decide +kernel
theorem dX5_grieve_1 : decode cX5_grieve 1 = .ok (.iload_n 1, 1) := by decide +kernel
theorem dX5_grieve_2 : decode cX5_grieve 2 = .ok (.invokevirtual 52, 3) := by decide +kernel
theorem dX5_grieve_5 : decode cX5_grieve 5 = .ok (.ifCond .eq 22, 3) := by decide +kernel
theorem dX5_grieve_8 : decode cX5_grieve 8 = .ok (.aload_n 0, 1) := by decide +kernel
theorem dX5_grieve_9 : decode cX5_grieve 9 = .ok (.getfield 15, 3) := by decide +kernel
theorem dX5_grieve_12 : decode cX5_grieve 12 = .ok (.iload_n 1, 1) := by decide +kernel
theorem dX5_grieve_13 : decode cX5_grieve 13 = .ok (.aload_n 0, 1) := by decide +kernel
theorem dX5_grieve_14 : decode cX5_grieve 14 = .ok (.getfield 15, 3) := by decide +kernel
theorem dX5_grieve_17 : decode cX5_grieve 17 = .ok (.iload_n 1, 1) := by decide +kernel
theorem dX5_grieve_18 : decode cX5_grieve 18 = .ok (.iaload, 1) := by decide +kernel
theorem dX5_grieve_19 : decode cX5_grieve 19 = .ok (.iload_n 2, 1) := by decide +kernel
theorem dX5_grieve_20 : decode cX5_grieve 20 = .ok (.iadd, 1) := by decide +kernel
theorem dX5_grieve_21 : decode cX5_grieve 21 = .ok (.bipush 99, 2) := by decide +kernel
theorem dX5_grieve_23 : decode cX5_grieve 23 = .ok (.invokestatic 64, 3) := by decide +kernel
theorem dX5_grieve_26 : decode cX5_grieve 26 = .ok (.iastore, 1) := by decide +kernel
theorem dX5_grieve_27 : decode cX5_grieve 27 = .ok (.return_, 1) := by decide +kernel
theorem dX6_init_0 : decode cX6_init 0 = .ok (.aload_n 0, 1) := by decide +kernel
theorem dX6_init_1 : decode cX6_init 1 = .ok (.invokespecial 1, 3) := by decide +kernel
theorem dX6_init_4 : decode cX6_init 4 = .ok (.aload_n 0, 1) := by decide +kernel
theorem dX6_init_5 : decode cX6_init 5 = .ok (.new 7, 3) := by decide +kernel
theorem dX6_init_8 : decode cX6_init 8 = .ok (.dup, 1) := by decide +kernel
theorem dX6_init_9 : decode cX6_init 9 = .ok (.invokespecial 9, 3) := by decide +kernel
theorem dX6_init_12 : decode cX6_init 12 = .ok (.putfield 10, 3) := by decide +kernel
theorem dX6_init_15 : decode cX6_init 15 = .ok (.aload_n 0, 1) := by decide +kernel
theorem dX6_init_16 : decode cX6_init 16 = .ok (.new 7, 3) := by decide +kernel
theorem dX6_init_19 : decode cX6_init 19 = .ok (.dup, 1) := by decide +kernel
theorem dX6_init_20 : decode cX6_init 20 = .ok (.invokespecial 9, 3) := by decide +kernel
theorem dX6_init_23 : decode cX6_init 23 = .ok (.putfield 16, 3) := by decide +kernel
theorem dX6_init_26 : decode cX6_init 26 = .ok (.aload_n 0, 1) := by decide +kernel
theorem dX6_init_27 : decode cX6_init 27 = .ok (.iconst 4, 1) := by decide +kernel
theorem dX6_init_28 : decode cX6_init 28 = .ok (.anewarray 7, 3) := by decide +kernel
theorem dX6_init_31 : decode cX6_init 31 = .ok (.putfield 19, 3) := by decide +kernel
theorem dX6_init_34 : decode cX6_init 34 = .ok (.aload_n 0, 1) := by decide +kernel
theorem dX6_init_35 : decode cX6_init 35 = .ok (.new 23, 3) := by decide +kernel
theorem dX6_init_38 : decode cX6_init 38 = .ok (.dup, 1) := by decide +kernel
theorem dX6_init_39 : decode cX6_init 39 = .ok (.invokespecial 25, 3) := by decide +kernel
theorem dX6_init_42 : decode cX6_init 42 = .ok (.putfield 26, 3) := by decide +kernel
theorem dX6_init_45 : decode cX6_init 45 = .ok (.aload_n 0, 1) := by decide +kernel
theorem dX6_init_46 : decode cX6_init 46 = .ok (.iconst 2, 1) := by decide +kernel
theorem dX6_init_47 : decode cX6_init 47 = .ok (.anewarray 30, 3) := by decide +kernel
theorem dX6_init_50 : decode cX6_init 50 = .ok (.putfield 32, 3) := by decide +kernel
theorem dX6_init_53 : decode cX6_init 53 = .ok (.aload_n 0, 1) := by decide +kernel
theorem dX6_init_54 : decode cX6_init 54 = .ok (.iconst 4, 1) := by decide +kernel
theorem dX6_init_55 : decode cX6_init 55 = .ok (.anewarray 36, 3) := by decide +kernel
theorem dX6_init_58 : decode cX6_init 58 = .ok (.putfield 38, 3) := by decide +kernel
theorem dX6_init_61 : decode cX6_init 61 = .ok (.aload_n 0, 1) := by decide +kernel
theorem dX6_init_62 : decode cX6_init 62 = .ok (.new 42, 3) := by decide +kernel
theorem dX6_init_65 : decode cX6_init 65 = .ok (.dup, 1) := by decide +kernel
theorem dX6_init_66 : decode cX6_init 66 = .ok (.invokespecial 44, 3) := by decide +kernel
theorem dX6_init_69 : decode cX6_init 69 = .ok (.putfield 45, 3) := by decide +kernel
theorem dX6_init_72 : decode cX6_init 72 = .ok (.aload_n 0, 1) := by decide +kernel
theorem dX6_init_73 : decode cX6_init 73 = .ok (.new 49, 3) := by decide +kernel
theorem dX6_init_76 : decode cX6_init 76 = .ok (.dup, 1) := by decide +kernel
theorem dX6_init_77 : decode cX6_init 77 = .ok (.aload_n 0, 1) := by decide +kernel
theorem dX6_init_78 : decode cX6_init 78 = .ok (.getfield 45, 3) := by decide +kernel
theorem dX6_init_81 : decode cX6_init 81 = .ok (.aload_n 0, 1) := by decide +kernel
theorem dX6_init_82 : decode cX6_init 82 = .ok (.getfield 16, 3) := by decide +kernel
theorem dX6_init_85 : decode cX6_init 85 = .ok (.invokespecial 51, 3) := by decide +kernel
theorem dX6_init_88 : decode cX6_init 88 = .ok (.putfield 54, 3) := by decide +kernel
theorem dX6_init_91 : decode cX6_init 91 = .ok (.aload_n 0, 1) := by decide +kernel
theorem dX6_init_92 : decode cX6_init 92 = .ok (.bipush 8, 2) := by decide +kernel
theorem dX6_init_94 : decode cX6_init 94 = .ok (.newarray .int, 2) := by decide +kernel
theorem dX6_init_96 : decode cX6_init 96 = .ok (.putfield 58, 3) := by decide +kernel
theorem dX6_init_99 : decode cX6_init 99 = .ok (.aload_n 0, 1) := by decide +kernel
theorem dX6_init_100 : decode cX6_init 100 = .ok (.bipush 8, 2) := by decide +kernel
theorem dX6_init_102 : decode cX6_init 102 = .ok (.newarray .int, 2) := by decide +kernel
theorem dX6_init_104 : decode cX6_init 104 = .ok (.putfield 62, 3) := by decide +kernel
theorem dX6_init_107 : decode cX6_init 107 = .ok (.iconst 0, 1) := by decide +kernel
theorem dX6_init_108 : decode cX6_init 108 = .ok (.istore_n 1, 1) := by decide +kernel
theorem dX6_init_109 : decode cX6_init 109 = .ok (.iload_n 1, 1) := by decide +kernel
theorem dX6_init_110 : decode cX6_init 110 = .ok (.iconst 4, 1) := by decide +kernel
theorem dX6_init_111 : decode cX6_init 111 = .ok (.if_icmp .ge 22, 3) := by decide +kernel
theorem dX6_init_114 : decode cX6_init 114 = .ok (.aload_n 0, 1) := by decide +kernel
theorem dX6_init_115 : decode cX6_init 115 = .ok (.getfield 19, 3) := by decide +kernel
theorem dX6_init_118 : decode cX6_init 118 = .ok (.iload_n 1, 1) := by decide +kernel
theorem dX6_init_119 : decode cX6_init 119 = .ok (.new 7, 3) := by decide +kernel
theorem dX6_init_122 : decode cX6_init 122 = .ok (.dup, 1) := by decide +kernel
theorem dX6_init_123 : decode cX6_init 123 = .ok (.invokespecial 9, 3) := by decide +kernel
theorem dX6_init_126 : decode cX6_init 126 = .ok (.aastore, 1) := by decide +kernel
theorem dX6_init_127 : decode cX6_init 127 = .ok (.iinc 1 1, 3) := by decide +kernel
theorem dX6_init_130 : decode cX6_init 130 = .ok (.goto (-21), 3) := by decide +kernel
theorem dX6_init_133 : decode cX6_init 133 = .ok (.iconst 0, 1) := by decide +kernel
theorem dX6_init_134 : decode cX6_init 134 = .ok (.istore_n 1, 1) := by decide +kernel
theorem dX6_init_135 : decode cX6_init 135 = .ok (.iload_n 1, 1) := by decide +kernel
theorem dX6_init_136 : decode cX6_init 136 = .ok (.iconst 2, 1) := by decide +kernel
theorem dX6_init_137 : decode cX6_init 137 = .ok (.if_icmp .ge 22, 3) := by decide +kernel
theorem dX6_init_140 : decode cX6_init 140 = .ok (.aload_n 0, 1) := by decide +kernel
theorem dX6_init_141 : decode cX6_init 141 = .ok (.getfield 32, 3) := by decide +kernel
theorem dX6_init_144 : decode cX6_init 144 = .ok (.iload_n 1, 1) := by decide +kernel
theorem dX6_init_145 : decode cX6_init 145 = .ok (.new 30, 3) := by decide +kernel
theorem dX6_init_148 : decode cX6_init 148 = .ok (.dup, 1) := by decide +kernel
theorem dX6_init_149 : decode cX6_init 149 = .ok (.invokespecial 65, 3) := by decide +kernel
theorem dX6_init_152 : decode cX6_init 152 = .ok (.aastore, 1) := by decide +kernel
theorem dX6_init_153 : decode cX6_init 153 = .ok (.iinc 1 1, 3) := by decide +kernel
theorem dX6_init_156 : decode cX6_init 156 = .ok (.goto (-21), 3) := by decide +kernel
theorem dX6_init_159 : decode cX6_init 159 = .ok (.iconst 0, 1) := by decide +kernel
theorem dX6_init_160 : decode cX6_init 160 = .ok (.istore_n 1, 1) := by decide +kernel
theorem dX6_init_161 : decode cX6_init 161 = .ok (.iload_n 1, 1) := by decide +kernel
theorem dX6_init_162 : decode cX6_init 162 = .ok (.iconst 4, 1) := by decide +kernel
theorem dX6_init_163 : decode cX6_init 163 = .ok (.if_icmp .ge 22, 3) := by decide +kernel
theorem dX6_init_166 : decode cX6_init 166 = .ok (.aload_n 0, 1) := by decide +kernel
theorem dX6_init_167 : decode cX6_init 167 = .ok (.getfield 38, 3) := by decide +kernel
theorem dX6_init_170 : decode cX6_init 170 = .ok (.iload_n 1, 1) := by decide +kernel
theorem dX6_init_171 : decode cX6_init 171 = .ok (.new 36, 3) := by decide +kernel
theorem dX6_init_174 : decode cX6_init 174 = .ok (.dup, 1) := by decide +kernel
theorem dX6_init_175 : decode cX6_init 175 = .ok (.invokespecial 66, 3) := by decide +kernel
theorem dX6_init_178 : decode cX6_init 178 = .ok (.aastore, 1) := by decide +kernel
theorem dX6_init_179 : decode cX6_init 179 = .ok (.iinc 1 1, 3) := by decide +kernel
theorem dX6_init_182 : decode cX6_init 182 = .ok (.goto (-21), 3) := by decide +kernel
theorem dX6_init_185 : decode cX6_init 185 = .ok (.return_, 1) := by decide +kernel
theorem dX6_feed_0 : decode cX6_feed 0 = .ok (.iload_n 1, 1) := by decide +kernel
theorem dX6_feed_1 : decode cX6_feed 1 = .ok (.iconst 0, 1) := by decide +kernel
theorem dX6_feed_2 : decode cX6_feed 2 = .ok (.bipush 127, 2) := by decide +kernel
theorem dX6_feed_4 : decode cX6_feed 4 = .ok (.invokestatic 67, 3) := by decide +kernel
theorem dX6_feed_7 : decode cX6_feed 7 = .ok (.ifCond .ne 5, 3) := by decide +kernel
theorem dX6_feed_10 : decode cX6_feed 10 = .ok (.iconst (-1), 1) := by decide +kernel
theorem dX6_feed_11 : decode cX6_feed 11 = .ok (.ireturn, 1) := by decide +kernel
theorem dX6_feed_12 : decode cX6_feed 12 = .ok (.aload_n 0, 1) := by decide +kernel
theorem dX6_feed_13 : decode cX6_feed 13 = .ok (.getfield 45, 3) := by decide +kernel
theorem dX6_feed_16 : decode cX6_feed 16 = .ok (.getfield 71, 3) := by decide +kernel
theorem dX6_feed_19 : decode cX6_feed 19 = .ok (.sipush 160, 3) := by decide +kernel
theorem dX6_feed_22 : decode cX6_feed 22 = .ok (.if_icmp .lt 6, 3) := by decide +kernel
theorem dX6_feed_25 : decode cX6_feed 25 = .ok (.bipush (-3), 2) := by decide +kernel
theorem dX6_feed_27 : decode cX6_feed 27 = .ok (.ireturn, 1) := by decide +kernel
theorem dX6_feed_28 : decode cX6_feed 28 = .ok (.aload_n 0, 1) := by decide +kernel
theorem dX6_feed_29 : decode cX6_feed 29 = .ok (.getfield 45, 3) := by decide +kernel
theorem dX6_feed_32 : decode cX6_feed 32 = .ok (.getfield 75, 3) := by decide +kernel
theorem dX6_feed_35 : decode cX6_feed 35 = .ok (.aload_n 0, 1) := by decide +kernel
theorem dX6_feed_36 : decode cX6_feed 36 = .ok (.getfield 45, 3) := by decide +kernel
theorem dX6_feed_39 : decode cX6_feed 39 = .ok (.getfield 71, 3) := by decide +kernel
theorem dX6_feed_42 : decode cX6_feed 42 = .ok (.iload_n 1, 1) := by decide +kernel
theorem dX6_feed_43 : decode cX6_feed 43 = .ok (.i2b, 1) := by decide +kernel
theorem dX6_feed_44 : decode cX6_feed 44 = .ok (.bastore, 1) := by decide +kernel
theorem dX6_feed_45 : decode cX6_feed 45 = .ok (.aload_n 0, 1) := by decide +kernel
theorem dX6_feed_46 : decode cX6_feed 46 = .ok (.getfield 45, 3) := by decide +kernel
theorem dX6_feed_49 : decode cX6_feed 49 = .ok (.dup, 1) := by decide +kernel
theorem dX6_feed_50 : decode cX6_feed 50 = .ok (.getfield 71, 3) := by decide +kernel
theorem dX6_feed_53 : decode cX6_feed 53 = .ok (.iconst 1, 1) := by decide +kernel
theorem dX6_feed_54 : decode cX6_feed 54 = .ok (.iadd, 1) := by decide +kernel
theorem dX6_feed_55 : decode cX6_feed 55 = .ok (.putfield 71, 3) := by decide +kernel
theorem dX6_feed_58 : decode cX6_feed 58 = .ok (.aload_n 0, 1) := by decide +kernel
theorem dX6_feed_59 : decode cX6_feed 59 = .ok (.getfield 45, 3) := by decide +kernel
theorem dX6_feed_62 : decode cX6_feed 62 = .ok (.getfield 71, 3) := by decide +kernel
theorem dX6_feed_65 : decode cX6_feed 65 = .ok (.ireturn, 1) := by decide +kernel
theorem dX6_end_0 : decode cX6_end 0 = .ok (.iload_n 1, 1) := by decide +kernel
theorem dX6_end_1 : decode cX6_end 1 = .ok (.iconst 0, 1) := by decide +kernel
theorem dX6_end_2 : decode cX6_end 2 = .ok (.aload_n 0, 1) := by decide +kernel
theorem dX6_end_3 : decode cX6_end 3 = .ok (.getfield 45, 3) := by decide +kernel
theorem dX6_end_6 : decode cX6_end 6 = .ok (.getfield 71, 3) := by decide +kernel
theorem dX6_end_9 : decode cX6_end 9 = .ok (.invokestatic 67, 3) := by decide +kernel
theorem dX6_end_12 : decode cX6_end 12 = .ok (.ifCond .ne 5, 3) := by decide +kernel
theorem dX6_end_15 : decode cX6_end 15 = .ok (.iconst (-1), 1) := by decide +kernel
theorem dX6_end_16 : decode cX6_end 16 = .ok (.ireturn, 1) := by decide +kernel
theorem dX6_end_17 : decode cX6_end 17 = .ok (.aload_n 0, 1) := by decide +kernel
theorem dX6_end_18 : decode cX6_end 18 = .ok (.getfield 45, 3) := by decide +kernel
theorem dX6_end_21 : decode cX6_end 21 = .ok (.getfield 71, 3) := by decide +kernel
theorem dX6_end_24 : decode cX6_end 24 = .ok (.istore_n 2, 1) := by decide +kernel
theorem dX6_end_25 : decode cX6_end 25 = .ok (.aload_n 0, 1) := by decide +kernel
theorem dX6_end_26 : decode cX6_end 26 = .ok (.getfield 45, 3) := by decide +kernel
theorem dX6_end_29 : decode cX6_end 29 = .ok (.iload_n 1, 1) := by decide +kernel
theorem dX6_end_30 : decode cX6_end 30 = .ok (.putfield 71, 3) := by decide +kernel
theorem dX6_end_33 : decode cX6_end 33 = .ok (.iload_n 2, 1) := by decide +kernel
theorem dX6_end_34 : decode cX6_end 34 = .ok (.ireturn, 1) := by decide +kernel
theorem dX6_text_0 : decode cX6_text 0 = .ok (.aload_n 0, 1) := by decide +kernel
theorem dX6_text_1 : decode cX6_text 1 = .ok (.getfield 54, 3) := by decide +kernel
theorem dX6_text_4 : decode cX6_text 4 = .ok (.invokevirtual 79, 3) := by decide +kernel
theorem dX6_text_7 : decode cX6_text 7 = .ok (.istore_n 1, 1) := by decide +kernel
theorem dX6_text_8 : decode cX6_text 8 = .ok (.aload_n 0, 1) := by decide +kernel
theorem dX6_text_9 : decode cX6_text 9 = .ok (.getfield 45, 3) := by decide +kernel
theorem dX6_text_12 : decode cX6_text 12 = .ok (.iconst 0, 1) := by decide +kernel
theorem dX6_text_13 : decode cX6_text 13 = .ok (.putfield 71, 3) := by decide +kernel
theorem dX6_text_16 : decode cX6_text 16 = .ok (.aload_n 0, 1) := by decide +kernel
theorem dX6_text_17 : decode cX6_text 17 = .ok (.getfield 54, 3) := by decide +kernel
theorem dX6_text_20 : decode cX6_text 20 = .ok (.getfield 83, 3) := by decide +kernel
theorem dX6_text_23 : decode cX6_text 23 = .ok (.ifCond .ne 45, 3) := by decide +kernel
theorem dX6_text_26 : decode cX6_text 26 = .ok (.aload_n 0, 1) := by decide +kernel
theorem dX6_text_27 : decode cX6_text 27 = .ok (.getfield 10, 3) := by decide +kernel
theorem dX6_text_30 : decode cX6_text 30 = .ok (.aload_n 0, 1) := by decide +kernel
theorem dX6_text_31 : decode cX6_text 31 = .ok (.getfield 16, 3) := by decide +kernel
theorem dX6_text_34 : decode cX6_text 34 = .ok (.invokevirtual 86, 3) := by decide +kernel
theorem dX6_text_37 : decode cX6_text 37 = .ok (.aload_n 0, 1) := by decide +kernel
theorem dX6_text_38 : decode cX6_text 38 = .ok (.getfield 26, 3) := by decide +kernel
theorem dX6_text_41 : decode cX6_text 41 = .ok (.iconst 0, 1) := by decide +kernel
theorem dX6_text_42 : decode cX6_text 42 = .ok (.putfield 90, 3) := by decide +kernel
theorem dX6_text_45 : decode cX6_text 45 = .ok (.iconst 0, 1) := by decide +kernel
theorem dX6_text_46 : decode cX6_text 46 = .ok (.istore_n 2, 1) := by decide +kernel
theorem dX6_text_47 : decode cX6_text 47 = .ok (.iload_n 2, 1) := by decide +kernel
theorem dX6_text_48 : decode cX6_text 48 = .ok (.iconst 2, 1) := by decide +kernel
theorem dX6_text_49 : decode cX6_text 49 = .ok (.if_icmp .ge 19, 3) := by decide +kernel
theorem dX6_text_52 : decode cX6_text 52 = .ok (.aload_n 0, 1) := by decide +kernel
theorem dX6_text_53 : decode cX6_text 53 = .ok (.getfield 32, 3) := by decide +kernel
theorem dX6_text_56 : decode cX6_text 56 = .ok (.iload_n 2, 1) := by decide +kernel
theorem dX6_text_57 : decode cX6_text 57 = .ok (.aaload, 1) := by decide +kernel
theorem dX6_text_58 : decode cX6_text 58 = .ok (.iconst 0, 1) := by decide +kernel
theorem dX6_text_59 : decode cX6_text 59 = .ok (.putfield 91, 3) := by decide +kernel
theorem dX6_text_62 : decode cX6_text 62 = .ok (.iinc 2 1, 3) := by decide +kernel
theorem dX6_text_65 : decode cX6_text 65 = .ok (.goto (-18), 3) := by decide +kernel
theorem dX6_text_68 : decode cX6_text 68 = .ok (.iload_n 1, 1) := by decide +kernel
theorem dX6_text_69 : decode cX6_text 69 = .ok (.ireturn, 1) := by decide +kernel
theorem dX6_fault_0 : decode cX6_fault 0 = .ok (.aload_n 0, 1) := by decide +kernel
theorem dX6_fault_1 : decode cX6_fault 1 = .ok (.getfield 54, 3) := by decide +kernel
theorem dX6_fault_4 : decode cX6_fault 4 = .ok (.getfield 83, 3) := by decide +kernel
theorem dX6_fault_7 : decode cX6_fault 7 = .ok (.ireturn, 1) := by decide +kernel
theorem dX6_rule_0 : decode cX6_rule 0 = .ok (.iload_n 1, 1) := by decide +kernel
theorem dX6_rule_1 : decode cX6_rule 1 = .ok (.tableswitch 99 0 6 #[43, 51, 59, 67, 75, 83, 91], 43) := by decide +kernel
theorem dX6_rule_44 : decode cX6_rule 44 = .ok (.aload_n 0, 1) := by decide +kernel
theorem dX6_rule_45 : decode cX6_rule 45 = .ok (.getfield 10, 3) := by decide +kernel
theorem dX6_rule_48 : decode cX6_rule 48 = .ok (.getfield 95, 3) := by decide +kernel
theorem dX6_rule_51 : decode cX6_rule 51 = .ok (.ireturn, 1) := by decide +kernel
theorem dX6_rule_52 : decode cX6_rule 52 = .ok (.aload_n 0, 1) := by decide +kernel
theorem dX6_rule_53 : decode cX6_rule 53 = .ok (.getfield 10, 3) := by decide +kernel
theorem dX6_rule_56 : decode cX6_rule 56 = .ok (.getfield 98, 3) := by decide +kernel
theorem dX6_rule_59 : decode cX6_rule 59 = .ok (.ireturn, 1) := by decide +kernel
theorem dX6_rule_60 : decode cX6_rule 60 = .ok (.aload_n 0, 1) := by decide +kernel
theorem dX6_rule_61 : decode cX6_rule 61 = .ok (.getfield 10, 3) := by decide +kernel
theorem dX6_rule_64 : decode cX6_rule 64 = .ok (.getfield 101, 3) := by decide +kernel
theorem dX6_rule_67 : decode cX6_rule 67 = .ok (.ireturn, 1) := by decide +kernel
theorem dX6_rule_68 : decode cX6_rule 68 = .ok (.aload_n 0, 1) := by decide +kernel
theorem dX6_rule_69 : decode cX6_rule 69 = .ok (.getfield 10, 3) := by decide +kernel
theorem dX6_rule_72 : decode cX6_rule 72 = .ok (.getfield 104, 3) := by decide +kernel
theorem dX6_rule_75 : decode cX6_rule 75 = .ok (.ireturn, 1) := by decide +kernel
theorem dX6_rule_76 : decode cX6_rule 76 = .ok (.aload_n 0, 1) := by decide +kernel
theorem dX6_rule_77 : decode cX6_rule 77 = .ok (.getfield 10, 3) := by decide +kernel
theorem dX6_rule_80 : decode cX6_rule 80 = .ok (.invokevirtual 107, 3) := by decide +kernel
theorem dX6_rule_83 : decode cX6_rule 83 = .ok (.ireturn, 1) := by decide +kernel
theorem dX6_rule_84 : decode cX6_rule 84 = .ok (.aload_n 0, 1) := by decide +kernel
theorem dX6_rule_85 : decode cX6_rule 85 = .ok (.getfield 10, 3) := by decide +kernel
theorem dX6_rule_88 : decode cX6_rule 88 = .ok (.getfield 110, 3) := by decide +kernel
theorem dX6_rule_91 : decode cX6_rule 91 = .ok (.ireturn, 1) := by decide +kernel
theorem dX6_rule_92 : decode cX6_rule 92 = .ok (.aload_n 0, 1) := by decide +kernel
theorem dX6_rule_93 : decode cX6_rule 93 = .ok (.getfield 10, 3) := by decide +kernel
theorem dX6_rule_96 : decode cX6_rule 96 = .ok (.invokevirtual 113, 3) := by decide +kernel
theorem dX6_rule_99 : decode cX6_rule 99 = .ok (.ireturn, 1) := by decide +kernel
theorem dX6_rule_100 : decode cX6_rule 100 = .ok (.iconst (-1), 1) := by decide +kernel
theorem dX6_rule_101 : decode cX6_rule 101 = .ok (.ireturn, 1) := by decide +kernel
theorem dX6_one_0 : decode cX6_one 0 = .ok (.aload_n 0, 1) := by decide +kernel
theorem dX6_one_1 : decode cX6_one 1 = .ok (.getfield 10, 3) := by decide +kernel
theorem dX6_one_4 : decode cX6_one 4 = .ok (.iload_n 1, 1) := by decide +kernel
theorem dX6_one_5 : decode cX6_one 5 = .ok (.invokevirtual 116, 3) := by decide +kernel
theorem dX6_one_8 : decode cX6_one 8 = .ok (.ifCond .ne 5, 3) := by decide +kernel
theorem dX6_one_11 : decode cX6_one 11 = .ok (.iconst (-1), 1) := by decide +kernel
theorem dX6_one_12 : decode cX6_one 12 = .ok (.ireturn, 1) := by decide +kernel
theorem dX6_one_13 : decode cX6_one 13 = .ok (.iload_n 2, 1) := by decide +kernel
theorem dX6_one_14 : decode cX6_one 14 = .ok (.tableswitch 110 0 5 #[38, 48, 58, 68, 81, 90], 38) := by decide +kernel
theorem dX6_one_52 : decode cX6_one 52 = .ok (.aload_n 0, 1) := by decide +kernel
theorem dX6_one_53 : decode cX6_one 53 = .ok (.getfield 10, 3) := by decide +kernel
theorem dX6_one_56 : decode cX6_one 56 = .ok (.getfield 120, 3) := by decide +kernel
theorem dX6_one_59 : decode cX6_one 59 = .ok (.iload_n 1, 1) := by decide +kernel
theorem dX6_one_60 : decode cX6_one 60 = .ok (.iaload, 1) := by decide +kernel
theorem dX6_one_61 : decode cX6_one 61 = .ok (.ireturn, 1) := by decide +kernel
theorem dX6_one_62 : decode cX6_one 62 = .ok (.aload_n 0, 1) := by decide +kernel
theorem dX6_one_63 : decode cX6_one 63 = .ok (.getfield 10, 3) := by decide +kernel
theorem dX6_one_66 : decode cX6_one 66 = .ok (.getfield 123, 3) := by decide +kernel
theorem dX6_one_69 : decode cX6_one 69 = .ok (.iload_n 1, 1) := by decide +kernel
theorem dX6_one_70 : decode cX6_one 70 = .ok (.iaload, 1) := by decide +kernel
theorem dX6_one_71 : decode cX6_one 71 = .ok (.ireturn, 1) := by decide +kernel
theorem dX6_one_72 : decode cX6_one 72 = .ok (.aload_n 0, 1) := by decide +kernel
theorem dX6_one_73 : decode cX6_one 73 = .ok (.getfield 10, 3) := by decide +kernel
theorem dX6_one_76 : decode cX6_one 76 = .ok (.getfield 126, 3) := by decide +kernel
theorem dX6_one_79 : decode cX6_one 79 = .ok (.iload_n 1, 1) := by decide +kernel
theorem dX6_one_80 : decode cX6_one 80 = .ok (.iaload, 1) := by decide +kernel
theorem dX6_one_81 : decode cX6_one 81 = .ok (.ireturn, 1) := by decide +kernel
theorem dX6_one_82 : decode cX6_one 82 = .ok (.aload_n 0, 1) := by decide +kernel
theorem dX6_one_83 : decode cX6_one 83 = .ok (.getfield 10, 3) := by decide +kernel
theorem dX6_one_86 : decode cX6_one 86 = .ok (.getfield 120, 3) := by decide +kernel
theorem dX6_one_89 : decode cX6_one 89 = .ok (.iload_n 1, 1) := by decide +kernel
theorem dX6_one_90 : decode cX6_one 90 = .ok (.iaload, 1) := by decide +kernel
theorem dX6_one_91 : decode cX6_one 91 = .ok (.invokestatic 129, 3) := by decide +kernel
theorem dX6_one_94 : decode cX6_one 94 = .ok (.ireturn, 1) := by decide +kernel
theorem dX6_one_95 : decode cX6_one 95 = .ok (.aload_n 0, 1) := by decide +kernel
theorem dX6_one_96 : decode cX6_one 96 = .ok (.getfield 10, 3) := by decide +kernel
theorem dX6_one_99 : decode cX6_one 99 = .ok (.iload_n 1, 1) := by decide +kernel
theorem dX6_one_100 : decode cX6_one 100 = .ok (.invokevirtual 133, 3) := by decide +kernel
theorem dX6_one_103 : decode cX6_one 103 = .ok (.ireturn, 1) := by decide +kernel
theorem dX6_one_104 : decode cX6_one 104 = .ok (.aload_n 0, 1) := by decide +kernel
theorem dX6_one_105 : decode cX6_one 105 = .ok (.getfield 10, 3) := by decide +kernel
theorem dX6_one_108 : decode cX6_one 108 = .ok (.getfield 120, 3) := by decide +kernel
theorem dX6_one_111 : decode cX6_one 111 = .ok (.iload_n 1, 1) := by decide +kernel
theorem dX6_one_112 : decode cX6_one 112 = .ok (.iaload, 1) := by decide +kernel
theorem dX6_one_113 : decode cX6_one 113 = .ok (.aload_n 0, 1) := by decide +kernel
theorem dX6_one_114 : decode cX6_one 114 = .ok (.getfield 10, 3) := by decide +kernel
theorem dX6_one_117 : decode cX6_one 117 = .ok (.getfield 101, 3) := by decide +kernel
theorem dX6_one_120 : decode cX6_one 120 = .ok (.invokestatic 136, 3) := by decide +kernel
theorem dX6_one_123 : decode cX6_one 123 = .ok (.ireturn, 1) := by decide +kernel
theorem dX6_one_124 : decode cX6_one 124 = .ok (.iconst (-1), 1) := by decide +kernel
theorem dX6_one_125 : decode cX6_one 125 = .ok (.ireturn, 1) := by decide +kernel
theorem dX6_turn_0 : decode cX6_turn 0 = .ok (.iload_n 1, 1) := by decide +kernel
theorem dX6_turn_1 : decode cX6_turn 1 = .ok (.iconst 0, 1) := by decide +kernel
theorem dX6_turn_2 : decode cX6_turn 2 = .ok (.aload_n 0, 1) := by decide +kernel
theorem dX6_turn_3 : decode cX6_turn 3 = .ok (.getfield 10, 3) := by decide +kernel
theorem dX6_turn_6 : decode cX6_turn 6 = .ok (.getfield 110, 3) := by decide +kernel
theorem dX6_turn_9 : decode cX6_turn 9 = .ok (.iconst 1, 1) := by decide +kernel
theorem dX6_turn_10 : decode cX6_turn 10 = .ok (.isub, 1) := by decide +kernel
theorem dX6_turn_11 : decode cX6_turn 11 = .ok (.invokestatic 67, 3) := by decide +kernel
theorem dX6_turn_14 : decode cX6_turn 14 = .ok (.ifCond .eq 15, 3) := by decide +kernel
theorem dX6_turn_17 : decode cX6_turn 17 = .ok (.aload_n 0, 1) := by decide +kernel
theorem dX6_turn_18 : decode cX6_turn 18 = .ok (.getfield 10, 3) := by decide +kernel
theorem dX6_turn_21 : decode cX6_turn 21 = .ok (.getfield 140, 3) := by decide +kernel
theorem dX6_turn_24 : decode cX6_turn 24 = .ok (.iload_n 1, 1) := by decide +kernel
theorem dX6_turn_25 : decode cX6_turn 25 = .ok (.iaload, 1) := by decide +kernel
theorem dX6_turn_26 : decode cX6_turn 26 = .ok (.goto 4, 3) := by decide +kernel
theorem dX6_turn_29 : decode cX6_turn 29 = .ok (.iconst (-1), 1) := by decide +kernel
theorem dX6_turn_30 : decode cX6_turn 30 = .ok (.ireturn, 1) := by decide +kernel
theorem dX6_alter_0 : decode cX6_alter 0 = .ok (.aload_n 0, 1) := by decide +kernel
theorem dX6_alter_1 : decode cX6_alter 1 = .ok (.getfield 10, 3) := by decide +kernel
theorem dX6_alter_4 : decode cX6_alter 4 = .ok (.iload_n 1, 1) := by decide +kernel
theorem dX6_alter_5 : decode cX6_alter 5 = .ok (.iload_n 2, 1) := by decide +kernel
theorem dX6_alter_6 : decode cX6_alter 6 = .ok (.iload_n 3, 1) := by decide +kernel
theorem dX6_alter_7 : decode cX6_alter 7 = .ok (.invokevirtual 143, 3) := by decide +kernel
theorem dX6_alter_10 : decode cX6_alter 10 = .ok (.ifCond .ne 5, 3) := by decide +kernel
theorem dX6_alter_13 : decode cX6_alter 13 = .ok (.iconst (-1), 1) := by decide +kernel
theorem dX6_alter_14 : decode cX6_alter 14 = .ok (.ireturn, 1) := by decide +kernel
theorem dX6_alter_15 : decode cX6_alter 15 = .ok (.iload_n 2, 1) := by decide +kernel
theorem dX6_alter_16 : decode cX6_alter 16 = .ok (.ifCond .ne 27, 3) := by decide +kernel
theorem dX6_alter_19 : decode cX6_alter 19 = .ok (.aload_n 0, 1) := by decide +kernel
theorem dX6_alter_20 : decode cX6_alter 20 = .ok (.getfield 10, 3) := by decide +kernel
theorem dX6_alter_23 : decode cX6_alter 23 = .ok (.getfield 120, 3) := by decide +kernel
theorem dX6_alter_26 : decode cX6_alter 26 = .ok (.iload_n 1, 1) := by decide +kernel
theorem dX6_alter_27 : decode cX6_alter 27 = .ok (.iaload, 1) := by decide +kernel
theorem dX6_alter_28 : decode cX6_alter 28 = .ok (.istore 4, 2) := by decide +kernel
theorem dX6_alter_30 : decode cX6_alter 30 = .ok (.aload_n 0, 1) := by decide +kernel
theorem dX6_alter_31 : decode cX6_alter 31 = .ok (.getfield 10, 3) := by decide +kernel
theorem dX6_alter_34 : decode cX6_alter 34 = .ok (.getfield 120, 3) := by decide +kernel
theorem dX6_alter_37 : decode cX6_alter 37 = .ok (.iload_n 1, 1) := by decide +kernel
theorem dX6_alter_38 : decode cX6_alter 38 = .ok (.iload_n 3, 1) := by decide +kernel
theorem dX6_alter_39 : decode cX6_alter 39 = .ok (.iastore, 1) := by decide +kernel
theorem dX6_alter_40 : decode cX6_alter 40 = .ok (.goto 53, 3) := by decide +kernel
theorem dX6_alter_43 : decode cX6_alter 43 = .ok (.iload_n 2, 1) := by decide +kernel
theorem dX6_alter_44 : decode cX6_alter 44 = .ok (.iconst 1, 1) := by decide +kernel
theorem dX6_alter_45 : decode cX6_alter 45 = .ok (.if_icmp .ne 27, 3) := by decide +kernel
theorem dX6_alter_48 : decode cX6_alter 48 = .ok (.aload_n 0, 1) := by decide +kernel
theorem dX6_alter_49 : decode cX6_alter 49 = .ok (.getfield 10, 3) := by decide +kernel
theorem dX6_alter_52 : decode cX6_alter 52 = .ok (.getfield 123, 3) := by decide +kernel
theorem dX6_alter_55 : decode cX6_alter 55 = .ok (.iload_n 1, 1) := by decide +kernel
theorem dX6_alter_56 : decode cX6_alter 56 = .ok (.iaload, 1) := by decide +kernel
theorem dX6_alter_57 : decode cX6_alter 57 = .ok (.istore 4, 2) := by decide +kernel
theorem dX6_alter_59 : decode cX6_alter 59 = .ok (.aload_n 0, 1) := by decide +kernel
theorem dX6_alter_60 : decode cX6_alter 60 = .ok (.getfield 10, 3) := by decide +kernel
theorem dX6_alter_63 : decode cX6_alter 63 = .ok (.getfield 123, 3) := by decide +kernel
theorem dX6_alter_66 : decode cX6_alter 66 = .ok (.iload_n 1, 1) := by decide +kernel
theorem dX6_alter_67 : decode cX6_alter 67 = .ok (.iload_n 3, 1) := by decide +kernel
theorem dX6_alter_68 : decode cX6_alter 68 = .ok (.iastore, 1) := by decide +kernel
theorem dX6_alter_69 : decode cX6_alter 69 = .ok (.goto 24, 3) := by decide +kernel
theorem dX6_alter_72 : decode cX6_alter 72 = .ok (.aload_n 0, 1) := by decide +kernel
theorem dX6_alter_73 : decode cX6_alter 73 = .ok (.getfield 10, 3) := by decide +kernel
theorem dX6_alter_76 : decode cX6_alter 76 = .ok (.getfield 126, 3) := by decide +kernel
theorem dX6_alter_79 : decode cX6_alter 79 = .ok (.iload_n 1, 1) := by decide +kernel
theorem dX6_alter_80 : decode cX6_alter 80 = .ok (.iaload, 1) := by decide +kernel
theorem dX6_alter_81 : decode cX6_alter 81 = .ok (.istore 4, 2) := by decide +kernel
theorem dX6_alter_83 : decode cX6_alter 83 = .ok (.aload_n 0, 1) := by decide +kernel
theorem dX6_alter_84 : decode cX6_alter 84 = .ok (.getfield 10, 3) := by decide +kernel
theorem dX6_alter_87 : decode cX6_alter 87 = .ok (.getfield 126, 3) := by decide +kernel
theorem dX6_alter_90 : decode cX6_alter 90 = .ok (.iload_n 1, 1) := by decide +kernel
theorem dX6_alter_91 : decode cX6_alter 91 = .ok (.iload_n 3, 1) := by decide +kernel
theorem dX6_alter_92 : decode cX6_alter 92 = .ok (.iastore, 1) := by decide +kernel
theorem dX6_alter_93 : decode cX6_alter 93 = .ok (.iload 4, 2) := by decide +kernel
theorem dX6_alter_95 : decode cX6_alter 95 = .ok (.ireturn, 1) := by decide +kernel
theorem dX6_takes_0 : decode cX6_takes 0 = .ok (.iload_n 1, 1) := by decide +kernel
theorem dX6_takes_1 : decode cX6_takes 1 = .ok (.iconst 1, 1) := by decide +kernel
theorem dX6_takes_2 : decode cX6_takes 2 = .ok (.bipush 99, 2) := by decide +kernel
theorem dX6_takes_4 : decode cX6_takes 4 = .ok (.invokestatic 67, 3) := by decide +kernel
theorem dX6_takes_7 : decode cX6_takes 7 = .ok (.ifCond .ne 5, 3) := by decide +kernel
theorem dX6_takes_10 : decode cX6_takes 10 = .ok (.iconst (-1), 1) := by decide +kernel
theorem dX6_takes_11 : decode cX6_takes 11 = .ok (.ireturn, 1) := by decide +kernel
theorem dX6_takes_12 : decode cX6_takes 12 = .ok (.aload_n 0, 1) := by decide +kernel
theorem dX6_takes_13 : decode cX6_takes 13 = .ok (.getfield 10, 3) := by decide +kernel
theorem dX6_takes_16 : decode cX6_takes 16 = .ok (.getfield 104, 3) := by decide +kernel
theorem dX6_takes_19 : decode cX6_takes 19 = .ok (.istore_n 2, 1) := by decide +kernel
theorem dX6_takes_20 : decode cX6_takes 20 = .ok (.aload_n 0, 1) := by decide +kernel
theorem dX6_takes_21 : decode cX6_takes 21 = .ok (.getfield 10, 3) := by decide +kernel
theorem dX6_takes_24 : decode cX6_takes 24 = .ok (.iload_n 1, 1) := by decide +kernel
theorem dX6_takes_25 : decode cX6_takes 25 = .ok (.putfield 104, 3) := by decide +kernel
theorem dX6_takes_28 : decode cX6_takes 28 = .ok (.iload_n 2, 1) := by decide +kernel
theorem dX6_takes_29 : decode cX6_takes 29 = .ok (.ireturn, 1) := by decide +kernel
theorem dX6_load_0 : decode cX6_load 0 = .ok (.iload_n 1, 1) := by decide +kernel
theorem dX6_load_1 : decode cX6_load 1 = .ok (.iconst 0, 1) := by decide +kernel
theorem dX6_load_2 : decode cX6_load 2 = .ok (.bipush 99, 2) := by decide +kernel
theorem dX6_load_4 : decode cX6_load 4 = .ok (.invokestatic 67, 3) := by decide +kernel
theorem dX6_load_7 : decode cX6_load 7 = .ok (.ifCond .ne 5, 3) := by decide +kernel
theorem dX6_load_10 : decode cX6_load 10 = .ok (.iconst (-1), 1) := by decide +kernel
theorem dX6_load_11 : decode cX6_load 11 = .ok (.ireturn, 1) := by decide +kernel
theorem dX6_load_12 : decode cX6_load 12 = .ok (.aload_n 0, 1) := by decide +kernel
theorem dX6_load_13 : decode cX6_load 13 = .ok (.getfield 10, 3) := by decide +kernel
theorem dX6_load_16 : decode cX6_load 16 = .ok (.getfield 101, 3) := by decide +kernel
theorem dX6_load_19 : decode cX6_load 19 = .ok (.istore_n 2, 1) := by decide +kernel
theorem dX6_load_20 : decode cX6_load 20 = .ok (.aload_n 0, 1) := by decide +kernel
theorem dX6_load_21 : decode cX6_load 21 = .ok (.getfield 10, 3) := by decide +kernel
theorem dX6_load_24 : decode cX6_load 24 = .ok (.iload_n 1, 1) := by decide +kernel
theorem dX6_load_25 : decode cX6_load 25 = .ok (.putfield 101, 3) := by decide +kernel
theorem dX6_load_28 : decode cX6_load 28 = .ok (.iload_n 2, 1) := by decide +kernel
theorem dX6_load_29 : decode cX6_load 29 = .ok (.ireturn, 1) := by decide +kernel
theorem dX6_rota_0 : decode cX6_rota 0 = .ok (.aload_n 0, 1) := by decide +kernel
theorem dX6_rota_1 : decode cX6_rota 1 = .ok (.getfield 10, 3) := by decide +kernel
theorem dX6_rota_4 : decode cX6_rota 4 = .ok (.iload_n 1, 1) := by decide +kernel
theorem dX6_rota_5 : decode cX6_rota 5 = .ok (.invokevirtual 116, 3) := by decide +kernel
theorem dX6_rota_8 : decode cX6_rota 8 = .ok (.ifCond .ne 5, 3) := by decide +kernel
theorem dX6_rota_11 : decode cX6_rota 11 = .ok (.iconst (-1), 1) := by decide +kernel
theorem dX6_rota_12 : decode cX6_rota 12 = .ok (.ireturn, 1) := by decide +kernel
theorem dX6_rota_13 : decode cX6_rota 13 = .ok (.aload_n 0, 1) := by decide +kernel
theorem dX6_rota_14 : decode cX6_rota 14 = .ok (.getfield 10, 3) := by decide +kernel
theorem dX6_rota_17 : decode cX6_rota 17 = .ok (.getfield 110, 3) := by decide +kernel
theorem dX6_rota_20 : decode cX6_rota 20 = .ok (.bipush 8, 2) := by decide +kernel
theorem dX6_rota_22 : decode cX6_rota 22 = .ok (.if_icmp .lt 6, 3) := by decide +kernel
theorem dX6_rota_25 : decode cX6_rota 25 = .ok (.bipush (-3), 2) := by decide +kernel
theorem dX6_rota_27 : decode cX6_rota 27 = .ok (.ireturn, 1) := by decide +kernel
theorem dX6_rota_28 : decode cX6_rota 28 = .ok (.aload_n 0, 1) := by decide +kernel
theorem dX6_rota_29 : decode cX6_rota 29 = .ok (.getfield 10, 3) := by decide +kernel
theorem dX6_rota_32 : decode cX6_rota 32 = .ok (.iload_n 1, 1) := by decide +kernel
theorem dX6_rota_33 : decode cX6_rota 33 = .ok (.invokevirtual 146, 3) := by decide +kernel
theorem dX6_rota_36 : decode cX6_rota 36 = .ok (.aload_n 0, 1) := by decide +kernel
theorem dX6_rota_37 : decode cX6_rota 37 = .ok (.getfield 10, 3) := by decide +kernel
theorem dX6_rota_40 : decode cX6_rota 40 = .ok (.getfield 110, 3) := by decide +kernel
theorem dX6_rota_43 : decode cX6_rota 43 = .ok (.ireturn, 1) := by decide +kernel
theorem dX6_cut_0 : decode cX6_cut 0 = .ok (.iload_n 1, 1) := by decide +kernel
theorem dX6_cut_1 : decode cX6_cut 1 = .ok (.iconst 0, 1) := by decide +kernel
theorem dX6_cut_2 : decode cX6_cut 2 = .ok (.aload_n 0, 1) := by decide +kernel
theorem dX6_cut_3 : decode cX6_cut 3 = .ok (.getfield 10, 3) := by decide +kernel
theorem dX6_cut_6 : decode cX6_cut 6 = .ok (.getfield 110, 3) := by decide +kernel
theorem dX6_cut_9 : decode cX6_cut 9 = .ok (.invokestatic 67, 3) := by decide +kernel
theorem dX6_cut_12 : decode cX6_cut 12 = .ok (.ifCond .ne 5, 3) := by decide +kernel
theorem dX6_cut_15 : decode cX6_cut 15 = .ok (.iconst (-1), 1) := by decide +kernel
theorem dX6_cut_16 : decode cX6_cut 16 = .ok (.ireturn, 1) := by decide +kernel
theorem dX6_cut_17 : decode cX6_cut 17 = .ok (.aload_n 0, 1) := by decide +kernel
theorem dX6_cut_18 : decode cX6_cut 18 = .ok (.getfield 10, 3) := by decide +kernel
theorem dX6_cut_21 : decode cX6_cut 21 = .ok (.getfield 110, 3) := by decide +kernel
theorem dX6_cut_24 : decode cX6_cut 24 = .ok (.istore_n 2, 1) := by decide +kernel
theorem dX6_cut_25 : decode cX6_cut 25 = .ok (.aload_n 0, 1) := by decide +kernel
theorem dX6_cut_26 : decode cX6_cut 26 = .ok (.getfield 10, 3) := by decide +kernel
theorem dX6_cut_29 : decode cX6_cut 29 = .ok (.iload_n 1, 1) := by decide +kernel
theorem dX6_cut_30 : decode cX6_cut 30 = .ok (.putfield 110, 3) := by decide +kernel
theorem dX6_cut_33 : decode cX6_cut 33 = .ok (.iload_n 2, 1) := by decide +kernel
theorem dX6_cut_34 : decode cX6_cut 34 = .ok (.ireturn, 1) := by decide +kernel
theorem dX6_hours_0 : decode cX6_hours 0 = .ok (.iload_n 1, 1) := by decide +kernel
theorem dX6_hours_1 : decode cX6_hours 1 = .ok (.iconst 0, 1) := by decide +kernel
theorem dX6_hours_2 : decode cX6_hours 2 = .ok (.bipush 30, 2) := by decide +kernel
theorem dX6_hours_4 : decode cX6_hours 4 = .ok (.invokestatic 67, 3) := by decide +kernel
theorem dX6_hours_7 : decode cX6_hours 7 = .ok (.ifCond .ne 5, 3) := by decide +kernel
theorem dX6_hours_10 : decode cX6_hours 10 = .ok (.iconst (-1), 1) := by decide +kernel
theorem dX6_hours_11 : decode cX6_hours 11 = .ok (.ireturn, 1) := by decide +kernel
theorem dX6_hours_12 : decode cX6_hours 12 = .ok (.aload_n 0, 1) := by decide +kernel
theorem dX6_hours_13 : decode cX6_hours 13 = .ok (.getfield 10, 3) := by decide +kernel
theorem dX6_hours_16 : decode cX6_hours 16 = .ok (.getfield 98, 3) := by decide +kernel
theorem dX6_hours_19 : decode cX6_hours 19 = .ok (.iload_n 1, 1) := by decide +kernel
theorem dX6_hours_20 : decode cX6_hours 20 = .ok (.iadd, 1) := by decide +kernel
theorem dX6_hours_21 : decode cX6_hours 21 = .ok (.sipush 1000, 3) := by decide +kernel
theorem dX6_hours_24 : decode cX6_hours 24 = .ok (.if_icmp .lt 6, 3) := by decide +kernel
theorem dX6_hours_27 : decode cX6_hours 27 = .ok (.bipush (-3), 2) := by decide +kernel
theorem dX6_hours_29 : decode cX6_hours 29 = .ok (.ireturn, 1) := by decide +kernel
theorem dX6_hours_30 : decode cX6_hours 30 = .ok (.aload_n 0, 1) := by decide +kernel
theorem dX6_hours_31 : decode cX6_hours 31 = .ok (.getfield 10, 3) := by decide +kernel
theorem dX6_hours_34 : decode cX6_hours 34 = .ok (.iload_n 1, 1) := by decide +kernel
theorem dX6_hours_35 : decode cX6_hours 35 = .ok (.invokevirtual 150, 3) := by decide +kernel
theorem dX6_hours_38 : decode cX6_hours 38 = .ok (.aload_n 0, 1) := by decide +kernel
theorem dX6_hours_39 : decode cX6_hours 39 = .ok (.getfield 10, 3) := by decide +kernel
theorem dX6_hours_42 : decode cX6_hours 42 = .ok (.getfield 153, 3) := by decide +kernel
theorem dX6_hours_45 : decode cX6_hours 45 = .ok (.ireturn, 1) := by decide +kernel
theorem dX6_runs_0 : decode cX6_runs 0 = .ok (.iload_n 1, 1) := by decide +kernel
theorem dX6_runs_1 : decode cX6_runs 1 = .ok (.iconst 0, 1) := by decide +kernel
theorem dX6_runs_2 : decode cX6_runs 2 = .ok (.bipush 60, 2) := by decide +kernel
theorem dX6_runs_4 : decode cX6_runs 4 = .ok (.invokestatic 67, 3) := by decide +kernel
theorem dX6_runs_7 : decode cX6_runs 7 = .ok (.ifCond .eq 12, 3) := by decide +kernel
theorem dX6_runs_10 : decode cX6_runs 10 = .ok (.iload_n 2, 1) := by decide +kernel
theorem dX6_runs_11 : decode cX6_runs 11 = .ok (.iconst 0, 1) := by decide +kernel
theorem dX6_runs_12 : decode cX6_runs 12 = .ok (.iconst 4, 1) := by decide +kernel
theorem dX6_runs_13 : decode cX6_runs 13 = .ok (.invokestatic 67, 3) := by decide +kernel
theorem dX6_runs_16 : decode cX6_runs 16 = .ok (.ifCond .ne 5, 3) := by decide +kernel
theorem dX6_runs_19 : decode cX6_runs 19 = .ok (.iconst (-1), 1) := by decide +kernel
theorem dX6_runs_20 : decode cX6_runs 20 = .ok (.ireturn, 1) := by decide +kernel
theorem dX6_runs_21 : decode cX6_runs 21 = .ok (.aload_n 0, 1) := by decide +kernel
theorem dX6_runs_22 : decode cX6_runs 22 = .ok (.getfield 16, 3) := by decide +kernel
theorem dX6_runs_25 : decode cX6_runs 25 = .ok (.aload_n 0, 1) := by decide +kernel
theorem dX6_runs_26 : decode cX6_runs 26 = .ok (.getfield 10, 3) := by decide +kernel
theorem dX6_runs_29 : decode cX6_runs 29 = .ok (.invokevirtual 86, 3) := by decide +kernel
theorem dX6_runs_32 : decode cX6_runs 32 = .ok (.bipush (-4), 2) := by decide +kernel
theorem dX6_runs_34 : decode cX6_runs 34 = .ok (.istore_n 3, 1) := by decide +kernel
theorem dX6_runs_35 : decode cX6_runs 35 = .ok (.aload_n 0, 1) := by decide +kernel
theorem dX6_runs_36 : decode cX6_runs 36 = .ok (.getfield 16, 3) := by decide +kernel
theorem dX6_runs_39 : decode cX6_runs 39 = .ok (.getfield 101, 3) := by decide +kernel
theorem dX6_runs_42 : decode cX6_runs 42 = .ok (.istore 4, 2) := by decide +kernel
theorem dX6_runs_44 : decode cX6_runs 44 = .ok (.iconst 1, 1) := by decide +kernel
theorem dX6_runs_45 : decode cX6_runs 45 = .ok (.istore 5, 2) := by decide +kernel
theorem dX6_runs_47 : decode cX6_runs 47 = .ok (.iload 5, 2) := by decide +kernel
theorem dX6_runs_49 : decode cX6_runs 49 = .ok (.iload_n 1, 1) := by decide +kernel
theorem dX6_runs_50 : decode cX6_runs 50 = .ok (.if_icmp .gt 49, 3) := by decide +kernel
theorem dX6_runs_53 : decode cX6_runs 53 = .ok (.aload_n 0, 1) := by decide +kernel
theorem dX6_runs_54 : decode cX6_runs 54 = .ok (.getfield 16, 3) := by decide +kernel
theorem dX6_runs_57 : decode cX6_runs 57 = .ok (.invokevirtual 156, 3) := by decide +kernel
theorem dX6_runs_60 : decode cX6_runs 60 = .ok (.iload 4, 2) := by decide +kernel
theorem dX6_runs_62 : decode cX6_runs 62 = .ok (.aload_n 0, 1) := by decide +kernel
theorem dX6_runs_63 : decode cX6_runs 63 = .ok (.getfield 16, 3) := by decide +kernel
theorem dX6_runs_66 : decode cX6_runs 66 = .ok (.getfield 101, 3) := by decide +kernel
theorem dX6_runs_69 : decode cX6_runs 69 = .ok (.invokestatic 159, 3) := by decide +kernel
theorem dX6_runs_72 : decode cX6_runs 72 = .ok (.istore 4, 2) := by decide +kernel
theorem dX6_runs_74 : decode cX6_runs 74 = .ok (.iload_n 3, 1) := by decide +kernel
theorem dX6_runs_75 : decode cX6_runs 75 = .ok (.bipush (-4), 2) := by decide +kernel
theorem dX6_runs_77 : decode cX6_runs 77 = .ok (.if_icmp .ne 16, 3) := by decide +kernel
theorem dX6_runs_80 : decode cX6_runs 80 = .ok (.aload_n 0, 1) := by decide +kernel
theorem dX6_runs_81 : decode cX6_runs 81 = .ok (.getfield 16, 3) := by decide +kernel
theorem dX6_runs_84 : decode cX6_runs 84 = .ok (.getfield 164, 3) := by decide +kernel
theorem dX6_runs_87 : decode cX6_runs 87 = .ok (.ifCond .le 6, 3) := by decide +kernel
theorem dX6_runs_90 : decode cX6_runs 90 = .ok (.iload 5, 2) := by decide +kernel
theorem dX6_runs_92 : decode cX6_runs 92 = .ok (.istore_n 3, 1) := by decide +kernel
theorem dX6_runs_93 : decode cX6_runs 93 = .ok (.iinc 5 1, 3) := by decide +kernel
theorem dX6_runs_96 : decode cX6_runs 96 = .ok (.goto (-49), 3) := by decide +kernel
theorem dX6_runs_99 : decode cX6_runs 99 = .ok (.iload_n 2, 1) := by decide +kernel
theorem dX6_runs_100 : decode cX6_runs 100 = .ok (.tableswitch 58 0 3 #[32, 40, 48, 56], 32) := by decide +kernel
theorem dX6_runs_132 : decode cX6_runs 132 = .ok (.aload_n 0, 1) := by decide +kernel
theorem dX6_runs_133 : decode cX6_runs 133 = .ok (.getfield 16, 3) := by decide +kernel
theorem dX6_runs_136 : decode cX6_runs 136 = .ok (.invokevirtual 107, 3) := by decide +kernel
theorem dX6_runs_139 : decode cX6_runs 139 = .ok (.ireturn, 1) := by decide +kernel
theorem dX6_runs_140 : decode cX6_runs 140 = .ok (.aload_n 0, 1) := by decide +kernel
theorem dX6_runs_141 : decode cX6_runs 141 = .ok (.getfield 16, 3) := by decide +kernel
theorem dX6_runs_144 : decode cX6_runs 144 = .ok (.getfield 153, 3) := by decide +kernel
theorem dX6_runs_147 : decode cX6_runs 147 = .ok (.ireturn, 1) := by decide +kernel
theorem dX6_runs_148 : decode cX6_runs 148 = .ok (.aload_n 0, 1) := by decide +kernel
theorem dX6_runs_149 : decode cX6_runs 149 = .ok (.getfield 16, 3) := by decide +kernel
theorem dX6_runs_152 : decode cX6_runs 152 = .ok (.getfield 164, 3) := by decide +kernel
theorem dX6_runs_155 : decode cX6_runs 155 = .ok (.ireturn, 1) := by decide +kernel
theorem dX6_runs_156 : decode cX6_runs 156 = .ok (.iload_n 3, 1) := by decide +kernel
theorem dX6_runs_157 : decode cX6_runs 157 = .ok (.ireturn, 1) := by decide +kernel
theorem dX6_runs_158 : decode cX6_runs 158 = .ok (.iload 4, 2) := by decide +kernel
theorem dX6_runs_160 : decode cX6_runs 160 = .ok (.ireturn, 1) := by decide +kernel
theorem dX6_ahead_0 : decode cX6_ahead 0 = .ok (.aload_n 0, 1) := by decide +kernel
theorem dX6_ahead_1 : decode cX6_ahead 1 = .ok (.getfield 10, 3) := by decide +kernel
theorem dX6_ahead_4 : decode cX6_ahead 4 = .ok (.iload_n 1, 1) := by decide +kernel
