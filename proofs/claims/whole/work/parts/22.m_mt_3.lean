theorem dX12_meant_0 : decode cX12_meant 0 = .ok (.aload_n 0, 1) := by decide +kernel
theorem dX12_meant_1 : decode cX12_meant 1 = .ok (.iconst 0, 1) := by decide +kernel
theorem dX12_meant_2 : decode cX12_meant 2 = .ok (.putfield 66, 3) := by decide +kernel
theorem dX12_meant_5 : decode cX12_meant 5 = .ok (.aload_n 0, 1) := by decide +kernel
theorem dX12_meant_6 : decode cX12_meant 6 = .ok (.invokevirtual 444, 3) := by decide +kernel
theorem dX12_meant_9 : decode cX12_meant 9 = .ok (.istore_n 2, 1) := by decide +kernel
theorem dX12_meant_10 : decode cX12_meant 10 = .ok (.iload_n 2, 1) := by decide +kernel
theorem dX12_meant_11 : decode cX12_meant 11 = .ok (.ifCond .le 9, 3) := by decide +kernel
theorem dX12_meant_14 : decode cX12_meant 14 = .ok (.aload_n 0, 1) := by decide +kernel
theorem dX12_meant_15 : decode cX12_meant 15 = .ok (.iload_n 2, 1) := by decide +kernel
theorem dX12_meant_16 : decode cX12_meant 16 = .ok (.invokevirtual 72, 3) := by decide +kernel
theorem dX12_meant_19 : decode cX12_meant 19 = .ok (.ireturn, 1) := by decide +kernel
theorem dX12_meant_20 : decode cX12_meant 20 = .ok (.aload_n 0, 1) := by decide +kernel
theorem dX12_meant_21 : decode cX12_meant 21 = .ok (.invokevirtual 447, 3) := by decide +kernel
theorem dX12_meant_24 : decode cX12_meant 24 = .ok (.pop, 1) := by decide +kernel
theorem dX12_meant_25 : decode cX12_meant 25 = .ok (.iload_n 1, 1) := by decide +kernel
theorem dX12_meant_26 : decode cX12_meant 26 = .ok (.ifCond .lt 24, 3) := by decide +kernel
theorem dX12_meant_29 : decode cX12_meant 29 = .ok (.iload_n 1, 1) := by decide +kernel
theorem dX12_meant_30 : decode cX12_meant 30 = .ok (.aload_n 0, 1) := by decide +kernel
theorem dX12_meant_31 : decode cX12_meant 31 = .ok (.getfield 438, 3) := by decide +kernel
theorem dX12_meant_34 : decode cX12_meant 34 = .ok (.if_icmp .ge 16, 3) := by decide +kernel
theorem dX12_meant_37 : decode cX12_meant 37 = .ok (.aload_n 0, 1) := by decide +kernel
theorem dX12_meant_38 : decode cX12_meant 38 = .ok (.aload_n 0, 1) := by decide +kernel
theorem dX12_meant_39 : decode cX12_meant 39 = .ok (.getfield 63, 3) := by decide +kernel
theorem dX12_meant_42 : decode cX12_meant 42 = .ok (.iload_n 1, 1) := by decide +kernel
theorem dX12_meant_43 : decode cX12_meant 43 = .ok (.iaload, 1) := by decide +kernel
theorem dX12_meant_44 : decode cX12_meant 44 = .ok (.invokevirtual 76, 3) := by decide +kernel
theorem dX12_meant_47 : decode cX12_meant 47 = .ok (.goto 8, 3) := by decide +kernel
theorem dX12_meant_50 : decode cX12_meant 50 = .ok (.aload_n 0, 1) := by decide +kernel
theorem dX12_meant_51 : decode cX12_meant 51 = .ok (.iconst 1, 1) := by decide +kernel
theorem dX12_meant_52 : decode cX12_meant 52 = .ok (.invokevirtual 72, 3) := by decide +kernel
theorem dX12_meant_55 : decode cX12_meant 55 = .ok (.ireturn, 1) := by decide +kernel
theorem dX12_meanings_0 : decode cX12_meanings 0 = .ok (.aload_n 0, 1) := by decide +kernel
theorem dX12_meanings_1 : decode cX12_meanings 1 = .ok (.iconst 0, 1) := by decide +kernel
theorem dX12_meanings_2 : decode cX12_meanings 2 = .ok (.putfield 66, 3) := by decide +kernel
theorem dX12_meanings_5 : decode cX12_meanings 5 = .ok (.aload_n 0, 1) := by decide +kernel
theorem dX12_meanings_6 : decode cX12_meanings 6 = .ok (.invokevirtual 444, 3) := by decide +kernel
theorem dX12_meanings_9 : decode cX12_meanings 9 = .ok (.istore_n 1, 1) := by decide +kernel
theorem dX12_meanings_10 : decode cX12_meanings 10 = .ok (.iload_n 1, 1) := by decide +kernel
theorem dX12_meanings_11 : decode cX12_meanings 11 = .ok (.ifCond .le 9, 3) := by decide +kernel
theorem dX12_meanings_14 : decode cX12_meanings 14 = .ok (.aload_n 0, 1) := by decide +kernel
theorem dX12_meanings_15 : decode cX12_meanings 15 = .ok (.iload_n 1, 1) := by decide +kernel
theorem dX12_meanings_16 : decode cX12_meanings 16 = .ok (.invokevirtual 72, 3) := by decide +kernel
theorem dX12_meanings_19 : decode cX12_meanings 19 = .ok (.ireturn, 1) := by decide +kernel
theorem dX12_meanings_20 : decode cX12_meanings 20 = .ok (.aload_n 0, 1) := by decide +kernel
theorem dX12_meanings_21 : decode cX12_meanings 21 = .ok (.invokevirtual 447, 3) := by decide +kernel
theorem dX12_meanings_24 : decode cX12_meanings 24 = .ok (.pop, 1) := by decide +kernel
theorem dX12_meanings_25 : decode cX12_meanings 25 = .ok (.aload_n 0, 1) := by decide +kernel
theorem dX12_meanings_26 : decode cX12_meanings 26 = .ok (.aload_n 0, 1) := by decide +kernel
theorem dX12_meanings_27 : decode cX12_meanings 27 = .ok (.getfield 435, 3) := by decide +kernel
theorem dX12_meanings_30 : decode cX12_meanings 30 = .ok (.invokevirtual 76, 3) := by decide +kernel
theorem dX12_meanings_33 : decode cX12_meanings 33 = .ok (.ireturn, 1) := by decide +kernel
theorem dX12_father_0 : decode cX12_father 0 = .ok (.aload_n 0, 1) := by decide +kernel
theorem dX12_father_1 : decode cX12_father 1 = .ok (.iconst 0, 1) := by decide +kernel
theorem dX12_father_2 : decode cX12_father 2 = .ok (.putfield 66, 3) := by decide +kernel
theorem dX12_father_5 : decode cX12_father 5 = .ok (.aload_n 0, 1) := by decide +kernel
theorem dX12_father_6 : decode cX12_father 6 = .ok (.iload_n 1, 1) := by decide +kernel
theorem dX12_father_7 : decode cX12_father 7 = .ok (.invokevirtual 450, 3) := by decide +kernel
theorem dX12_father_10 : decode cX12_father 10 = .ok (.istore 5, 2) := by decide +kernel
theorem dX12_father_12 : decode cX12_father 12 = .ok (.iload 5, 2) := by decide +kernel
theorem dX12_father_14 : decode cX12_father 14 = .ok (.ifCond .ne 26, 3) := by decide +kernel
theorem dX12_father_17 : decode cX12_father 17 = .ok (.iload_n 2, 1) := by decide +kernel
theorem dX12_father_18 : decode cX12_father 18 = .ok (.iconst 0, 1) := by decide +kernel
theorem dX12_father_19 : decode cX12_father 19 = .ok (.bipush 6, 2) := by decide +kernel
theorem dX12_father_21 : decode cX12_father 21 = .ok (.invokestatic 145, 3) := by decide +kernel
theorem dX12_father_24 : decode cX12_father 24 = .ok (.ifCond .eq 13, 3) := by decide +kernel
theorem dX12_father_27 : decode cX12_father 27 = .ok (.iload_n 3, 1) := by decide +kernel
theorem dX12_father_28 : decode cX12_father 28 = .ok (.iconst 0, 1) := by decide +kernel
theorem dX12_father_29 : decode cX12_father 29 = .ok (.bipush 6, 2) := by decide +kernel
theorem dX12_father_31 : decode cX12_father 31 = .ok (.invokestatic 145, 3) := by decide +kernel
theorem dX12_father_34 : decode cX12_father 34 = .ok (.ifCond .ne 6, 3) := by decide +kernel
theorem dX12_father_37 : decode cX12_father 37 = .ok (.iconst 2, 1) := by decide +kernel
theorem dX12_father_38 : decode cX12_father 38 = .ok (.istore 5, 2) := by decide +kernel
theorem dX12_father_40 : decode cX12_father 40 = .ok (.iload 5, 2) := by decide +kernel
theorem dX12_father_42 : decode cX12_father 42 = .ok (.ifCond .le 12, 3) := by decide +kernel
theorem dX12_father_45 : decode cX12_father 45 = .ok (.aload_n 0, 1) := by decide +kernel
theorem dX12_father_46 : decode cX12_father 46 = .ok (.iload 5, 2) := by decide +kernel
theorem dX12_father_48 : decode cX12_father 48 = .ok (.invokevirtual 453, 3) := by decide +kernel
theorem dX12_father_51 : decode cX12_father 51 = .ok (.goto 27, 3) := by decide +kernel
theorem dX12_father_54 : decode cX12_father 54 = .ok (.aload_n 0, 1) := by decide +kernel
theorem dX12_father_55 : decode cX12_father 55 = .ok (.iload 4, 2) := by decide +kernel
theorem dX12_father_57 : decode cX12_father 57 = .ok (.ifCond .eq 12, 3) := by decide +kernel
theorem dX12_father_60 : decode cX12_father 60 = .ok (.iload_n 1, 1) := by decide +kernel
theorem dX12_father_61 : decode cX12_father 61 = .ok (.iload_n 3, 1) := by decide +kernel
theorem dX12_father_62 : decode cX12_father 62 = .ok (.iload_n 2, 1) := by decide +kernel
theorem dX12_father_63 : decode cX12_father 63 = .ok (.invokestatic 456, 3) := by decide +kernel
theorem dX12_father_66 : decode cX12_father 66 = .ok (.goto 9, 3) := by decide +kernel
theorem dX12_father_69 : decode cX12_father 69 = .ok (.iload_n 1, 1) := by decide +kernel
theorem dX12_father_70 : decode cX12_father 70 = .ok (.iload_n 2, 1) := by decide +kernel
theorem dX12_father_71 : decode cX12_father 71 = .ok (.iload_n 3, 1) := by decide +kernel
theorem dX12_father_72 : decode cX12_father 72 = .ok (.invokestatic 456, 3) := by decide +kernel
theorem dX12_father_75 : decode cX12_father 75 = .ok (.invokevirtual 76, 3) := by decide +kernel
theorem dX12_father_78 : decode cX12_father 78 = .ok (.ireturn, 1) := by decide +kernel
theorem dX12_refusesWorth_0 : decode cX12_refusesWorth 0 = .ok (.aload_n 0, 1) := by decide +kernel
theorem dX12_refusesWorth_1 : decode cX12_refusesWorth 1 = .ok (.getfield 311, 3) := by decide +kernel
theorem dX12_refusesWorth_4 : decode cX12_refusesWorth 4 = .ok (.ifnonnull 7, 3) := by decide +kernel
theorem dX12_refusesWorth_7 : decode cX12_refusesWorth 7 = .ok (.iconst 1, 1) := by decide +kernel
theorem dX12_refusesWorth_8 : decode cX12_refusesWorth 8 = .ok (.goto 18, 3) := by decide +kernel
theorem dX12_refusesWorth_11 : decode cX12_refusesWorth 11 = .ok (.iload_n 1, 1) := by decide +kernel
theorem dX12_refusesWorth_12 : decode cX12_refusesWorth 12 = .ok (.iconst 0, 1) := by decide +kernel
theorem dX12_refusesWorth_13 : decode cX12_refusesWorth 13 = .ok (.bipush 20, 2) := by decide +kernel
theorem dX12_refusesWorth_15 : decode cX12_refusesWorth 15 = .ok (.invokestatic 145, 3) := by decide +kernel
theorem dX12_refusesWorth_18 : decode cX12_refusesWorth 18 = .ok (.ifCond .eq 7, 3) := by decide +kernel
theorem dX12_refusesWorth_21 : decode cX12_refusesWorth 21 = .ok (.iconst 0, 1) := by decide +kernel
theorem dX12_refusesWorth_22 : decode cX12_refusesWorth 22 = .ok (.goto 4, 3) := by decide +kernel
theorem dX12_refusesWorth_25 : decode cX12_refusesWorth 25 = .ok (.iconst 2, 1) := by decide +kernel
theorem dX12_refusesWorth_26 : decode cX12_refusesWorth 26 = .ok (.ireturn, 1) := by decide +kernel
theorem dX12_gets_0 : decode cX12_gets 0 = .ok (.iload_n 1, 1) := by decide +kernel
theorem dX12_gets_1 : decode cX12_gets 1 = .ok (.iload_n 2, 1) := by decide +kernel
theorem dX12_gets_2 : decode cX12_gets 2 = .ok (.if_icmp .le 9, 3) := by decide +kernel
theorem dX12_gets_5 : decode cX12_gets 5 = .ok (.iload_n 0, 1) := by decide +kernel
theorem dX12_gets_6 : decode cX12_gets 6 = .ok (.iconst 2, 1) := by decide +kernel
theorem dX12_gets_7 : decode cX12_gets 7 = .ok (.iadd, 1) := by decide +kernel
theorem dX12_gets_8 : decode cX12_gets 8 = .ok (.goto 13, 3) := by decide +kernel
theorem dX12_gets_11 : decode cX12_gets 11 = .ok (.iload_n 1, 1) := by decide +kernel
theorem dX12_gets_12 : decode cX12_gets 12 = .ok (.iload_n 2, 1) := by decide +kernel
theorem dX12_gets_13 : decode cX12_gets 13 = .ok (.if_icmp .ne 7, 3) := by decide +kernel
theorem dX12_gets_16 : decode cX12_gets 16 = .ok (.iload_n 0, 1) := by decide +kernel
theorem dX12_gets_17 : decode cX12_gets 17 = .ok (.goto 4, 3) := by decide +kernel
theorem dX12_gets_20 : decode cX12_gets 20 = .ok (.iconst 0, 1) := by decide +kernel
theorem dX12_gets_21 : decode cX12_gets 21 = .ok (.iload_n 1, 1) := by decide +kernel
theorem dX12_gets_22 : decode cX12_gets 22 = .ok (.isub, 1) := by decide +kernel
theorem dX12_gets_23 : decode cX12_gets 23 = .ok (.ireturn, 1) := by decide +kernel
theorem dX12_lost_0 : decode cX12_lost 0 = .ok (.aload_n 0, 1) := by decide +kernel
theorem dX12_lost_1 : decode cX12_lost 1 = .ok (.iload_n 1, 1) := by decide +kernel
theorem dX12_lost_2 : decode cX12_lost 2 = .ok (.invokevirtual 72, 3) := by decide +kernel
theorem dX12_lost_5 : decode cX12_lost 5 = .ok (.pop, 1) := by decide +kernel
theorem dX12_lost_6 : decode cX12_lost 6 = .ok (.bipush (-100), 2) := by decide +kernel
theorem dX12_lost_8 : decode cX12_lost 8 = .ok (.ireturn, 1) := by decide +kernel
theorem dX12_rests_0 : decode cX12_rests 0 = .ok (.aload_n 0, 1) := by decide +kernel
theorem dX12_rests_1 : decode cX12_rests 1 = .ok (.iconst 0, 1) := by decide +kernel
theorem dX12_rests_2 : decode cX12_rests 2 = .ok (.putfield 66, 3) := by decide +kernel
theorem dX12_rests_5 : decode cX12_rests 5 = .ok (.aload_n 0, 1) := by decide +kernel
theorem dX12_rests_6 : decode cX12_rests 6 = .ok (.iload_n 1, 1) := by decide +kernel
theorem dX12_rests_7 : decode cX12_rests 7 = .ok (.invokevirtual 450, 3) := by decide +kernel
theorem dX12_rests_10 : decode cX12_rests 10 = .ok (.istore_n 2, 1) := by decide +kernel
theorem dX12_rests_11 : decode cX12_rests 11 = .ok (.iload_n 2, 1) := by decide +kernel
theorem dX12_rests_12 : decode cX12_rests 12 = .ok (.ifCond .le 9, 3) := by decide +kernel
theorem dX12_rests_15 : decode cX12_rests 15 = .ok (.aload_n 0, 1) := by decide +kernel
theorem dX12_rests_16 : decode cX12_rests 16 = .ok (.iload_n 2, 1) := by decide +kernel
theorem dX12_rests_17 : decode cX12_rests 17 = .ok (.invokevirtual 72, 3) := by decide +kernel
theorem dX12_rests_20 : decode cX12_rests 20 = .ok (.ireturn, 1) := by decide +kernel
theorem dX12_rests_21 : decode cX12_rests 21 = .ok (.iconst 0, 1) := by decide +kernel
theorem dX12_rests_22 : decode cX12_rests 22 = .ok (.istore_n 3, 1) := by decide +kernel
theorem dX12_rests_23 : decode cX12_rests 23 = .ok (.iconst 0, 1) := by decide +kernel
theorem dX12_rests_24 : decode cX12_rests 24 = .ok (.istore 4, 2) := by decide +kernel
theorem dX12_rests_26 : decode cX12_rests 26 = .ok (.iload 4, 2) := by decide +kernel
theorem dX12_rests_28 : decode cX12_rests 28 = .ok (.bipush 49, 2) := by decide +kernel
theorem dX12_rests_30 : decode cX12_rests 30 = .ok (.if_icmp .ge 34, 3) := by decide +kernel
theorem dX12_rests_33 : decode cX12_rests 33 = .ok (.iload_n 3, 1) := by decide +kernel
theorem dX12_rests_34 : decode cX12_rests 34 = .ok (.iload_n 1, 1) := by decide +kernel
theorem dX12_rests_35 : decode cX12_rests 35 = .ok (.iload 4, 2) := by decide +kernel
theorem dX12_rests_37 : decode cX12_rests 37 = .ok (.bipush 7, 2) := by decide +kernel
theorem dX12_rests_39 : decode cX12_rests 39 = .ok (.idiv, 1) := by decide +kernel
theorem dX12_rests_40 : decode cX12_rests 40 = .ok (.iload 4, 2) := by decide +kernel
theorem dX12_rests_42 : decode cX12_rests 42 = .ok (.bipush 7, 2) := by decide +kernel
theorem dX12_rests_44 : decode cX12_rests 44 = .ok (.irem, 1) := by decide +kernel
theorem dX12_rests_45 : decode cX12_rests 45 = .ok (.invokestatic 459, 3) := by decide +kernel
theorem dX12_rests_48 : decode cX12_rests 48 = .ok (.ifCond .eq 7, 3) := by decide +kernel
theorem dX12_rests_51 : decode cX12_rests 51 = .ok (.iconst 1, 1) := by decide +kernel
theorem dX12_rests_52 : decode cX12_rests 52 = .ok (.goto 4, 3) := by decide +kernel
theorem dX12_rests_55 : decode cX12_rests 55 = .ok (.iconst 0, 1) := by decide +kernel
theorem dX12_rests_56 : decode cX12_rests 56 = .ok (.iadd, 1) := by decide +kernel
theorem dX12_rests_57 : decode cX12_rests 57 = .ok (.istore_n 3, 1) := by decide +kernel
theorem dX12_rests_58 : decode cX12_rests 58 = .ok (.iinc 4 1, 3) := by decide +kernel
theorem dX12_rests_61 : decode cX12_rests 61 = .ok (.goto (-35), 3) := by decide +kernel
theorem dX12_rests_64 : decode cX12_rests 64 = .ok (.aload_n 0, 1) := by decide +kernel
theorem dX12_rests_65 : decode cX12_rests 65 = .ok (.iload_n 3, 1) := by decide +kernel
theorem dX12_rests_66 : decode cX12_rests 66 = .ok (.invokevirtual 76, 3) := by decide +kernel
theorem dX12_rests_69 : decode cX12_rests 69 = .ok (.ireturn, 1) := by decide +kernel
theorem dX12_isRest_0 : decode cX12_isRest 0 = .ok (.iconst 0, 1) := by decide +kernel
theorem dX12_isRest_1 : decode cX12_isRest 1 = .ok (.istore_n 3, 1) := by decide +kernel
theorem dX12_isRest_2 : decode cX12_isRest 2 = .ok (.iload_n 3, 1) := by decide +kernel
theorem dX12_isRest_3 : decode cX12_isRest 3 = .ok (.bipush 7, 2) := by decide +kernel
theorem dX12_isRest_5 : decode cX12_isRest 5 = .ok (.if_icmp .ge 41, 3) := by decide +kernel
theorem dX12_isRest_8 : decode cX12_isRest 8 = .ok (.iload_n 0, 1) := by decide +kernel
theorem dX12_isRest_9 : decode cX12_isRest 9 = .ok (.iload_n 3, 1) := by decide +kernel
theorem dX12_isRest_10 : decode cX12_isRest 10 = .ok (.iload_n 2, 1) := by decide +kernel
theorem dX12_isRest_11 : decode cX12_isRest 11 = .ok (.invokestatic 456, 3) := by decide +kernel
theorem dX12_isRest_14 : decode cX12_isRest 14 = .ok (.iload_n 0, 1) := by decide +kernel
theorem dX12_isRest_15 : decode cX12_isRest 15 = .ok (.iload_n 1, 1) := by decide +kernel
theorem dX12_isRest_16 : decode cX12_isRest 16 = .ok (.iload_n 2, 1) := by decide +kernel
theorem dX12_isRest_17 : decode cX12_isRest 17 = .ok (.invokestatic 456, 3) := by decide +kernel
theorem dX12_isRest_20 : decode cX12_isRest 20 = .ok (.if_icmp .gt 18, 3) := by decide +kernel
theorem dX12_isRest_23 : decode cX12_isRest 23 = .ok (.iload_n 0, 1) := by decide +kernel
theorem dX12_isRest_24 : decode cX12_isRest 24 = .ok (.iload_n 3, 1) := by decide +kernel
theorem dX12_isRest_25 : decode cX12_isRest 25 = .ok (.iload_n 1, 1) := by decide +kernel
theorem dX12_isRest_26 : decode cX12_isRest 26 = .ok (.invokestatic 456, 3) := by decide +kernel
theorem dX12_isRest_29 : decode cX12_isRest 29 = .ok (.iload_n 0, 1) := by decide +kernel
theorem dX12_isRest_30 : decode cX12_isRest 30 = .ok (.iload_n 2, 1) := by decide +kernel
theorem dX12_isRest_31 : decode cX12_isRest 31 = .ok (.iload_n 1, 1) := by decide +kernel
theorem dX12_isRest_32 : decode cX12_isRest 32 = .ok (.invokestatic 456, 3) := by decide +kernel
theorem dX12_isRest_35 : decode cX12_isRest 35 = .ok (.if_icmp .le 5, 3) := by decide +kernel
theorem dX12_isRest_38 : decode cX12_isRest 38 = .ok (.iconst 0, 1) := by decide +kernel
theorem dX12_isRest_39 : decode cX12_isRest 39 = .ok (.ireturn, 1) := by decide +kernel
theorem dX12_isRest_40 : decode cX12_isRest 40 = .ok (.iinc 3 1, 3) := by decide +kernel
theorem dX12_isRest_43 : decode cX12_isRest 43 = .ok (.goto (-41), 3) := by decide +kernel
theorem dX12_isRest_46 : decode cX12_isRest 46 = .ok (.iconst 1, 1) := by decide +kernel
theorem dX12_isRest_47 : decode cX12_isRest 47 = .ok (.ireturn, 1) := by decide +kernel
theorem dX12_rest_0 : decode cX12_rest 0 = .ok (.aload_n 0, 1) := by decide +kernel
theorem dX12_rest_1 : decode cX12_rest 1 = .ok (.iconst 0, 1) := by decide +kernel
theorem dX12_rest_2 : decode cX12_rest 2 = .ok (.putfield 66, 3) := by decide +kernel
theorem dX12_rest_5 : decode cX12_rest 5 = .ok (.aload_n 0, 1) := by decide +kernel
theorem dX12_rest_6 : decode cX12_rest 6 = .ok (.iload_n 1, 1) := by decide +kernel
theorem dX12_rest_7 : decode cX12_rest 7 = .ok (.invokevirtual 450, 3) := by decide +kernel
theorem dX12_rest_10 : decode cX12_rest 10 = .ok (.istore_n 2, 1) := by decide +kernel
theorem dX12_rest_11 : decode cX12_rest 11 = .ok (.iload_n 2, 1) := by decide +kernel
theorem dX12_rest_12 : decode cX12_rest 12 = .ok (.ifCond .le 9, 3) := by decide +kernel
theorem dX12_rest_15 : decode cX12_rest 15 = .ok (.aload_n 0, 1) := by decide +kernel
theorem dX12_rest_16 : decode cX12_rest 16 = .ok (.iload_n 2, 1) := by decide +kernel
theorem dX12_rest_17 : decode cX12_rest 17 = .ok (.invokevirtual 72, 3) := by decide +kernel
theorem dX12_rest_20 : decode cX12_rest 20 = .ok (.ireturn, 1) := by decide +kernel
theorem dX12_rest_21 : decode cX12_rest 21 = .ok (.iconst 0, 1) := by decide +kernel
theorem dX12_rest_22 : decode cX12_rest 22 = .ok (.istore_n 3, 1) := by decide +kernel
theorem dX12_rest_23 : decode cX12_rest 23 = .ok (.iload_n 3, 1) := by decide +kernel
theorem dX12_rest_24 : decode cX12_rest 24 = .ok (.bipush 49, 2) := by decide +kernel
theorem dX12_rest_26 : decode cX12_rest 26 = .ok (.if_icmp .ge 41, 3) := by decide +kernel
theorem dX12_rest_29 : decode cX12_rest 29 = .ok (.iload_n 1, 1) := by decide +kernel
theorem dX12_rest_30 : decode cX12_rest 30 = .ok (.iload_n 3, 1) := by decide +kernel
theorem dX12_rest_31 : decode cX12_rest 31 = .ok (.bipush 7, 2) := by decide +kernel
theorem dX12_rest_33 : decode cX12_rest 33 = .ok (.idiv, 1) := by decide +kernel
theorem dX12_rest_34 : decode cX12_rest 34 = .ok (.iload_n 3, 1) := by decide +kernel
theorem dX12_rest_35 : decode cX12_rest 35 = .ok (.bipush 7, 2) := by decide +kernel
theorem dX12_rest_37 : decode cX12_rest 37 = .ok (.irem, 1) := by decide +kernel
theorem dX12_rest_38 : decode cX12_rest 38 = .ok (.invokestatic 459, 3) := by decide +kernel
theorem dX12_rest_41 : decode cX12_rest 41 = .ok (.ifCond .eq 20, 3) := by decide +kernel
theorem dX12_rest_44 : decode cX12_rest 44 = .ok (.aload_n 0, 1) := by decide +kernel
theorem dX12_rest_45 : decode cX12_rest 45 = .ok (.bipush 10, 2) := by decide +kernel
theorem dX12_rest_47 : decode cX12_rest 47 = .ok (.iload_n 3, 1) := by decide +kernel
theorem dX12_rest_48 : decode cX12_rest 48 = .ok (.bipush 7, 2) := by decide +kernel
theorem dX12_rest_50 : decode cX12_rest 50 = .ok (.idiv, 1) := by decide +kernel
theorem dX12_rest_51 : decode cX12_rest 51 = .ok (.imul, 1) := by decide +kernel
theorem dX12_rest_52 : decode cX12_rest 52 = .ok (.iload_n 3, 1) := by decide +kernel
theorem dX12_rest_53 : decode cX12_rest 53 = .ok (.bipush 7, 2) := by decide +kernel
theorem dX12_rest_55 : decode cX12_rest 55 = .ok (.irem, 1) := by decide +kernel
theorem dX12_rest_56 : decode cX12_rest 56 = .ok (.iadd, 1) := by decide +kernel
theorem dX12_rest_57 : decode cX12_rest 57 = .ok (.invokevirtual 76, 3) := by decide +kernel
theorem dX12_rest_60 : decode cX12_rest 60 = .ok (.ireturn, 1) := by decide +kernel
theorem dX12_rest_61 : decode cX12_rest 61 = .ok (.iinc 3 1, 3) := by decide +kernel
theorem dX12_rest_64 : decode cX12_rest 64 = .ok (.goto (-41), 3) := by decide +kernel
theorem dX12_rest_67 : decode cX12_rest 67 = .ok (.aload_n 0, 1) := by decide +kernel
theorem dX12_rest_68 : decode cX12_rest 68 = .ok (.bipush (-2), 2) := by decide +kernel
theorem dX12_rest_70 : decode cX12_rest 70 = .ok (.invokevirtual 76, 3) := by decide +kernel
theorem dX12_rest_73 : decode cX12_rest 73 = .ok (.ireturn, 1) := by decide +kernel
theorem dX12_tells_0 : decode cX12_tells 0 = .ok (.aload_n 0, 1) := by decide +kernel
theorem dX12_tells_1 : decode cX12_tells 1 = .ok (.iconst 0, 1) := by decide +kernel
theorem dX12_tells_2 : decode cX12_tells 2 = .ok (.putfield 66, 3) := by decide +kernel
theorem dX12_tells_5 : decode cX12_tells 5 = .ok (.aload_n 0, 1) := by decide +kernel
theorem dX12_tells_6 : decode cX12_tells 6 = .ok (.iload_n 1, 1) := by decide +kernel
theorem dX12_tells_7 : decode cX12_tells 7 = .ok (.iload_n 2, 1) := by decide +kernel
theorem dX12_tells_8 : decode cX12_tells 8 = .ok (.invokevirtual 468, 3) := by decide +kernel
theorem dX12_tells_11 : decode cX12_tells 11 = .ok (.istore 4, 2) := by decide +kernel
theorem dX12_tells_13 : decode cX12_tells 13 = .ok (.iload 4, 2) := by decide +kernel
theorem dX12_tells_15 : decode cX12_tells 15 = .ok (.ifCond .le 11, 3) := by decide +kernel
theorem dX12_tells_18 : decode cX12_tells 18 = .ok (.aload_n 0, 1) := by decide +kernel
theorem dX12_tells_19 : decode cX12_tells 19 = .ok (.iload 4, 2) := by decide +kernel
theorem dX12_tells_21 : decode cX12_tells 21 = .ok (.invokevirtual 72, 3) := by decide +kernel
theorem dX12_tells_24 : decode cX12_tells 24 = .ok (.i2l, 1) := by decide +kernel
theorem dX12_tells_25 : decode cX12_tells 25 = .ok (.lreturn, 1) := by decide +kernel
theorem dX12_tells_26 : decode cX12_tells 26 = .ok (.aload_n 0, 1) := by decide +kernel
theorem dX12_tells_27 : decode cX12_tells 27 = .ok (.aload_n 0, 1) := by decide +kernel
theorem dX12_tells_28 : decode cX12_tells 28 = .ok (.iload_n 1, 1) := by decide +kernel
theorem dX12_tells_29 : decode cX12_tells 29 = .ok (.iload_n 2, 1) := by decide +kernel
theorem dX12_tells_30 : decode cX12_tells 30 = .ok (.invokevirtual 471, 3) := by decide +kernel
theorem dX12_tells_33 : decode cX12_tells 33 = .ok (.ldc2_w 462, 3) := by decide +kernel
theorem dX12_tells_36 : decode cX12_tells 36 = .ok (.iload_n 1, 1) := by decide +kernel
theorem dX12_tells_37 : decode cX12_tells 37 = .ok (.invokestatic 464, 3) := by decide +kernel
theorem dX12_tells_40 : decode cX12_tells 40 = .ok (.iload_n 3, 1) := by decide +kernel
theorem dX12_tells_41 : decode cX12_tells 41 = .ok (.invokevirtual 475, 3) := by decide +kernel
theorem dX12_tells_44 : decode cX12_tells 44 = .ok (.lreturn, 1) := by decide +kernel
theorem dX12_refusesSleep_0 : decode cX12_refusesSleep 0 = .ok (.aload_n 0, 1) := by decide +kernel
theorem dX12_refusesSleep_1 : decode cX12_refusesSleep 1 = .ok (.getfield 311, 3) := by decide +kernel
theorem dX12_refusesSleep_4 : decode cX12_refusesSleep 4 = .ok (.ifnonnull 7, 3) := by decide +kernel
theorem dX12_refusesSleep_7 : decode cX12_refusesSleep 7 = .ok (.iconst 1, 1) := by decide +kernel
theorem dX12_refusesSleep_8 : decode cX12_refusesSleep 8 = .ok (.goto 27, 3) := by decide +kernel
theorem dX12_refusesSleep_11 : decode cX12_refusesSleep 11 = .ok (.iload_n 1, 1) := by decide +kernel
theorem dX12_refusesSleep_12 : decode cX12_refusesSleep 12 = .ok (.iconst 0, 1) := by decide +kernel
theorem dX12_refusesSleep_13 : decode cX12_refusesSleep 13 = .ok (.bipush 8, 2) := by decide +kernel
theorem dX12_refusesSleep_15 : decode cX12_refusesSleep 15 = .ok (.invokestatic 145, 3) := by decide +kernel
theorem dX12_refusesSleep_18 : decode cX12_refusesSleep 18 = .ok (.ifCond .eq 16, 3) := by decide +kernel
theorem dX12_refusesSleep_21 : decode cX12_refusesSleep 21 = .ok (.iload_n 2, 1) := by decide +kernel
theorem dX12_refusesSleep_22 : decode cX12_refusesSleep 22 = .ok (.iconst 0, 1) := by decide +kernel
theorem dX12_refusesSleep_23 : decode cX12_refusesSleep 23 = .ok (.iload_n 1, 1) := by decide +kernel
theorem dX12_refusesSleep_24 : decode cX12_refusesSleep 24 = .ok (.invokestatic 145, 3) := by decide +kernel
theorem dX12_refusesSleep_27 : decode cX12_refusesSleep 27 = .ok (.ifCond .eq 7, 3) := by decide +kernel
theorem dX12_refusesSleep_30 : decode cX12_refusesSleep 30 = .ok (.iconst 0, 1) := by decide +kernel
theorem dX12_refusesSleep_31 : decode cX12_refusesSleep 31 = .ok (.goto 4, 3) := by decide +kernel
theorem dX12_refusesSleep_34 : decode cX12_refusesSleep 34 = .ok (.iconst 2, 1) := by decide +kernel
theorem dX12_refusesSleep_35 : decode cX12_refusesSleep 35 = .ok (.ireturn, 1) := by decide +kernel
theorem dX12_tellsJust_0 : decode cX12_tellsJust 0 = .ok (.ldc2_w 462, 3) := by decide +kernel
theorem dX12_tellsJust_3 : decode cX12_tellsJust 3 = .ok (.aload_n 0, 1) := by decide +kernel
theorem dX12_tellsJust_4 : decode cX12_tellsJust 4 = .ok (.getfield 311, 3) := by decide +kernel
theorem dX12_tellsJust_7 : decode cX12_tellsJust 7 = .ok (.getfield 241, 3) := by decide +kernel
theorem dX12_tellsJust_10 : decode cX12_tellsJust 10 = .ok (.i2l, 1) := by decide +kernel
theorem dX12_tellsJust_11 : decode cX12_tellsJust 11 = .ok (.lsub, 1) := by decide +kernel
theorem dX12_tellsJust_12 : decode cX12_tellsJust 12 = .ok (.iload_n 2, 1) := by decide +kernel
theorem dX12_tellsJust_13 : decode cX12_tellsJust 13 = .ok (.invokestatic 464, 3) := by decide +kernel
theorem dX12_tellsJust_16 : decode cX12_tellsJust 16 = .ok (.lstore_n 3, 1) := by decide +kernel
theorem dX12_tellsJust_17 : decode cX12_tellsJust 17 = .ok (.iload_n 2, 1) := by decide +kernel
theorem dX12_tellsJust_18 : decode cX12_tellsJust 18 = .ok (.iload_n 1, 1) := by decide +kernel
theorem dX12_tellsJust_19 : decode cX12_tellsJust 19 = .ok (.if_icmp .ne 7, 3) := by decide +kernel
theorem dX12_tellsJust_22 : decode cX12_tellsJust 22 = .ok (.lload_n 3, 1) := by decide +kernel
theorem dX12_tellsJust_23 : decode cX12_tellsJust 23 = .ok (.goto 25, 3) := by decide +kernel
theorem dX12_tellsJust_26 : decode cX12_tellsJust 26 = .ok (.lload_n 3, 1) := by decide +kernel
theorem dX12_tellsJust_27 : decode cX12_tellsJust 27 = .ok (.aload_n 0, 1) := by decide +kernel
theorem dX12_tellsJust_28 : decode cX12_tellsJust 28 = .ok (.getfield 311, 3) := by decide +kernel
theorem dX12_tellsJust_31 : decode cX12_tellsJust 31 = .ok (.getfield 241, 3) := by decide +kernel
theorem dX12_tellsJust_34 : decode cX12_tellsJust 34 = .ok (.i2l, 1) := by decide +kernel
theorem dX12_tellsJust_35 : decode cX12_tellsJust 35 = .ok (.lmul, 1) := by decide +kernel
theorem dX12_tellsJust_36 : decode cX12_tellsJust 36 = .ok (.ldc2_w 462, 3) := by decide +kernel
theorem dX12_tellsJust_39 : decode cX12_tellsJust 39 = .ok (.iload_n 1, 1) := by decide +kernel
theorem dX12_tellsJust_40 : decode cX12_tellsJust 40 = .ok (.iload_n 2, 1) := by decide +kernel
theorem dX12_tellsJust_41 : decode cX12_tellsJust 41 = .ok (.isub, 1) := by decide +kernel
theorem dX12_tellsJust_42 : decode cX12_tellsJust 42 = .ok (.iconst 1, 1) := by decide +kernel
theorem dX12_tellsJust_43 : decode cX12_tellsJust 43 = .ok (.isub, 1) := by decide +kernel
theorem dX12_tellsJust_44 : decode cX12_tellsJust 44 = .ok (.invokestatic 464, 3) := by decide +kernel
theorem dX12_tellsJust_47 : decode cX12_tellsJust 47 = .ok (.lmul, 1) := by decide +kernel
theorem dX12_tellsJust_48 : decode cX12_tellsJust 48 = .ok (.lreturn, 1) := by decide +kernel
theorem dX12_power_0 : decode cX12_power 0 = .ok (.lconst 1, 1) := by decide +kernel
theorem dX12_power_1 : decode cX12_power 1 = .ok (.lstore_n 3, 1) := by decide +kernel
theorem dX12_power_2 : decode cX12_power 2 = .ok (.iconst 0, 1) := by decide +kernel
theorem dX12_power_3 : decode cX12_power 3 = .ok (.istore 5, 2) := by decide +kernel
theorem dX12_power_5 : decode cX12_power 5 = .ok (.iload 5, 2) := by decide +kernel
theorem dX12_power_7 : decode cX12_power 7 = .ok (.iload_n 2, 1) := by decide +kernel
theorem dX12_power_8 : decode cX12_power 8 = .ok (.if_icmp .ge 13, 3) := by decide +kernel
theorem dX12_power_11 : decode cX12_power 11 = .ok (.lload_n 3, 1) := by decide +kernel
theorem dX12_power_12 : decode cX12_power 12 = .ok (.lload_n 0, 1) := by decide +kernel
theorem dX12_power_13 : decode cX12_power 13 = .ok (.lmul, 1) := by decide +kernel
theorem dX12_power_14 : decode cX12_power 14 = .ok (.lstore_n 3, 1) := by decide +kernel
theorem dX12_power_15 : decode cX12_power 15 = .ok (.iinc 5 1, 3) := by decide +kernel
theorem dX12_power_18 : decode cX12_power 18 = .ok (.goto (-13), 3) := by decide +kernel
theorem dX12_power_21 : decode cX12_power 21 = .ok (.lload_n 3, 1) := by decide +kernel
theorem dX12_power_22 : decode cX12_power 22 = .ok (.lreturn, 1) := by decide +kernel
theorem dX12_fraction_0 : decode cX12_fraction 0 = .ok (.aload_n 0, 1) := by decide +kernel
theorem dX12_fraction_1 : decode cX12_fraction 1 = .ok (.iconst 0, 1) := by decide +kernel
theorem dX12_fraction_2 : decode cX12_fraction 2 = .ok (.invokevirtual 76, 3) := by decide +kernel
theorem dX12_fraction_5 : decode cX12_fraction 5 = .ok (.pop, 1) := by decide +kernel
theorem dX12_fraction_6 : decode cX12_fraction 6 = .ok (.iload 5, 2) := by decide +kernel
theorem dX12_fraction_8 : decode cX12_fraction 8 = .ok (.ifCond .eq 7, 3) := by decide +kernel
theorem dX12_fraction_11 : decode cX12_fraction 11 = .ok (.lload_n 3, 1) := by decide +kernel
theorem dX12_fraction_12 : decode cX12_fraction 12 = .ok (.goto 4, 3) := by decide +kernel
theorem dX12_fraction_15 : decode cX12_fraction 15 = .ok (.lload_n 1, 1) := by decide +kernel
theorem dX12_fraction_16 : decode cX12_fraction 16 = .ok (.lload_n 1, 1) := by decide +kernel
theorem dX12_fraction_17 : decode cX12_fraction 17 = .ok (.lload_n 3, 1) := by decide +kernel
theorem dX12_fraction_18 : decode cX12_fraction 18 = .ok (.invokestatic 79, 3) := by decide +kernel
theorem dX12_fraction_21 : decode cX12_fraction 21 = .ok (.ldiv, 1) := by decide +kernel
theorem dX12_fraction_22 : decode cX12_fraction 22 = .ok (.lreturn, 1) := by decide +kernel
theorem dX12_common_0 : decode cX12_common 0 = .ok (.lload_n 0, 1) := by decide +kernel
theorem dX12_common_1 : decode cX12_common 1 = .ok (.lstore 4, 2) := by decide +kernel
theorem dX12_common_3 : decode cX12_common 3 = .ok (.lload_n 2, 1) := by decide +kernel
theorem dX12_common_4 : decode cX12_common 4 = .ok (.lstore 6, 2) := by decide +kernel
theorem dX12_common_6 : decode cX12_common 6 = .ok (.lload 6, 2) := by decide +kernel
theorem dX12_common_8 : decode cX12_common 8 = .ok (.lconst 0, 1) := by decide +kernel
theorem dX12_common_9 : decode cX12_common 9 = .ok (.lcmp, 1) := by decide +kernel
theorem dX12_common_10 : decode cX12_common 10 = .ok (.ifCond .eq 21, 3) := by decide +kernel
theorem dX12_common_13 : decode cX12_common 13 = .ok (.lload 4, 2) := by decide +kernel
theorem dX12_common_15 : decode cX12_common 15 = .ok (.lload 6, 2) := by decide +kernel
theorem dX12_common_17 : decode cX12_common 17 = .ok (.lrem, 1) := by decide +kernel
theorem dX12_common_18 : decode cX12_common 18 = .ok (.lstore 8, 2) := by decide +kernel
theorem dX12_common_20 : decode cX12_common 20 = .ok (.lload 6, 2) := by decide +kernel
theorem dX12_common_22 : decode cX12_common 22 = .ok (.lstore 4, 2) := by decide +kernel
theorem dX12_common_24 : decode cX12_common 24 = .ok (.lload 8, 2) := by decide +kernel
theorem dX12_common_26 : decode cX12_common 26 = .ok (.lstore 6, 2) := by decide +kernel
theorem dX12_common_28 : decode cX12_common 28 = .ok (.goto (-22), 3) := by decide +kernel
theorem dX12_common_31 : decode cX12_common 31 = .ok (.lload 4, 2) := by decide +kernel
theorem dX12_common_33 : decode cX12_common 33 = .ok (.lreturn, 1) := by decide +kernel
theorem dX12_mean_0 : decode cX12_mean 0 = .ok (.aload_n 0, 1) := by decide +kernel
theorem dX12_mean_1 : decode cX12_mean 1 = .ok (.iconst 0, 1) := by decide +kernel
theorem dX12_mean_2 : decode cX12_mean 2 = .ok (.putfield 66, 3) := by decide +kernel
theorem dX12_mean_5 : decode cX12_mean 5 = .ok (.aload_n 0, 1) := by decide +kernel
theorem dX12_mean_6 : decode cX12_mean 6 = .ok (.iload_n 1, 1) := by decide +kernel
theorem dX12_mean_7 : decode cX12_mean 7 = .ok (.iconst 0, 1) := by decide +kernel
theorem dX12_mean_8 : decode cX12_mean 8 = .ok (.invokevirtual 468, 3) := by decide +kernel
theorem dX12_mean_11 : decode cX12_mean 11 = .ok (.istore_n 3, 1) := by decide +kernel
theorem dX12_mean_12 : decode cX12_mean 12 = .ok (.iload_n 3, 1) := by decide +kernel
theorem dX12_mean_13 : decode cX12_mean 13 = .ok (.ifCond .le 10, 3) := by decide +kernel
theorem dX12_mean_16 : decode cX12_mean 16 = .ok (.aload_n 0, 1) := by decide +kernel
theorem dX12_mean_17 : decode cX12_mean 17 = .ok (.iload_n 3, 1) := by decide +kernel
theorem dX12_mean_18 : decode cX12_mean 18 = .ok (.invokevirtual 72, 3) := by decide +kernel
theorem dX12_mean_21 : decode cX12_mean 21 = .ok (.i2l, 1) := by decide +kernel
theorem dX12_mean_22 : decode cX12_mean 22 = .ok (.lreturn, 1) := by decide +kernel
theorem dX12_mean_23 : decode cX12_mean 23 = .ok (.lconst 0, 1) := by decide +kernel
theorem dX12_mean_24 : decode cX12_mean 24 = .ok (.lstore 4, 2) := by decide +kernel
theorem dX12_mean_26 : decode cX12_mean 26 = .ok (.iconst 1, 1) := by decide +kernel
theorem dX12_mean_27 : decode cX12_mean 27 = .ok (.istore 6, 2) := by decide +kernel
theorem dX12_mean_29 : decode cX12_mean 29 = .ok (.iload 6, 2) := by decide +kernel
theorem dX12_mean_31 : decode cX12_mean 31 = .ok (.iload_n 1, 1) := by decide +kernel
theorem dX12_mean_32 : decode cX12_mean 32 = .ok (.if_icmp .gt 25, 3) := by decide +kernel
theorem dX12_mean_35 : decode cX12_mean 35 = .ok (.lload 4, 2) := by decide +kernel
theorem dX12_mean_37 : decode cX12_mean 37 = .ok (.iload 6, 2) := by decide +kernel
theorem dX12_mean_39 : decode cX12_mean 39 = .ok (.i2l, 1) := by decide +kernel
theorem dX12_mean_40 : decode cX12_mean 40 = .ok (.aload_n 0, 1) := by decide +kernel
theorem dX12_mean_41 : decode cX12_mean 41 = .ok (.iload_n 1, 1) := by decide +kernel
theorem dX12_mean_42 : decode cX12_mean 42 = .ok (.iload 6, 2) := by decide +kernel
theorem dX12_mean_44 : decode cX12_mean 44 = .ok (.invokevirtual 471, 3) := by decide +kernel
theorem dX12_mean_47 : decode cX12_mean 47 = .ok (.lmul, 1) := by decide +kernel
theorem dX12_mean_48 : decode cX12_mean 48 = .ok (.ladd, 1) := by decide +kernel
theorem dX12_mean_49 : decode cX12_mean 49 = .ok (.lstore 4, 2) := by decide +kernel
theorem dX12_mean_51 : decode cX12_mean 51 = .ok (.iinc 6 1, 3) := by decide +kernel
theorem dX12_mean_54 : decode cX12_mean 54 = .ok (.goto (-25), 3) := by decide +kernel
theorem dX12_mean_57 : decode cX12_mean 57 = .ok (.aload_n 0, 1) := by decide +kernel
theorem dX12_mean_58 : decode cX12_mean 58 = .ok (.lload 4, 2) := by decide +kernel
theorem dX12_mean_60 : decode cX12_mean 60 = .ok (.ldc2_w 462, 3) := by decide +kernel
theorem dX12_mean_63 : decode cX12_mean 63 = .ok (.iload_n 1, 1) := by decide +kernel
theorem dX12_mean_64 : decode cX12_mean 64 = .ok (.invokestatic 464, 3) := by decide +kernel
theorem dX12_mean_67 : decode cX12_mean 67 = .ok (.iload_n 2, 1) := by decide +kernel
theorem dX12_mean_68 : decode cX12_mean 68 = .ok (.invokevirtual 475, 3) := by decide +kernel
theorem dX12_mean_71 : decode cX12_mean 71 = .ok (.lreturn, 1) := by decide +kernel
theorem dX12_evenings_0 : decode cX12_evenings 0 = .ok (.aload_n 0, 1) := by decide +kernel
theorem dX12_evenings_1 : decode cX12_evenings 1 = .ok (.iconst 0, 1) := by decide +kernel
theorem dX12_evenings_2 : decode cX12_evenings 2 = .ok (.putfield 66, 3) := by decide +kernel
theorem dX12_evenings_5 : decode cX12_evenings 5 = .ok (.aload_n 0, 1) := by decide +kernel
theorem dX12_evenings_6 : decode cX12_evenings 6 = .ok (.aload_n 0, 1) := by decide +kernel
theorem dX12_evenings_7 : decode cX12_evenings 7 = .ok (.iload_n 1, 1) := by decide +kernel
theorem dX12_evenings_8 : decode cX12_evenings 8 = .ok (.invokevirtual 350, 3) := by decide +kernel
theorem dX12_evenings_11 : decode cX12_evenings 11 = .ok (.iload_n 2, 1) := by decide +kernel
theorem dX12_evenings_12 : decode cX12_evenings 12 = .ok (.iload_n 3, 1) := by decide +kernel
theorem dX12_evenings_13 : decode cX12_evenings 13 = .ok (.invokevirtual 493, 3) := by decide +kernel
theorem dX12_evenings_16 : decode cX12_evenings 16 = .ok (.istore 4, 2) := by decide +kernel
theorem dX12_evenings_18 : decode cX12_evenings 18 = .ok (.iload 4, 2) := by decide +kernel
theorem dX12_evenings_20 : decode cX12_evenings 20 = .ok (.ifCond .le 10, 3) := by decide +kernel
theorem dX12_evenings_23 : decode cX12_evenings 23 = .ok (.aload_n 0, 1) := by decide +kernel
theorem dX12_evenings_24 : decode cX12_evenings 24 = .ok (.iload 4, 2) := by decide +kernel
theorem dX12_evenings_26 : decode cX12_evenings 26 = .ok (.invokevirtual 72, 3) := by decide +kernel
theorem dX12_evenings_29 : decode cX12_evenings 29 = .ok (.ireturn, 1) := by decide +kernel
theorem dX12_evenings_30 : decode cX12_evenings 30 = .ok (.aload_n 0, 1) := by decide +kernel
theorem dX12_evenings_31 : decode cX12_evenings 31 = .ok (.iload_n 2, 1) := by decide +kernel
theorem dX12_evenings_32 : decode cX12_evenings 32 = .ok (.iload_n 3, 1) := by decide +kernel
theorem dX12_evenings_33 : decode cX12_evenings 33 = .ok (.iconst 0, 1) := by decide +kernel
theorem dX12_evenings_34 : decode cX12_evenings 34 = .ok (.invokevirtual 497, 3) := by decide +kernel
theorem dX12_evenings_37 : decode cX12_evenings 37 = .ok (.aload_n 0, 1) := by decide +kernel
theorem dX12_evenings_38 : decode cX12_evenings 38 = .ok (.aload_n 0, 1) := by decide +kernel
theorem dX12_evenings_39 : decode cX12_evenings 39 = .ok (.getfield 21, 3) := by decide +kernel
theorem dX12_evenings_42 : decode cX12_evenings 42 = .ok (.iload_n 1, 1) := by decide +kernel
theorem dX12_evenings_43 : decode cX12_evenings 43 = .ok (.iaload, 1) := by decide +kernel
theorem dX12_evenings_44 : decode cX12_evenings 44 = .ok (.invokevirtual 76, 3) := by decide +kernel
theorem dX12_evenings_47 : decode cX12_evenings 47 = .ok (.ireturn, 1) := by decide +kernel
theorem dX12_refusesEvenings_0 : decode cX12_refusesEvenings 0 = .ok (.iload_n 1, 1) := by decide +kernel
theorem dX12_refusesEvenings_1 : decode cX12_refusesEvenings 1 = .ok (.ifCond .ne 7, 3) := by decide +kernel
theorem dX12_refusesEvenings_4 : decode cX12_refusesEvenings 4 = .ok (.iconst 1, 1) := by decide +kernel
theorem dX12_refusesEvenings_5 : decode cX12_refusesEvenings 5 = .ok (.goto 29, 3) := by decide +kernel
theorem dX12_refusesEvenings_8 : decode cX12_refusesEvenings 8 = .ok (.iload_n 2, 1) := by decide +kernel
theorem dX12_refusesEvenings_9 : decode cX12_refusesEvenings 9 = .ok (.iconst 0, 1) := by decide +kernel
theorem dX12_refusesEvenings_10 : decode cX12_refusesEvenings 10 = .ok (.ldc_w 492, 3) := by decide +kernel
theorem dX12_refusesEvenings_13 : decode cX12_refusesEvenings 13 = .ok (.invokestatic 145, 3) := by decide +kernel
theorem dX12_refusesEvenings_16 : decode cX12_refusesEvenings 16 = .ok (.ifCond .eq 17, 3) := by decide +kernel
theorem dX12_refusesEvenings_19 : decode cX12_refusesEvenings 19 = .ok (.iload_n 3, 1) := by decide +kernel
theorem dX12_refusesEvenings_20 : decode cX12_refusesEvenings 20 = .ok (.iconst 0, 1) := by decide +kernel
theorem dX12_refusesEvenings_21 : decode cX12_refusesEvenings 21 = .ok (.bipush 60, 2) := by decide +kernel
theorem dX12_refusesEvenings_23 : decode cX12_refusesEvenings 23 = .ok (.invokestatic 145, 3) := by decide +kernel
theorem dX12_refusesEvenings_26 : decode cX12_refusesEvenings 26 = .ok (.ifCond .eq 7, 3) := by decide +kernel
theorem dX12_refusesEvenings_29 : decode cX12_refusesEvenings 29 = .ok (.iconst 0, 1) := by decide +kernel
theorem dX12_refusesEvenings_30 : decode cX12_refusesEvenings 30 = .ok (.goto 4, 3) := by decide +kernel
theorem dX12_refusesEvenings_33 : decode cX12_refusesEvenings 33 = .ok (.iconst 2, 1) := by decide +kernel
theorem dX12_refusesEvenings_34 : decode cX12_refusesEvenings 34 = .ok (.ireturn, 1) := by decide +kernel
theorem dX12_evenings1_0 : decode cX12_evenings1 0 = .ok (.aload_n 0, 1) := by decide +kernel
theorem dX12_evenings1_1 : decode cX12_evenings1 1 = .ok (.aload_n 0, 1) := by decide +kernel
theorem dX12_evenings1_2 : decode cX12_evenings1 2 = .ok (.getfield 311, 3) := by decide +kernel
theorem dX12_evenings1_5 : decode cX12_evenings1 5 = .ok (.invokevirtual 359, 3) := by decide +kernel
theorem dX12_evenings1_8 : decode cX12_evenings1 8 = .ok (.invokevirtual 368, 3) := by decide +kernel
theorem dX12_evenings1_11 : decode cX12_evenings1 11 = .ok (.istore 4, 2) := by decide +kernel
theorem dX12_evenings1_13 : decode cX12_evenings1 13 = .ok (.iconst 0, 1) := by decide +kernel
theorem dX12_evenings1_14 : decode cX12_evenings1 14 = .ok (.istore 5, 2) := by decide +kernel
theorem dX12_evenings1_16 : decode cX12_evenings1 16 = .ok (.iload 5, 2) := by decide +kernel
theorem dX12_evenings1_18 : decode cX12_evenings1 18 = .ok (.bipush 6, 2) := by decide +kernel
theorem dX12_evenings1_20 : decode cX12_evenings1 20 = .ok (.if_icmp .ge 23, 3) := by decide +kernel
theorem dX12_evenings1_23 : decode cX12_evenings1 23 = .ok (.aload_n 0, 1) := by decide +kernel
theorem dX12_evenings1_24 : decode cX12_evenings1 24 = .ok (.getfield 21, 3) := by decide +kernel
theorem dX12_evenings1_27 : decode cX12_evenings1 27 = .ok (.iload 5, 2) := by decide +kernel
theorem dX12_evenings1_29 : decode cX12_evenings1 29 = .ok (.aload_n 0, 1) := by decide +kernel
theorem dX12_evenings1_30 : decode cX12_evenings1 30 = .ok (.getfield 17, 3) := by decide +kernel
theorem dX12_evenings1_33 : decode cX12_evenings1 33 = .ok (.iload 5, 2) := by decide +kernel
theorem dX12_evenings1_35 : decode cX12_evenings1 35 = .ok (.iaload, 1) := by decide +kernel
theorem dX12_evenings1_36 : decode cX12_evenings1 36 = .ok (.iastore, 1) := by decide +kernel
theorem dX12_evenings1_37 : decode cX12_evenings1 37 = .ok (.iinc 5 1, 3) := by decide +kernel
theorem dX12_evenings1_40 : decode cX12_evenings1 40 = .ok (.goto (-24), 3) := by decide +kernel
theorem dX12_evenings1_43 : decode cX12_evenings1 43 = .ok (.aload_n 0, 1) := by decide +kernel
theorem dX12_evenings1_44 : decode cX12_evenings1 44 = .ok (.getfield 21, 3) := by decide +kernel
theorem dX12_evenings1_47 : decode cX12_evenings1 47 = .ok (.iconst 5, 1) := by decide +kernel
theorem dX12_evenings1_48 : decode cX12_evenings1 48 = .ok (.iload_n 1, 1) := by decide +kernel
theorem dX12_evenings1_49 : decode cX12_evenings1 49 = .ok (.iastore, 1) := by decide +kernel
theorem dX12_evenings1_50 : decode cX12_evenings1 50 = .ok (.aload_n 0, 1) := by decide +kernel
theorem dX12_evenings1_51 : decode cX12_evenings1 51 = .ok (.iconst 0, 1) := by decide +kernel
theorem dX12_evenings1_52 : decode cX12_evenings1 52 = .ok (.putfield 485, 3) := by decide +kernel
theorem dX12_evenings1_55 : decode cX12_evenings1 55 = .ok (.iconst 1, 1) := by decide +kernel
theorem dX12_evenings1_56 : decode cX12_evenings1 56 = .ok (.istore 5, 2) := by decide +kernel
theorem dX12_evenings1_58 : decode cX12_evenings1 58 = .ok (.iload 5, 2) := by decide +kernel
theorem dX12_evenings1_60 : decode cX12_evenings1 60 = .ok (.iload_n 2, 1) := by decide +kernel
theorem dX12_evenings1_61 : decode cX12_evenings1 61 = .ok (.if_icmp .gt 70, 3) := by decide +kernel
theorem dX12_evenings1_64 : decode cX12_evenings1 64 = .ok (.aload_n 0, 1) := by decide +kernel
theorem dX12_evenings1_65 : decode cX12_evenings1 65 = .ok (.aload_n 0, 1) := by decide +kernel
theorem dX12_evenings1_66 : decode cX12_evenings1 66 = .ok (.getfield 21, 3) := by decide +kernel
theorem dX12_evenings1_69 : decode cX12_evenings1 69 = .ok (.iload 5, 2) := by decide +kernel
theorem dX12_evenings1_71 : decode cX12_evenings1 71 = .ok (.iconst 1, 1) := by decide +kernel
theorem dX12_evenings1_72 : decode cX12_evenings1 72 = .ok (.isub, 1) := by decide +kernel
theorem dX12_evenings1_73 : decode cX12_evenings1 73 = .ok (.aload_n 0, 1) := by decide +kernel
theorem dX12_evenings1_74 : decode cX12_evenings1 74 = .ok (.getfield 311, 3) := by decide +kernel
theorem dX12_evenings1_77 : decode cX12_evenings1 77 = .ok (.getfield 277, 3) := by decide +kernel
theorem dX12_evenings1_80 : decode cX12_evenings1 80 = .ok (.irem, 1) := by decide +kernel
theorem dX12_evenings1_81 : decode cX12_evenings1 81 = .ok (.iload 4, 2) := by decide +kernel
theorem dX12_evenings1_83 : decode cX12_evenings1 83 = .ok (.invokevirtual 488, 3) := by decide +kernel
theorem dX12_evenings1_86 : decode cX12_evenings1 86 = .ok (.pop, 1) := by decide +kernel
theorem dX12_evenings1_87 : decode cX12_evenings1 87 = .ok (.iload_n 3, 1) := by decide +kernel
theorem dX12_evenings1_88 : decode cX12_evenings1 88 = .ok (.ifCond .eq 37, 3) := by decide +kernel
theorem dX12_evenings1_91 : decode cX12_evenings1 91 = .ok (.aload_n 0, 1) := by decide +kernel
theorem dX12_evenings1_92 : decode cX12_evenings1 92 = .ok (.getfield 485, 3) := by decide +kernel
theorem dX12_evenings1_95 : decode cX12_evenings1 95 = .ok (.ifCond .ne 30, 3) := by decide +kernel
theorem dX12_evenings1_98 : decode cX12_evenings1 98 = .ok (.aload_n 0, 1) := by decide +kernel
theorem dX12_evenings1_99 : decode cX12_evenings1 99 = .ok (.aload_n 0, 1) := by decide +kernel
theorem dX12_evenings1_100 : decode cX12_evenings1 100 = .ok (.getfield 21, 3) := by decide +kernel
theorem dX12_evenings1_103 : decode cX12_evenings1 103 = .ok (.invokevirtual 380, 3) := by decide +kernel
theorem dX12_evenings1_106 : decode cX12_evenings1 106 = .ok (.invokestatic 371, 3) := by decide +kernel
theorem dX12_evenings1_109 : decode cX12_evenings1 109 = .ok (.aload_n 0, 1) := by decide +kernel
theorem dX12_evenings1_110 : decode cX12_evenings1 110 = .ok (.getfield 311, 3) := by decide +kernel
theorem dX12_evenings1_113 : decode cX12_evenings1 113 = .ok (.getfield 277, 3) := by decide +kernel
theorem dX12_evenings1_116 : decode cX12_evenings1 116 = .ok (.if_icmp .ne 9, 3) := by decide +kernel
theorem dX12_evenings1_119 : decode cX12_evenings1 119 = .ok (.aload_n 0, 1) := by decide +kernel
theorem dX12_evenings1_120 : decode cX12_evenings1 120 = .ok (.iload 5, 2) := by decide +kernel
theorem dX12_evenings1_122 : decode cX12_evenings1 122 = .ok (.putfield 485, 3) := by decide +kernel
theorem dX12_evenings1_125 : decode cX12_evenings1 125 = .ok (.iinc 5 1, 3) := by decide +kernel
theorem dX12_evenings1_128 : decode cX12_evenings1 128 = .ok (.goto (-70), 3) := by decide +kernel
theorem dX12_evenings1_131 : decode cX12_evenings1 131 = .ok (.return_, 1) := by decide +kernel
theorem dX12_anEvening_0 : decode cX12_anEvening 0 = .ok (.iconst 0, 1) := by decide +kernel
theorem dX12_anEvening_1 : decode cX12_anEvening 1 = .ok (.istore 4, 2) := by decide +kernel
theorem dX12_anEvening_3 : decode cX12_anEvening 3 = .ok (.iconst 1, 1) := by decide +kernel
theorem dX12_anEvening_4 : decode cX12_anEvening 4 = .ok (.istore 5, 2) := by decide +kernel
theorem dX12_anEvening_6 : decode cX12_anEvening 6 = .ok (.iload 5, 2) := by decide +kernel
theorem dX12_anEvening_8 : decode cX12_anEvening 8 = .ok (.ifCond .eq 81, 3) := by decide +kernel
theorem dX12_anEvening_11 : decode cX12_anEvening 11 = .ok (.iload 4, 2) := by decide +kernel
theorem dX12_anEvening_13 : decode cX12_anEvening 13 = .ok (.iload_n 3, 1) := by decide +kernel
theorem dX12_anEvening_14 : decode cX12_anEvening 14 = .ok (.if_icmp .ge 75, 3) := by decide +kernel
theorem dX12_anEvening_17 : decode cX12_anEvening 17 = .ok (.aload_n 1, 1) := by decide +kernel
theorem dX12_anEvening_18 : decode cX12_anEvening 18 = .ok (.iconst 5, 1) := by decide +kernel
theorem dX12_anEvening_19 : decode cX12_anEvening 19 = .ok (.ldc2_w 479, 3) := by decide +kernel
theorem dX12_anEvening_22 : decode cX12_anEvening 22 = .ok (.aload_n 1, 1) := by decide +kernel
theorem dX12_anEvening_23 : decode cX12_anEvening 23 = .ok (.iconst 5, 1) := by decide +kernel
theorem dX12_anEvening_24 : decode cX12_anEvening 24 = .ok (.iaload, 1) := by decide +kernel
theorem dX12_anEvening_25 : decode cX12_anEvening 25 = .ok (.i2l, 1) := by decide +kernel
theorem dX12_anEvening_26 : decode cX12_anEvening 26 = .ok (.lmul, 1) := by decide +kernel
theorem dX12_anEvening_27 : decode cX12_anEvening 27 = .ok (.ldc2_w 481, 3) := by decide +kernel
theorem dX12_anEvening_30 : decode cX12_anEvening 30 = .ok (.ladd, 1) := by decide +kernel
theorem dX12_anEvening_31 : decode cX12_anEvening 31 = .ok (.ldc2_w 483, 3) := by decide +kernel
theorem dX12_anEvening_34 : decode cX12_anEvening 34 = .ok (.lrem, 1) := by decide +kernel
theorem dX12_anEvening_35 : decode cX12_anEvening 35 = .ok (.l2i, 1) := by decide +kernel
theorem dX12_anEvening_36 : decode cX12_anEvening 36 = .ok (.iastore, 1) := by decide +kernel
theorem dX12_anEvening_37 : decode cX12_anEvening 37 = .ok (.aload_n 1, 1) := by decide +kernel
theorem dX12_anEvening_38 : decode cX12_anEvening 38 = .ok (.iconst 5, 1) := by decide +kernel
theorem dX12_anEvening_39 : decode cX12_anEvening 39 = .ok (.iaload, 1) := by decide +kernel
theorem dX12_anEvening_40 : decode cX12_anEvening 40 = .ok (.bipush 100, 2) := by decide +kernel
theorem dX12_anEvening_42 : decode cX12_anEvening 42 = .ok (.irem, 1) := by decide +kernel
theorem dX12_anEvening_43 : decode cX12_anEvening 43 = .ok (.aload_n 0, 1) := by decide +kernel
theorem dX12_anEvening_44 : decode cX12_anEvening 44 = .ok (.getfield 311, 3) := by decide +kernel
theorem dX12_anEvening_47 : decode cX12_anEvening 47 = .ok (.getfield 241, 3) := by decide +kernel
theorem dX12_anEvening_50 : decode cX12_anEvening 50 = .ok (.if_icmp .lt 7, 3) := by decide +kernel
theorem dX12_anEvening_53 : decode cX12_anEvening 53 = .ok (.iconst 1, 1) := by decide +kernel
theorem dX12_anEvening_54 : decode cX12_anEvening 54 = .ok (.goto 4, 3) := by decide +kernel
theorem dX12_anEvening_57 : decode cX12_anEvening 57 = .ok (.iconst 0, 1) := by decide +kernel
theorem dX12_anEvening_58 : decode cX12_anEvening 58 = .ok (.istore 5, 2) := by decide +kernel
theorem dX12_anEvening_60 : decode cX12_anEvening 60 = .ok (.iload 5, 2) := by decide +kernel
theorem dX12_anEvening_62 : decode cX12_anEvening 62 = .ok (.ifCond .ne 6, 3) := by decide +kernel
theorem dX12_anEvening_65 : decode cX12_anEvening 65 = .ok (.goto (-59), 3) := by decide +kernel
theorem dX12_anEvening_68 : decode cX12_anEvening 68 = .ok (.aload_n 1, 1) := by decide +kernel
theorem dX12_anEvening_69 : decode cX12_anEvening 69 = .ok (.iload_n 2, 1) := by decide +kernel
theorem dX12_anEvening_70 : decode cX12_anEvening 70 = .ok (.dup2, 1) := by decide +kernel
theorem dX12_anEvening_71 : decode cX12_anEvening 71 = .ok (.iaload, 1) := by decide +kernel
theorem dX12_anEvening_72 : decode cX12_anEvening 72 = .ok (.iconst 1, 1) := by decide +kernel
theorem dX12_anEvening_73 : decode cX12_anEvening 73 = .ok (.aload_n 0, 1) := by decide +kernel
theorem dX12_anEvening_74 : decode cX12_anEvening 74 = .ok (.getfield 33, 3) := by decide +kernel
theorem dX12_anEvening_77 : decode cX12_anEvening 77 = .ok (.iload 4, 2) := by decide +kernel
theorem dX12_anEvening_79 : decode cX12_anEvening 79 = .ok (.iaload, 1) := by decide +kernel
theorem dX12_anEvening_80 : decode cX12_anEvening 80 = .ok (.ishl, 1) := by decide +kernel
theorem dX12_anEvening_81 : decode cX12_anEvening 81 = .ok (.ior, 1) := by decide +kernel
theorem dX12_anEvening_82 : decode cX12_anEvening 82 = .ok (.iastore, 1) := by decide +kernel
theorem dX12_anEvening_83 : decode cX12_anEvening 83 = .ok (.iinc 4 1, 3) := by decide +kernel
theorem dX12_anEvening_86 : decode cX12_anEvening 86 = .ok (.goto (-80), 3) := by decide +kernel
theorem dX12_anEvening_89 : decode cX12_anEvening 89 = .ok (.iload 4, 2) := by decide +kernel
theorem dX12_anEvening_91 : decode cX12_anEvening 91 = .ok (.ireturn, 1) := by decide +kernel
theorem dX12_allSense_0 : decode cX12_allSense 0 = .ok (.aload_n 0, 1) := by decide +kernel
theorem dX12_allSense_1 : decode cX12_allSense 1 = .ok (.iconst 0, 1) := by decide +kernel
theorem dX12_allSense_2 : decode cX12_allSense 2 = .ok (.putfield 66, 3) := by decide +kernel
theorem dX12_allSense_5 : decode cX12_allSense 5 = .ok (.aload_n 0, 1) := by decide +kernel
theorem dX12_allSense_6 : decode cX12_allSense 6 = .ok (.aload_n 0, 1) := by decide +kernel
theorem dX12_allSense_7 : decode cX12_allSense 7 = .ok (.iconst 0, 1) := by decide +kernel
theorem dX12_allSense_8 : decode cX12_allSense 8 = .ok (.invokevirtual 350, 3) := by decide +kernel
theorem dX12_allSense_11 : decode cX12_allSense 11 = .ok (.iload_n 1, 1) := by decide +kernel
theorem dX12_allSense_12 : decode cX12_allSense 12 = .ok (.iload_n 2, 1) := by decide +kernel
theorem dX12_allSense_13 : decode cX12_allSense 13 = .ok (.invokevirtual 493, 3) := by decide +kernel
theorem dX12_allSense_16 : decode cX12_allSense 16 = .ok (.istore_n 3, 1) := by decide +kernel
theorem dX12_allSense_17 : decode cX12_allSense 17 = .ok (.iload_n 3, 1) := by decide +kernel
theorem dX12_allSense_18 : decode cX12_allSense 18 = .ok (.ifCond .le 9, 3) := by decide +kernel
theorem dX12_allSense_21 : decode cX12_allSense 21 = .ok (.aload_n 0, 1) := by decide +kernel
theorem dX12_allSense_22 : decode cX12_allSense 22 = .ok (.iload_n 3, 1) := by decide +kernel
theorem dX12_allSense_23 : decode cX12_allSense 23 = .ok (.invokevirtual 72, 3) := by decide +kernel
theorem dX12_allSense_26 : decode cX12_allSense 26 = .ok (.ireturn, 1) := by decide +kernel
theorem dX12_allSense_27 : decode cX12_allSense 27 = .ok (.aload_n 0, 1) := by decide +kernel
theorem dX12_allSense_28 : decode cX12_allSense 28 = .ok (.iload_n 1, 1) := by decide +kernel
theorem dX12_allSense_29 : decode cX12_allSense 29 = .ok (.iload_n 2, 1) := by decide +kernel
theorem dX12_allSense_30 : decode cX12_allSense 30 = .ok (.iconst 1, 1) := by decide +kernel
theorem dX12_allSense_31 : decode cX12_allSense 31 = .ok (.invokevirtual 497, 3) := by decide +kernel
theorem dX12_allSense_34 : decode cX12_allSense 34 = .ok (.aload_n 0, 1) := by decide +kernel
theorem dX12_allSense_35 : decode cX12_allSense 35 = .ok (.aload_n 0, 1) := by decide +kernel
theorem dX12_allSense_36 : decode cX12_allSense 36 = .ok (.getfield 485, 3) := by decide +kernel
theorem dX12_allSense_39 : decode cX12_allSense 39 = .ok (.invokevirtual 76, 3) := by decide +kernel
theorem dX12_allSense_42 : decode cX12_allSense 42 = .ok (.ireturn, 1) := by decide +kernel
theorem dX12_tell_0 : decode cX12_tell 0 = .ok (.aload_n 0, 1) := by decide +kernel
theorem dX12_tell_1 : decode cX12_tell 1 = .ok (.iconst 0, 1) := by decide +kernel
theorem dX12_tell_2 : decode cX12_tell 2 = .ok (.putfield 66, 3) := by decide +kernel
theorem dX12_tell_5 : decode cX12_tell 5 = .ok (.aload_n 0, 1) := by decide +kernel
theorem dX12_tell_6 : decode cX12_tell 6 = .ok (.iload_n 1, 1) := by decide +kernel
theorem dX12_tell_7 : decode cX12_tell 7 = .ok (.invokevirtual 350, 3) := by decide +kernel
theorem dX12_tell_10 : decode cX12_tell 10 = .ok (.ifCond .eq 16, 3) := by decide +kernel
theorem dX12_tell_13 : decode cX12_tell 13 = .ok (.aload_n 0, 1) := by decide +kernel
theorem dX12_tell_14 : decode cX12_tell 14 = .ok (.iload_n 2, 1) := by decide +kernel
theorem dX12_tell_15 : decode cX12_tell 15 = .ok (.invokevirtual 350, 3) := by decide +kernel
theorem dX12_tell_18 : decode cX12_tell 18 = .ok (.ifCond .eq 8, 3) := by decide +kernel
theorem dX12_tell_21 : decode cX12_tell 21 = .ok (.iload_n 1, 1) := by decide +kernel
theorem dX12_tell_22 : decode cX12_tell 22 = .ok (.iload_n 2, 1) := by decide +kernel
theorem dX12_tell_23 : decode cX12_tell 23 = .ok (.if_icmp .ne 9, 3) := by decide +kernel
theorem dX12_tell_26 : decode cX12_tell 26 = .ok (.aload_n 0, 1) := by decide +kernel
theorem dX12_tell_27 : decode cX12_tell 27 = .ok (.iconst 1, 1) := by decide +kernel
theorem dX12_tell_28 : decode cX12_tell 28 = .ok (.invokevirtual 72, 3) := by decide +kernel
theorem dX12_tell_31 : decode cX12_tell 31 = .ok (.ireturn, 1) := by decide +kernel
theorem dX12_tell_32 : decode cX12_tell 32 = .ok (.aload_n 0, 1) := by decide +kernel
theorem dX12_tell_33 : decode cX12_tell 33 = .ok (.iload_n 1, 1) := by decide +kernel
theorem dX12_tell_34 : decode cX12_tell 34 = .ok (.invokevirtual 377, 3) := by decide +kernel
theorem dX12_tell_37 : decode cX12_tell 37 = .ok (.ifCond .ne 9, 3) := by decide +kernel
theorem dX12_tell_40 : decode cX12_tell 40 = .ok (.aload_n 0, 1) := by decide +kernel
theorem dX12_tell_41 : decode cX12_tell 41 = .ok (.iconst 5, 1) := by decide +kernel
theorem dX12_tell_42 : decode cX12_tell 42 = .ok (.invokevirtual 72, 3) := by decide +kernel
theorem dX12_tell_45 : decode cX12_tell 45 = .ok (.ireturn, 1) := by decide +kernel
theorem dX12_tell_46 : decode cX12_tell 46 = .ok (.aload_n 0, 1) := by decide +kernel
theorem dX12_tell_47 : decode cX12_tell 47 = .ok (.invokevirtual 501, 3) := by decide +kernel
theorem dX12_tell_50 : decode cX12_tell 50 = .ok (.aload_n 0, 1) := by decide +kernel
theorem dX12_tell_51 : decode cX12_tell 51 = .ok (.getfield 17, 3) := by decide +kernel
theorem dX12_tell_54 : decode cX12_tell 54 = .ok (.iload_n 1, 1) := by decide +kernel
theorem dX12_tell_55 : decode cX12_tell 55 = .ok (.iaload, 1) := by decide +kernel
theorem dX12_tell_56 : decode cX12_tell 56 = .ok (.aload_n 0, 1) := by decide +kernel
theorem dX12_tell_57 : decode cX12_tell 57 = .ok (.getfield 17, 3) := by decide +kernel
theorem dX12_tell_60 : decode cX12_tell 60 = .ok (.iload_n 2, 1) := by decide +kernel
theorem dX12_tell_61 : decode cX12_tell 61 = .ok (.iaload, 1) := by decide +kernel
theorem dX12_tell_62 : decode cX12_tell 62 = .ok (.iconst (-1), 1) := by decide +kernel
theorem dX12_tell_63 : decode cX12_tell 63 = .ok (.ixor, 1) := by decide +kernel
theorem dX12_tell_64 : decode cX12_tell 64 = .ok (.iand, 1) := by decide +kernel
theorem dX12_tell_65 : decode cX12_tell 65 = .ok (.istore_n 3, 1) := by decide +kernel
theorem dX12_tell_66 : decode cX12_tell 66 = .ok (.aload_n 0, 1) := by decide +kernel
theorem dX12_tell_67 : decode cX12_tell 67 = .ok (.getfield 17, 3) := by decide +kernel
theorem dX12_tell_70 : decode cX12_tell 70 = .ok (.iload_n 2, 1) := by decide +kernel
theorem dX12_tell_71 : decode cX12_tell 71 = .ok (.dup2, 1) := by decide +kernel
theorem dX12_tell_72 : decode cX12_tell 72 = .ok (.iaload, 1) := by decide +kernel
theorem dX12_tell_73 : decode cX12_tell 73 = .ok (.iload_n 3, 1) := by decide +kernel
theorem dX12_tell_74 : decode cX12_tell 74 = .ok (.ior, 1) := by decide +kernel
theorem dX12_tell_75 : decode cX12_tell 75 = .ok (.iastore, 1) := by decide +kernel
theorem dX12_tell_76 : decode cX12_tell 76 = .ok (.aload_n 0, 1) := by decide +kernel
theorem dX12_tell_77 : decode cX12_tell 77 = .ok (.iload_n 3, 1) := by decide +kernel
theorem dX12_tell_78 : decode cX12_tell 78 = .ok (.invokevirtual 76, 3) := by decide +kernel
theorem dX12_tell_81 : decode cX12_tell 81 = .ok (.ireturn, 1) := by decide +kernel
theorem dX12_remembers_0 : decode cX12_remembers 0 = .ok (.aload_n 0, 1) := by decide +kernel
theorem dX12_remembers_1 : decode cX12_remembers 1 = .ok (.getfield 314, 3) := by decide +kernel
theorem dX12_remembers_4 : decode cX12_remembers 4 = .ok (.bipush 16, 2) := by decide +kernel
theorem dX12_remembers_6 : decode cX12_remembers 6 = .ok (.if_icmp .ne 42, 3) := by decide +kernel
theorem dX12_remembers_9 : decode cX12_remembers 9 = .ok (.iconst 0, 1) := by decide +kernel
theorem dX12_remembers_10 : decode cX12_remembers 10 = .ok (.istore_n 1, 1) := by decide +kernel
theorem dX12_remembers_11 : decode cX12_remembers 11 = .ok (.iload_n 1, 1) := by decide +kernel
theorem dX12_remembers_12 : decode cX12_remembers 12 = .ok (.bipush 90, 2) := by decide +kernel
theorem dX12_remembers_14 : decode cX12_remembers 14 = .ok (.if_icmp .ge 24, 3) := by decide +kernel
theorem dX12_remembers_17 : decode cX12_remembers 17 = .ok (.aload_n 0, 1) := by decide +kernel
theorem dX12_remembers_18 : decode cX12_remembers 18 = .ok (.getfield 24, 3) := by decide +kernel
theorem dX12_remembers_21 : decode cX12_remembers 21 = .ok (.iload_n 1, 1) := by decide +kernel
theorem dX12_remembers_22 : decode cX12_remembers 22 = .ok (.aload_n 0, 1) := by decide +kernel
theorem dX12_remembers_23 : decode cX12_remembers 23 = .ok (.getfield 24, 3) := by decide +kernel
theorem dX12_remembers_26 : decode cX12_remembers 26 = .ok (.iload_n 1, 1) := by decide +kernel
theorem dX12_remembers_27 : decode cX12_remembers 27 = .ok (.bipush 6, 2) := by decide +kernel
theorem dX12_remembers_29 : decode cX12_remembers 29 = .ok (.iadd, 1) := by decide +kernel
theorem dX12_remembers_30 : decode cX12_remembers 30 = .ok (.iaload, 1) := by decide +kernel
theorem dX12_remembers_31 : decode cX12_remembers 31 = .ok (.iastore, 1) := by decide +kernel
theorem dX12_remembers_32 : decode cX12_remembers 32 = .ok (.iinc 1 1, 3) := by decide +kernel
theorem dX12_remembers_35 : decode cX12_remembers 35 = .ok (.goto (-24), 3) := by decide +kernel
theorem dX12_remembers_38 : decode cX12_remembers 38 = .ok (.aload_n 0, 1) := by decide +kernel
theorem dX12_remembers_39 : decode cX12_remembers 39 = .ok (.dup, 1) := by decide +kernel
theorem dX12_remembers_40 : decode cX12_remembers 40 = .ok (.getfield 314, 3) := by decide +kernel
theorem dX12_remembers_43 : decode cX12_remembers 43 = .ok (.iconst 1, 1) := by decide +kernel
theorem dX12_remembers_44 : decode cX12_remembers 44 = .ok (.isub, 1) := by decide +kernel
theorem dX12_remembers_45 : decode cX12_remembers 45 = .ok (.putfield 314, 3) := by decide +kernel
theorem dX12_remembers_48 : decode cX12_remembers 48 = .ok (.iconst 0, 1) := by decide +kernel
theorem dX12_remembers_49 : decode cX12_remembers 49 = .ok (.istore_n 1, 1) := by decide +kernel
theorem dX12_remembers_50 : decode cX12_remembers 50 = .ok (.iload_n 1, 1) := by decide +kernel
theorem dX12_remembers_51 : decode cX12_remembers 51 = .ok (.bipush 6, 2) := by decide +kernel
theorem dX12_remembers_53 : decode cX12_remembers 53 = .ok (.if_icmp .ge 29, 3) := by decide +kernel
theorem dX12_remembers_56 : decode cX12_remembers 56 = .ok (.aload_n 0, 1) := by decide +kernel
theorem dX12_remembers_57 : decode cX12_remembers 57 = .ok (.getfield 24, 3) := by decide +kernel
theorem dX12_remembers_60 : decode cX12_remembers 60 = .ok (.bipush 6, 2) := by decide +kernel
theorem dX12_remembers_62 : decode cX12_remembers 62 = .ok (.aload_n 0, 1) := by decide +kernel
theorem dX12_remembers_63 : decode cX12_remembers 63 = .ok (.getfield 314, 3) := by decide +kernel
theorem dX12_remembers_66 : decode cX12_remembers 66 = .ok (.imul, 1) := by decide +kernel
theorem dX12_remembers_67 : decode cX12_remembers 67 = .ok (.iload_n 1, 1) := by decide +kernel
theorem dX12_remembers_68 : decode cX12_remembers 68 = .ok (.iadd, 1) := by decide +kernel
theorem dX12_remembers_69 : decode cX12_remembers 69 = .ok (.aload_n 0, 1) := by decide +kernel
theorem dX12_remembers_70 : decode cX12_remembers 70 = .ok (.getfield 17, 3) := by decide +kernel
theorem dX12_remembers_73 : decode cX12_remembers 73 = .ok (.iload_n 1, 1) := by decide +kernel
theorem dX12_remembers_74 : decode cX12_remembers 74 = .ok (.iaload, 1) := by decide +kernel
theorem dX12_remembers_75 : decode cX12_remembers 75 = .ok (.iastore, 1) := by decide +kernel
theorem dX12_remembers_76 : decode cX12_remembers 76 = .ok (.iinc 1 1, 3) := by decide +kernel
theorem dX12_remembers_79 : decode cX12_remembers 79 = .ok (.goto (-29), 3) := by decide +kernel
theorem dX12_remembers_82 : decode cX12_remembers 82 = .ok (.aload_n 0, 1) := by decide +kernel
theorem dX12_remembers_83 : decode cX12_remembers 83 = .ok (.dup, 1) := by decide +kernel
theorem dX12_remembers_84 : decode cX12_remembers 84 = .ok (.getfield 314, 3) := by decide +kernel
theorem dX12_remembers_87 : decode cX12_remembers 87 = .ok (.iconst 1, 1) := by decide +kernel
theorem dX12_remembers_88 : decode cX12_remembers 88 = .ok (.iadd, 1) := by decide +kernel
theorem dX12_remembers_89 : decode cX12_remembers 89 = .ok (.putfield 314, 3) := by decide +kernel
theorem dX12_remembers_92 : decode cX12_remembers 92 = .ok (.return_, 1) := by decide +kernel
theorem dX12_learn_0 : decode cX12_learn 0 = .ok (.aload_n 0, 1) := by decide +kernel
theorem dX12_learn_1 : decode cX12_learn 1 = .ok (.iconst 0, 1) := by decide +kernel
theorem dX12_learn_2 : decode cX12_learn 2 = .ok (.putfield 66, 3) := by decide +kernel
theorem dX12_learn_5 : decode cX12_learn 5 = .ok (.aload_n 0, 1) := by decide +kernel
theorem dX12_learn_6 : decode cX12_learn 6 = .ok (.iload_n 1, 1) := by decide +kernel
theorem dX12_learn_7 : decode cX12_learn 7 = .ok (.invokevirtual 350, 3) := by decide +kernel
theorem dX12_learn_10 : decode cX12_learn 10 = .ok (.ifCond .eq 11, 3) := by decide +kernel
theorem dX12_learn_13 : decode cX12_learn 13 = .ok (.aload_n 0, 1) := by decide +kernel
theorem dX12_learn_14 : decode cX12_learn 14 = .ok (.iload_n 2, 1) := by decide +kernel
theorem dX12_learn_15 : decode cX12_learn 15 = .ok (.invokevirtual 347, 3) := by decide +kernel
theorem dX12_learn_18 : decode cX12_learn 18 = .ok (.ifCond .ne 9, 3) := by decide +kernel
theorem dX12_learn_21 : decode cX12_learn 21 = .ok (.aload_n 0, 1) := by decide +kernel
theorem dX12_learn_22 : decode cX12_learn 22 = .ok (.iconst 1, 1) := by decide +kernel
theorem dX12_learn_23 : decode cX12_learn 23 = .ok (.invokevirtual 504, 3) := by decide +kernel
theorem dX12_learn_26 : decode cX12_learn 26 = .ok (.ireturn, 1) := by decide +kernel
theorem dX12_learn_27 : decode cX12_learn 27 = .ok (.aload_n 0, 1) := by decide +kernel
theorem dX12_learn_28 : decode cX12_learn 28 = .ok (.getfield 17, 3) := by decide +kernel
theorem dX12_learn_31 : decode cX12_learn 31 = .ok (.iload_n 1, 1) := by decide +kernel
theorem dX12_learn_32 : decode cX12_learn 32 = .ok (.iaload, 1) := by decide +kernel
theorem dX12_learn_33 : decode cX12_learn 33 = .ok (.iload_n 2, 1) := by decide +kernel
theorem dX12_learn_34 : decode cX12_learn 34 = .ok (.invokestatic 273, 3) := by decide +kernel
theorem dX12_learn_37 : decode cX12_learn 37 = .ok (.ifCond .eq 9, 3) := by decide +kernel
theorem dX12_learn_40 : decode cX12_learn 40 = .ok (.aload_n 0, 1) := by decide +kernel
theorem dX12_learn_41 : decode cX12_learn 41 = .ok (.iconst 5, 1) := by decide +kernel
theorem dX12_learn_42 : decode cX12_learn 42 = .ok (.invokevirtual 504, 3) := by decide +kernel
theorem dX12_learn_45 : decode cX12_learn 45 = .ok (.ireturn, 1) := by decide +kernel
theorem dX12_learn_46 : decode cX12_learn 46 = .ok (.aload_n 0, 1) := by decide +kernel
theorem dX12_learn_47 : decode cX12_learn 47 = .ok (.invokevirtual 501, 3) := by decide +kernel
theorem dX12_learn_50 : decode cX12_learn 50 = .ok (.aload_n 0, 1) := by decide +kernel
theorem dX12_learn_51 : decode cX12_learn 51 = .ok (.getfield 17, 3) := by decide +kernel
theorem dX12_learn_54 : decode cX12_learn 54 = .ok (.iload_n 1, 1) := by decide +kernel
theorem dX12_learn_55 : decode cX12_learn 55 = .ok (.dup2, 1) := by decide +kernel
theorem dX12_learn_56 : decode cX12_learn 56 = .ok (.iaload, 1) := by decide +kernel
theorem dX12_learn_57 : decode cX12_learn 57 = .ok (.iconst 1, 1) := by decide +kernel
theorem dX12_learn_58 : decode cX12_learn 58 = .ok (.iload_n 2, 1) := by decide +kernel
theorem dX12_learn_59 : decode cX12_learn 59 = .ok (.ishl, 1) := by decide +kernel
theorem dX12_learn_60 : decode cX12_learn 60 = .ok (.ior, 1) := by decide +kernel
theorem dX12_learn_61 : decode cX12_learn 61 = .ok (.iastore, 1) := by decide +kernel
theorem dX12_learn_62 : decode cX12_learn 62 = .ok (.aload_n 0, 1) := by decide +kernel
theorem dX12_learn_63 : decode cX12_learn 63 = .ok (.invokevirtual 507, 3) := by decide +kernel
theorem dX12_learn_66 : decode cX12_learn 66 = .ok (.ireturn, 1) := by decide +kernel
theorem dX12_denied_0 : decode cX12_denied 0 = .ok (.aload_n 0, 1) := by decide +kernel
theorem dX12_denied_1 : decode cX12_denied 1 = .ok (.iload_n 1, 1) := by decide +kernel
theorem dX12_denied_2 : decode cX12_denied 2 = .ok (.invokevirtual 72, 3) := by decide +kernel
theorem dX12_denied_5 : decode cX12_denied 5 = .ok (.pop, 1) := by decide +kernel
theorem dX12_denied_6 : decode cX12_denied 6 = .ok (.iconst 0, 1) := by decide +kernel
theorem dX12_denied_7 : decode cX12_denied 7 = .ok (.ireturn, 1) := by decide +kernel
theorem dX12_granted_0 : decode cX12_granted 0 = .ok (.aload_n 0, 1) := by decide +kernel
theorem dX12_granted_1 : decode cX12_granted 1 = .ok (.iconst 0, 1) := by decide +kernel
theorem dX12_granted_2 : decode cX12_granted 2 = .ok (.invokevirtual 76, 3) := by decide +kernel
theorem dX12_granted_5 : decode cX12_granted 5 = .ok (.pop, 1) := by decide +kernel
theorem dX12_granted_6 : decode cX12_granted 6 = .ok (.iconst 1, 1) := by decide +kernel
theorem dX12_granted_7 : decode cX12_granted 7 = .ok (.ireturn, 1) := by decide +kernel
def f_M_meant (n : Nat) (x1 : Int32) (t : k_St) : Option (Int32 × k_St) := k_lt (k_sI t 0 0 (0 : Int32)) (fun t_1 => k_lt (f_M_refusesMixed t_1) (fun x2_2 => (if x2_2 ≤ 0 then k_cl (f_M_slipsAll n t_1) (fun r_4 t_3 => (if x1 < 0 then k_lt (f_M_refused (1 : Int32) t_3) (fun q_5 => some (q_5.1, q_5.2)) else (if (t_3.1 0 40) ≤ x1 then k_lt (f_M_refused (1 : Int32) t_3) (fun q_6 => some (q_6.1, q_6.2)) else k_gi x1 8 (k_lt (f_M_good (t_3.1 17 x1.toNatClampNeg) t_3) (fun q_8 => some (q_8.1, q_8.2)))))) else k_lt (f_M_refused x2_2 t_1) (fun q_9 => some (q_9.1, q_9.2)))))
theorem m_M_meant (l : Launch) (G : k_G) (a : Nat → Nat) (rv : Value) (n : Nat) (x1 : Int32) (t : k_St) {r : Int32} {t' : k_St} (hf : f_M_meant n x1 t = some (r, t')) : k_CI l G yX12_meant cX12_meant 3 (some .int) 5 (k_WT G.2.1 a rv t) [.ref (a 0), .int x1] r (k_WT G.2.1 a rv t') := by
  refine k_startI (lv := [(0, .ref (a 0)), (1, .int x1)]) (by decide +kernel) (Nat.le_of_ble_eq_true rfl) rfl ?_
  intro p e s m args below meth c hA hr
  have hA : k_Amb p s m args meth c cX12_meant 3 "TaleSharesModel" G _ := hA
  unfold f_M_meant at hf
  obtain ⟨t_1, et_1, hf⟩ := k_lt_e hf
  obtain ⟨x2_2, ex2_2, hf⟩ := k_lt_e hf
  refine k_aload_n (i := 0) hA dX12_meant_0 rfl 0 rfl ?_
  refine k_iconst hA dX12_meant_1 kc_i_0 ?_
  refine pt_MT_0_0 hA wd_1248 et_1 dX12_meant_2 ?_
  refine k_aload_n (i := 0) hA dX12_meant_5 rfl 0 rfl ?_
  refine k_callVi (As := []) (rest := []) hA (m_M_refusesMixed l G a rv t_1 rfl) cd_X12_refusesMixed wd_1832 (hc_MT_0 G.2.1 a rv t_1) rfl rfl (Nat.le_of_ble_eq_true rfl) rfl rfl (Nat.le_of_ble_eq_true rfl) dX12_meant_6 ?_
  refine k_istore_n (i := 2) (lv' := [(2, .int x2_2), (0, .ref (a 0)), (1, .int x1)]) hA dX12_meant_9 rfl ex2_2 (Nat.le_of_ble_eq_true rfl) rfl ?_
  refine k_iload_n (i := 2) hA dX12_meant_10 rfl 0 rfl ?_
  refine k_if_le (tgt := 20) hA dX12_meant_11 rfl (fun hc => ?_) (fun hc => ?_)
  · have hf := k_ift hc hf
    obtain ⟨r_4, t_3, ht_3, hf⟩ := k_cl_e hf
    refine k_aload_n (i := 0) hA dX12_meant_20 rfl 1 rfl ?_
    refine k_callVi (As := []) (rest := []) hA (m_M_slipsAll l G a rv n t_1 ht_3) cd_X12_slipsAll wd_1836 (hc_MT_0 G.2.1 a rv t_1) rfl rfl (Nat.le_of_ble_eq_true rfl) rfl rfl (Nat.le_of_ble_eq_true rfl) dX12_meant_21 ?_
    refine k_pop hA dX12_meant_24 rfl ?_
    refine k_iload_n (i := 1) hA dX12_meant_25 rfl 2 rfl ?_
    refine k_if_lt (tgt := 50) hA dX12_meant_26 rfl (fun hc => ?_) (fun hc => ?_)
    · have hf := k_ift hc hf
      obtain ⟨⟨rq_5, tq_5⟩, hq_5, hf⟩ := k_lt_e hf
      dsimp only at hf
      obtain ⟨rfl, rfl⟩ := k_r2 hf
      refine k_aload_n (i := 0) hA dX12_meant_50 rfl 1 rfl ?_
      refine k_iconst hA dX12_meant_51 kc_i_1 ?_
      refine k_callVi (As := [.int (1 : Int32)]) (rest := []) hA (m_M_refused l G a rv (1 : Int32) t_3 hq_5.symm) cd_X12_refused wd_1390 (hc_MT_0 G.2.1 a rv t_3) rfl rfl (Nat.le_of_ble_eq_true rfl) rfl rfl (Nat.le_of_ble_eq_true rfl) dX12_meant_52 ?_
      exact k_iret hA hr rfl dX12_meant_55
    have hf := k_iff hc hf
    refine k_iload_n (i := 1) hA dX12_meant_29 rfl 2 rfl ?_
    refine k_aload_n (i := 0) hA dX12_meant_30 rfl 1 rfl ?_
    refine gt_MT_0_40 hA wd_1288 dX12_meant_31 ?_
    refine k_icmp_ge (tgt := 50) hA dX12_meant_34 rfl (fun hc => ?_) (fun hc => ?_)
    · have hf := k_ift hc hf
      obtain ⟨⟨rq_6, tq_6⟩, hq_6, hf⟩ := k_lt_e hf
      dsimp only at hf
      obtain ⟨rfl, rfl⟩ := k_r2 hf
      refine k_aload_n (i := 0) hA dX12_meant_50 rfl 1 rfl ?_
      refine k_iconst hA dX12_meant_51 kc_i_1 ?_
      refine k_callVi (As := [.int (1 : Int32)]) (rest := []) hA (m_M_refused l G a rv (1 : Int32) t_3 hq_6.symm) cd_X12_refused wd_1390 (hc_MT_0 G.2.1 a rv t_3) rfl rfl (Nat.le_of_ble_eq_true rfl) rfl rfl (Nat.le_of_ble_eq_true rfl) dX12_meant_52 ?_
      exact k_iret hA hr rfl dX12_meant_55
    have hf := k_iff hc hf
    obtain ⟨hi_7, hf⟩ := k_gi_e hf
    obtain ⟨⟨rq_8, tq_8⟩, hq_8, hf⟩ := k_lt_e hf
    dsimp only at hf
    obtain ⟨rfl, rfl⟩ := k_r2 hf
    refine k_aload_n (i := 0) hA dX12_meant_37 rfl 1 rfl ?_
    refine k_aload_n (i := 0) hA dX12_meant_38 rfl 1 rfl ?_
    refine gt_MT_0_39 hA wd_1287 dX12_meant_39 ?_
    refine k_iload_n (i := 1) hA dX12_meant_42 rfl 2 rfl ?_
    refine ld_MT_17 hA hi_7 dX12_meant_43 ?_
    refine k_callVi (As := [.int (t_3.1 17 x1.toNatClampNeg)]) (rest := []) hA (m_M_good l G a rv (t_3.1 17 x1.toNatClampNeg) t_3 hq_8.symm) cd_X12_good wd_1601 (hc_MT_0 G.2.1 a rv t_3) rfl rfl (Nat.le_of_ble_eq_true rfl) rfl rfl (Nat.le_of_ble_eq_true rfl) dX12_meant_44 ?_
    refine k_goto (tgt := 55) hA dX12_meant_47 rfl ?_
    exact k_iret hA hr rfl dX12_meant_55
  have hf := k_iff hc hf
  obtain ⟨⟨rq_9, tq_9⟩, hq_9, hf⟩ := k_lt_e hf
  dsimp only at hf
  obtain ⟨rfl, rfl⟩ := k_r2 hf
  refine k_aload_n (i := 0) hA dX12_meant_14 rfl 1 rfl ?_
  refine k_iload_n (i := 2) hA dX12_meant_15 rfl 0 rfl ?_
  refine k_callVi (As := [.int x2_2]) (rest := []) hA (m_M_refused l G a rv x2_2 t_1 hq_9.symm) cd_X12_refused wd_1390 (hc_MT_0 G.2.1 a rv t_1) rfl rfl (Nat.le_of_ble_eq_true rfl) rfl rfl (Nat.le_of_ble_eq_true rfl) dX12_meant_16 ?_
  exact k_iret hA hr rfl dX12_meant_19

def f_M_meanings (n : Nat) (t : k_St) : Option (Int32 × k_St) := k_lt (k_sI t 0 0 (0 : Int32)) (fun t_1 => k_lt (f_M_refusesMixed t_1) (fun x1_2 => (if x1_2 ≤ 0 then k_cl (f_M_slipsAll n t_1) (fun r_4 t_3 => k_lt (f_M_good (t_3.1 0 41) t_3) (fun q_5 => some (q_5.1, q_5.2))) else k_lt (f_M_refused x1_2 t_1) (fun q_6 => some (q_6.1, q_6.2)))))
theorem m_M_meanings (l : Launch) (G : k_G) (a : Nat → Nat) (rv : Value) (n : Nat) (t : k_St) {r : Int32} {t' : k_St} (hf : f_M_meanings n t = some (r, t')) : k_CI l G yX12_meanings cX12_meanings 2 (some .int) 5 (k_WT G.2.1 a rv t) [.ref (a 0)] r (k_WT G.2.1 a rv t') := by
  refine k_startI (lv := [(0, .ref (a 0))]) (by decide +kernel) (Nat.le_of_ble_eq_true rfl) rfl ?_
  intro p e s m args below meth c hA hr
  have hA : k_Amb p s m args meth c cX12_meanings 2 "TaleSharesModel" G _ := hA
  unfold f_M_meanings at hf
  obtain ⟨t_1, et_1, hf⟩ := k_lt_e hf
  obtain ⟨x1_2, ex1_2, hf⟩ := k_lt_e hf
  refine k_aload_n (i := 0) hA dX12_meanings_0 rfl 0 rfl ?_
  refine k_iconst hA dX12_meanings_1 kc_i_0 ?_
  refine pt_MT_0_0 hA wd_1248 et_1 dX12_meanings_2 ?_
  refine k_aload_n (i := 0) hA dX12_meanings_5 rfl 0 rfl ?_
  refine k_callVi (As := []) (rest := []) hA (m_M_refusesMixed l G a rv t_1 rfl) cd_X12_refusesMixed wd_1832 (hc_MT_0 G.2.1 a rv t_1) rfl rfl (Nat.le_of_ble_eq_true rfl) rfl rfl (Nat.le_of_ble_eq_true rfl) dX12_meanings_6 ?_
  refine k_istore_n (i := 1) (lv' := [(1, .int x1_2), (0, .ref (a 0))]) hA dX12_meanings_9 rfl ex1_2 (Nat.le_of_ble_eq_true rfl) rfl ?_
  refine k_iload_n (i := 1) hA dX12_meanings_10 rfl 0 rfl ?_
  refine k_if_le (tgt := 20) hA dX12_meanings_11 rfl (fun hc => ?_) (fun hc => ?_)
  · have hf := k_ift hc hf
    obtain ⟨r_4, t_3, ht_3, hf⟩ := k_cl_e hf
    obtain ⟨⟨rq_5, tq_5⟩, hq_5, hf⟩ := k_lt_e hf
    dsimp only at hf
    obtain ⟨rfl, rfl⟩ := k_r2 hf
    refine k_aload_n (i := 0) hA dX12_meanings_20 rfl 1 rfl ?_
    refine k_callVi (As := []) (rest := []) hA (m_M_slipsAll l G a rv n t_1 ht_3) cd_X12_slipsAll wd_1836 (hc_MT_0 G.2.1 a rv t_1) rfl rfl (Nat.le_of_ble_eq_true rfl) rfl rfl (Nat.le_of_ble_eq_true rfl) dX12_meanings_21 ?_
    refine k_pop hA dX12_meanings_24 rfl ?_
    refine k_aload_n (i := 0) hA dX12_meanings_25 rfl 1 rfl ?_
    refine k_aload_n (i := 0) hA dX12_meanings_26 rfl 1 rfl ?_
    refine gt_MT_0_41 hA wd_1289 dX12_meanings_27 ?_
    refine k_callVi (As := [.int (t_3.1 0 41)]) (rest := []) hA (m_M_good l G a rv (t_3.1 0 41) t_3 hq_5.symm) cd_X12_good wd_1601 (hc_MT_0 G.2.1 a rv t_3) rfl rfl (Nat.le_of_ble_eq_true rfl) rfl rfl (Nat.le_of_ble_eq_true rfl) dX12_meanings_30 ?_
    exact k_iret hA hr rfl dX12_meanings_33
  have hf := k_iff hc hf
  obtain ⟨⟨rq_6, tq_6⟩, hq_6, hf⟩ := k_lt_e hf
  dsimp only at hf
  obtain ⟨rfl, rfl⟩ := k_r2 hf
  refine k_aload_n (i := 0) hA dX12_meanings_14 rfl 1 rfl ?_
  refine k_iload_n (i := 1) hA dX12_meanings_15 rfl 0 rfl ?_
  refine k_callVi (As := [.int x1_2]) (rest := []) hA (m_M_refused l G a rv x1_2 t_1 hq_6.symm) cd_X12_refused wd_1390 (hc_MT_0 G.2.1 a rv t_1) rfl rfl (Nat.le_of_ble_eq_true rfl) rfl rfl (Nat.le_of_ble_eq_true rfl) dX12_meanings_16 ?_
  exact k_iret hA hr rfl dX12_meanings_19

def f_M_refusesWorth (t : k_St) (x1 : Int32) : Int32 := (if (k_b (f_M_in x1 (0 : Int32) (20 : Int32))) = 0 then (2 : Int32) else (0 : Int32))
theorem m_M_refusesWorth (l : Launch) (G : k_G) (a : Nat → Nat) (rv : Value) (t : k_St) (x1 : Int32) {r : Int32} (hf : f_M_refusesWorth t x1 = r) : k_CI l G yX12_refusesWorth cX12_refusesWorth 2 (some .int) 2 (k_WT G.2.1 a rv t) [.ref (a 0), .int x1] r (k_WT G.2.1 a rv t) := by
  refine k_startI (lv := [(0, .ref (a 0)), (1, .int x1)]) (by decide +kernel) (Nat.le_of_ble_eq_true rfl) rfl ?_
  intro p e s m args below meth c hA hr
  have hA : k_Amb p s m args meth c cX12_refusesWorth 2 "TaleSharesModel" G _ := hA
  unfold f_M_refusesWorth at hf
  refine k_aload_n (i := 0) hA dX12_refusesWorth_0 rfl 0 rfl ?_
  refine gt_MT_0_3 hA wd_1251 dX12_refusesWorth_1 ?_
  refine k_ifnonnull (tgt := 11) hA dX12_refusesWorth_4 rfl ?_
  refine k_iload_n (i := 1) hA dX12_refusesWorth_11 rfl 1 rfl ?_
  refine k_iconst hA dX12_refusesWorth_12 kc_i_0 ?_
  refine k_bipush hA dX12_refusesWorth_13 kc_b_20 ?_
  refine k_callSi (As := [.int x1, .int (0 : Int32), .int (20 : Int32)]) (rest := []) hA (m_M_in l G (k_WT G.2.1 a rv t) x1 (0 : Int32) (20 : Int32) rfl) cd_X12_in wd_1525 (Nat.le_of_ble_eq_true rfl) rfl rfl (Nat.le_of_ble_eq_true rfl) dX12_refusesWorth_15 ?_
  refine k_if_eq (tgt := 25) hA dX12_refusesWorth_18 rfl (fun hc => ?_) (fun hc => ?_)
  · have hf := k_ift hc hf
    subst hf
    refine k_iconst hA dX12_refusesWorth_25 kc_i_2 ?_
    exact k_iret hA hr rfl dX12_refusesWorth_26
  have hf := k_iff hc hf
  subst hf
  refine k_iconst hA dX12_refusesWorth_21 kc_i_0 ?_
  refine k_goto (tgt := 26) hA dX12_refusesWorth_22 rfl ?_
  exact k_iret hA hr rfl dX12_refusesWorth_26

def f_M_gets (x0 : Int32) (x1 : Int32) (x2 : Int32) : Int32 := (if x1 ≤ x2 then (if x1 = x2 then (x0 - x1) else ((0 : Int32) - x1)) else ((x0 + (2 : Int32)) - x1))
theorem m_M_gets (l : Launch) (G : k_G) (w : va_W) (x0 : Int32) (x1 : Int32) (x2 : Int32) {r : Int32} (hf : f_M_gets x0 x1 x2 = r) : k_CI l G yX12_gets cX12_gets 3 (some .int) 1 w [.int x0, .int x1, .int x2] r w := by
  refine k_startI (lv := [(0, .int x0), (1, .int x1), (2, .int x2)]) (by decide +kernel) (Nat.le_of_ble_eq_true rfl) rfl ?_
  intro p e s m args below meth c hA hr
  have hA : k_Amb p s m args meth c cX12_gets 3 "TaleSharesModel" G _ := hA
  unfold f_M_gets at hf
  refine k_iload_n (i := 1) hA dX12_gets_0 rfl 1 rfl ?_
  refine k_iload_n (i := 2) hA dX12_gets_1 rfl 2 rfl ?_
  refine k_icmp_le (tgt := 11) hA dX12_gets_2 rfl (fun hc => ?_) (fun hc => ?_)
  · have hf := k_ift hc hf
    refine k_iload_n (i := 1) hA dX12_gets_11 rfl 1 rfl ?_
    refine k_iload_n (i := 2) hA dX12_gets_12 rfl 2 rfl ?_
    refine k_icmp_ne (tgt := 20) hA dX12_gets_13 rfl (fun hc => ?_) (fun hc => ?_)
    · have hf := k_iff hc hf
      subst hf
      refine k_iconst hA dX12_gets_20 kc_i_0 ?_
      refine k_iload_n (i := 1) hA dX12_gets_21 rfl 1 rfl ?_
      refine k_isub hA dX12_gets_22 ?_
      exact k_iret hA hr rfl dX12_gets_23
    have hf := k_ift hc hf
    subst hf
    refine k_iload_n (i := 0) hA dX12_gets_16 rfl 0 rfl ?_
    refine k_goto (tgt := 21) hA dX12_gets_17 rfl ?_
    refine k_iload_n (i := 1) hA dX12_gets_21 rfl 1 rfl ?_
    refine k_isub hA dX12_gets_22 ?_
    exact k_iret hA hr rfl dX12_gets_23
  have hf := k_iff hc hf
  subst hf
  refine k_iload_n (i := 0) hA dX12_gets_5 rfl 0 rfl ?_
  refine k_iconst hA dX12_gets_6 kc_i_2 ?_
  refine k_iadd hA dX12_gets_7 ?_
  refine k_goto (tgt := 21) hA dX12_gets_8 rfl ?_
  refine k_iload_n (i := 1) hA dX12_gets_21 rfl 1 rfl ?_
  refine k_isub hA dX12_gets_22 ?_
  exact k_iret hA hr rfl dX12_gets_23

def f_M_lost (x1 : Int32) (t : k_St) : Int32 × k_St := k_lt (f_M_refused x1 t) (fun q_1 => ((-100 : Int32), q_1.2))
theorem m_M_lost (l : Launch) (G : k_G) (a : Nat → Nat) (rv : Value) (x1 : Int32) (t : k_St) {r : Int32} {t' : k_St} (hf : f_M_lost x1 t = (r, t')) : k_CI l G yX12_lost cX12_lost 2 (some .int) 2 (k_WT G.2.1 a rv t) [.ref (a 0), .int x1] r (k_WT G.2.1 a rv t') := by
  refine k_startI (lv := [(0, .ref (a 0)), (1, .int x1)]) (by decide +kernel) (Nat.le_of_ble_eq_true rfl) rfl ?_
  intro p e s m args below meth c hA hr
  have hA : k_Amb p s m args meth c cX12_lost 2 "TaleSharesModel" G _ := hA
  unfold f_M_lost at hf
  obtain ⟨⟨rq_1, tq_1⟩, hq_1, hf⟩ := k_lt_e hf
  dsimp only at hf
  obtain ⟨rfl, rfl⟩ := k_p2 hf
  refine k_aload_n (i := 0) hA dX12_lost_0 rfl 0 rfl ?_
  refine k_iload_n (i := 1) hA dX12_lost_1 rfl 1 rfl ?_
  refine k_callVi (As := [.int x1]) (rest := []) hA (m_M_refused l G a rv x1 t hq_1.symm) cd_X12_refused wd_1390 (hc_MT_0 G.2.1 a rv t) rfl rfl (Nat.le_of_ble_eq_true rfl) rfl rfl (Nat.le_of_ble_eq_true rfl) dX12_lost_2 ?_
  refine k_pop hA dX12_lost_5 rfl ?_
  refine k_bipush hA dX12_lost_6 kc_b_m100 ?_
  exact k_iret hA hr rfl dX12_lost_8

def f_M_father_40 (x1 : Int32) (x2 : Int32) (x3 : Int32) (x4 : Int32) (x5 : Int32) (t : k_St) : Int32 × k_St := (if x5 ≤ 0 then (if x4 = 0 then k_lt (f_M_good (f_M_gets x1 x2 x3) t) (fun q_1 => (q_1.1, q_1.2)) else k_lt (f_M_good (f_M_gets x1 x3 x2) t) (fun q_2 => (q_2.1, q_2.2))) else k_lt (f_M_lost x5 t) (fun q_3 => (q_3.1, q_3.2)))
def f_M_father_37 (x1 : Int32) (x2 : Int32) (x3 : Int32) (x4 : Int32) (t : k_St) : Int32 × k_St := f_M_father_40 x1 x2 x3 x4 (2 : Int32) t
def f_M_father (x1 : Int32) (x2 : Int32) (x3 : Int32) (x4 : Int32) (t : k_St) : Int32 × k_St := k_lt (k_sI t 0 0 (0 : Int32)) (fun t_1 => k_lt (f_M_refusesWorth t_1 x1) (fun x5_2 => (if x5_2 = 0 then (if (k_b (f_M_in x2 (0 : Int32) (6 : Int32))) = 0 then f_M_father_37 x1 x2 x3 x4 t_1 else (if (k_b (f_M_in x3 (0 : Int32) (6 : Int32))) = 0 then f_M_father_37 x1 x2 x3 x4 t_1 else f_M_father_40 x1 x2 x3 x4 x5_2 t_1)) else f_M_father_40 x1 x2 x3 x4 x5_2 t_1)))
theorem m_M_father_40 {p : Program} (l : Launch) {e : Env} {s : State} {m : MethodId} {args : Array Value} {below : List Frame} {meth : Method} {c : Code} (G : k_G) (a : Nat → Nat) (rv : Value) {w0 : va_W} {r : Int32} {t' : k_St} (hA : k_Amb p s m args meth c cX12_father 6 "TaleSharesModel" G (va_A w0 s.heap.size)) (hr : meth.sig.returnType = (some .int)) : ∀ (x1 : Int32) (x2 : Int32) (x3 : Int32) (x4 : Int32) (x5 : Int32) (t : k_St), f_M_father_40 x1 x2 x3 x4 x5 t = (r, t') → k_Go p l e (k_rm 3) s m args below meth c (k_QI G w0 r (k_WT G.2.1 a rv t') args s below) 6 G (va_A w0 s.heap.size) (k_WT G.2.1 a rv t) 40 [(0, .ref (a 0)), (1, .int x1), (2, .int x2), (3, .int x3), (4, .int x4), (5, .int x5)] [] := by
  intro x1 x2 x3 x4 x5 t hf
  unfold f_M_father_40 at hf
  refine k_iload hA dX12_father_40 5 rfl ?_
  refine k_if_le (tgt := 54) hA dX12_father_42 rfl (fun hc => ?_) (fun hc => ?_)
  · have hf := k_ift hc hf
    refine k_aload_n (i := 0) hA dX12_father_54 rfl 0 rfl ?_
    refine k_iload hA dX12_father_55 4 rfl ?_
    refine k_if_eq (tgt := 69) hA dX12_father_57 rfl (fun hc => ?_) (fun hc => ?_)
    · have hf := k_ift hc hf
      obtain ⟨⟨rq_1, tq_1⟩, hq_1, hf⟩ := k_lt_e hf
      dsimp only at hf
      obtain ⟨rfl, rfl⟩ := k_p2 hf
      refine k_iload_n (i := 1) hA dX12_father_69 rfl 1 rfl ?_
      refine k_iload_n (i := 2) hA dX12_father_70 rfl 2 rfl ?_
      refine k_iload_n (i := 3) hA dX12_father_71 rfl 3 rfl ?_
      refine k_callSi (As := [.int x1, .int x2, .int x3]) (rest := [.ref (a 0)]) hA (m_M_gets l G (k_WT G.2.1 a rv t) x1 x2 x3 rfl) cd_X12_gets wd_1870 (Nat.le_of_ble_eq_true rfl) rfl rfl (Nat.le_of_ble_eq_true rfl) dX12_father_72 ?_
      refine k_callVi (As := [.int (f_M_gets x1 x2 x3)]) (rest := []) hA (m_M_good l G a rv (f_M_gets x1 x2 x3) t hq_1.symm) cd_X12_good wd_1601 (hc_MT_0 G.2.1 a rv t) rfl rfl (Nat.le_of_ble_eq_true rfl) rfl rfl (Nat.le_of_ble_eq_true rfl) dX12_father_75 ?_
      exact k_iret hA hr rfl dX12_father_78
    have hf := k_iff hc hf
    obtain ⟨⟨rq_2, tq_2⟩, hq_2, hf⟩ := k_lt_e hf
    dsimp only at hf
    obtain ⟨rfl, rfl⟩ := k_p2 hf
    refine k_iload_n (i := 1) hA dX12_father_60 rfl 1 rfl ?_
    refine k_iload_n (i := 3) hA dX12_father_61 rfl 3 rfl ?_
    refine k_iload_n (i := 2) hA dX12_father_62 rfl 2 rfl ?_
    refine k_callSi (As := [.int x1, .int x3, .int x2]) (rest := [.ref (a 0)]) hA (m_M_gets l G (k_WT G.2.1 a rv t) x1 x3 x2 rfl) cd_X12_gets wd_1870 (Nat.le_of_ble_eq_true rfl) rfl rfl (Nat.le_of_ble_eq_true rfl) dX12_father_63 ?_
    refine k_goto (tgt := 75) hA dX12_father_66 rfl ?_
    refine k_callVi (As := [.int (f_M_gets x1 x3 x2)]) (rest := []) hA (m_M_good l G a rv (f_M_gets x1 x3 x2) t hq_2.symm) cd_X12_good wd_1601 (hc_MT_0 G.2.1 a rv t) rfl rfl (Nat.le_of_ble_eq_true rfl) rfl rfl (Nat.le_of_ble_eq_true rfl) dX12_father_75 ?_
    exact k_iret hA hr rfl dX12_father_78
  have hf := k_iff hc hf
  obtain ⟨⟨rq_3, tq_3⟩, hq_3, hf⟩ := k_lt_e hf
  dsimp only at hf
  obtain ⟨rfl, rfl⟩ := k_p2 hf
  refine k_aload_n (i := 0) hA dX12_father_45 rfl 0 rfl ?_
  refine k_iload hA dX12_father_46 5 rfl ?_
  refine k_callVi (As := [.int x5]) (rest := []) hA (m_M_lost l G a rv x5 t hq_3.symm) cd_X12_lost wd_1866 (hc_MT_0 G.2.1 a rv t) rfl rfl (Nat.le_of_ble_eq_true rfl) rfl rfl (Nat.le_of_ble_eq_true rfl) dX12_father_48 ?_
  refine k_goto (tgt := 78) hA dX12_father_51 rfl ?_
  exact k_iret hA hr rfl dX12_father_78

theorem m_M_father_37 {p : Program} (l : Launch) {e : Env} {s : State} {m : MethodId} {args : Array Value} {below : List Frame} {meth : Method} {c : Code} (G : k_G) (a : Nat → Nat) (rv : Value) {w0 : va_W} {r : Int32} {t' : k_St} (hA : k_Amb p s m args meth c cX12_father 6 "TaleSharesModel" G (va_A w0 s.heap.size)) (hr : meth.sig.returnType = (some .int)) : ∀ (x1 : Int32) (x2 : Int32) (x3 : Int32) (x4 : Int32) (t : k_St), f_M_father_37 x1 x2 x3 x4 t = (r, t') → k_Go p l e (k_rm 3) s m args below meth c (k_QI G w0 r (k_WT G.2.1 a rv t') args s below) 6 G (va_A w0 s.heap.size) (k_WT G.2.1 a rv t) 37 [(0, .ref (a 0)), (1, .int x1), (2, .int x2), (3, .int x3), (4, .int x4)] [] := by
  intro x1 x2 x3 x4 t hf
  unfold f_M_father_37 at hf
  refine k_iconst hA dX12_father_37 kc_i_2 ?_
  refine k_istore (lv' := [(5, .int (2 : Int32)), (0, .ref (a 0)), (1, .int x1), (2, .int x2), (3, .int x3), (4, .int x4)]) hA dX12_father_38 rfl (Nat.le_of_ble_eq_true rfl) rfl ?_
  refine k_pick (lv' := [(0, .ref (a 0)), (1, .int x1), (2, .int x2), (3, .int x3), (4, .int x4), (5, .int (2 : Int32))]) [1, 2, 3, 4, 5, 0] rfl ?_
  exact m_M_father_40 l G a rv hA hr x1 x2 x3 x4 (2 : Int32) t hf

theorem m_M_father (l : Launch) (G : k_G) (a : Nat → Nat) (rv : Value) (x1 : Int32) (x2 : Int32) (x3 : Int32) (x4 : Int32) (t : k_St) {r : Int32} {t' : k_St} (hf : f_M_father x1 x2 x3 x4 t = (r, t')) : k_CI l G yX12_father cX12_father 6 (some .int) 3 (k_WT G.2.1 a rv t) [.ref (a 0), .int x1, .int x2, .int x3, .int x4] r (k_WT G.2.1 a rv t') := by
  refine k_startI (lv := [(0, .ref (a 0)), (1, .int x1), (2, .int x2), (3, .int x3), (4, .int x4)]) (by decide +kernel) (Nat.le_of_ble_eq_true rfl) rfl ?_
  intro p e s m args below meth c hA hr
  have hA : k_Amb p s m args meth c cX12_father 6 "TaleSharesModel" G _ := hA
  unfold f_M_father at hf
  obtain ⟨t_1, et_1, hf⟩ := k_lt_e hf
  obtain ⟨x5_2, ex5_2, hf⟩ := k_lt_e hf
  refine k_aload_n (i := 0) hA dX12_father_0 rfl 0 rfl ?_
  refine k_iconst hA dX12_father_1 kc_i_0 ?_
  refine pt_MT_0_0 hA wd_1248 et_1 dX12_father_2 ?_
  refine k_aload_n (i := 0) hA dX12_father_5 rfl 0 rfl ?_
  refine k_iload_n (i := 1) hA dX12_father_6 rfl 1 rfl ?_
  refine k_callVi (As := [.int x1]) (rest := []) hA (m_M_refusesWorth l G a rv t_1 x1 rfl) cd_X12_refusesWorth wd_1862 (hc_MT_0 G.2.1 a rv t_1) rfl rfl (Nat.le_of_ble_eq_true rfl) rfl rfl (Nat.le_of_ble_eq_true rfl) dX12_father_7 ?_
  refine k_istore (lv' := [(5, .int x5_2), (0, .ref (a 0)), (1, .int x1), (2, .int x2), (3, .int x3), (4, .int x4)]) hA dX12_father_10 ex5_2 (Nat.le_of_ble_eq_true rfl) rfl ?_
  refine k_iload hA dX12_father_12 0 rfl ?_
  refine k_if_ne (tgt := 40) hA dX12_father_14 rfl (fun hc => ?_) (fun hc => ?_)
  · have hf := k_iff hc hf
    refine k_pick (lv' := [(0, .ref (a 0)), (1, .int x1), (2, .int x2), (3, .int x3), (4, .int x4), (5, .int x5_2)]) [1, 2, 3, 4, 5, 0] rfl ?_
    exact m_M_father_40 l G a rv hA hr x1 x2 x3 x4 x5_2 t_1 hf
  have hf := k_ift hc hf
  refine k_iload_n (i := 2) hA dX12_father_17 rfl 3 rfl ?_
  refine k_iconst hA dX12_father_18 kc_i_0 ?_
  refine k_bipush hA dX12_father_19 kc_b_6 ?_
  refine k_callSi (As := [.int x2, .int (0 : Int32), .int (6 : Int32)]) (rest := []) hA (m_M_in l G (k_WT G.2.1 a rv t_1) x2 (0 : Int32) (6 : Int32) rfl) cd_X12_in wd_1525 (Nat.le_of_ble_eq_true rfl) rfl rfl (Nat.le_of_ble_eq_true rfl) dX12_father_21 ?_
  refine k_if_eq (tgt := 37) hA dX12_father_24 rfl (fun hc => ?_) (fun hc => ?_)
  · have hf := k_ift hc hf
    refine k_pick (lv' := [(0, .ref (a 0)), (1, .int x1), (2, .int x2), (3, .int x3), (4, .int x4)]) [1, 2, 3, 4, 5] rfl ?_
    exact m_M_father_37 l G a rv hA hr x1 x2 x3 x4 t_1 hf
  have hf := k_iff hc hf
  refine k_iload_n (i := 3) hA dX12_father_27 rfl 4 rfl ?_
  refine k_iconst hA dX12_father_28 kc_i_0 ?_
  refine k_bipush hA dX12_father_29 kc_b_6 ?_
  refine k_callSi (As := [.int x3, .int (0 : Int32), .int (6 : Int32)]) (rest := []) hA (m_M_in l G (k_WT G.2.1 a rv t_1) x3 (0 : Int32) (6 : Int32) rfl) cd_X12_in wd_1525 (Nat.le_of_ble_eq_true rfl) rfl rfl (Nat.le_of_ble_eq_true rfl) dX12_father_31 ?_
  refine k_if_ne (tgt := 40) hA dX12_father_34 rfl (fun hc => ?_) (fun hc => ?_)
  · have hf := k_iff hc hf
    refine k_pick (lv' := [(0, .ref (a 0)), (1, .int x1), (2, .int x2), (3, .int x3), (4, .int x4), (5, .int x5_2)]) [1, 2, 3, 4, 5, 0] rfl ?_
    exact m_M_father_40 l G a rv hA hr x1 x2 x3 x4 x5_2 t_1 hf
  have hf := k_ift hc hf
  refine k_pick (lv' := [(0, .ref (a 0)), (1, .int x1), (2, .int x2), (3, .int x3), (4, .int x4)]) [1, 2, 3, 4, 5] rfl ?_
  exact m_M_father_37 l G a rv hA hr x1 x2 x3 x4 t_1 hf

def f_M_isRest_2 (n : Nat) : Nat → Int32 → Int32 → Int32 → Int32 → Option Bool
  | 0, _, _, _, _ => none
  | k + 1, x0, x1, x2, x3 => (if (7 : Int32) ≤ x3 then some true else (if (f_M_gets x0 x1 x2) < (f_M_gets x0 x3 x2) then some false else (if (f_M_gets x0 x3 x1) ≤ (f_M_gets x0 x2 x1) then k_lt (x3 + (1 : Int32)) (fun x3_1 => f_M_isRest_2 n k x0 x1 x2 x3_1) else some false)))
def f_M_isRest (n : Nat) (x0 : Int32) (x1 : Int32) (x2 : Int32) : Option Bool := f_M_isRest_2 n n x0 x1 x2 (0 : Int32)
theorem m_M_isRest_2 {p : Program} (l : Launch) {e : Env} {s : State} {m : MethodId} {args : Array Value} {below : List Frame} {meth : Method} {c : Code} (G : k_G) (w : va_W) (n : Nat) {w0 : va_W} {r : Bool} (hA : k_Amb p s m args meth c cX12_isRest 4 "TaleSharesModel" G (va_A w0 s.heap.size)) (hr : meth.sig.returnType = (some .boolean)) : ∀ (k : Nat) (x0 : Int32) (x1 : Int32) (x2 : Int32) (x3 : Int32), f_M_isRest_2 n k x0 x1 x2 x3 = some r → k_Go p l e (k_rm 2) s m args below meth c (k_QI G w0 (k_b r) w args s below) 4 G (va_A w0 s.heap.size) w 2 [(0, .int x0), (1, .int x1), (2, .int x2), (3, .int x3)] [] := by
  intro k
  induction k with
  | zero => intro x0 x1 x2 x3 hf; cases hf
  | succ k ih =>
  intro x0 x1 x2 x3 hf
  rw [f_M_isRest_2] at hf
  refine k_iload_n (i := 3) hA dX12_isRest_2 rfl 3 rfl ?_
  refine k_bipush hA dX12_isRest_3 kc_b_7 ?_
  refine k_icmp_ge (tgt := 46) hA dX12_isRest_5 rfl (fun hc => ?_) (fun hc => ?_)
  · have hf := k_ift hc hf
    obtain rfl := k_r1 hf
    refine k_iconst hA dX12_isRest_46 kc_i_1 ?_
    exact k_iret hA hr (k_narB (k_b01 _)) dX12_isRest_47
  have hf := k_iff hc hf
  refine k_iload_n (i := 0) hA dX12_isRest_8 rfl 0 rfl ?_
  refine k_iload_n (i := 3) hA dX12_isRest_9 rfl 3 rfl ?_
  refine k_iload_n (i := 2) hA dX12_isRest_10 rfl 2 rfl ?_
  refine k_callSi (As := [.int x0, .int x3, .int x2]) (rest := []) hA (m_M_gets l G w x0 x3 x2 rfl) cd_X12_gets wd_1870 (Nat.le_of_ble_eq_true rfl) rfl rfl (Nat.le_of_ble_eq_true rfl) dX12_isRest_11 ?_
  refine k_iload_n (i := 0) hA dX12_isRest_14 rfl 0 rfl ?_
  refine k_iload_n (i := 1) hA dX12_isRest_15 rfl 1 rfl ?_
  refine k_iload_n (i := 2) hA dX12_isRest_16 rfl 2 rfl ?_
  refine k_callSi (As := [.int x0, .int x1, .int x2]) (rest := [.int (f_M_gets x0 x3 x2)]) hA (m_M_gets l G w x0 x1 x2 rfl) cd_X12_gets wd_1870 (Nat.le_of_ble_eq_true rfl) rfl rfl (Nat.le_of_ble_eq_true rfl) dX12_isRest_17 ?_
  refine k_icmp_gt (tgt := 38) hA dX12_isRest_20 rfl (fun hc => ?_) (fun hc => ?_)
  · have hf := k_ift hc hf
    obtain rfl := k_r1 hf
    refine k_iconst hA dX12_isRest_38 kc_i_0 ?_
    exact k_iret hA hr (k_narB (k_b01 _)) dX12_isRest_39
  have hf := k_iff hc hf
  refine k_iload_n (i := 0) hA dX12_isRest_23 rfl 0 rfl ?_
  refine k_iload_n (i := 3) hA dX12_isRest_24 rfl 3 rfl ?_
  refine k_iload_n (i := 1) hA dX12_isRest_25 rfl 1 rfl ?_
  refine k_callSi (As := [.int x0, .int x3, .int x1]) (rest := []) hA (m_M_gets l G w x0 x3 x1 rfl) cd_X12_gets wd_1870 (Nat.le_of_ble_eq_true rfl) rfl rfl (Nat.le_of_ble_eq_true rfl) dX12_isRest_26 ?_
  refine k_iload_n (i := 0) hA dX12_isRest_29 rfl 0 rfl ?_
  refine k_iload_n (i := 2) hA dX12_isRest_30 rfl 2 rfl ?_
  refine k_iload_n (i := 1) hA dX12_isRest_31 rfl 1 rfl ?_
  refine k_callSi (As := [.int x0, .int x2, .int x1]) (rest := [.int (f_M_gets x0 x3 x1)]) hA (m_M_gets l G w x0 x2 x1 rfl) cd_X12_gets wd_1870 (Nat.le_of_ble_eq_true rfl) rfl rfl (Nat.le_of_ble_eq_true rfl) dX12_isRest_32 ?_
  refine k_icmp_le (tgt := 40) hA dX12_isRest_35 rfl (fun hc => ?_) (fun hc => ?_)
  · have hf := k_ift hc hf
    obtain ⟨x3_1, ex3_1, hf⟩ := k_lt_e hf
    refine k_iinc (j := 3) (v := x3_1) (lv' := [(3, .int x3_1), (0, .int x0), (1, .int x1), (2, .int x2)]) hA dX12_isRest_40 rfl (k_inc ex3_1 kc_i_1) (Nat.le_of_ble_eq_true rfl) rfl ?_
    refine k_goto (tgt := 2) hA dX12_isRest_43 rfl ?_
    refine k_pick (lv' := [(0, .int x0), (1, .int x1), (2, .int x2), (3, .int x3_1)]) [1, 2, 3, 0] rfl ?_
    exact ih x0 x1 x2 x3_1 hf
  have hf := k_iff hc hf
  obtain rfl := k_r1 hf
  refine k_iconst hA dX12_isRest_38 kc_i_0 ?_
  exact k_iret hA hr (k_narB (k_b01 _)) dX12_isRest_39

theorem m_M_isRest (l : Launch) (G : k_G) (w : va_W) (n : Nat) (x0 : Int32) (x1 : Int32) (x2 : Int32) {r : Bool} (hf : f_M_isRest n x0 x1 x2 = some r) : k_CI l G yX12_isRest cX12_isRest 4 (some .boolean) 2 w [.int x0, .int x1, .int x2] (k_b r) w := by
  refine k_startI (lv := [(0, .int x0), (1, .int x1), (2, .int x2)]) (by decide +kernel) (Nat.le_of_ble_eq_true rfl) rfl ?_
  intro p e s m args below meth c hA hr
  have hA : k_Amb p s m args meth c cX12_isRest 4 "TaleSharesModel" G _ := hA
  unfold f_M_isRest at hf
  refine k_iconst hA dX12_isRest_0 kc_i_0 ?_
  refine k_istore_n (i := 3) (lv' := [(3, .int (0 : Int32)), (0, .int x0), (1, .int x1), (2, .int x2)]) hA dX12_isRest_1 rfl rfl (Nat.le_of_ble_eq_true rfl) rfl ?_
  refine k_pick (lv' := [(0, .int x0), (1, .int x1), (2, .int x2), (3, .int (0 : Int32))]) [1, 2, 3, 0] rfl ?_
  exact m_M_isRest_2 l G w n hA hr n x0 x1 x2 (0 : Int32) hf

def f_M_rests_26 (n : Nat) : Nat → Int32 → Int32 → Int32 → k_St → Option (Int32 × k_St)
  | 0, _, _, _, _ => none
  | k + 1, x1, x3, x4, t => (if (49 : Int32) ≤ x4 then k_lt (f_M_good x3 t) (fun q_1 => some (q_1.1, q_1.2)) else k_cp (f_M_isRest n x1 (x4 / (7 : Int32)) (x4 - x4 / (7 : Int32) * (7 : Int32))) (fun r_2 => (if (k_b r_2) = 0 then k_lt (x3 + (0 : Int32)) (fun x3_3 => k_lt (x4 + (1 : Int32)) (fun x4_4 => f_M_rests_26 n k x1 x3_3 x4_4 t)) else k_lt (x3 + (1 : Int32)) (fun x3_5 => k_lt (x4 + (1 : Int32)) (fun x4_6 => f_M_rests_26 n k x1 x3_5 x4_6 t)))))
def f_M_rests (n : Nat) (x1 : Int32) (t : k_St) : Option (Int32 × k_St) := k_lt (k_sI t 0 0 (0 : Int32)) (fun t_1 => k_lt (f_M_refusesWorth t_1 x1) (fun x2_2 => (if x2_2 ≤ 0 then f_M_rests_26 n n x1 (0 : Int32) (0 : Int32) t_1 else k_lt (f_M_refused x2_2 t_1) (fun q_3 => some (q_3.1, q_3.2)))))
theorem m_M_rests_26 {p : Program} (l : Launch) {e : Env} {s : State} {m : MethodId} {args : Array Value} {below : List Frame} {meth : Method} {c : Code} (G : k_G) (a : Nat → Nat) (rv : Value) (n : Nat) {w0 : va_W} {r : Int32} {t' : k_St} (hA : k_Amb p s m args meth c cX12_rests 5 "TaleSharesModel" G (va_A w0 s.heap.size)) (hr : meth.sig.returnType = (some .int)) : ∀ (k : Nat) (x1 : Int32) (x3 : Int32) (x4 : Int32) (t : k_St), f_M_rests_26 n k x1 x3 x4 t = some (r, t') → k_Go p l e (k_rm 3) s m args below meth c (k_QI G w0 r (k_WT G.2.1 a rv t') args s below) 5 G (va_A w0 s.heap.size) (k_WT G.2.1 a rv t) 26 [(0, .ref (a 0)), (1, .int x1), (3, .int x3), (4, .int x4)] [] := by
  intro k
  induction k with
  | zero => intro x1 x3 x4 t hf; cases hf
  | succ k ih =>
  intro x1 x3 x4 t hf
  rw [f_M_rests_26] at hf
  refine k_iload hA dX12_rests_26 3 rfl ?_
  refine k_bipush hA dX12_rests_28 kc_b_49 ?_
  refine k_icmp_ge (tgt := 64) hA dX12_rests_30 rfl (fun hc => ?_) (fun hc => ?_)
  · have hf := k_ift hc hf
    obtain ⟨⟨rq_1, tq_1⟩, hq_1, hf⟩ := k_lt_e hf
    dsimp only at hf
    obtain ⟨rfl, rfl⟩ := k_r2 hf
    refine k_aload_n (i := 0) hA dX12_rests_64 rfl 0 rfl ?_
    refine k_iload_n (i := 3) hA dX12_rests_65 rfl 2 rfl ?_
    refine k_callVi (As := [.int x3]) (rest := []) hA (m_M_good l G a rv x3 t hq_1.symm) cd_X12_good wd_1601 (hc_MT_0 G.2.1 a rv t) rfl rfl (Nat.le_of_ble_eq_true rfl) rfl rfl (Nat.le_of_ble_eq_true rfl) dX12_rests_66 ?_
    exact k_iret hA hr rfl dX12_rests_69
  have hf := k_iff hc hf
  obtain ⟨r_2, hr_2, hf⟩ := k_cp_e hf
  refine k_iload_n (i := 3) hA dX12_rests_33 rfl 2 rfl ?_
  refine k_iload_n (i := 1) hA dX12_rests_34 rfl 1 rfl ?_
  refine k_iload hA dX12_rests_35 3 rfl ?_
  refine k_bipush hA dX12_rests_37 kc_b_7 ?_
  refine k_idiv hA dX12_rests_39 (by decide) ?_
  refine k_iload hA dX12_rests_40 3 rfl ?_
  refine k_bipush hA dX12_rests_42 kc_b_7 ?_
  refine k_irem hA dX12_rests_44 (by decide) ?_
  refine k_callSi (As := [.int x1, .int (x4 / (7 : Int32)), .int (x4 - x4 / (7 : Int32) * (7 : Int32))]) (rest := [.int x3]) hA (m_M_isRest l G (k_WT G.2.1 a rv t) n x1 (x4 / (7 : Int32)) (x4 - x4 / (7 : Int32) * (7 : Int32)) hr_2) cd_X12_isRest wd_1877 (Nat.le_of_ble_eq_true rfl) rfl rfl (Nat.le_of_ble_eq_true rfl) dX12_rests_45 ?_
  refine k_if_eq (tgt := 55) hA dX12_rests_48 rfl (fun hc => ?_) (fun hc => ?_)
  · have hf := k_ift hc hf
    obtain ⟨x3_3, ex3_3, hf⟩ := k_lt_e hf
    obtain ⟨x4_4, ex4_4, hf⟩ := k_lt_e hf
    refine k_iconst hA dX12_rests_55 kc_i_0 ?_
    refine k_iadd hA dX12_rests_56 ?_
    refine k_istore_n (i := 3) (lv' := [(3, .int x3_3), (0, .ref (a 0)), (1, .int x1), (4, .int x4)]) hA dX12_rests_57 rfl ex3_3 (Nat.le_of_ble_eq_true rfl) rfl ?_
    refine k_iinc (j := 3) (v := x4_4) (lv' := [(4, .int x4_4), (3, .int x3_3), (0, .ref (a 0)), (1, .int x1)]) hA dX12_rests_58 rfl (k_inc ex4_4 kc_i_1) (Nat.le_of_ble_eq_true rfl) rfl ?_
    refine k_goto (tgt := 26) hA dX12_rests_61 rfl ?_
    refine k_pick (lv' := [(0, .ref (a 0)), (1, .int x1), (3, .int x3_3), (4, .int x4_4)]) [2, 3, 1, 0] rfl ?_
    exact ih x1 x3_3 x4_4 t hf
  have hf := k_iff hc hf
  obtain ⟨x3_5, ex3_5, hf⟩ := k_lt_e hf
  obtain ⟨x4_6, ex4_6, hf⟩ := k_lt_e hf
  refine k_iconst hA dX12_rests_51 kc_i_1 ?_
  refine k_goto (tgt := 56) hA dX12_rests_52 rfl ?_
  refine k_iadd hA dX12_rests_56 ?_
  refine k_istore_n (i := 3) (lv' := [(3, .int x3_5), (0, .ref (a 0)), (1, .int x1), (4, .int x4)]) hA dX12_rests_57 rfl ex3_5 (Nat.le_of_ble_eq_true rfl) rfl ?_
  refine k_iinc (j := 3) (v := x4_6) (lv' := [(4, .int x4_6), (3, .int x3_5), (0, .ref (a 0)), (1, .int x1)]) hA dX12_rests_58 rfl (k_inc ex4_6 kc_i_1) (Nat.le_of_ble_eq_true rfl) rfl ?_
  refine k_goto (tgt := 26) hA dX12_rests_61 rfl ?_
  refine k_pick (lv' := [(0, .ref (a 0)), (1, .int x1), (3, .int x3_5), (4, .int x4_6)]) [2, 3, 1, 0] rfl ?_
  exact ih x1 x3_5 x4_6 t hf

theorem m_M_rests (l : Launch) (G : k_G) (a : Nat → Nat) (rv : Value) (n : Nat) (x1 : Int32) (t : k_St) {r : Int32} {t' : k_St} (hf : f_M_rests n x1 t = some (r, t')) : k_CI l G yX12_rests cX12_rests 5 (some .int) 3 (k_WT G.2.1 a rv t) [.ref (a 0), .int x1] r (k_WT G.2.1 a rv t') := by
  refine k_startI (lv := [(0, .ref (a 0)), (1, .int x1)]) (by decide +kernel) (Nat.le_of_ble_eq_true rfl) rfl ?_
  intro p e s m args below meth c hA hr
  have hA : k_Amb p s m args meth c cX12_rests 5 "TaleSharesModel" G _ := hA
  unfold f_M_rests at hf
  obtain ⟨t_1, et_1, hf⟩ := k_lt_e hf
  obtain ⟨x2_2, ex2_2, hf⟩ := k_lt_e hf
  refine k_aload_n (i := 0) hA dX12_rests_0 rfl 0 rfl ?_
  refine k_iconst hA dX12_rests_1 kc_i_0 ?_
  refine pt_MT_0_0 hA wd_1248 et_1 dX12_rests_2 ?_
  refine k_aload_n (i := 0) hA dX12_rests_5 rfl 0 rfl ?_
  refine k_iload_n (i := 1) hA dX12_rests_6 rfl 1 rfl ?_
  refine k_callVi (As := [.int x1]) (rest := []) hA (m_M_refusesWorth l G a rv t_1 x1 rfl) cd_X12_refusesWorth wd_1862 (hc_MT_0 G.2.1 a rv t_1) rfl rfl (Nat.le_of_ble_eq_true rfl) rfl rfl (Nat.le_of_ble_eq_true rfl) dX12_rests_7 ?_
  refine k_istore_n (i := 2) (lv' := [(2, .int x2_2), (0, .ref (a 0)), (1, .int x1)]) hA dX12_rests_10 rfl ex2_2 (Nat.le_of_ble_eq_true rfl) rfl ?_
  refine k_iload_n (i := 2) hA dX12_rests_11 rfl 0 rfl ?_
  refine k_if_le (tgt := 21) hA dX12_rests_12 rfl (fun hc => ?_) (fun hc => ?_)
  · have hf := k_ift hc hf
    refine k_iconst hA dX12_rests_21 kc_i_0 ?_
    refine k_istore_n (i := 3) (lv' := [(3, .int (0 : Int32)), (2, .int x2_2), (0, .ref (a 0)), (1, .int x1)]) hA dX12_rests_22 rfl rfl (Nat.le_of_ble_eq_true rfl) rfl ?_
    refine k_iconst hA dX12_rests_23 kc_i_0 ?_
    refine k_istore (lv' := [(4, .int (0 : Int32)), (3, .int (0 : Int32)), (2, .int x2_2), (0, .ref (a 0)), (1, .int x1)]) hA dX12_rests_24 rfl (Nat.le_of_ble_eq_true rfl) rfl ?_
    refine k_pick (lv' := [(0, .ref (a 0)), (1, .int x1), (3, .int (0 : Int32)), (4, .int (0 : Int32))]) [3, 4, 1, 0] rfl ?_
    exact m_M_rests_26 l G a rv n hA hr n x1 (0 : Int32) (0 : Int32) t_1 hf
  have hf := k_iff hc hf
  obtain ⟨⟨rq_3, tq_3⟩, hq_3, hf⟩ := k_lt_e hf
  dsimp only at hf
  obtain ⟨rfl, rfl⟩ := k_r2 hf
  refine k_aload_n (i := 0) hA dX12_rests_15 rfl 1 rfl ?_
  refine k_iload_n (i := 2) hA dX12_rests_16 rfl 0 rfl ?_
  refine k_callVi (As := [.int x2_2]) (rest := []) hA (m_M_refused l G a rv x2_2 t_1 hq_3.symm) cd_X12_refused wd_1390 (hc_MT_0 G.2.1 a rv t_1) rfl rfl (Nat.le_of_ble_eq_true rfl) rfl rfl (Nat.le_of_ble_eq_true rfl) dX12_rests_17 ?_
  exact k_iret hA hr rfl dX12_rests_20

def f_M_rest_23 (n : Nat) : Nat → Int32 → Int32 → k_St → Option (Int32 × k_St)
  | 0, _, _, _ => none
  | k + 1, x1, x3, t => (if (49 : Int32) ≤ x3 then k_lt (f_M_good (-2 : Int32) t) (fun q_1 => some (q_1.1, q_1.2)) else k_cp (f_M_isRest n x1 (x3 / (7 : Int32)) (x3 - x3 / (7 : Int32) * (7 : Int32))) (fun r_2 => (if (k_b r_2) = 0 then k_lt (x3 + (1 : Int32)) (fun x3_3 => f_M_rest_23 n k x1 x3_3 t) else k_lt (f_M_good (((10 : Int32) * (x3 / (7 : Int32))) + (x3 - x3 / (7 : Int32) * (7 : Int32))) t) (fun q_4 => some (q_4.1, q_4.2)))))
def f_M_rest (n : Nat) (x1 : Int32) (t : k_St) : Option (Int32 × k_St) := k_lt (k_sI t 0 0 (0 : Int32)) (fun t_1 => k_lt (f_M_refusesWorth t_1 x1) (fun x2_2 => (if x2_2 ≤ 0 then f_M_rest_23 n n x1 (0 : Int32) t_1 else k_lt (f_M_refused x2_2 t_1) (fun q_3 => some (q_3.1, q_3.2)))))
theorem m_M_rest_23 {p : Program} (l : Launch) {e : Env} {s : State} {m : MethodId} {args : Array Value} {below : List Frame} {meth : Method} {c : Code} (G : k_G) (a : Nat → Nat) (rv : Value) (n : Nat) {w0 : va_W} {r : Int32} {t' : k_St} (hA : k_Amb p s m args meth c cX12_rest 4 "TaleSharesModel" G (va_A w0 s.heap.size)) (hr : meth.sig.returnType = (some .int)) : ∀ (k : Nat) (x1 : Int32) (x3 : Int32) (t : k_St), f_M_rest_23 n k x1 x3 t = some (r, t') → k_Go p l e (k_rm 3) s m args below meth c (k_QI G w0 r (k_WT G.2.1 a rv t') args s below) 4 G (va_A w0 s.heap.size) (k_WT G.2.1 a rv t) 23 [(0, .ref (a 0)), (1, .int x1), (3, .int x3)] [] := by
  intro k
  induction k with
  | zero => intro x1 x3 t hf; cases hf
  | succ k ih =>
  intro x1 x3 t hf
  rw [f_M_rest_23] at hf
  refine k_iload_n (i := 3) hA dX12_rest_23 rfl 2 rfl ?_
  refine k_bipush hA dX12_rest_24 kc_b_49 ?_
  refine k_icmp_ge (tgt := 67) hA dX12_rest_26 rfl (fun hc => ?_) (fun hc => ?_)
  · have hf := k_ift hc hf
    obtain ⟨⟨rq_1, tq_1⟩, hq_1, hf⟩ := k_lt_e hf
    dsimp only at hf
    obtain ⟨rfl, rfl⟩ := k_r2 hf
    refine k_aload_n (i := 0) hA dX12_rest_67 rfl 0 rfl ?_
    refine k_bipush hA dX12_rest_68 kc_b_m2 ?_
    refine k_callVi (As := [.int (-2 : Int32)]) (rest := []) hA (m_M_good l G a rv (-2 : Int32) t hq_1.symm) cd_X12_good wd_1601 (hc_MT_0 G.2.1 a rv t) rfl rfl (Nat.le_of_ble_eq_true rfl) rfl rfl (Nat.le_of_ble_eq_true rfl) dX12_rest_70 ?_
    exact k_iret hA hr rfl dX12_rest_73
  have hf := k_iff hc hf
  obtain ⟨r_2, hr_2, hf⟩ := k_cp_e hf
  refine k_iload_n (i := 1) hA dX12_rest_29 rfl 1 rfl ?_
  refine k_iload_n (i := 3) hA dX12_rest_30 rfl 2 rfl ?_
  refine k_bipush hA dX12_rest_31 kc_b_7 ?_
  refine k_idiv hA dX12_rest_33 (by decide) ?_
  refine k_iload_n (i := 3) hA dX12_rest_34 rfl 2 rfl ?_
  refine k_bipush hA dX12_rest_35 kc_b_7 ?_
  refine k_irem hA dX12_rest_37 (by decide) ?_
  refine k_callSi (As := [.int x1, .int (x3 / (7 : Int32)), .int (x3 - x3 / (7 : Int32) * (7 : Int32))]) (rest := []) hA (m_M_isRest l G (k_WT G.2.1 a rv t) n x1 (x3 / (7 : Int32)) (x3 - x3 / (7 : Int32) * (7 : Int32)) hr_2) cd_X12_isRest wd_1877 (Nat.le_of_ble_eq_true rfl) rfl rfl (Nat.le_of_ble_eq_true rfl) dX12_rest_38 ?_
  refine k_if_eq (tgt := 61) hA dX12_rest_41 rfl (fun hc => ?_) (fun hc => ?_)
  · have hf := k_ift hc hf
    obtain ⟨x3_3, ex3_3, hf⟩ := k_lt_e hf
    refine k_iinc (j := 2) (v := x3_3) (lv' := [(3, .int x3_3), (0, .ref (a 0)), (1, .int x1)]) hA dX12_rest_61 rfl (k_inc ex3_3 kc_i_1) (Nat.le_of_ble_eq_true rfl) rfl ?_
    refine k_goto (tgt := 23) hA dX12_rest_64 rfl ?_
    refine k_pick (lv' := [(0, .ref (a 0)), (1, .int x1), (3, .int x3_3)]) [1, 2, 0] rfl ?_
    exact ih x1 x3_3 t hf
  have hf := k_iff hc hf
  obtain ⟨⟨rq_4, tq_4⟩, hq_4, hf⟩ := k_lt_e hf
  dsimp only at hf
  obtain ⟨rfl, rfl⟩ := k_r2 hf
  refine k_aload_n (i := 0) hA dX12_rest_44 rfl 0 rfl ?_
  refine k_bipush hA dX12_rest_45 kc_b_10 ?_
  refine k_iload_n (i := 3) hA dX12_rest_47 rfl 2 rfl ?_
  refine k_bipush hA dX12_rest_48 kc_b_7 ?_
  refine k_idiv hA dX12_rest_50 (by decide) ?_
  refine k_imul hA dX12_rest_51 ?_
  refine k_iload_n (i := 3) hA dX12_rest_52 rfl 2 rfl ?_
  refine k_bipush hA dX12_rest_53 kc_b_7 ?_
  refine k_irem hA dX12_rest_55 (by decide) ?_
  refine k_iadd hA dX12_rest_56 ?_
  refine k_callVi (As := [.int (((10 : Int32) * (x3 / (7 : Int32))) + (x3 - x3 / (7 : Int32) * (7 : Int32)))]) (rest := []) hA (m_M_good l G a rv (((10 : Int32) * (x3 / (7 : Int32))) + (x3 - x3 / (7 : Int32) * (7 : Int32))) t hq_4.symm) cd_X12_good wd_1601 (hc_MT_0 G.2.1 a rv t) rfl rfl (Nat.le_of_ble_eq_true rfl) rfl rfl (Nat.le_of_ble_eq_true rfl) dX12_rest_57 ?_
  exact k_iret hA hr rfl dX12_rest_60

theorem m_M_rest (l : Launch) (G : k_G) (a : Nat → Nat) (rv : Value) (n : Nat) (x1 : Int32) (t : k_St) {r : Int32} {t' : k_St} (hf : f_M_rest n x1 t = some (r, t')) : k_CI l G yX12_rest cX12_rest 4 (some .int) 3 (k_WT G.2.1 a rv t) [.ref (a 0), .int x1] r (k_WT G.2.1 a rv t') := by
  refine k_startI (lv := [(0, .ref (a 0)), (1, .int x1)]) (by decide +kernel) (Nat.le_of_ble_eq_true rfl) rfl ?_
  intro p e s m args below meth c hA hr
  have hA : k_Amb p s m args meth c cX12_rest 4 "TaleSharesModel" G _ := hA
  unfold f_M_rest at hf
  obtain ⟨t_1, et_1, hf⟩ := k_lt_e hf
  obtain ⟨x2_2, ex2_2, hf⟩ := k_lt_e hf
  refine k_aload_n (i := 0) hA dX12_rest_0 rfl 0 rfl ?_
  refine k_iconst hA dX12_rest_1 kc_i_0 ?_
  refine pt_MT_0_0 hA wd_1248 et_1 dX12_rest_2 ?_
  refine k_aload_n (i := 0) hA dX12_rest_5 rfl 0 rfl ?_
  refine k_iload_n (i := 1) hA dX12_rest_6 rfl 1 rfl ?_
  refine k_callVi (As := [.int x1]) (rest := []) hA (m_M_refusesWorth l G a rv t_1 x1 rfl) cd_X12_refusesWorth wd_1862 (hc_MT_0 G.2.1 a rv t_1) rfl rfl (Nat.le_of_ble_eq_true rfl) rfl rfl (Nat.le_of_ble_eq_true rfl) dX12_rest_7 ?_
  refine k_istore_n (i := 2) (lv' := [(2, .int x2_2), (0, .ref (a 0)), (1, .int x1)]) hA dX12_rest_10 rfl ex2_2 (Nat.le_of_ble_eq_true rfl) rfl ?_
  refine k_iload_n (i := 2) hA dX12_rest_11 rfl 0 rfl ?_
  refine k_if_le (tgt := 21) hA dX12_rest_12 rfl (fun hc => ?_) (fun hc => ?_)
  · have hf := k_ift hc hf
    refine k_iconst hA dX12_rest_21 kc_i_0 ?_
    refine k_istore_n (i := 3) (lv' := [(3, .int (0 : Int32)), (2, .int x2_2), (0, .ref (a 0)), (1, .int x1)]) hA dX12_rest_22 rfl rfl (Nat.le_of_ble_eq_true rfl) rfl ?_
    refine k_pick (lv' := [(0, .ref (a 0)), (1, .int x1), (3, .int (0 : Int32))]) [2, 3, 0] rfl ?_
    exact m_M_rest_23 l G a rv n hA hr n x1 (0 : Int32) t_1 hf
  have hf := k_iff hc hf
  obtain ⟨⟨rq_3, tq_3⟩, hq_3, hf⟩ := k_lt_e hf
  dsimp only at hf
  obtain ⟨rfl, rfl⟩ := k_r2 hf
  refine k_aload_n (i := 0) hA dX12_rest_15 rfl 1 rfl ?_
  refine k_iload_n (i := 2) hA dX12_rest_16 rfl 0 rfl ?_
  refine k_callVi (As := [.int x2_2]) (rest := []) hA (m_M_refused l G a rv x2_2 t_1 hq_3.symm) cd_X12_refused wd_1390 (hc_MT_0 G.2.1 a rv t_1) rfl rfl (Nat.le_of_ble_eq_true rfl) rfl rfl (Nat.le_of_ble_eq_true rfl) dX12_rest_17 ?_
  exact k_iret hA hr rfl dX12_rest_20

def f_M_refusesSleep (t : k_St) (x1 : Int32) (x2 : Int32) : Int32 := (if (k_b (f_M_in x1 (0 : Int32) (8 : Int32))) = 0 then (2 : Int32) else (if (k_b (f_M_in x2 (0 : Int32) x1)) = 0 then (2 : Int32) else (0 : Int32)))
theorem m_M_refusesSleep (l : Launch) (G : k_G) (a : Nat → Nat) (rv : Value) (t : k_St) (x1 : Int32) (x2 : Int32) {r : Int32} (hf : f_M_refusesSleep t x1 x2 = r) : k_CI l G yX12_refusesSleep cX12_refusesSleep 3 (some .int) 2 (k_WT G.2.1 a rv t) [.ref (a 0), .int x1, .int x2] r (k_WT G.2.1 a rv t) := by
  refine k_startI (lv := [(0, .ref (a 0)), (1, .int x1), (2, .int x2)]) (by decide +kernel) (Nat.le_of_ble_eq_true rfl) rfl ?_
  intro p e s m args below meth c hA hr
  have hA : k_Amb p s m args meth c cX12_refusesSleep 3 "TaleSharesModel" G _ := hA
  unfold f_M_refusesSleep at hf
  refine k_aload_n (i := 0) hA dX12_refusesSleep_0 rfl 0 rfl ?_
  refine gt_MT_0_3 hA wd_1251 dX12_refusesSleep_1 ?_
  refine k_ifnonnull (tgt := 11) hA dX12_refusesSleep_4 rfl ?_
  refine k_iload_n (i := 1) hA dX12_refusesSleep_11 rfl 1 rfl ?_
  refine k_iconst hA dX12_refusesSleep_12 kc_i_0 ?_
  refine k_bipush hA dX12_refusesSleep_13 kc_b_8 ?_
  refine k_callSi (As := [.int x1, .int (0 : Int32), .int (8 : Int32)]) (rest := []) hA (m_M_in l G (k_WT G.2.1 a rv t) x1 (0 : Int32) (8 : Int32) rfl) cd_X12_in wd_1525 (Nat.le_of_ble_eq_true rfl) rfl rfl (Nat.le_of_ble_eq_true rfl) dX12_refusesSleep_15 ?_
  refine k_if_eq (tgt := 34) hA dX12_refusesSleep_18 rfl (fun hc => ?_) (fun hc => ?_)
  · have hf := k_ift hc hf
    subst hf
    refine k_iconst hA dX12_refusesSleep_34 kc_i_2 ?_
    exact k_iret hA hr rfl dX12_refusesSleep_35
  have hf := k_iff hc hf
  refine k_iload_n (i := 2) hA dX12_refusesSleep_21 rfl 2 rfl ?_
  refine k_iconst hA dX12_refusesSleep_22 kc_i_0 ?_
  refine k_iload_n (i := 1) hA dX12_refusesSleep_23 rfl 1 rfl ?_
  refine k_callSi (As := [.int x2, .int (0 : Int32), .int x1]) (rest := []) hA (m_M_in l G (k_WT G.2.1 a rv t) x2 (0 : Int32) x1 rfl) cd_X12_in wd_1525 (Nat.le_of_ble_eq_true rfl) rfl rfl (Nat.le_of_ble_eq_true rfl) dX12_refusesSleep_24 ?_
  refine k_if_eq (tgt := 34) hA dX12_refusesSleep_27 rfl (fun hc => ?_) (fun hc => ?_)
  · have hf := k_ift hc hf
    subst hf
    refine k_iconst hA dX12_refusesSleep_34 kc_i_2 ?_
    exact k_iret hA hr rfl dX12_refusesSleep_35
  have hf := k_iff hc hf
  subst hf
  refine k_iconst hA dX12_refusesSleep_30 kc_i_0 ?_
  refine k_goto (tgt := 35) hA dX12_refusesSleep_31 rfl ?_
  exact k_iret hA hr rfl dX12_refusesSleep_35

def f_M_power_5 (n : Nat) : Nat → Int64 → Int32 → Int64 → Int32 → Option Int64
  | 0, _, _, _, _ => none
  | k + 1, x0, x2, x3, x5 => (if x2 ≤ x5 then some x3 else k_lt (x3 * x0) (fun x3_1 => k_lt (x5 + (1 : Int32)) (fun x5_2 => f_M_power_5 n k x0 x2 x3_1 x5_2)))
def f_M_power (n : Nat) (x0 : Int64) (x2 : Int32) : Option Int64 := f_M_power_5 n n x0 x2 (1 : Int64) (0 : Int32)
theorem m_M_power_5 {p : Program} (l : Launch) {e : Env} {s : State} {m : MethodId} {args : Array Value} {below : List Frame} {meth : Method} {c : Code} (G : k_G) (w : va_W) (n : Nat) {w0 : va_W} {r : Int64} (hA : k_Amb p s m args meth c cX12_power 6 "TaleSharesModel" G (va_A w0 s.heap.size)) (hr : meth.sig.returnType = (some .long)) : ∀ (k : Nat) (x0 : Int64) (x2 : Int32) (x3 : Int64) (x5 : Int32), f_M_power_5 n k x0 x2 x3 x5 = some r → k_Go p l e (k_rm 1) s m args below meth c (k_QL G w0 r w args s below) 6 G (va_A w0 s.heap.size) w 5 [(0, .long x0), (2, .int x2), (3, .long x3), (5, .int x5)] [] := by
  intro k
  induction k with
  | zero => intro x0 x2 x3 x5 hf; cases hf
  | succ k ih =>
  intro x0 x2 x3 x5 hf
  rw [f_M_power_5] at hf
  refine k_iload hA dX12_power_5 3 rfl ?_
  refine k_iload_n (i := 2) hA dX12_power_7 rfl 1 rfl ?_
  refine k_icmp_ge (tgt := 21) hA dX12_power_8 rfl (fun hc => ?_) (fun hc => ?_)
  · have hf := k_ift hc hf
    obtain rfl := k_r1 hf
    refine k_lload_n (i := 3) hA dX12_power_21 rfl 2 rfl ?_
    exact k_lret hA hr dX12_power_22
  have hf := k_iff hc hf
  obtain ⟨x3_1, ex3_1, hf⟩ := k_lt_e hf
  obtain ⟨x5_2, ex5_2, hf⟩ := k_lt_e hf
  refine k_lload_n (i := 3) hA dX12_power_11 rfl 2 rfl ?_
  refine k_lload_n (i := 0) hA dX12_power_12 rfl 0 rfl ?_
  refine k_lmul hA dX12_power_13 ?_
  refine k_lstore_n (i := 3) (lv' := [(3, .long x3_1), (0, .long x0), (2, .int x2), (5, .int x5)]) hA dX12_power_14 rfl ex3_1 (Nat.le_of_ble_eq_true rfl) rfl ?_
  refine k_iinc (j := 3) (v := x5_2) (lv' := [(5, .int x5_2), (3, .long x3_1), (0, .long x0), (2, .int x2)]) hA dX12_power_15 rfl (k_inc ex5_2 kc_i_1) (Nat.le_of_ble_eq_true rfl) rfl ?_
  refine k_goto (tgt := 5) hA dX12_power_18 rfl ?_
  refine k_pick (lv' := [(0, .long x0), (2, .int x2), (3, .long x3_1), (5, .int x5_2)]) [2, 3, 1, 0] rfl ?_
  exact ih x0 x2 x3_1 x5_2 hf

theorem m_M_power (l : Launch) (G : k_G) (w : va_W) (n : Nat) (x0 : Int64) (x2 : Int32) {r : Int64} (hf : f_M_power n x0 x2 = some r) : k_CL l G yX12_power cX12_power 6 (some .long) 1 w [.long x0, .int x2] r w := by
  refine k_startL (lv := [(0, .long x0), (2, .int x2)]) (by decide +kernel) (Nat.le_of_ble_eq_true rfl) rfl ?_
  intro p e s m args below meth c hA hr
  have hA : k_Amb p s m args meth c cX12_power 6 "TaleSharesModel" G _ := hA
  unfold f_M_power at hf
  refine k_lconst hA dX12_power_0 kc_l_1 ?_
  refine k_lstore_n (i := 3) (lv' := [(3, .long (1 : Int64)), (0, .long x0), (2, .int x2)]) hA dX12_power_1 rfl rfl (Nat.le_of_ble_eq_true rfl) rfl ?_
  refine k_iconst hA dX12_power_2 kc_i_0 ?_
  refine k_istore (lv' := [(5, .int (0 : Int32)), (3, .long (1 : Int64)), (0, .long x0), (2, .int x2)]) hA dX12_power_3 rfl (Nat.le_of_ble_eq_true rfl) rfl ?_
  refine k_pick (lv' := [(0, .long x0), (2, .int x2), (3, .long (1 : Int64)), (5, .int (0 : Int32))]) [2, 3, 1, 0] rfl ?_
  exact m_M_power_5 l G w n hA hr n x0 x2 (1 : Int64) (0 : Int32) hf

def f_M_tellsJust (n : Nat) (t : k_St) (x1 : Int32) (x2 : Int32) : Option Int64 := k_cp (f_M_power n ((100 : Int64) - ((t.1 18 1).toInt64)) x2) (fun r_1 => (if x2 = x1 then some r_1 else k_cp (f_M_power n (100 : Int64) ((x1 - x2) - (1 : Int32))) (fun r_2 => some ((r_1 * ((t.1 18 1).toInt64)) * r_2))))
theorem m_M_tellsJust (l : Launch) (G : k_G) (a : Nat → Nat) (rv : Value) (n : Nat) (t : k_St) (x1 : Int32) (x2 : Int32) {r : Int64} (hf : f_M_tellsJust n t x1 x2 = some r) : k_CL l G yX12_tellsJust cX12_tellsJust 5 (some .long) 2 (k_WT G.2.1 a rv t) [.ref (a 0), .int x1, .int x2] r (k_WT G.2.1 a rv t) := by
  refine k_startL (lv := [(0, .ref (a 0)), (1, .int x1), (2, .int x2)]) (by decide +kernel) (Nat.le_of_ble_eq_true rfl) rfl ?_
  intro p e s m args below meth c hA hr
  have hA : k_Amb p s m args meth c cX12_tellsJust 5 "TaleSharesModel" G _ := hA
  unfold f_M_tellsJust at hf
  obtain ⟨r_1, hr_1, hf⟩ := k_cp_e hf
  refine k_ldc2 hA wd_1896 dX12_tellsJust_0 ?_
  refine k_aload_n (i := 0) hA dX12_tellsJust_3 rfl 0 rfl ?_
  refine gt_MT_0_3 hA wd_1251 dX12_tellsJust_4 ?_
  refine gt_MT_18_1N hA rfl nf_241 dX12_tellsJust_7 ?_
  refine k_i2l hA dX12_tellsJust_10 ?_
  refine k_lsub hA dX12_tellsJust_11 ?_
  refine k_iload_n (i := 2) hA dX12_tellsJust_12 rfl 2 rfl ?_
  refine k_callSl (As := [.long ((100 : Int64) - ((t.1 18 1).toInt64)), .int x2]) (rest := []) hA (m_M_power l G (k_WT G.2.1 a rv t) n ((100 : Int64) - ((t.1 18 1).toInt64)) x2 hr_1) cd_X12_power wd_1897 (Nat.le_of_ble_eq_true rfl) rfl rfl (Nat.le_of_ble_eq_true rfl) dX12_tellsJust_13 ?_
  refine k_lstore_n (i := 3) (lv' := [(3, .long r_1), (0, .ref (a 0)), (1, .int x1), (2, .int x2)]) hA dX12_tellsJust_16 rfl rfl (Nat.le_of_ble_eq_true rfl) rfl ?_
  refine k_iload_n (i := 2) hA dX12_tellsJust_17 rfl 3 rfl ?_
  refine k_iload_n (i := 1) hA dX12_tellsJust_18 rfl 2 rfl ?_
  refine k_icmp_ne (tgt := 26) hA dX12_tellsJust_19 rfl (fun hc => ?_) (fun hc => ?_)
  · have hf := k_iff hc hf
    obtain ⟨r_2, hr_2, hf⟩ := k_cp_e hf
    obtain rfl := k_r1 hf
    refine k_lload_n (i := 3) hA dX12_tellsJust_26 rfl 0 rfl ?_
    refine k_aload_n (i := 0) hA dX12_tellsJust_27 rfl 1 rfl ?_
    refine gt_MT_0_3 hA wd_1251 dX12_tellsJust_28 ?_
    refine gt_MT_18_1N hA rfl nf_241 dX12_tellsJust_31 ?_
    refine k_i2l hA dX12_tellsJust_34 ?_
    refine k_lmul hA dX12_tellsJust_35 ?_
    refine k_ldc2 hA wd_1896 dX12_tellsJust_36 ?_
    refine k_iload_n (i := 1) hA dX12_tellsJust_39 rfl 2 rfl ?_
    refine k_iload_n (i := 2) hA dX12_tellsJust_40 rfl 3 rfl ?_
    refine k_isub hA dX12_tellsJust_41 ?_
    refine k_iconst hA dX12_tellsJust_42 kc_i_1 ?_
    refine k_isub hA dX12_tellsJust_43 ?_
    refine k_callSl (As := [.long (100 : Int64), .int ((x1 - x2) - (1 : Int32))]) (rest := [.long (r_1 * ((t.1 18 1).toInt64))]) hA (m_M_power l G (k_WT G.2.1 a rv t) n (100 : Int64) ((x1 - x2) - (1 : Int32)) hr_2) cd_X12_power wd_1897 (Nat.le_of_ble_eq_true rfl) rfl rfl (Nat.le_of_ble_eq_true rfl) dX12_tellsJust_44 ?_
    refine k_lmul hA dX12_tellsJust_47 ?_
    exact k_lret hA hr dX12_tellsJust_48
  have hf := k_ift hc hf
  obtain rfl := k_r1 hf
  refine k_lload_n (i := 3) hA dX12_tellsJust_22 rfl 0 rfl ?_
  refine k_goto (tgt := 48) hA dX12_tellsJust_23 rfl ?_
  exact k_lret hA hr dX12_tellsJust_48

def f_M_common_6 (n : Nat) : Nat → Int64 → Int64 → Option Int64
  | 0, _, _ => none
  | k + 1, x4, x6 => (if (lg_cmp x6 (0 : Int64)) = 0 then some x4 else k_gd (¬ x6 = 0) (k_lt (x4 - x4 / x6 * x6) (fun x8_2 => f_M_common_6 n k x6 x8_2)))
def f_M_common (n : Nat) (x0 : Int64) (x2 : Int64) : Option Int64 := f_M_common_6 n n x0 x2
theorem m_M_common_6 {p : Program} (l : Launch) {e : Env} {s : State} {m : MethodId} {args : Array Value} {below : List Frame} {meth : Method} {c : Code} (G : k_G) (w : va_W) (n : Nat) {w0 : va_W} {r : Int64} (hA : k_Amb p s m args meth c cX12_common 10 "TaleSharesModel" G (va_A w0 s.heap.size)) (hr : meth.sig.returnType = (some .long)) : ∀ (k : Nat) (x4 : Int64) (x6 : Int64), f_M_common_6 n k x4 x6 = some r → k_Go p l e (k_rm 1) s m args below meth c (k_QL G w0 r w args s below) 10 G (va_A w0 s.heap.size) w 6 [(4, .long x4), (6, .long x6)] [] := by
  intro k
  induction k with
  | zero => intro x4 x6 hf; cases hf
  | succ k ih =>
  intro x4 x6 hf
  rw [f_M_common_6] at hf
  refine k_lload hA dX12_common_6 1 rfl ?_
  refine k_lconst hA dX12_common_8 kc_l_0 ?_
  refine k_lcmp hA dX12_common_9 ?_
  refine k_if_eq (tgt := 31) hA dX12_common_10 rfl (fun hc => ?_) (fun hc => ?_)
  · have hf := k_ift hc hf
    obtain rfl := k_r1 hf
    refine k_lload hA dX12_common_31 0 rfl ?_
    exact k_lret hA hr dX12_common_33
  have hf := k_iff hc hf
  obtain ⟨hn_1, hf⟩ := k_gd_e hf
  obtain ⟨x8_2, ex8_2, hf⟩ := k_lt_e hf
  refine k_lload hA dX12_common_13 0 rfl ?_
  refine k_lload hA dX12_common_15 1 rfl ?_
  refine k_lrem hA dX12_common_17 hn_1 ?_
  refine k_lstore (lv' := [(8, .long x8_2), (4, .long x4), (6, .long x6)]) hA dX12_common_18 ex8_2 (Nat.le_of_ble_eq_true rfl) rfl ?_
  refine k_lload hA dX12_common_20 2 rfl ?_
  refine k_lstore (lv' := [(4, .long x6), (8, .long x8_2), (6, .long x6)]) hA dX12_common_22 rfl (Nat.le_of_ble_eq_true rfl) rfl ?_
  refine k_lload hA dX12_common_24 1 rfl ?_
  refine k_lstore (lv' := [(6, .long x8_2), (4, .long x6), (8, .long x8_2)]) hA dX12_common_26 rfl (Nat.le_of_ble_eq_true rfl) rfl ?_
  refine k_goto (tgt := 6) hA dX12_common_28 rfl ?_
  refine k_pick (lv' := [(4, .long x6), (6, .long x8_2)]) [1, 0] rfl ?_
  exact ih x6 x8_2 hf

theorem m_M_common (l : Launch) (G : k_G) (w : va_W) (n : Nat) (x0 : Int64) (x2 : Int64) {r : Int64} (hf : f_M_common n x0 x2 = some r) : k_CL l G yX12_common cX12_common 10 (some .long) 1 w [.long x0, .long x2] r w := by
  refine k_startL (lv := [(0, .long x0), (2, .long x2)]) (by decide +kernel) (Nat.le_of_ble_eq_true rfl) rfl ?_
  intro p e s m args below meth c hA hr
  have hA : k_Amb p s m args meth c cX12_common 10 "TaleSharesModel" G _ := hA
  unfold f_M_common at hf
  refine k_lload_n (i := 0) hA dX12_common_0 rfl 0 rfl ?_
  refine k_lstore (lv' := [(4, .long x0), (0, .long x0), (2, .long x2)]) hA dX12_common_1 rfl (Nat.le_of_ble_eq_true rfl) rfl ?_
  refine k_lload_n (i := 2) hA dX12_common_3 rfl 2 rfl ?_
  refine k_lstore (lv' := [(6, .long x2), (4, .long x0), (0, .long x0), (2, .long x2)]) hA dX12_common_4 rfl (Nat.le_of_ble_eq_true rfl) rfl ?_
  refine k_pick (lv' := [(4, .long x0), (6, .long x2)]) [1, 0] rfl ?_
  exact m_M_common_6 l G w n hA hr n x0 x2 hf

def f_M_fraction (n : Nat) (x1 : Int64) (x3 : Int64) (x5 : Int32) (t : k_St) : Option (Int64 × k_St) := k_lt (f_M_good (0 : Int32) t) (fun q_1 => (if x5 = 0 then k_cp (f_M_common n x1 x3) (fun r_2 => k_gd (¬ r_2 = 0) (some ((x1 / r_2), q_1.2))) else k_cp (f_M_common n x1 x3) (fun r_4 => k_gd (¬ r_4 = 0) (some ((x3 / r_4), q_1.2)))))
theorem m_M_fraction (l : Launch) (G : k_G) (a : Nat → Nat) (rv : Value) (n : Nat) (x1 : Int64) (x3 : Int64) (x5 : Int32) (t : k_St) {r : Int64} {t' : k_St} (hf : f_M_fraction n x1 x3 x5 t = some (r, t')) : k_CL l G yX12_fraction cX12_fraction 6 (some .long) 2 (k_WT G.2.1 a rv t) [.ref (a 0), .long x1, .long x3, .int x5] r (k_WT G.2.1 a rv t') := by
  refine k_startL (lv := [(0, .ref (a 0)), (1, .long x1), (3, .long x3), (5, .int x5)]) (by decide +kernel) (Nat.le_of_ble_eq_true rfl) rfl ?_
  intro p e s m args below meth c hA hr
  have hA : k_Amb p s m args meth c cX12_fraction 6 "TaleSharesModel" G _ := hA
  unfold f_M_fraction at hf
  obtain ⟨⟨rq_1, tq_1⟩, hq_1, hf⟩ := k_lt_e hf
  dsimp only at hf
  refine k_aload_n (i := 0) hA dX12_fraction_0 rfl 0 rfl ?_
  refine k_iconst hA dX12_fraction_1 kc_i_0 ?_
  refine k_callVi (As := [.int (0 : Int32)]) (rest := []) hA (m_M_good l G a rv (0 : Int32) t hq_1.symm) cd_X12_good wd_1601 (hc_MT_0 G.2.1 a rv t) rfl rfl (Nat.le_of_ble_eq_true rfl) rfl rfl (Nat.le_of_ble_eq_true rfl) dX12_fraction_2 ?_
  refine k_pop hA dX12_fraction_5 rfl ?_
  refine k_iload hA dX12_fraction_6 3 rfl ?_
  refine k_if_eq (tgt := 15) hA dX12_fraction_8 rfl (fun hc => ?_) (fun hc => ?_)
  · have hf := k_ift hc hf
    obtain ⟨r_2, hr_2, hf⟩ := k_cp_e hf
    obtain ⟨hn_3, hf⟩ := k_gd_e hf
    obtain ⟨rfl, rfl⟩ := k_r2 hf
    refine k_lload_n (i := 1) hA dX12_fraction_15 rfl 1 rfl ?_
    refine k_lload_n (i := 1) hA dX12_fraction_16 rfl 1 rfl ?_
    refine k_lload_n (i := 3) hA dX12_fraction_17 rfl 2 rfl ?_
    refine k_callSl (As := [.long x1, .long x3]) (rest := [.long x1]) hA (m_M_common l G (k_WT G.2.1 a rv tq_1) n x1 x3 hr_2) cd_X12_common wd_1904 (Nat.le_of_ble_eq_true rfl) rfl rfl (Nat.le_of_ble_eq_true rfl) dX12_fraction_18 ?_
    refine k_ldiv hA dX12_fraction_21 hn_3 ?_
    exact k_lret hA hr dX12_fraction_22
  have hf := k_iff hc hf
  obtain ⟨r_4, hr_4, hf⟩ := k_cp_e hf
  obtain ⟨hn_5, hf⟩ := k_gd_e hf
  obtain ⟨rfl, rfl⟩ := k_r2 hf
  refine k_lload_n (i := 3) hA dX12_fraction_11 rfl 2 rfl ?_
  refine k_goto (tgt := 16) hA dX12_fraction_12 rfl ?_
  refine k_lload_n (i := 1) hA dX12_fraction_16 rfl 1 rfl ?_
  refine k_lload_n (i := 3) hA dX12_fraction_17 rfl 2 rfl ?_
  refine k_callSl (As := [.long x1, .long x3]) (rest := [.long x3]) hA (m_M_common l G (k_WT G.2.1 a rv tq_1) n x1 x3 hr_4) cd_X12_common wd_1904 (Nat.le_of_ble_eq_true rfl) rfl rfl (Nat.le_of_ble_eq_true rfl) dX12_fraction_18 ?_
  refine k_ldiv hA dX12_fraction_21 hn_5 ?_
  exact k_lret hA hr dX12_fraction_22

def f_M_tells (n : Nat) (x1 : Int32) (x2 : Int32) (x3 : Int32) (t : k_St) : Option (Int64 × k_St) := k_lt (k_sI t 0 0 (0 : Int32)) (fun t_1 => k_lt (f_M_refusesSleep t_1 x1 x2) (fun x4_2 => (if x4_2 ≤ 0 then k_cp (f_M_tellsJust n t_1 x1 x2) (fun r_3 => k_cp (f_M_power n (100 : Int64) x1) (fun r_4 => k_cl (f_M_fraction n r_3 r_4 x3 t_1) (fun r_6 t_5 => some (r_6, t_5)))) else k_lt (f_M_refused x4_2 t_1) (fun q_7 => some (q_7.1.toInt64, q_7.2)))))
theorem m_M_tells (l : Launch) (G : k_G) (a : Nat → Nat) (rv : Value) (n : Nat) (x1 : Int32) (x2 : Int32) (x3 : Int32) (t : k_St) {r : Int64} {t' : k_St} (hf : f_M_tells n x1 x2 x3 t = some (r, t')) : k_CL l G yX12_tells cX12_tells 5 (some .long) 3 (k_WT G.2.1 a rv t) [.ref (a 0), .int x1, .int x2, .int x3] r (k_WT G.2.1 a rv t') := by
  refine k_startL (lv := [(0, .ref (a 0)), (1, .int x1), (2, .int x2), (3, .int x3)]) (by decide +kernel) (Nat.le_of_ble_eq_true rfl) rfl ?_
  intro p e s m args below meth c hA hr
  have hA : k_Amb p s m args meth c cX12_tells 5 "TaleSharesModel" G _ := hA
  unfold f_M_tells at hf
  obtain ⟨t_1, et_1, hf⟩ := k_lt_e hf
  obtain ⟨x4_2, ex4_2, hf⟩ := k_lt_e hf
  refine k_aload_n (i := 0) hA dX12_tells_0 rfl 0 rfl ?_
  refine k_iconst hA dX12_tells_1 kc_i_0 ?_
  refine pt_MT_0_0 hA wd_1248 et_1 dX12_tells_2 ?_
  refine k_aload_n (i := 0) hA dX12_tells_5 rfl 0 rfl ?_
  refine k_iload_n (i := 1) hA dX12_tells_6 rfl 1 rfl ?_
  refine k_iload_n (i := 2) hA dX12_tells_7 rfl 2 rfl ?_
  refine k_callVi (As := [.int x1, .int x2]) (rest := []) hA (m_M_refusesSleep l G a rv t_1 x1 x2 rfl) cd_X12_refusesSleep wd_1888 (hc_MT_0 G.2.1 a rv t_1) rfl rfl (Nat.le_of_ble_eq_true rfl) rfl rfl (Nat.le_of_ble_eq_true rfl) dX12_tells_8 ?_
  refine k_istore (lv' := [(4, .int x4_2), (0, .ref (a 0)), (1, .int x1), (2, .int x2), (3, .int x3)]) hA dX12_tells_11 ex4_2 (Nat.le_of_ble_eq_true rfl) rfl ?_
  refine k_iload hA dX12_tells_13 0 rfl ?_
  refine k_if_le (tgt := 26) hA dX12_tells_15 rfl (fun hc => ?_) (fun hc => ?_)
  · have hf := k_ift hc hf
    obtain ⟨r_3, hr_3, hf⟩ := k_cp_e hf
    obtain ⟨r_4, hr_4, hf⟩ := k_cp_e hf
    obtain ⟨r_6, t_5, ht_5, hf⟩ := k_cl_e hf
    obtain ⟨rfl, rfl⟩ := k_r2 hf
    refine k_aload_n (i := 0) hA dX12_tells_26 rfl 1 rfl ?_
    refine k_aload_n (i := 0) hA dX12_tells_27 rfl 1 rfl ?_
    refine k_iload_n (i := 1) hA dX12_tells_28 rfl 2 rfl ?_
    refine k_iload_n (i := 2) hA dX12_tells_29 rfl 3 rfl ?_
    refine k_callVl (As := [.int x1, .int x2]) (rest := [.ref (a 0)]) hA (m_M_tellsJust l G a rv n t_1 x1 x2 hr_3) cd_X12_tellsJust wd_1892 (hc_MT_0 G.2.1 a rv t_1) rfl rfl (Nat.le_of_ble_eq_true rfl) rfl rfl (Nat.le_of_ble_eq_true rfl) dX12_tells_30 ?_
    refine k_ldc2 hA wd_1896 dX12_tells_33 ?_
    refine k_iload_n (i := 1) hA dX12_tells_36 rfl 2 rfl ?_
    refine k_callSl (As := [.long (100 : Int64), .int x1]) (rest := [.long r_3, .ref (a 0)]) hA (m_M_power l G (k_WT G.2.1 a rv t_1) n (100 : Int64) x1 hr_4) cd_X12_power wd_1897 (Nat.le_of_ble_eq_true rfl) rfl rfl (Nat.le_of_ble_eq_true rfl) dX12_tells_37 ?_
    refine k_iload_n (i := 3) hA dX12_tells_40 rfl 4 rfl ?_
    refine k_callVl (As := [.long r_3, .long r_4, .int x3]) (rest := []) hA (m_M_fraction l G a rv n r_3 r_4 x3 t_1 ht_5) cd_X12_fraction wd_1900 (hc_MT_0 G.2.1 a rv t_1) rfl rfl (Nat.le_of_ble_eq_true rfl) rfl rfl (Nat.le_of_ble_eq_true rfl) dX12_tells_41 ?_
    exact k_lret hA hr dX12_tells_44
  have hf := k_iff hc hf
  obtain ⟨⟨rq_7, tq_7⟩, hq_7, hf⟩ := k_lt_e hf
  dsimp only at hf
  obtain ⟨rfl, rfl⟩ := k_r2 hf
  refine k_aload_n (i := 0) hA dX12_tells_18 rfl 1 rfl ?_
  refine k_iload hA dX12_tells_19 0 rfl ?_
  refine k_callVi (As := [.int x4_2]) (rest := []) hA (m_M_refused l G a rv x4_2 t_1 hq_7.symm) cd_X12_refused wd_1390 (hc_MT_0 G.2.1 a rv t_1) rfl rfl (Nat.le_of_ble_eq_true rfl) rfl rfl (Nat.le_of_ble_eq_true rfl) dX12_tells_21 ?_
  refine k_i2l hA dX12_tells_24 ?_
  exact k_lret hA hr dX12_tells_25

def f_M_mean_29 (n : Nat) : Nat → Int32 → Int32 → Int64 → Int32 → k_St → Option (Int64 × k_St)
  | 0, _, _, _, _, _ => none
  | k + 1, x1, x2, x4, x6, t => (if x1 < x6 then k_cp (f_M_power n (100 : Int64) x1) (fun r_1 => k_cl (f_M_fraction n x4 r_1 x2 t) (fun r_3 t_2 => some (r_3, t_2))) else k_cp (f_M_tellsJust n t x1 x6) (fun r_4 => k_lt (x4 + ((x6.toInt64) * r_4)) (fun x4_5 => k_lt (x6 + (1 : Int32)) (fun x6_6 => f_M_mean_29 n k x1 x2 x4_5 x6_6 t))))
def f_M_mean (n : Nat) (x1 : Int32) (x2 : Int32) (t : k_St) : Option (Int64 × k_St) := k_lt (k_sI t 0 0 (0 : Int32)) (fun t_1 => k_lt (f_M_refusesSleep t_1 x1 (0 : Int32)) (fun x3_2 => (if x3_2 ≤ 0 then f_M_mean_29 n n x1 x2 (0 : Int64) (1 : Int32) t_1 else k_lt (f_M_refused x3_2 t_1) (fun q_3 => some (q_3.1.toInt64, q_3.2)))))
theorem m_M_mean_29 {p : Program} (l : Launch) {e : Env} {s : State} {m : MethodId} {args : Array Value} {below : List Frame} {meth : Method} {c : Code} (G : k_G) (a : Nat → Nat) (rv : Value) (n : Nat) {w0 : va_W} {r : Int64} {t' : k_St} (hA : k_Amb p s m args meth c cX12_mean 7 "TaleSharesModel" G (va_A w0 s.heap.size)) (hr : meth.sig.returnType = (some .long)) : ∀ (k : Nat) (x1 : Int32) (x2 : Int32) (x4 : Int64) (x6 : Int32) (t : k_St), f_M_mean_29 n k x1 x2 x4 x6 t = some (r, t') → k_Go p l e (k_rm 3) s m args below meth c (k_QL G w0 r (k_WT G.2.1 a rv t') args s below) 7 G (va_A w0 s.heap.size) (k_WT G.2.1 a rv t) 29 [(0, .ref (a 0)), (1, .int x1), (2, .int x2), (4, .long x4), (6, .int x6)] [] := by
  intro k
  induction k with
  | zero => intro x1 x2 x4 x6 t hf; cases hf
  | succ k ih =>
  intro x1 x2 x4 x6 t hf
  rw [f_M_mean_29] at hf
  refine k_iload hA dX12_mean_29 4 rfl ?_
  refine k_iload_n (i := 1) hA dX12_mean_31 rfl 1 rfl ?_
  refine k_icmp_gt (tgt := 57) hA dX12_mean_32 rfl (fun hc => ?_) (fun hc => ?_)
  · have hf := k_ift hc hf
    obtain ⟨r_1, hr_1, hf⟩ := k_cp_e hf
    obtain ⟨r_3, t_2, ht_2, hf⟩ := k_cl_e hf
    obtain ⟨rfl, rfl⟩ := k_r2 hf
    refine k_aload_n (i := 0) hA dX12_mean_57 rfl 0 rfl ?_
    refine k_lload hA dX12_mean_58 3 rfl ?_
    refine k_ldc2 hA wd_1896 dX12_mean_60 ?_
    refine k_iload_n (i := 1) hA dX12_mean_63 rfl 1 rfl ?_
    refine k_callSl (As := [.long (100 : Int64), .int x1]) (rest := [.long x4, .ref (a 0)]) hA (m_M_power l G (k_WT G.2.1 a rv t) n (100 : Int64) x1 hr_1) cd_X12_power wd_1897 (Nat.le_of_ble_eq_true rfl) rfl rfl (Nat.le_of_ble_eq_true rfl) dX12_mean_64 ?_
    refine k_iload_n (i := 2) hA dX12_mean_67 rfl 2 rfl ?_
    refine k_callVl (As := [.long x4, .long r_1, .int x2]) (rest := []) hA (m_M_fraction l G a rv n x4 r_1 x2 t ht_2) cd_X12_fraction wd_1900 (hc_MT_0 G.2.1 a rv t) rfl rfl (Nat.le_of_ble_eq_true rfl) rfl rfl (Nat.le_of_ble_eq_true rfl) dX12_mean_68 ?_
    exact k_lret hA hr dX12_mean_71
  have hf := k_iff hc hf
  obtain ⟨r_4, hr_4, hf⟩ := k_cp_e hf
  obtain ⟨x4_5, ex4_5, hf⟩ := k_lt_e hf
  obtain ⟨x6_6, ex6_6, hf⟩ := k_lt_e hf
  refine k_lload hA dX12_mean_35 3 rfl ?_
  refine k_iload hA dX12_mean_37 4 rfl ?_
  refine k_i2l hA dX12_mean_39 ?_
  refine k_aload_n (i := 0) hA dX12_mean_40 rfl 0 rfl ?_
  refine k_iload_n (i := 1) hA dX12_mean_41 rfl 1 rfl ?_
  refine k_iload hA dX12_mean_42 4 rfl ?_
  refine k_callVl (As := [.int x1, .int x6]) (rest := [.long (x6.toInt64), .long x4]) hA (m_M_tellsJust l G a rv n t x1 x6 hr_4) cd_X12_tellsJust wd_1892 (hc_MT_0 G.2.1 a rv t) rfl rfl (Nat.le_of_ble_eq_true rfl) rfl rfl (Nat.le_of_ble_eq_true rfl) dX12_mean_44 ?_
  refine k_lmul hA dX12_mean_47 ?_
  refine k_ladd hA dX12_mean_48 ?_
  refine k_lstore (lv' := [(4, .long x4_5), (0, .ref (a 0)), (1, .int x1), (2, .int x2), (6, .int x6)]) hA dX12_mean_49 ex4_5 (Nat.le_of_ble_eq_true rfl) rfl ?_
  refine k_iinc (j := 4) (v := x6_6) (lv' := [(6, .int x6_6), (4, .long x4_5), (0, .ref (a 0)), (1, .int x1), (2, .int x2)]) hA dX12_mean_51 rfl (k_inc ex6_6 kc_i_1) (Nat.le_of_ble_eq_true rfl) rfl ?_
  refine k_goto (tgt := 29) hA dX12_mean_54 rfl ?_
  refine k_pick (lv' := [(0, .ref (a 0)), (1, .int x1), (2, .int x2), (4, .long x4_5), (6, .int x6_6)]) [2, 3, 4, 1, 0] rfl ?_
  exact ih x1 x2 x4_5 x6_6 t hf

theorem m_M_mean (l : Launch) (G : k_G) (a : Nat → Nat) (rv : Value) (n : Nat) (x1 : Int32) (x2 : Int32) (t : k_St) {r : Int64} {t' : k_St} (hf : f_M_mean n x1 x2 t = some (r, t')) : k_CL l G yX12_mean cX12_mean 7 (some .long) 3 (k_WT G.2.1 a rv t) [.ref (a 0), .int x1, .int x2] r (k_WT G.2.1 a rv t') := by
  refine k_startL (lv := [(0, .ref (a 0)), (1, .int x1), (2, .int x2)]) (by decide +kernel) (Nat.le_of_ble_eq_true rfl) rfl ?_
  intro p e s m args below meth c hA hr
  have hA : k_Amb p s m args meth c cX12_mean 7 "TaleSharesModel" G _ := hA
  unfold f_M_mean at hf
  obtain ⟨t_1, et_1, hf⟩ := k_lt_e hf
  obtain ⟨x3_2, ex3_2, hf⟩ := k_lt_e hf
  refine k_aload_n (i := 0) hA dX12_mean_0 rfl 0 rfl ?_
  refine k_iconst hA dX12_mean_1 kc_i_0 ?_
  refine pt_MT_0_0 hA wd_1248 et_1 dX12_mean_2 ?_
  refine k_aload_n (i := 0) hA dX12_mean_5 rfl 0 rfl ?_
  refine k_iload_n (i := 1) hA dX12_mean_6 rfl 1 rfl ?_
  refine k_iconst hA dX12_mean_7 kc_i_0 ?_
  refine k_callVi (As := [.int x1, .int (0 : Int32)]) (rest := []) hA (m_M_refusesSleep l G a rv t_1 x1 (0 : Int32) rfl) cd_X12_refusesSleep wd_1888 (hc_MT_0 G.2.1 a rv t_1) rfl rfl (Nat.le_of_ble_eq_true rfl) rfl rfl (Nat.le_of_ble_eq_true rfl) dX12_mean_8 ?_
  refine k_istore_n (i := 3) (lv' := [(3, .int x3_2), (0, .ref (a 0)), (1, .int x1), (2, .int x2)]) hA dX12_mean_11 rfl ex3_2 (Nat.le_of_ble_eq_true rfl) rfl ?_
  refine k_iload_n (i := 3) hA dX12_mean_12 rfl 0 rfl ?_
  refine k_if_le (tgt := 23) hA dX12_mean_13 rfl (fun hc => ?_) (fun hc => ?_)
  · have hf := k_ift hc hf
    refine k_lconst hA dX12_mean_23 kc_l_0 ?_
    refine k_lstore (lv' := [(4, .long (0 : Int64)), (3, .int x3_2), (0, .ref (a 0)), (1, .int x1), (2, .int x2)]) hA dX12_mean_24 rfl (Nat.le_of_ble_eq_true rfl) rfl ?_
    refine k_iconst hA dX12_mean_26 kc_i_1 ?_
    refine k_istore (lv' := [(6, .int (1 : Int32)), (4, .long (0 : Int64)), (3, .int x3_2), (0, .ref (a 0)), (1, .int x1), (2, .int x2)]) hA dX12_mean_27 rfl (Nat.le_of_ble_eq_true rfl) rfl ?_
    refine k_pick (lv' := [(0, .ref (a 0)), (1, .int x1), (2, .int x2), (4, .long (0 : Int64)), (6, .int (1 : Int32))]) [3, 4, 5, 1, 0] rfl ?_
    exact m_M_mean_29 l G a rv n hA hr n x1 x2 (0 : Int64) (1 : Int32) t_1 hf
  have hf := k_iff hc hf
  obtain ⟨⟨rq_3, tq_3⟩, hq_3, hf⟩ := k_lt_e hf
  dsimp only at hf
  obtain ⟨rfl, rfl⟩ := k_r2 hf
  refine k_aload_n (i := 0) hA dX12_mean_16 rfl 1 rfl ?_
  refine k_iload_n (i := 3) hA dX12_mean_17 rfl 0 rfl ?_
  refine k_callVi (As := [.int x3_2]) (rest := []) hA (m_M_refused l G a rv x3_2 t_1 hq_3.symm) cd_X12_refused wd_1390 (hc_MT_0 G.2.1 a rv t_1) rfl rfl (Nat.le_of_ble_eq_true rfl) rfl rfl (Nat.le_of_ble_eq_true rfl) dX12_mean_18 ?_
  refine k_i2l hA dX12_mean_21 ?_
  exact k_lret hA hr dX12_mean_22

def f_M_refusesEvenings (x1 : Int32) (x2 : Int32) (x3 : Int32) : Int32 := (if x1 = 0 then (1 : Int32) else (if (k_b (f_M_in x2 (0 : Int32) (65536 : Int32))) = 0 then (2 : Int32) else (if (k_b (f_M_in x3 (0 : Int32) (60 : Int32))) = 0 then (2 : Int32) else (0 : Int32))))
theorem m_M_refusesEvenings (l : Launch) (G : k_G) (a : Nat → Nat) (rv : Value) (t : k_St) (x1 : Int32) (x2 : Int32) (x3 : Int32) {r : Int32} (hf : f_M_refusesEvenings x1 x2 x3 = r) : k_CI l G yX12_refusesEvenings cX12_refusesEvenings 4 (some .int) 2 (k_WT G.2.1 a rv t) [.ref (a 0), .int x1, .int x2, .int x3] r (k_WT G.2.1 a rv t) := by
  refine k_startI (lv := [(0, .ref (a 0)), (1, .int x1), (2, .int x2), (3, .int x3)]) (by decide +kernel) (Nat.le_of_ble_eq_true rfl) rfl ?_
  intro p e s m args below meth c hA hr
  have hA : k_Amb p s m args meth c cX12_refusesEvenings 4 "TaleSharesModel" G _ := hA
  unfold f_M_refusesEvenings at hf
  refine k_iload_n (i := 1) hA dX12_refusesEvenings_0 rfl 1 rfl ?_
  refine k_if_ne (tgt := 8) hA dX12_refusesEvenings_1 rfl (fun hc => ?_) (fun hc => ?_)
  · have hf := k_iff hc hf
    refine k_iload_n (i := 2) hA dX12_refusesEvenings_8 rfl 2 rfl ?_
    refine k_iconst hA dX12_refusesEvenings_9 kc_i_0 ?_
    refine k_ldcw hA wd_1919 dX12_refusesEvenings_10 ?_
    refine k_callSi (As := [.int x2, .int (0 : Int32), .int (65536 : Int32)]) (rest := []) hA (m_M_in l G (k_WT G.2.1 a rv t) x2 (0 : Int32) (65536 : Int32) rfl) cd_X12_in wd_1525 (Nat.le_of_ble_eq_true rfl) rfl rfl (Nat.le_of_ble_eq_true rfl) dX12_refusesEvenings_13 ?_
    refine k_if_eq (tgt := 33) hA dX12_refusesEvenings_16 rfl (fun hc => ?_) (fun hc => ?_)
    · have hf := k_ift hc hf
      subst hf
      refine k_iconst hA dX12_refusesEvenings_33 kc_i_2 ?_
      exact k_iret hA hr rfl dX12_refusesEvenings_34
    have hf := k_iff hc hf
    refine k_iload_n (i := 3) hA dX12_refusesEvenings_19 rfl 3 rfl ?_
    refine k_iconst hA dX12_refusesEvenings_20 kc_i_0 ?_
    refine k_bipush hA dX12_refusesEvenings_21 kc_b_60 ?_
    refine k_callSi (As := [.int x3, .int (0 : Int32), .int (60 : Int32)]) (rest := []) hA (m_M_in l G (k_WT G.2.1 a rv t) x3 (0 : Int32) (60 : Int32) rfl) cd_X12_in wd_1525 (Nat.le_of_ble_eq_true rfl) rfl rfl (Nat.le_of_ble_eq_true rfl) dX12_refusesEvenings_23 ?_
    refine k_if_eq (tgt := 33) hA dX12_refusesEvenings_26 rfl (fun hc => ?_) (fun hc => ?_)
    · have hf := k_ift hc hf
      subst hf
      refine k_iconst hA dX12_refusesEvenings_33 kc_i_2 ?_
      exact k_iret hA hr rfl dX12_refusesEvenings_34
    have hf := k_iff hc hf
    subst hf
    refine k_iconst hA dX12_refusesEvenings_29 kc_i_0 ?_
    refine k_goto (tgt := 34) hA dX12_refusesEvenings_30 rfl ?_
    exact k_iret hA hr rfl dX12_refusesEvenings_34
  have hf := k_ift hc hf
  subst hf
  refine k_iconst hA dX12_refusesEvenings_4 kc_i_1 ?_
  refine k_goto (tgt := 34) hA dX12_refusesEvenings_5 rfl ?_
  exact k_iret hA hr rfl dX12_refusesEvenings_34

def f_M_anEveningX_6 (n : Nat) : Nat → Int32 → Int32 → Int32 → Int32 → k_St → Option (Int32 × k_St)
  | 0, _, _, _, _, _ => none
  | k + 1, x2, x3, x4, x5, t => (if x5 = 0 then some (x4, t) else (if x3 ≤ x4 then some (x4, t) else k_gi (5 : Int32) 6 (k_gi (5 : Int32) 6 (k_lt (k_sI t 3 (5 : Int32).toNatClampNeg (((((75 : Int64) * ((t.1 3 (5 : Int32).toNatClampNeg).toInt64)) + (74 : Int64)) - (((75 : Int64) * ((t.1 3 (5 : Int32).toNatClampNeg).toInt64)) + (74 : Int64)) / (65537 : Int64) * (65537 : Int64)).toInt32)) (fun t_3 => k_gi (5 : Int32) 6 ((if ((t_3.1 3 (5 : Int32).toNatClampNeg) - (t_3.1 3 (5 : Int32).toNatClampNeg) / (100 : Int32) * (100 : Int32)) < (t_3.1 18 1) then (if (0 : Int32) = 0 then f_M_anEveningX_6 n k x2 x3 x4 (0 : Int32) t_3 else k_gi x2 6 (k_gi x4 8 (k_gi x2 6 (k_lt (k_sI t_3 3 x2.toNatClampNeg ((t_3.1 3 x2.toNatClampNeg) ||| ((1 : Int32) <<< ((t_3.1 7 x4.toNatClampNeg) &&& 31)))) (fun t_8 => k_lt (x4 + (1 : Int32)) (fun x4_9 => f_M_anEveningX_6 n k x2 x3 x4_9 (0 : Int32) t_8)))))) else (if (1 : Int32) = 0 then f_M_anEveningX_6 n k x2 x3 x4 (1 : Int32) t_3 else k_gi x2 6 (k_gi x4 8 (k_gi x2 6 (k_lt (k_sI t_3 3 x2.toNatClampNeg ((t_3.1 3 x2.toNatClampNeg) ||| ((1 : Int32) <<< ((t_3.1 7 x4.toNatClampNeg) &&& 31)))) (fun t_13 => k_lt (x4 + (1 : Int32)) (fun x4_14 => f_M_anEveningX_6 n k x2 x3 x4_14 (1 : Int32) t_13)))))))))))))
def f_M_anEveningX (n : Nat) (x2 : Int32) (x3 : Int32) (t : k_St) : Option (Int32 × k_St) := f_M_anEveningX_6 n n x2 x3 (0 : Int32) (1 : Int32) t
theorem m_M_anEveningX_6 {p : Program} (l : Launch) {e : Env} {s : State} {m : MethodId} {args : Array Value} {below : List Frame} {meth : Method} {c : Code} (G : k_G) (a : Nat → Nat) (rv : Value) (n : Nat) {w0 : va_W} {r : Int32} {t' : k_St} (hA : k_Amb p s m args meth c cX12_anEvening 6 "TaleSharesModel" G (va_A w0 s.heap.size)) (hr : meth.sig.returnType = (some .int)) : ∀ (k : Nat) (x2 : Int32) (x3 : Int32) (x4 : Int32) (x5 : Int32) (t : k_St), f_M_anEveningX_6 n k x2 x3 x4 x5 t = some (r, t') → k_Go p l e (k_rm 1) s m args below meth c (k_QI G w0 r (k_WT G.2.1 a rv t') args s below) 6 G (va_A w0 s.heap.size) (k_WT G.2.1 a rv t) 6 [(0, .ref (a 0)), (1, .ref (a 3)), (2, .int x2), (3, .int x3), (4, .int x4), (5, .int x5)] [] := by
  intro k
  induction k with
  | zero => intro x2 x3 x4 x5 t hf; cases hf
  | succ k ih =>
  intro x2 x3 x4 x5 t hf
  rw [f_M_anEveningX_6] at hf
  refine k_iload hA dX12_anEvening_6 5 rfl ?_
  refine k_if_eq (tgt := 89) hA dX12_anEvening_8 rfl (fun hc => ?_) (fun hc => ?_)
  · have hf := k_ift hc hf
    obtain ⟨rfl, rfl⟩ := k_r2 hf
    refine k_iload hA dX12_anEvening_89 4 rfl ?_
    exact k_iret hA hr rfl dX12_anEvening_91
  have hf := k_iff hc hf
  refine k_iload hA dX12_anEvening_11 4 rfl ?_
  refine k_iload_n (i := 3) hA dX12_anEvening_13 rfl 3 rfl ?_
  refine k_icmp_ge (tgt := 89) hA dX12_anEvening_14 rfl (fun hc => ?_) (fun hc => ?_)
  · have hf := k_ift hc hf
    obtain ⟨rfl, rfl⟩ := k_r2 hf
    refine k_iload hA dX12_anEvening_89 4 rfl ?_
    exact k_iret hA hr rfl dX12_anEvening_91
  have hf := k_iff hc hf
  obtain ⟨hi_1, hf⟩ := k_gi_e hf
  obtain ⟨hi_2, hf⟩ := k_gi_e hf
  obtain ⟨t_3, et_3, hf⟩ := k_lt_e hf
  obtain ⟨hi_4, hf⟩ := k_gi_e hf
  refine k_aload_n (i := 1) hA dX12_anEvening_17 rfl 1 rfl ?_
  refine k_iconst hA dX12_anEvening_18 kc_i_5 ?_
  refine k_ldc2 hA wd_1928 dX12_anEvening_19 ?_
  refine k_aload_n (i := 1) hA dX12_anEvening_22 rfl 1 rfl ?_
  refine k_iconst hA dX12_anEvening_23 kc_i_5 ?_
  refine ld_MT_3 hA hi_1 dX12_anEvening_24 ?_
  refine k_i2l hA dX12_anEvening_25 ?_
  refine k_lmul hA dX12_anEvening_26 ?_
  refine k_ldc2 hA wd_1929 dX12_anEvening_27 ?_
  refine k_ladd hA dX12_anEvening_30 ?_
  refine k_ldc2 hA wd_1930 dX12_anEvening_31 ?_
  refine k_lrem hA dX12_anEvening_34 (by decide) ?_
  refine k_l2i hA dX12_anEvening_35 ?_
  refine sr_MT_3 hA hi_2 et_3 dX12_anEvening_36 ?_
  refine k_aload_n (i := 1) hA dX12_anEvening_37 rfl 1 rfl ?_
  refine k_iconst hA dX12_anEvening_38 kc_i_5 ?_
  refine ld_MT_3 hA hi_4 dX12_anEvening_39 ?_
  refine k_bipush hA dX12_anEvening_40 kc_b_100 ?_
  refine k_irem hA dX12_anEvening_42 (by decide) ?_
  refine k_aload_n (i := 0) hA dX12_anEvening_43 rfl 0 rfl ?_
  refine gt_MT_0_3 hA wd_1251 dX12_anEvening_44 ?_
  refine gt_MT_18_1N hA rfl nf_241 dX12_anEvening_47 ?_
  refine k_icmp_lt (tgt := 57) hA dX12_anEvening_50 rfl (fun hc => ?_) (fun hc => ?_)
  · have hf := k_ift hc hf
    refine k_iconst hA dX12_anEvening_57 kc_i_0 ?_
    refine k_istore (lv' := [(5, .int (0 : Int32)), (0, .ref (a 0)), (1, .ref (a 3)), (2, .int x2), (3, .int x3), (4, .int x4)]) hA dX12_anEvening_58 rfl (Nat.le_of_ble_eq_true rfl) rfl ?_
    refine k_iload hA dX12_anEvening_60 0 rfl ?_
    refine k_if_ne (tgt := 68) hA dX12_anEvening_62 rfl (fun hc => ?_) (fun hc => ?_)
    · have hf := k_iff hc hf
      obtain ⟨hi_5, hf⟩ := k_gi_e hf
      obtain ⟨hi_6, hf⟩ := k_gi_e hf
      obtain ⟨hi_7, hf⟩ := k_gi_e hf
      obtain ⟨t_8, et_8, hf⟩ := k_lt_e hf
      obtain ⟨x4_9, ex4_9, hf⟩ := k_lt_e hf
      refine k_aload_n (i := 1) hA dX12_anEvening_68 rfl 2 rfl ?_
      refine k_iload_n (i := 2) hA dX12_anEvening_69 rfl 3 rfl ?_
      refine k_dup2_11 hA dX12_anEvening_70 rfl rfl ?_
      refine ld_MT_3 hA hi_5 dX12_anEvening_71 ?_
      refine k_iconst hA dX12_anEvening_72 kc_i_1 ?_
      refine k_aload_n (i := 0) hA dX12_anEvening_73 rfl 1 rfl ?_
      refine gt_MT_0_26 hA wd_1274 dX12_anEvening_74 ?_
      refine k_iload hA dX12_anEvening_77 5 rfl ?_
      refine ld_MT_7 hA hi_6 dX12_anEvening_79 ?_
      refine k_ishl hA dX12_anEvening_80 ?_
      refine k_ior hA dX12_anEvening_81 ?_
      refine sr_MT_3 hA hi_7 et_8 dX12_anEvening_82 ?_
      refine k_iinc (j := 5) (v := x4_9) (lv' := [(4, .int x4_9), (5, .int (0 : Int32)), (0, .ref (a 0)), (1, .ref (a 3)), (2, .int x2), (3, .int x3)]) hA dX12_anEvening_83 rfl (k_inc ex4_9 kc_i_1) (Nat.le_of_ble_eq_true rfl) rfl ?_
      refine k_goto (tgt := 6) hA dX12_anEvening_86 rfl ?_
      refine k_pick (lv' := [(0, .ref (a 0)), (1, .ref (a 3)), (2, .int x2), (3, .int x3), (4, .int x4_9), (5, .int (0 : Int32))]) [2, 3, 4, 5, 0, 1] rfl ?_
      exact ih x2 x3 x4_9 (0 : Int32) t_8 hf
    have hf := k_ift hc hf
    refine k_goto (tgt := 6) hA dX12_anEvening_65 rfl ?_
    refine k_pick (lv' := [(0, .ref (a 0)), (1, .ref (a 3)), (2, .int x2), (3, .int x3), (4, .int x4), (5, .int (0 : Int32))]) [1, 2, 3, 4, 5, 0] rfl ?_
    exact ih x2 x3 x4 (0 : Int32) t_3 hf
  have hf := k_iff hc hf
  refine k_iconst hA dX12_anEvening_53 kc_i_1 ?_
  refine k_goto (tgt := 58) hA dX12_anEvening_54 rfl ?_
  refine k_istore (lv' := [(5, .int (1 : Int32)), (0, .ref (a 0)), (1, .ref (a 3)), (2, .int x2), (3, .int x3), (4, .int x4)]) hA dX12_anEvening_58 rfl (Nat.le_of_ble_eq_true rfl) rfl ?_
  refine k_iload hA dX12_anEvening_60 0 rfl ?_
  refine k_if_ne (tgt := 68) hA dX12_anEvening_62 rfl (fun hc => ?_) (fun hc => ?_)
  · have hf := k_iff hc hf
    obtain ⟨hi_10, hf⟩ := k_gi_e hf
    obtain ⟨hi_11, hf⟩ := k_gi_e hf
    obtain ⟨hi_12, hf⟩ := k_gi_e hf
    obtain ⟨t_13, et_13, hf⟩ := k_lt_e hf
    obtain ⟨x4_14, ex4_14, hf⟩ := k_lt_e hf
    refine k_aload_n (i := 1) hA dX12_anEvening_68 rfl 2 rfl ?_
    refine k_iload_n (i := 2) hA dX12_anEvening_69 rfl 3 rfl ?_
    refine k_dup2_11 hA dX12_anEvening_70 rfl rfl ?_
    refine ld_MT_3 hA hi_10 dX12_anEvening_71 ?_
    refine k_iconst hA dX12_anEvening_72 kc_i_1 ?_
    refine k_aload_n (i := 0) hA dX12_anEvening_73 rfl 1 rfl ?_
    refine gt_MT_0_26 hA wd_1274 dX12_anEvening_74 ?_
    refine k_iload hA dX12_anEvening_77 5 rfl ?_
    refine ld_MT_7 hA hi_11 dX12_anEvening_79 ?_
    refine k_ishl hA dX12_anEvening_80 ?_
    refine k_ior hA dX12_anEvening_81 ?_
    refine sr_MT_3 hA hi_12 et_13 dX12_anEvening_82 ?_
    refine k_iinc (j := 5) (v := x4_14) (lv' := [(4, .int x4_14), (5, .int (1 : Int32)), (0, .ref (a 0)), (1, .ref (a 3)), (2, .int x2), (3, .int x3)]) hA dX12_anEvening_83 rfl (k_inc ex4_14 kc_i_1) (Nat.le_of_ble_eq_true rfl) rfl ?_
    refine k_goto (tgt := 6) hA dX12_anEvening_86 rfl ?_
    refine k_pick (lv' := [(0, .ref (a 0)), (1, .ref (a 3)), (2, .int x2), (3, .int x3), (4, .int x4_14), (5, .int (1 : Int32))]) [2, 3, 4, 5, 0, 1] rfl ?_
    exact ih x2 x3 x4_14 (1 : Int32) t_13 hf
  have hf := k_ift hc hf
  refine k_goto (tgt := 6) hA dX12_anEvening_65 rfl ?_
  refine k_pick (lv' := [(0, .ref (a 0)), (1, .ref (a 3)), (2, .int x2), (3, .int x3), (4, .int x4), (5, .int (1 : Int32))]) [1, 2, 3, 4, 5, 0] rfl ?_
  exact ih x2 x3 x4 (1 : Int32) t_3 hf

theorem m_M_anEveningX (l : Launch) (G : k_G) (a : Nat → Nat) (rv : Value) (n : Nat) (x2 : Int32) (x3 : Int32) (t : k_St) {r : Int32} {t' : k_St} (hf : f_M_anEveningX n x2 x3 t = some (r, t')) : k_CI l G yX12_anEvening cX12_anEvening 6 (some .int) 1 (k_WT G.2.1 a rv t) [.ref (a 0), .ref (a 3), .int x2, .int x3] r (k_WT G.2.1 a rv t') := by
  refine k_startI (lv := [(0, .ref (a 0)), (1, .ref (a 3)), (2, .int x2), (3, .int x3)]) (by decide +kernel) (Nat.le_of_ble_eq_true rfl) rfl ?_
  intro p e s m args below meth c hA hr
  have hA : k_Amb p s m args meth c cX12_anEvening 6 "TaleSharesModel" G _ := hA
  unfold f_M_anEveningX at hf
  refine k_iconst hA dX12_anEvening_0 kc_i_0 ?_
  refine k_istore (lv' := [(4, .int (0 : Int32)), (0, .ref (a 0)), (1, .ref (a 3)), (2, .int x2), (3, .int x3)]) hA dX12_anEvening_1 rfl (Nat.le_of_ble_eq_true rfl) rfl ?_
  refine k_iconst hA dX12_anEvening_3 kc_i_1 ?_
  refine k_istore (lv' := [(5, .int (1 : Int32)), (4, .int (0 : Int32)), (0, .ref (a 0)), (1, .ref (a 3)), (2, .int x2), (3, .int x3)]) hA dX12_anEvening_4 rfl (Nat.le_of_ble_eq_true rfl) rfl ?_
  refine k_pick (lv' := [(0, .ref (a 0)), (1, .ref (a 3)), (2, .int x2), (3, .int x3), (4, .int (0 : Int32)), (5, .int (1 : Int32))]) [2, 3, 4, 5, 1, 0] rfl ?_
  exact m_M_anEveningX_6 l G a rv n hA hr n x2 x3 (0 : Int32) (1 : Int32) t hf

def f_M_senseInX_4 (n : Nat) : Nat → Int32 → Int32 → k_St → Option (Int32 × k_St)
  | 0, _, _, _ => none
  | k + 1, x2, x3, t => (if (t.1 18 4) ≤ x3 then some (x2, t) else k_gi x3 6 (k_cl (f_M_hasTale n (t.1 3 x3.toNatClampNeg) t) (fun r_3 t_2 => (if (k_b r_3) = 0 then k_lt (x2 ||| (0 : Int32)) (fun x2_4 => k_lt (x3 + (1 : Int32)) (fun x3_5 => f_M_senseInX_4 n k x2_4 x3_5 t_2)) else k_lt (x2 ||| ((1 : Int32) <<< (x3 &&& 31))) (fun x2_6 => k_lt (x3 + (1 : Int32)) (fun x3_7 => f_M_senseInX_4 n k x2_6 x3_7 t_2))))))
def f_M_senseInX (n : Nat) (t : k_St) : Option (Int32 × k_St) := f_M_senseInX_4 n n (0 : Int32) (0 : Int32) t
theorem m_M_senseInX_4 {p : Program} (l : Launch) {e : Env} {s : State} {m : MethodId} {args : Array Value} {below : List Frame} {meth : Method} {c : Code} (G : k_G) (a : Nat → Nat) (rv : Value) (n : Nat) {w0 : va_W} {r : Int32} {t' : k_St} (hA : k_Amb p s m args meth c cX12_senseIn 4 "TaleSharesModel" G (va_A w0 s.heap.size)) (hr : meth.sig.returnType = (some .int)) : ∀ (k : Nat) (x2 : Int32) (x3 : Int32) (t : k_St), f_M_senseInX_4 n k x2 x3 t = some (r, t') → k_Go p l e (k_rm 5) s m args below meth c (k_QI G w0 r (k_WT G.2.1 a rv t') args s below) 4 G (va_A w0 s.heap.size) (k_WT G.2.1 a rv t) 4 [(0, .ref (a 0)), (1, .ref (a 3)), (2, .int x2), (3, .int x3)] [] := by
  intro k
  induction k with
  | zero => intro x2 x3 t hf; cases hf
  | succ k ih =>
  intro x2 x3 t hf
  rw [f_M_senseInX_4] at hf
  refine k_iload_n (i := 3) hA dX12_senseIn_4 rfl 3 rfl ?_
  refine k_aload_n (i := 0) hA dX12_senseIn_5 rfl 0 rfl ?_
  refine gt_MT_0_3 hA wd_1251 dX12_senseIn_6 ?_
  refine gt_MT_18_4N hA rfl nf_277 dX12_senseIn_9 ?_
  refine k_icmp_ge (tgt := 41) hA dX12_senseIn_12 rfl (fun hc => ?_) (fun hc => ?_)
  · have hf := k_ift hc hf
    obtain ⟨rfl, rfl⟩ := k_r2 hf
    refine k_iload_n (i := 2) hA dX12_senseIn_41 rfl 2 rfl ?_
    exact k_iret hA hr rfl dX12_senseIn_42
  have hf := k_iff hc hf
  obtain ⟨hi_1, hf⟩ := k_gi_e hf
  obtain ⟨r_3, t_2, ht_2, hf⟩ := k_cl_e hf
  refine k_iload_n (i := 2) hA dX12_senseIn_15 rfl 2 rfl ?_
  refine k_aload_n (i := 0) hA dX12_senseIn_16 rfl 0 rfl ?_
  refine k_aload_n (i := 1) hA dX12_senseIn_17 rfl 1 rfl ?_
  refine k_iload_n (i := 3) hA dX12_senseIn_18 rfl 3 rfl ?_
  refine ld_MT_3 hA hi_1 dX12_senseIn_19 ?_
  refine k_callVi (As := [.int (t.1 3 x3.toNatClampNeg)]) (rest := [.int x2]) hA (m_M_hasTale l G a rv n (t.1 3 x3.toNatClampNeg) t ht_2) cd_X12_hasTale wd_1629 (hc_MT_0 G.2.1 a rv t) rfl rfl (Nat.le_of_ble_eq_true rfl) rfl rfl (Nat.le_of_ble_eq_true rfl) dX12_senseIn_20 ?_
  refine k_if_eq (tgt := 32) hA dX12_senseIn_23 rfl (fun hc => ?_) (fun hc => ?_)
  · have hf := k_ift hc hf
    obtain ⟨x2_4, ex2_4, hf⟩ := k_lt_e hf
    obtain ⟨x3_5, ex3_5, hf⟩ := k_lt_e hf
    refine k_iconst hA dX12_senseIn_32 kc_i_0 ?_
    refine k_ior hA dX12_senseIn_33 ?_
    refine k_istore_n (i := 2) (lv' := [(2, .int x2_4), (0, .ref (a 0)), (1, .ref (a 3)), (3, .int x3)]) hA dX12_senseIn_34 rfl ex2_4 (Nat.le_of_ble_eq_true rfl) rfl ?_
    refine k_iinc (j := 3) (v := x3_5) (lv' := [(3, .int x3_5), (2, .int x2_4), (0, .ref (a 0)), (1, .ref (a 3))]) hA dX12_senseIn_35 rfl (k_inc ex3_5 kc_i_1) (Nat.le_of_ble_eq_true rfl) rfl ?_
    refine k_goto (tgt := 4) hA dX12_senseIn_38 rfl ?_
    refine k_pick (lv' := [(0, .ref (a 0)), (1, .ref (a 3)), (2, .int x2_4), (3, .int x3_5)]) [2, 3, 1, 0] rfl ?_
    exact ih x2_4 x3_5 t_2 hf
  have hf := k_iff hc hf
  obtain ⟨x2_6, ex2_6, hf⟩ := k_lt_e hf
  obtain ⟨x3_7, ex3_7, hf⟩ := k_lt_e hf
  refine k_iconst hA dX12_senseIn_26 kc_i_1 ?_
  refine k_iload_n (i := 3) hA dX12_senseIn_27 rfl 3 rfl ?_
  refine k_ishl hA dX12_senseIn_28 ?_
  refine k_goto (tgt := 33) hA dX12_senseIn_29 rfl ?_
  refine k_ior hA dX12_senseIn_33 ?_
  refine k_istore_n (i := 2) (lv' := [(2, .int x2_6), (0, .ref (a 0)), (1, .ref (a 3)), (3, .int x3)]) hA dX12_senseIn_34 rfl ex2_6 (Nat.le_of_ble_eq_true rfl) rfl ?_
  refine k_iinc (j := 3) (v := x3_7) (lv' := [(3, .int x3_7), (2, .int x2_6), (0, .ref (a 0)), (1, .ref (a 3))]) hA dX12_senseIn_35 rfl (k_inc ex3_7 kc_i_1) (Nat.le_of_ble_eq_true rfl) rfl ?_
  refine k_goto (tgt := 4) hA dX12_senseIn_38 rfl ?_
  refine k_pick (lv' := [(0, .ref (a 0)), (1, .ref (a 3)), (2, .int x2_6), (3, .int x3_7)]) [2, 3, 1, 0] rfl ?_
  exact ih x2_6 x3_7 t_2 hf

theorem m_M_senseInX (l : Launch) (G : k_G) (a : Nat → Nat) (rv : Value) (n : Nat) (t : k_St) {r : Int32} {t' : k_St} (hf : f_M_senseInX n t = some (r, t')) : k_CI l G yX12_senseIn cX12_senseIn 4 (some .int) 5 (k_WT G.2.1 a rv t) [.ref (a 0), .ref (a 3)] r (k_WT G.2.1 a rv t') := by
  refine k_startI (lv := [(0, .ref (a 0)), (1, .ref (a 3))]) (by decide +kernel) (Nat.le_of_ble_eq_true rfl) rfl ?_
  intro p e s m args below meth c hA hr
  have hA : k_Amb p s m args meth c cX12_senseIn 4 "TaleSharesModel" G _ := hA
  unfold f_M_senseInX at hf
  refine k_iconst hA dX12_senseIn_0 kc_i_0 ?_
  refine k_istore_n (i := 2) (lv' := [(2, .int (0 : Int32)), (0, .ref (a 0)), (1, .ref (a 3))]) hA dX12_senseIn_1 rfl rfl (Nat.le_of_ble_eq_true rfl) rfl ?_
  refine k_iconst hA dX12_senseIn_2 kc_i_0 ?_
  refine k_istore_n (i := 3) (lv' := [(3, .int (0 : Int32)), (2, .int (0 : Int32)), (0, .ref (a 0)), (1, .ref (a 3))]) hA dX12_senseIn_3 rfl rfl (Nat.le_of_ble_eq_true rfl) rfl ?_
  refine k_pick (lv' := [(0, .ref (a 0)), (1, .ref (a 3)), (2, .int (0 : Int32)), (3, .int (0 : Int32))]) [2, 3, 1, 0] rfl ?_
  exact m_M_senseInX_4 l G a rv n hA hr n (0 : Int32) (0 : Int32) t hf

def f_M_evenings1_58 (n : Nat) : Nat → Int32 → Int32 → Int32 → Int32 → k_St → Option k_St
  | 0, _, _, _, _, _ => none
  | k + 1, x2, x3, x4, x5, t => (if x2 < x5 then some t else k_gd (¬ (t.1 18 4) = 0) (k_cl (f_M_anEveningX n ((x5 - (1 : Int32)) - (x5 - (1 : Int32)) / (t.1 18 4) * (t.1 18 4)) x4 t) (fun r_3 t_2 => (if x3 = 0 then k_lt (x5 + (1 : Int32)) (fun x5_4 => f_M_evenings1_58 n k x2 x3 x4 x5_4 t_2) else (if (t_2.1 0 42) = 0 then k_cl (f_M_senseInX n t_2) (fun r_7 t_6 => k_cp (f_M_bits n r_7) (fun r_8 => (if r_8 = (t_6.1 18 4) then k_lt (k_sI t_6 0 42 x5) (fun t_10 => k_lt (x5 + (1 : Int32)) (fun x5_11 => f_M_evenings1_58 n k x2 x3 x4 x5_11 t_10)) else k_lt (x5 + (1 : Int32)) (fun x5_9 => f_M_evenings1_58 n k x2 x3 x4 x5_9 t_6)))) else k_lt (x5 + (1 : Int32)) (fun x5_5 => f_M_evenings1_58 n k x2 x3 x4 x5_5 t_2))))))
def f_M_evenings1_16 (n : Nat) : Nat → Int32 → Int32 → Int32 → Int32 → Int32 → k_St → Option k_St
  | 0, _, _, _, _, _, _ => none
  | k + 1, x1, x2, x3, x4, x5, t => (if (6 : Int32) ≤ x5 then k_gi (5 : Int32) 6 (k_lt (k_sI t 3 (5 : Int32).toNatClampNeg x1) (fun t_2 => k_lt (k_sI t_2 0 42 (0 : Int32)) (fun t_3 => f_M_evenings1_58 n n x2 x3 x4 (1 : Int32) t_3))) else k_gi x5 6 (k_gi x5 6 (k_lt (k_sI t 3 x5.toNatClampNeg (t.1 2 x5.toNatClampNeg)) (fun t_6 => k_lt (x5 + (1 : Int32)) (fun x5_7 => f_M_evenings1_16 n k x1 x2 x3 x4 x5_7 t_6)))))
def f_M_evenings1 (n : Nat) (x1 : Int32) (x2 : Int32) (x3 : Int32) (t : k_St) : Option k_St := k_cl (f_M_longestOf n (f_Mt_all t) t) (fun r_2 t_1 => f_M_evenings1_16 n n x1 x2 x3 r_2 (0 : Int32) t_1)
theorem m_M_evenings1_58 {p : Program} (l : Launch) {e : Env} {s : State} {m : MethodId} {args : Array Value} {below : List Frame} {meth : Method} {c : Code} (G : k_G) (a : Nat → Nat) (rv : Value) (n : Nat) {w0 : va_W} {t' : k_St} (hA : k_Amb p s m args meth c cX12_evenings1 6 "TaleSharesModel" G (va_A w0 s.heap.size)) (hr : meth.sig.returnType = none) : ∀ (k : Nat) (x2 : Int32) (x3 : Int32) (x4 : Int32) (x5 : Int32) (t : k_St), f_M_evenings1_58 n k x2 x3 x4 x5 t = some t' → k_Go p l e (k_rm 6) s m args below meth c (k_QV G w0 (k_WT G.2.1 a rv t') args s below) 6 G (va_A w0 s.heap.size) (k_WT G.2.1 a rv t) 58 [(0, .ref (a 0)), (2, .int x2), (3, .int x3), (4, .int x4), (5, .int x5)] [] := by
  intro k
  induction k with
  | zero => intro x2 x3 x4 x5 t hf; cases hf
  | succ k ih =>
  intro x2 x3 x4 x5 t hf
  rw [f_M_evenings1_58] at hf
  refine k_iload hA dX12_evenings1_58 4 rfl ?_
  refine k_iload_n (i := 2) hA dX12_evenings1_60 rfl 1 rfl ?_
  refine k_icmp_gt (tgt := 131) hA dX12_evenings1_61 rfl (fun hc => ?_) (fun hc => ?_)
  · have hf := k_ift hc hf
    obtain rfl := k_r1 hf
    exact k_vret hA hr dX12_evenings1_131
  have hf := k_iff hc hf
  obtain ⟨hn_1, hf⟩ := k_gd_e hf
  obtain ⟨r_3, t_2, ht_2, hf⟩ := k_cl_e hf
  refine k_aload_n (i := 0) hA dX12_evenings1_64 rfl 0 rfl ?_
  refine k_aload_n (i := 0) hA dX12_evenings1_65 rfl 0 rfl ?_
  refine gt_MT_0_16 hA wd_1264 dX12_evenings1_66 ?_
  refine k_iload hA dX12_evenings1_69 4 rfl ?_
  refine k_iconst hA dX12_evenings1_71 kc_i_1 ?_
  refine k_isub hA dX12_evenings1_72 ?_
  refine k_aload_n (i := 0) hA dX12_evenings1_73 rfl 0 rfl ?_
  refine gt_MT_0_3 hA wd_1251 dX12_evenings1_74 ?_
  refine gt_MT_18_4N hA rfl nf_277 dX12_evenings1_77 ?_
  refine k_irem hA dX12_evenings1_80 hn_1 ?_
  refine k_iload hA dX12_evenings1_81 3 rfl ?_
  refine k_callVi (As := [.ref (a 3), .int ((x5 - (1 : Int32)) - (x5 - (1 : Int32)) / (t.1 18 4) * (t.1 18 4)), .int x4]) (rest := []) hA (m_M_anEveningX l G a rv n ((x5 - (1 : Int32)) - (x5 - (1 : Int32)) / (t.1 18 4) * (t.1 18 4)) x4 t ht_2) cd_X12_anEvening wd_1924 (hc_MT_0 G.2.1 a rv t) rfl rfl (Nat.le_of_ble_eq_true rfl) rfl rfl (Nat.le_of_ble_eq_true rfl) dX12_evenings1_83 ?_
  refine k_pop hA dX12_evenings1_86 rfl ?_
  refine k_iload_n (i := 3) hA dX12_evenings1_87 rfl 2 rfl ?_
  refine k_if_eq (tgt := 125) hA dX12_evenings1_88 rfl (fun hc => ?_) (fun hc => ?_)
  · have hf := k_ift hc hf
    obtain ⟨x5_4, ex5_4, hf⟩ := k_lt_e hf
    refine k_iinc (j := 4) (v := x5_4) (lv' := [(5, .int x5_4), (0, .ref (a 0)), (2, .int x2), (3, .int x3), (4, .int x4)]) hA dX12_evenings1_125 rfl (k_inc ex5_4 kc_i_1) (Nat.le_of_ble_eq_true rfl) rfl ?_
    refine k_goto (tgt := 58) hA dX12_evenings1_128 rfl ?_
    refine k_pick (lv' := [(0, .ref (a 0)), (2, .int x2), (3, .int x3), (4, .int x4), (5, .int x5_4)]) [1, 2, 3, 4, 0] rfl ?_
    exact ih x2 x3 x4 x5_4 t_2 hf
  have hf := k_iff hc hf
  refine k_aload_n (i := 0) hA dX12_evenings1_91 rfl 0 rfl ?_
  refine gt_MT_0_42 hA wd_1290 dX12_evenings1_92 ?_
  refine k_if_ne (tgt := 125) hA dX12_evenings1_95 rfl (fun hc => ?_) (fun hc => ?_)
  · have hf := k_iff hc hf
    obtain ⟨x5_5, ex5_5, hf⟩ := k_lt_e hf
    refine k_iinc (j := 4) (v := x5_5) (lv' := [(5, .int x5_5), (0, .ref (a 0)), (2, .int x2), (3, .int x3), (4, .int x4)]) hA dX12_evenings1_125 rfl (k_inc ex5_5 kc_i_1) (Nat.le_of_ble_eq_true rfl) rfl ?_
    refine k_goto (tgt := 58) hA dX12_evenings1_128 rfl ?_
    refine k_pick (lv' := [(0, .ref (a 0)), (2, .int x2), (3, .int x3), (4, .int x4), (5, .int x5_5)]) [1, 2, 3, 4, 0] rfl ?_
    exact ih x2 x3 x4 x5_5 t_2 hf
  have hf := k_ift hc hf
  obtain ⟨r_7, t_6, ht_6, hf⟩ := k_cl_e hf
  obtain ⟨r_8, hr_8, hf⟩ := k_cp_e hf
  refine k_aload_n (i := 0) hA dX12_evenings1_98 rfl 0 rfl ?_
  refine k_aload_n (i := 0) hA dX12_evenings1_99 rfl 0 rfl ?_
  refine gt_MT_0_16 hA wd_1264 dX12_evenings1_100 ?_
  refine k_callVi (As := [.ref (a 3)]) (rest := []) hA (m_M_senseInX l G a rv n t_2 ht_6) cd_X12_senseIn wd_1744 (hc_MT_0 G.2.1 a rv t_2) rfl rfl (Nat.le_of_ble_eq_true rfl) rfl rfl (Nat.le_of_ble_eq_true rfl) dX12_evenings1_103 ?_
  refine k_callSi (As := [.int r_7]) (rest := []) hA (m_M_bits l G (k_WT G.2.1 a rv t_6) n r_7 hr_8) cd_X12_bits wd_1709 (Nat.le_of_ble_eq_true rfl) rfl rfl (Nat.le_of_ble_eq_true rfl) dX12_evenings1_106 ?_
  refine k_aload_n (i := 0) hA dX12_evenings1_109 rfl 0 rfl ?_
  refine gt_MT_0_3 hA wd_1251 dX12_evenings1_110 ?_
  refine gt_MT_18_4N hA rfl nf_277 dX12_evenings1_113 ?_
  refine k_icmp_ne (tgt := 125) hA dX12_evenings1_116 rfl (fun hc => ?_) (fun hc => ?_)
  · have hf := k_iff hc hf
    obtain ⟨x5_9, ex5_9, hf⟩ := k_lt_e hf
    refine k_iinc (j := 4) (v := x5_9) (lv' := [(5, .int x5_9), (0, .ref (a 0)), (2, .int x2), (3, .int x3), (4, .int x4)]) hA dX12_evenings1_125 rfl (k_inc ex5_9 kc_i_1) (Nat.le_of_ble_eq_true rfl) rfl ?_
    refine k_goto (tgt := 58) hA dX12_evenings1_128 rfl ?_
    refine k_pick (lv' := [(0, .ref (a 0)), (2, .int x2), (3, .int x3), (4, .int x4), (5, .int x5_9)]) [1, 2, 3, 4, 0] rfl ?_
    exact ih x2 x3 x4 x5_9 t_6 hf
  have hf := k_ift hc hf
  obtain ⟨t_10, et_10, hf⟩ := k_lt_e hf
  obtain ⟨x5_11, ex5_11, hf⟩ := k_lt_e hf
  refine k_aload_n (i := 0) hA dX12_evenings1_119 rfl 0 rfl ?_
  refine k_iload hA dX12_evenings1_120 4 rfl ?_
  refine pt_MT_0_42 hA wd_1290 et_10 dX12_evenings1_122 ?_
  refine k_iinc (j := 4) (v := x5_11) (lv' := [(5, .int x5_11), (0, .ref (a 0)), (2, .int x2), (3, .int x3), (4, .int x4)]) hA dX12_evenings1_125 rfl (k_inc ex5_11 kc_i_1) (Nat.le_of_ble_eq_true rfl) rfl ?_
  refine k_goto (tgt := 58) hA dX12_evenings1_128 rfl ?_
  refine k_pick (lv' := [(0, .ref (a 0)), (2, .int x2), (3, .int x3), (4, .int x4), (5, .int x5_11)]) [1, 2, 3, 4, 0] rfl ?_
  exact ih x2 x3 x4 x5_11 t_10 hf

theorem m_M_evenings1_16 {p : Program} (l : Launch) {e : Env} {s : State} {m : MethodId} {args : Array Value} {below : List Frame} {meth : Method} {c : Code} (G : k_G) (a : Nat → Nat) (rv : Value) (n : Nat) {w0 : va_W} {t' : k_St} (hA : k_Amb p s m args meth c cX12_evenings1 6 "TaleSharesModel" G (va_A w0 s.heap.size)) (hr : meth.sig.returnType = none) : ∀ (k : Nat) (x1 : Int32) (x2 : Int32) (x3 : Int32) (x4 : Int32) (x5 : Int32) (t : k_St), f_M_evenings1_16 n k x1 x2 x3 x4 x5 t = some t' → k_Go p l e (k_rm 6) s m args below meth c (k_QV G w0 (k_WT G.2.1 a rv t') args s below) 6 G (va_A w0 s.heap.size) (k_WT G.2.1 a rv t) 16 [(0, .ref (a 0)), (1, .int x1), (2, .int x2), (3, .int x3), (4, .int x4), (5, .int x5)] [] := by
  intro k
  induction k with
  | zero => intro x1 x2 x3 x4 x5 t hf; cases hf
  | succ k ih =>
  intro x1 x2 x3 x4 x5 t hf
  rw [f_M_evenings1_16] at hf
  refine k_iload hA dX12_evenings1_16 5 rfl ?_
  refine k_bipush hA dX12_evenings1_18 kc_b_6 ?_
  refine k_icmp_ge (tgt := 43) hA dX12_evenings1_20 rfl (fun hc => ?_) (fun hc => ?_)
  · have hf := k_ift hc hf
    obtain ⟨hi_1, hf⟩ := k_gi_e hf
    obtain ⟨t_2, et_2, hf⟩ := k_lt_e hf
    obtain ⟨t_3, et_3, hf⟩ := k_lt_e hf
    refine k_aload_n (i := 0) hA dX12_evenings1_43 rfl 0 rfl ?_
    refine gt_MT_0_16 hA wd_1264 dX12_evenings1_44 ?_
    refine k_iconst hA dX12_evenings1_47 kc_i_5 ?_
    refine k_iload_n (i := 1) hA dX12_evenings1_48 rfl 1 rfl ?_
    refine sr_MT_3 hA hi_1 et_2 dX12_evenings1_49 ?_
    refine k_aload_n (i := 0) hA dX12_evenings1_50 rfl 0 rfl ?_
    refine k_iconst hA dX12_evenings1_51 kc_i_0 ?_
    refine pt_MT_0_42 hA wd_1290 et_3 dX12_evenings1_52 ?_
    refine k_iconst hA dX12_evenings1_55 kc_i_1 ?_
    refine k_istore (lv' := [(5, .int (1 : Int32)), (0, .ref (a 0)), (1, .int x1), (2, .int x2), (3, .int x3), (4, .int x4)]) hA dX12_evenings1_56 rfl (Nat.le_of_ble_eq_true rfl) rfl ?_
    refine k_pick (lv' := [(0, .ref (a 0)), (2, .int x2), (3, .int x3), (4, .int x4), (5, .int (1 : Int32))]) [1, 3, 4, 5, 0] rfl ?_
    exact m_M_evenings1_58 l G a rv n hA hr n x2 x3 x4 (1 : Int32) t_3 hf
  have hf := k_iff hc hf
  obtain ⟨hi_4, hf⟩ := k_gi_e hf
  obtain ⟨hi_5, hf⟩ := k_gi_e hf
  obtain ⟨t_6, et_6, hf⟩ := k_lt_e hf
  obtain ⟨x5_7, ex5_7, hf⟩ := k_lt_e hf
  refine k_aload_n (i := 0) hA dX12_evenings1_23 rfl 0 rfl ?_
  refine gt_MT_0_16 hA wd_1264 dX12_evenings1_24 ?_
  refine k_iload hA dX12_evenings1_27 5 rfl ?_
  refine k_aload_n (i := 0) hA dX12_evenings1_29 rfl 0 rfl ?_
  refine gt_MT_0_15 hA wd_1263 dX12_evenings1_30 ?_
  refine k_iload hA dX12_evenings1_33 5 rfl ?_
  refine ld_MT_2 hA hi_4 dX12_evenings1_35 ?_
  refine sr_MT_3 hA hi_5 et_6 dX12_evenings1_36 ?_
  refine k_iinc (j := 5) (v := x5_7) (lv' := [(5, .int x5_7), (0, .ref (a 0)), (1, .int x1), (2, .int x2), (3, .int x3), (4, .int x4)]) hA dX12_evenings1_37 rfl (k_inc ex5_7 kc_i_1) (Nat.le_of_ble_eq_true rfl) rfl ?_
  refine k_goto (tgt := 16) hA dX12_evenings1_40 rfl ?_
  refine k_pick (lv' := [(0, .ref (a 0)), (1, .int x1), (2, .int x2), (3, .int x3), (4, .int x4), (5, .int x5_7)]) [1, 2, 3, 4, 5, 0] rfl ?_
  exact ih x1 x2 x3 x4 x5_7 t_6 hf

theorem m_M_evenings1 (l : Launch) (G : k_G) (a : Nat → Nat) (rv : Value) (n : Nat) (x1 : Int32) (x2 : Int32) (x3 : Int32) (t : k_St) {t' : k_St} (hf : f_M_evenings1 n x1 x2 x3 t = some t') : k_CV l G yX12_evenings1 cX12_evenings1 6 none 6 (k_WT G.2.1 a rv t) [.ref (a 0), .int x1, .int x2, .int x3] (k_WT G.2.1 a rv t') := by
  refine k_startV (lv := [(0, .ref (a 0)), (1, .int x1), (2, .int x2), (3, .int x3)]) (by decide +kernel) (Nat.le_of_ble_eq_true rfl) rfl ?_
  intro p e s m args below meth c hA hr
  have hA : k_Amb p s m args meth c cX12_evenings1 6 "TaleSharesModel" G _ := hA
  unfold f_M_evenings1 at hf
  obtain ⟨r_2, t_1, ht_1, hf⟩ := k_cl_e hf
  refine k_aload_n (i := 0) hA dX12_evenings1_0 rfl 0 rfl ?_
  refine k_aload_n (i := 0) hA dX12_evenings1_1 rfl 0 rfl ?_
  refine gt_MT_0_3 hA wd_1251 dX12_evenings1_2 ?_
  refine k_callVi (As := []) (rest := [.ref (a 0)]) hA (m_Mt_all l G a rv t rfl) cd_X11_all wd_1673 (hc_MT_18 G.2.1 a rv t) rfl rfl (Nat.le_of_ble_eq_true rfl) rfl rfl (Nat.le_of_ble_eq_true rfl) dX12_evenings1_5 ?_
  refine k_callVi (As := [.int (f_Mt_all t)]) (rest := []) hA (m_M_longestOf l G a rv n (f_Mt_all t) t ht_1) cd_X12_longestOf wd_1685 (hc_MT_0 G.2.1 a rv t) rfl rfl (Nat.le_of_ble_eq_true rfl) rfl rfl (Nat.le_of_ble_eq_true rfl) dX12_evenings1_8 ?_
  refine k_istore (lv' := [(4, .int r_2), (0, .ref (a 0)), (1, .int x1), (2, .int x2), (3, .int x3)]) hA dX12_evenings1_11 rfl (Nat.le_of_ble_eq_true rfl) rfl ?_
  refine k_iconst hA dX12_evenings1_13 kc_i_0 ?_
  refine k_istore (lv' := [(5, .int (0 : Int32)), (4, .int r_2), (0, .ref (a 0)), (1, .int x1), (2, .int x2), (3, .int x3)]) hA dX12_evenings1_14 rfl (Nat.le_of_ble_eq_true rfl) rfl ?_
  refine k_pick (lv' := [(0, .ref (a 0)), (1, .int x1), (2, .int x2), (3, .int x3), (4, .int r_2), (5, .int (0 : Int32))]) [2, 3, 4, 5, 1, 0] rfl ?_
  exact m_M_evenings1_16 l G a rv n hA hr n x1 x2 x3 r_2 (0 : Int32) t_1 hf

def f_M_evenings (n : Nat) (x1 : Int32) (x2 : Int32) (x3 : Int32) (t : k_St) : Option (Int32 × k_St) := k_lt (k_sI t 0 0 (0 : Int32)) (fun t_1 => k_lt (f_M_refusesEvenings (k_b (f_M_isHouse t_1 x1)) x2 x3) (fun x4_2 => (if x4_2 ≤ 0 then k_cv (f_M_evenings1 n x2 x3 (0 : Int32) t_1) (fun t_3 => k_gi x1 6 (k_lt (f_M_good (t_3.1 3 x1.toNatClampNeg) t_3) (fun q_5 => some (q_5.1, q_5.2)))) else k_lt (f_M_refused x4_2 t_1) (fun q_6 => some (q_6.1, q_6.2)))))
theorem m_M_evenings (l : Launch) (G : k_G) (a : Nat → Nat) (rv : Value) (n : Nat) (x1 : Int32) (x2 : Int32) (x3 : Int32) (t : k_St) {r : Int32} {t' : k_St} (hf : f_M_evenings n x1 x2 x3 t = some (r, t')) : k_CI l G yX12_evenings cX12_evenings 5 (some .int) 7 (k_WT G.2.1 a rv t) [.ref (a 0), .int x1, .int x2, .int x3] r (k_WT G.2.1 a rv t') := by
  refine k_startI (lv := [(0, .ref (a 0)), (1, .int x1), (2, .int x2), (3, .int x3)]) (by decide +kernel) (Nat.le_of_ble_eq_true rfl) rfl ?_
  intro p e s m args below meth c hA hr
  have hA : k_Amb p s m args meth c cX12_evenings 5 "TaleSharesModel" G _ := hA
  unfold f_M_evenings at hf
  obtain ⟨t_1, et_1, hf⟩ := k_lt_e hf
  obtain ⟨x4_2, ex4_2, hf⟩ := k_lt_e hf
  refine k_aload_n (i := 0) hA dX12_evenings_0 rfl 0 rfl ?_
  refine k_iconst hA dX12_evenings_1 kc_i_0 ?_
  refine pt_MT_0_0 hA wd_1248 et_1 dX12_evenings_2 ?_
  refine k_aload_n (i := 0) hA dX12_evenings_5 rfl 0 rfl ?_
  refine k_aload_n (i := 0) hA dX12_evenings_6 rfl 0 rfl ?_
  refine k_iload_n (i := 1) hA dX12_evenings_7 rfl 1 rfl ?_
  refine k_callVi (As := [.int x1]) (rest := [.ref (a 0)]) hA (m_M_isHouse l G a rv t_1 x1 rfl) cd_X12_isHouse wd_1625 (hc_MT_0 G.2.1 a rv t_1) rfl rfl (Nat.le_of_ble_eq_true rfl) rfl rfl (Nat.le_of_ble_eq_true rfl) dX12_evenings_8 ?_
  refine k_iload_n (i := 2) hA dX12_evenings_11 rfl 2 rfl ?_
  refine k_iload_n (i := 3) hA dX12_evenings_12 rfl 3 rfl ?_
  refine k_callVi (As := [.int (k_b (f_M_isHouse t_1 x1)), .int x2, .int x3]) (rest := []) hA (m_M_refusesEvenings l G a rv t_1 (k_b (f_M_isHouse t_1 x1)) x2 x3 rfl) cd_X12_refusesEvenings wd_1915 (hc_MT_0 G.2.1 a rv t_1) rfl rfl (Nat.le_of_ble_eq_true rfl) rfl rfl (Nat.le_of_ble_eq_true rfl) dX12_evenings_13 ?_
  refine k_istore (lv' := [(4, .int x4_2), (0, .ref (a 0)), (1, .int x1), (2, .int x2), (3, .int x3)]) hA dX12_evenings_16 ex4_2 (Nat.le_of_ble_eq_true rfl) rfl ?_
  refine k_iload hA dX12_evenings_18 0 rfl ?_
  refine k_if_le (tgt := 30) hA dX12_evenings_20 rfl (fun hc => ?_) (fun hc => ?_)
  · have hf := k_ift hc hf
    obtain ⟨t_3, ht_3, hf⟩ := k_cv_e hf
    obtain ⟨hi_4, hf⟩ := k_gi_e hf
    obtain ⟨⟨rq_5, tq_5⟩, hq_5, hf⟩ := k_lt_e hf
    dsimp only at hf
    obtain ⟨rfl, rfl⟩ := k_r2 hf
    refine k_aload_n (i := 0) hA dX12_evenings_30 rfl 1 rfl ?_
    refine k_iload_n (i := 2) hA dX12_evenings_31 rfl 3 rfl ?_
    refine k_iload_n (i := 3) hA dX12_evenings_32 rfl 4 rfl ?_
    refine k_iconst hA dX12_evenings_33 kc_i_0 ?_
    refine k_callVv (As := [.int x2, .int x3, .int (0 : Int32)]) (rest := []) hA (m_M_evenings1 l G a rv n x2 x3 (0 : Int32) t_1 ht_3) cd_X12_evenings1 wd_1920 (hc_MT_0 G.2.1 a rv t_1) rfl rfl (Nat.le_of_ble_eq_true rfl) rfl rfl (Nat.le_of_ble_eq_true rfl) dX12_evenings_34 ?_
    refine k_aload_n (i := 0) hA dX12_evenings_37 rfl 1 rfl ?_
    refine k_aload_n (i := 0) hA dX12_evenings_38 rfl 1 rfl ?_
    refine gt_MT_0_16 hA wd_1264 dX12_evenings_39 ?_
    refine k_iload_n (i := 1) hA dX12_evenings_42 rfl 2 rfl ?_
    refine ld_MT_3 hA hi_4 dX12_evenings_43 ?_
    refine k_callVi (As := [.int (t_3.1 3 x1.toNatClampNeg)]) (rest := []) hA (m_M_good l G a rv (t_3.1 3 x1.toNatClampNeg) t_3 hq_5.symm) cd_X12_good wd_1601 (hc_MT_0 G.2.1 a rv t_3) rfl rfl (Nat.le_of_ble_eq_true rfl) rfl rfl (Nat.le_of_ble_eq_true rfl) dX12_evenings_44 ?_
    exact k_iret hA hr rfl dX12_evenings_47
  have hf := k_iff hc hf
  obtain ⟨⟨rq_6, tq_6⟩, hq_6, hf⟩ := k_lt_e hf
  dsimp only at hf
  obtain ⟨rfl, rfl⟩ := k_r2 hf
  refine k_aload_n (i := 0) hA dX12_evenings_23 rfl 1 rfl ?_
  refine k_iload hA dX12_evenings_24 0 rfl ?_
  refine k_callVi (As := [.int x4_2]) (rest := []) hA (m_M_refused l G a rv x4_2 t_1 hq_6.symm) cd_X12_refused wd_1390 (hc_MT_0 G.2.1 a rv t_1) rfl rfl (Nat.le_of_ble_eq_true rfl) rfl rfl (Nat.le_of_ble_eq_true rfl) dX12_evenings_26 ?_
  exact k_iret hA hr rfl dX12_evenings_29

def f_M_allSense (n : Nat) (x1 : Int32) (x2 : Int32) (t : k_St) : Option (Int32 × k_St) := k_lt (k_sI t 0 0 (0 : Int32)) (fun t_1 => k_lt (f_M_refusesEvenings (k_b (f_M_isHouse t_1 (0 : Int32))) x1 x2) (fun x3_2 => (if x3_2 ≤ 0 then k_cv (f_M_evenings1 n x1 x2 (1 : Int32) t_1) (fun t_3 => k_lt (f_M_good (t_3.1 0 42) t_3) (fun q_4 => some (q_4.1, q_4.2))) else k_lt (f_M_refused x3_2 t_1) (fun q_5 => some (q_5.1, q_5.2)))))
theorem m_M_allSense (l : Launch) (G : k_G) (a : Nat → Nat) (rv : Value) (n : Nat) (x1 : Int32) (x2 : Int32) (t : k_St) {r : Int32} {t' : k_St} (hf : f_M_allSense n x1 x2 t = some (r, t')) : k_CI l G yX12_allSense cX12_allSense 4 (some .int) 7 (k_WT G.2.1 a rv t) [.ref (a 0), .int x1, .int x2] r (k_WT G.2.1 a rv t') := by
  refine k_startI (lv := [(0, .ref (a 0)), (1, .int x1), (2, .int x2)]) (by decide +kernel) (Nat.le_of_ble_eq_true rfl) rfl ?_
  intro p e s m args below meth c hA hr
  have hA : k_Amb p s m args meth c cX12_allSense 4 "TaleSharesModel" G _ := hA
  unfold f_M_allSense at hf
  obtain ⟨t_1, et_1, hf⟩ := k_lt_e hf
  obtain ⟨x3_2, ex3_2, hf⟩ := k_lt_e hf
  refine k_aload_n (i := 0) hA dX12_allSense_0 rfl 0 rfl ?_
  refine k_iconst hA dX12_allSense_1 kc_i_0 ?_
  refine pt_MT_0_0 hA wd_1248 et_1 dX12_allSense_2 ?_
  refine k_aload_n (i := 0) hA dX12_allSense_5 rfl 0 rfl ?_
  refine k_aload_n (i := 0) hA dX12_allSense_6 rfl 0 rfl ?_
  refine k_iconst hA dX12_allSense_7 kc_i_0 ?_
  refine k_callVi (As := [.int (0 : Int32)]) (rest := [.ref (a 0)]) hA (m_M_isHouse l G a rv t_1 (0 : Int32) rfl) cd_X12_isHouse wd_1625 (hc_MT_0 G.2.1 a rv t_1) rfl rfl (Nat.le_of_ble_eq_true rfl) rfl rfl (Nat.le_of_ble_eq_true rfl) dX12_allSense_8 ?_
  refine k_iload_n (i := 1) hA dX12_allSense_11 rfl 1 rfl ?_
  refine k_iload_n (i := 2) hA dX12_allSense_12 rfl 2 rfl ?_
  refine k_callVi (As := [.int (k_b (f_M_isHouse t_1 (0 : Int32))), .int x1, .int x2]) (rest := []) hA (m_M_refusesEvenings l G a rv t_1 (k_b (f_M_isHouse t_1 (0 : Int32))) x1 x2 rfl) cd_X12_refusesEvenings wd_1915 (hc_MT_0 G.2.1 a rv t_1) rfl rfl (Nat.le_of_ble_eq_true rfl) rfl rfl (Nat.le_of_ble_eq_true rfl) dX12_allSense_13 ?_
  refine k_istore_n (i := 3) (lv' := [(3, .int x3_2), (0, .ref (a 0)), (1, .int x1), (2, .int x2)]) hA dX12_allSense_16 rfl ex3_2 (Nat.le_of_ble_eq_true rfl) rfl ?_
  refine k_iload_n (i := 3) hA dX12_allSense_17 rfl 0 rfl ?_
  refine k_if_le (tgt := 27) hA dX12_allSense_18 rfl (fun hc => ?_) (fun hc => ?_)
  · have hf := k_ift hc hf
    obtain ⟨t_3, ht_3, hf⟩ := k_cv_e hf
    obtain ⟨⟨rq_4, tq_4⟩, hq_4, hf⟩ := k_lt_e hf
    dsimp only at hf
    obtain ⟨rfl, rfl⟩ := k_r2 hf
    refine k_aload_n (i := 0) hA dX12_allSense_27 rfl 1 rfl ?_
    refine k_iload_n (i := 1) hA dX12_allSense_28 rfl 2 rfl ?_
    refine k_iload_n (i := 2) hA dX12_allSense_29 rfl 3 rfl ?_
    refine k_iconst hA dX12_allSense_30 kc_i_1 ?_
    refine k_callVv (As := [.int x1, .int x2, .int (1 : Int32)]) (rest := []) hA (m_M_evenings1 l G a rv n x1 x2 (1 : Int32) t_1 ht_3) cd_X12_evenings1 wd_1920 (hc_MT_0 G.2.1 a rv t_1) rfl rfl (Nat.le_of_ble_eq_true rfl) rfl rfl (Nat.le_of_ble_eq_true rfl) dX12_allSense_31 ?_
    refine k_aload_n (i := 0) hA dX12_allSense_34 rfl 1 rfl ?_
    refine k_aload_n (i := 0) hA dX12_allSense_35 rfl 1 rfl ?_
    refine gt_MT_0_42 hA wd_1290 dX12_allSense_36 ?_
    refine k_callVi (As := [.int (t_3.1 0 42)]) (rest := []) hA (m_M_good l G a rv (t_3.1 0 42) t_3 hq_4.symm) cd_X12_good wd_1601 (hc_MT_0 G.2.1 a rv t_3) rfl rfl (Nat.le_of_ble_eq_true rfl) rfl rfl (Nat.le_of_ble_eq_true rfl) dX12_allSense_39 ?_
    exact k_iret hA hr rfl dX12_allSense_42
  have hf := k_iff hc hf
  obtain ⟨⟨rq_5, tq_5⟩, hq_5, hf⟩ := k_lt_e hf
  dsimp only at hf
  obtain ⟨rfl, rfl⟩ := k_r2 hf
  refine k_aload_n (i := 0) hA dX12_allSense_21 rfl 1 rfl ?_
  refine k_iload_n (i := 3) hA dX12_allSense_22 rfl 0 rfl ?_
  refine k_callVi (As := [.int x3_2]) (rest := []) hA (m_M_refused l G a rv x3_2 t_1 hq_5.symm) cd_X12_refused wd_1390 (hc_MT_0 G.2.1 a rv t_1) rfl rfl (Nat.le_of_ble_eq_true rfl) rfl rfl (Nat.le_of_ble_eq_true rfl) dX12_allSense_23 ?_
  exact k_iret hA hr rfl dX12_allSense_26

def f_M_remembers_50 (n : Nat) : Nat → Int32 → k_St → Option k_St
  | 0, _, _ => none
  | k + 1, x1, t => (if (6 : Int32) ≤ x1 then k_lt (k_sI t 0 19 ((t.1 0 19) + (1 : Int32))) (fun t_1 => some t_1) else k_gi x1 6 (k_gi (((6 : Int32) * (t.1 0 19)) + x1) 96 (k_lt (k_sI t 4 (((6 : Int32) * (t.1 0 19)) + x1).toNatClampNeg (t.1 2 x1.toNatClampNeg)) (fun t_4 => k_lt (x1 + (1 : Int32)) (fun x1_5 => f_M_remembers_50 n k x1_5 t_4)))))
def f_M_remembers_11 (n : Nat) : Nat → Int32 → k_St → Option k_St
  | 0, _, _ => none
  | k + 1, x1, t => (if (90 : Int32) ≤ x1 then k_lt (k_sI t 0 19 ((t.1 0 19) - (1 : Int32))) (fun t_1 => f_M_remembers_50 n n (0 : Int32) t_1) else k_gi (x1 + (6 : Int32)) 96 (k_gi x1 96 (k_lt (k_sI t 4 x1.toNatClampNeg (t.1 4 (x1 + (6 : Int32)).toNatClampNeg)) (fun t_4 => k_lt (x1 + (1 : Int32)) (fun x1_5 => f_M_remembers_11 n k x1_5 t_4)))))
def f_M_remembers (n : Nat) (t : k_St) : Option k_St := (if (t.1 0 19) = (16 : Int32) then f_M_remembers_11 n n (0 : Int32) t else f_M_remembers_50 n n (0 : Int32) t)
theorem m_M_remembers_50 {p : Program} (l : Launch) {e : Env} {s : State} {m : MethodId} {args : Array Value} {below : List Frame} {meth : Method} {c : Code} (G : k_G) (a : Nat → Nat) (rv : Value) (n : Nat) {w0 : va_W} {t' : k_St} (hA : k_Amb p s m args meth c cX12_remembers 2 "TaleSharesModel" G (va_A w0 s.heap.size)) (hr : meth.sig.returnType = none) : ∀ (k : Nat) (x1 : Int32) (t : k_St), f_M_remembers_50 n k x1 t = some t' → k_Go p l e (k_rm 1) s m args below meth c (k_QV G w0 (k_WT G.2.1 a rv t') args s below) 2 G (va_A w0 s.heap.size) (k_WT G.2.1 a rv t) 50 [(0, .ref (a 0)), (1, .int x1)] [] := by
  intro k
  induction k with
  | zero => intro x1 t hf; cases hf
  | succ k ih =>
  intro x1 t hf
  rw [f_M_remembers_50] at hf
  refine k_iload_n (i := 1) hA dX12_remembers_50 rfl 1 rfl ?_
  refine k_bipush hA dX12_remembers_51 kc_b_6 ?_
  refine k_icmp_ge (tgt := 82) hA dX12_remembers_53 rfl (fun hc => ?_) (fun hc => ?_)
  · have hf := k_ift hc hf
    obtain ⟨t_1, et_1, hf⟩ := k_lt_e hf
    obtain rfl := k_r1 hf
    refine k_aload_n (i := 0) hA dX12_remembers_82 rfl 0 rfl ?_
    refine k_dup hA dX12_remembers_83 rfl ?_
    refine gt_MT_0_19 hA wd_1267 dX12_remembers_84 ?_
    refine k_iconst hA dX12_remembers_87 kc_i_1 ?_
    refine k_iadd hA dX12_remembers_88 ?_
    refine pt_MT_0_19 hA wd_1267 et_1 dX12_remembers_89 ?_
    exact k_vret hA hr dX12_remembers_92
  have hf := k_iff hc hf
  obtain ⟨hi_2, hf⟩ := k_gi_e hf
  obtain ⟨hi_3, hf⟩ := k_gi_e hf
  obtain ⟨t_4, et_4, hf⟩ := k_lt_e hf
  obtain ⟨x1_5, ex1_5, hf⟩ := k_lt_e hf
  refine k_aload_n (i := 0) hA dX12_remembers_56 rfl 0 rfl ?_
  refine gt_MT_0_17 hA wd_1265 dX12_remembers_57 ?_
  refine k_bipush hA dX12_remembers_60 kc_b_6 ?_
  refine k_aload_n (i := 0) hA dX12_remembers_62 rfl 0 rfl ?_
  refine gt_MT_0_19 hA wd_1267 dX12_remembers_63 ?_
  refine k_imul hA dX12_remembers_66 ?_
  refine k_iload_n (i := 1) hA dX12_remembers_67 rfl 1 rfl ?_
  refine k_iadd hA dX12_remembers_68 ?_
  refine k_aload_n (i := 0) hA dX12_remembers_69 rfl 0 rfl ?_
  refine gt_MT_0_15 hA wd_1263 dX12_remembers_70 ?_
  refine k_iload_n (i := 1) hA dX12_remembers_73 rfl 1 rfl ?_
  refine ld_MT_2 hA hi_2 dX12_remembers_74 ?_
  refine sr_MT_4 hA hi_3 et_4 dX12_remembers_75 ?_
  refine k_iinc (j := 1) (v := x1_5) (lv' := [(1, .int x1_5), (0, .ref (a 0))]) hA dX12_remembers_76 rfl (k_inc ex1_5 kc_i_1) (Nat.le_of_ble_eq_true rfl) rfl ?_
  refine k_goto (tgt := 50) hA dX12_remembers_79 rfl ?_
  refine k_pick (lv' := [(0, .ref (a 0)), (1, .int x1_5)]) [1, 0] rfl ?_
  exact ih x1_5 t_4 hf

theorem m_M_remembers_11 {p : Program} (l : Launch) {e : Env} {s : State} {m : MethodId} {args : Array Value} {below : List Frame} {meth : Method} {c : Code} (G : k_G) (a : Nat → Nat) (rv : Value) (n : Nat) {w0 : va_W} {t' : k_St} (hA : k_Amb p s m args meth c cX12_remembers 2 "TaleSharesModel" G (va_A w0 s.heap.size)) (hr : meth.sig.returnType = none) : ∀ (k : Nat) (x1 : Int32) (t : k_St), f_M_remembers_11 n k x1 t = some t' → k_Go p l e (k_rm 1) s m args below meth c (k_QV G w0 (k_WT G.2.1 a rv t') args s below) 2 G (va_A w0 s.heap.size) (k_WT G.2.1 a rv t) 11 [(0, .ref (a 0)), (1, .int x1)] [] := by
  intro k
  induction k with
  | zero => intro x1 t hf; cases hf
  | succ k ih =>
  intro x1 t hf
  rw [f_M_remembers_11] at hf
  refine k_iload_n (i := 1) hA dX12_remembers_11 rfl 1 rfl ?_
  refine k_bipush hA dX12_remembers_12 kc_b_90 ?_
  refine k_icmp_ge (tgt := 38) hA dX12_remembers_14 rfl (fun hc => ?_) (fun hc => ?_)
  · have hf := k_ift hc hf
    obtain ⟨t_1, et_1, hf⟩ := k_lt_e hf
    refine k_aload_n (i := 0) hA dX12_remembers_38 rfl 0 rfl ?_
    refine k_dup hA dX12_remembers_39 rfl ?_
    refine gt_MT_0_19 hA wd_1267 dX12_remembers_40 ?_
    refine k_iconst hA dX12_remembers_43 kc_i_1 ?_
    refine k_isub hA dX12_remembers_44 ?_
    refine pt_MT_0_19 hA wd_1267 et_1 dX12_remembers_45 ?_
    refine k_iconst hA dX12_remembers_48 kc_i_0 ?_
    refine k_istore_n (i := 1) (lv' := [(1, .int (0 : Int32)), (0, .ref (a 0))]) hA dX12_remembers_49 rfl rfl (Nat.le_of_ble_eq_true rfl) rfl ?_
    refine k_pick (lv' := [(0, .ref (a 0)), (1, .int (0 : Int32))]) [1, 0] rfl ?_
    exact m_M_remembers_50 l G a rv n hA hr n (0 : Int32) t_1 hf
  have hf := k_iff hc hf
  obtain ⟨hi_2, hf⟩ := k_gi_e hf
  obtain ⟨hi_3, hf⟩ := k_gi_e hf
  obtain ⟨t_4, et_4, hf⟩ := k_lt_e hf
  obtain ⟨x1_5, ex1_5, hf⟩ := k_lt_e hf
  refine k_aload_n (i := 0) hA dX12_remembers_17 rfl 0 rfl ?_
  refine gt_MT_0_17 hA wd_1265 dX12_remembers_18 ?_
  refine k_iload_n (i := 1) hA dX12_remembers_21 rfl 1 rfl ?_
  refine k_aload_n (i := 0) hA dX12_remembers_22 rfl 0 rfl ?_
  refine gt_MT_0_17 hA wd_1265 dX12_remembers_23 ?_
  refine k_iload_n (i := 1) hA dX12_remembers_26 rfl 1 rfl ?_
  refine k_bipush hA dX12_remembers_27 kc_b_6 ?_
  refine k_iadd hA dX12_remembers_29 ?_
  refine ld_MT_4 hA hi_2 dX12_remembers_30 ?_
  refine sr_MT_4 hA hi_3 et_4 dX12_remembers_31 ?_
  refine k_iinc (j := 1) (v := x1_5) (lv' := [(1, .int x1_5), (0, .ref (a 0))]) hA dX12_remembers_32 rfl (k_inc ex1_5 kc_i_1) (Nat.le_of_ble_eq_true rfl) rfl ?_
  refine k_goto (tgt := 11) hA dX12_remembers_35 rfl ?_
  refine k_pick (lv' := [(0, .ref (a 0)), (1, .int x1_5)]) [1, 0] rfl ?_
  exact ih x1_5 t_4 hf

theorem m_M_remembers (l : Launch) (G : k_G) (a : Nat → Nat) (rv : Value) (n : Nat) (t : k_St) {t' : k_St} (hf : f_M_remembers n t = some t') : k_CV l G yX12_remembers cX12_remembers 2 none 1 (k_WT G.2.1 a rv t) [.ref (a 0)] (k_WT G.2.1 a rv t') := by
  refine k_startV (lv := [(0, .ref (a 0))]) (by decide +kernel) (Nat.le_of_ble_eq_true rfl) rfl ?_
  intro p e s m args below meth c hA hr
  have hA : k_Amb p s m args meth c cX12_remembers 2 "TaleSharesModel" G _ := hA
  unfold f_M_remembers at hf
  refine k_aload_n (i := 0) hA dX12_remembers_0 rfl 0 rfl ?_
  refine gt_MT_0_19 hA wd_1267 dX12_remembers_1 ?_
  refine k_bipush hA dX12_remembers_4 kc_b_16 ?_
  refine k_icmp_ne (tgt := 48) hA dX12_remembers_6 rfl (fun hc => ?_) (fun hc => ?_)
  · have hf := k_iff hc hf
    refine k_iconst hA dX12_remembers_48 kc_i_0 ?_
    refine k_istore_n (i := 1) (lv' := [(1, .int (0 : Int32)), (0, .ref (a 0))]) hA dX12_remembers_49 rfl rfl (Nat.le_of_ble_eq_true rfl) rfl ?_
    refine k_pick (lv' := [(0, .ref (a 0)), (1, .int (0 : Int32))]) [1, 0] rfl ?_
    exact m_M_remembers_50 l G a rv n hA hr n (0 : Int32) t hf
  have hf := k_ift hc hf
  refine k_iconst hA dX12_remembers_9 kc_i_0 ?_
  refine k_istore_n (i := 1) (lv' := [(1, .int (0 : Int32)), (0, .ref (a 0))]) hA dX12_remembers_10 rfl rfl (Nat.le_of_ble_eq_true rfl) rfl ?_
  refine k_pick (lv' := [(0, .ref (a 0)), (1, .int (0 : Int32))]) [1, 0] rfl ?_
  exact m_M_remembers_11 l G a rv n hA hr n (0 : Int32) t hf

def f_M_tell (n : Nat) (x1 : Int32) (x2 : Int32) (t : k_St) : Option (Int32 × k_St) := k_lt (k_sI t 0 0 (0 : Int32)) (fun t_1 => (if (k_b (f_M_isHouse t_1 x1)) = 0 then k_lt (f_M_refused (1 : Int32) t_1) (fun q_2 => some (q_2.1, q_2.2)) else (if (k_b (f_M_isHouse t_1 x2)) = 0 then k_lt (f_M_refused (1 : Int32) t_1) (fun q_3 => some (q_3.1, q_3.2)) else (if x1 = x2 then k_lt (f_M_refused (1 : Int32) t_1) (fun q_13 => some (q_13.1, q_13.2)) else (if (k_b (f_M_canTell t_1 x1)) = 0 then k_lt (f_M_refused (5 : Int32) t_1) (fun q_12 => some (q_12.1, q_12.2)) else k_cv (f_M_remembers n t_1) (fun t_4 => k_gi x1 6 (k_gi x2 6 (k_lt ((t_4.1 2 x1.toNatClampNeg) &&& ((t_4.1 2 x2.toNatClampNeg) ^^^ (-1 : Int32))) (fun x3_7 => k_gi x2 6 (k_gi x2 6 (k_lt (k_sI t_4 2 x2.toNatClampNeg ((t_4.1 2 x2.toNatClampNeg) ||| x3_7)) (fun t_10 => k_lt (f_M_good x3_7 t_10) (fun q_11 => some (q_11.1, q_11.2))))))))))))))
theorem m_M_tell (l : Launch) (G : k_G) (a : Nat → Nat) (rv : Value) (n : Nat) (x1 : Int32) (x2 : Int32) (t : k_St) {r : Int32} {t' : k_St} (hf : f_M_tell n x1 x2 t = some (r, t')) : k_CI l G yX12_tell cX12_tell 4 (some .int) 3 (k_WT G.2.1 a rv t) [.ref (a 0), .int x1, .int x2] r (k_WT G.2.1 a rv t') := by
  refine k_startI (lv := [(0, .ref (a 0)), (1, .int x1), (2, .int x2)]) (by decide +kernel) (Nat.le_of_ble_eq_true rfl) rfl ?_
  intro p e s m args below meth c hA hr
  have hA : k_Amb p s m args meth c cX12_tell 4 "TaleSharesModel" G _ := hA
  unfold f_M_tell at hf
  obtain ⟨t_1, et_1, hf⟩ := k_lt_e hf
  refine k_aload_n (i := 0) hA dX12_tell_0 rfl 0 rfl ?_
  refine k_iconst hA dX12_tell_1 kc_i_0 ?_
  refine pt_MT_0_0 hA wd_1248 et_1 dX12_tell_2 ?_
  refine k_aload_n (i := 0) hA dX12_tell_5 rfl 0 rfl ?_
  refine k_iload_n (i := 1) hA dX12_tell_6 rfl 1 rfl ?_
  refine k_callVi (As := [.int x1]) (rest := []) hA (m_M_isHouse l G a rv t_1 x1 rfl) cd_X12_isHouse wd_1625 (hc_MT_0 G.2.1 a rv t_1) rfl rfl (Nat.le_of_ble_eq_true rfl) rfl rfl (Nat.le_of_ble_eq_true rfl) dX12_tell_7 ?_
  refine k_if_eq (tgt := 26) hA dX12_tell_10 rfl (fun hc => ?_) (fun hc => ?_)
  · have hf := k_ift hc hf
    obtain ⟨⟨rq_2, tq_2⟩, hq_2, hf⟩ := k_lt_e hf
    dsimp only at hf
    obtain ⟨rfl, rfl⟩ := k_r2 hf
    refine k_aload_n (i := 0) hA dX12_tell_26 rfl 0 rfl ?_
    refine k_iconst hA dX12_tell_27 kc_i_1 ?_
    refine k_callVi (As := [.int (1 : Int32)]) (rest := []) hA (m_M_refused l G a rv (1 : Int32) t_1 hq_2.symm) cd_X12_refused wd_1390 (hc_MT_0 G.2.1 a rv t_1) rfl rfl (Nat.le_of_ble_eq_true rfl) rfl rfl (Nat.le_of_ble_eq_true rfl) dX12_tell_28 ?_
    exact k_iret hA hr rfl dX12_tell_31
  have hf := k_iff hc hf
  refine k_aload_n (i := 0) hA dX12_tell_13 rfl 0 rfl ?_
  refine k_iload_n (i := 2) hA dX12_tell_14 rfl 2 rfl ?_
  refine k_callVi (As := [.int x2]) (rest := []) hA (m_M_isHouse l G a rv t_1 x2 rfl) cd_X12_isHouse wd_1625 (hc_MT_0 G.2.1 a rv t_1) rfl rfl (Nat.le_of_ble_eq_true rfl) rfl rfl (Nat.le_of_ble_eq_true rfl) dX12_tell_15 ?_
  refine k_if_eq (tgt := 26) hA dX12_tell_18 rfl (fun hc => ?_) (fun hc => ?_)
  · have hf := k_ift hc hf
    obtain ⟨⟨rq_3, tq_3⟩, hq_3, hf⟩ := k_lt_e hf
    dsimp only at hf
    obtain ⟨rfl, rfl⟩ := k_r2 hf
    refine k_aload_n (i := 0) hA dX12_tell_26 rfl 0 rfl ?_
    refine k_iconst hA dX12_tell_27 kc_i_1 ?_
    refine k_callVi (As := [.int (1 : Int32)]) (rest := []) hA (m_M_refused l G a rv (1 : Int32) t_1 hq_3.symm) cd_X12_refused wd_1390 (hc_MT_0 G.2.1 a rv t_1) rfl rfl (Nat.le_of_ble_eq_true rfl) rfl rfl (Nat.le_of_ble_eq_true rfl) dX12_tell_28 ?_
    exact k_iret hA hr rfl dX12_tell_31
  have hf := k_iff hc hf
  refine k_iload_n (i := 1) hA dX12_tell_21 rfl 1 rfl ?_
  refine k_iload_n (i := 2) hA dX12_tell_22 rfl 2 rfl ?_
  refine k_icmp_ne (tgt := 32) hA dX12_tell_23 rfl (fun hc => ?_) (fun hc => ?_)
  · have hf := k_iff hc hf
    refine k_aload_n (i := 0) hA dX12_tell_32 rfl 0 rfl ?_
    refine k_iload_n (i := 1) hA dX12_tell_33 rfl 1 rfl ?_
    refine k_callVi (As := [.int x1]) (rest := []) hA (m_M_canTell l G a rv t_1 x1 rfl) cd_X12_canTell wd_1732 (hc_MT_0 G.2.1 a rv t_1) rfl rfl (Nat.le_of_ble_eq_true rfl) rfl rfl (Nat.le_of_ble_eq_true rfl) dX12_tell_34 ?_
    refine k_if_ne (tgt := 46) hA dX12_tell_37 rfl (fun hc => ?_) (fun hc => ?_)
    · have hf := k_iff hc hf
      obtain ⟨t_4, ht_4, hf⟩ := k_cv_e hf
      obtain ⟨hi_5, hf⟩ := k_gi_e hf
      obtain ⟨hi_6, hf⟩ := k_gi_e hf
      obtain ⟨x3_7, ex3_7, hf⟩ := k_lt_e hf
      obtain ⟨hi_8, hf⟩ := k_gi_e hf
      obtain ⟨hi_9, hf⟩ := k_gi_e hf
      obtain ⟨t_10, et_10, hf⟩ := k_lt_e hf
      obtain ⟨⟨rq_11, tq_11⟩, hq_11, hf⟩ := k_lt_e hf
      dsimp only at hf
      obtain ⟨rfl, rfl⟩ := k_r2 hf
      refine k_aload_n (i := 0) hA dX12_tell_46 rfl 0 rfl ?_
      refine k_callVv (As := []) (rest := []) hA (m_M_remembers l G a rv n t_1 ht_4) cd_X12_remembers wd_1939 (hc_MT_0 G.2.1 a rv t_1) rfl rfl (Nat.le_of_ble_eq_true rfl) rfl rfl (Nat.le_of_ble_eq_true rfl) dX12_tell_47 ?_
      refine k_aload_n (i := 0) hA dX12_tell_50 rfl 0 rfl ?_
      refine gt_MT_0_15 hA wd_1263 dX12_tell_51 ?_
      refine k_iload_n (i := 1) hA dX12_tell_54 rfl 1 rfl ?_
      refine ld_MT_2 hA hi_5 dX12_tell_55 ?_
      refine k_aload_n (i := 0) hA dX12_tell_56 rfl 0 rfl ?_
      refine gt_MT_0_15 hA wd_1263 dX12_tell_57 ?_
      refine k_iload_n (i := 2) hA dX12_tell_60 rfl 2 rfl ?_
      refine ld_MT_2 hA hi_6 dX12_tell_61 ?_
      refine k_iconst hA dX12_tell_62 kc_i_m1 ?_
      refine k_ixor hA dX12_tell_63 ?_
      refine k_iand hA dX12_tell_64 ?_
      refine k_istore_n (i := 3) (lv' := [(3, .int x3_7), (0, .ref (a 0)), (1, .int x1), (2, .int x2)]) hA dX12_tell_65 rfl ex3_7 (Nat.le_of_ble_eq_true rfl) rfl ?_
      refine k_aload_n (i := 0) hA dX12_tell_66 rfl 1 rfl ?_
      refine gt_MT_0_15 hA wd_1263 dX12_tell_67 ?_
      refine k_iload_n (i := 2) hA dX12_tell_70 rfl 3 rfl ?_
      refine k_dup2_11 hA dX12_tell_71 rfl rfl ?_
      refine ld_MT_2 hA hi_8 dX12_tell_72 ?_
      refine k_iload_n (i := 3) hA dX12_tell_73 rfl 0 rfl ?_
      refine k_ior hA dX12_tell_74 ?_
      refine sr_MT_2 hA hi_9 et_10 dX12_tell_75 ?_
      refine k_aload_n (i := 0) hA dX12_tell_76 rfl 1 rfl ?_
      refine k_iload_n (i := 3) hA dX12_tell_77 rfl 0 rfl ?_
      refine k_callVi (As := [.int x3_7]) (rest := []) hA (m_M_good l G a rv x3_7 t_10 hq_11.symm) cd_X12_good wd_1601 (hc_MT_0 G.2.1 a rv t_10) rfl rfl (Nat.le_of_ble_eq_true rfl) rfl rfl (Nat.le_of_ble_eq_true rfl) dX12_tell_78 ?_
      exact k_iret hA hr rfl dX12_tell_81
    have hf := k_ift hc hf
    obtain ⟨⟨rq_12, tq_12⟩, hq_12, hf⟩ := k_lt_e hf
    dsimp only at hf
    obtain ⟨rfl, rfl⟩ := k_r2 hf
    refine k_aload_n (i := 0) hA dX12_tell_40 rfl 0 rfl ?_
    refine k_iconst hA dX12_tell_41 kc_i_5 ?_
    refine k_callVi (As := [.int (5 : Int32)]) (rest := []) hA (m_M_refused l G a rv (5 : Int32) t_1 hq_12.symm) cd_X12_refused wd_1390 (hc_MT_0 G.2.1 a rv t_1) rfl rfl (Nat.le_of_ble_eq_true rfl) rfl rfl (Nat.le_of_ble_eq_true rfl) dX12_tell_42 ?_
    exact k_iret hA hr rfl dX12_tell_45
  have hf := k_ift hc hf
  obtain ⟨⟨rq_13, tq_13⟩, hq_13, hf⟩ := k_lt_e hf
  dsimp only at hf
  obtain ⟨rfl, rfl⟩ := k_r2 hf
  refine k_aload_n (i := 0) hA dX12_tell_26 rfl 0 rfl ?_
  refine k_iconst hA dX12_tell_27 kc_i_1 ?_
  refine k_callVi (As := [.int (1 : Int32)]) (rest := []) hA (m_M_refused l G a rv (1 : Int32) t_1 hq_13.symm) cd_X12_refused wd_1390 (hc_MT_0 G.2.1 a rv t_1) rfl rfl (Nat.le_of_ble_eq_true rfl) rfl rfl (Nat.le_of_ble_eq_true rfl) dX12_tell_28 ?_
  exact k_iret hA hr rfl dX12_tell_31

def f_M_denied (x1 : Int32) (t : k_St) : Bool × k_St := k_lt (f_M_refused x1 t) (fun q_1 => (false, q_1.2))
theorem m_M_denied (l : Launch) (G : k_G) (a : Nat → Nat) (rv : Value) (x1 : Int32) (t : k_St) {r : Bool} {t' : k_St} (hf : f_M_denied x1 t = (r, t')) : k_CI l G yX12_denied cX12_denied 2 (some .boolean) 2 (k_WT G.2.1 a rv t) [.ref (a 0), .int x1] (k_b r) (k_WT G.2.1 a rv t') := by
  refine k_startI (lv := [(0, .ref (a 0)), (1, .int x1)]) (by decide +kernel) (Nat.le_of_ble_eq_true rfl) rfl ?_
  intro p e s m args below meth c hA hr
  have hA : k_Amb p s m args meth c cX12_denied 2 "TaleSharesModel" G _ := hA
  unfold f_M_denied at hf
  obtain ⟨⟨rq_1, tq_1⟩, hq_1, hf⟩ := k_lt_e hf
  dsimp only at hf
  obtain ⟨rfl, rfl⟩ := k_p2 hf
  refine k_aload_n (i := 0) hA dX12_denied_0 rfl 0 rfl ?_
  refine k_iload_n (i := 1) hA dX12_denied_1 rfl 1 rfl ?_
  refine k_callVi (As := [.int x1]) (rest := []) hA (m_M_refused l G a rv x1 t hq_1.symm) cd_X12_refused wd_1390 (hc_MT_0 G.2.1 a rv t) rfl rfl (Nat.le_of_ble_eq_true rfl) rfl rfl (Nat.le_of_ble_eq_true rfl) dX12_denied_2 ?_
  refine k_pop hA dX12_denied_5 rfl ?_
  refine k_iconst hA dX12_denied_6 kc_i_0 ?_
  exact k_iret hA hr (k_narB (k_b01 _)) dX12_denied_7

def f_M_granted (t : k_St) : Bool × k_St := k_lt (f_M_good (0 : Int32) t) (fun q_1 => (true, q_1.2))
theorem m_M_granted (l : Launch) (G : k_G) (a : Nat → Nat) (rv : Value) (t : k_St) {r : Bool} {t' : k_St} (hf : f_M_granted t = (r, t')) : k_CI l G yX12_granted cX12_granted 1 (some .boolean) 2 (k_WT G.2.1 a rv t) [.ref (a 0)] (k_b r) (k_WT G.2.1 a rv t') := by
  refine k_startI (lv := [(0, .ref (a 0))]) (by decide +kernel) (Nat.le_of_ble_eq_true rfl) rfl ?_
  intro p e s m args below meth c hA hr
  have hA : k_Amb p s m args meth c cX12_granted 1 "TaleSharesModel" G _ := hA
  unfold f_M_granted at hf
  obtain ⟨⟨rq_1, tq_1⟩, hq_1, hf⟩ := k_lt_e hf
  dsimp only at hf
  obtain ⟨rfl, rfl⟩ := k_p2 hf
  refine k_aload_n (i := 0) hA dX12_granted_0 rfl 0 rfl ?_
  refine k_iconst hA dX12_granted_1 kc_i_0 ?_
  refine k_callVi (As := [.int (0 : Int32)]) (rest := []) hA (m_M_good l G a rv (0 : Int32) t hq_1.symm) cd_X12_good wd_1601 (hc_MT_0 G.2.1 a rv t) rfl rfl (Nat.le_of_ble_eq_true rfl) rfl rfl (Nat.le_of_ble_eq_true rfl) dX12_granted_2 ?_
  refine k_pop hA dX12_granted_5 rfl ?_
  refine k_iconst hA dX12_granted_6 kc_i_1 ?_
  exact k_iret hA hr (k_narB (k_b01 _)) dX12_granted_7

def f_M_learn (n : Nat) (x1 : Int32) (x2 : Int32) (t : k_St) : Option (Bool × k_St) := k_lt (k_sI t 0 0 (0 : Int32)) (fun t_1 => (if (k_b (f_M_isHouse t_1 x1)) = 0 then k_lt (f_M_denied (1 : Int32) t_1) (fun q_2 => some (q_2.1, q_2.2)) else (if (k_b (f_M_isPiece t_1 x2)) = 0 then k_lt (f_M_denied (1 : Int32) t_1) (fun q_10 => some (q_10.1, q_10.2)) else k_gi x1 6 ((if (k_b (f_M_bit (t_1.1 2 x1.toNatClampNeg) x2)) = 0 then k_cv (f_M_remembers n t_1) (fun t_4 => k_gi x1 6 (k_gi x1 6 (k_lt (k_sI t_4 2 x1.toNatClampNeg ((t_4.1 2 x1.toNatClampNeg) ||| ((1 : Int32) <<< (x2 &&& 31)))) (fun t_7 => k_lt (f_M_granted t_7) (fun q_8 => some (q_8.1, q_8.2)))))) else k_lt (f_M_denied (5 : Int32) t_1) (fun q_9 => some (q_9.1, q_9.2)))))))
theorem m_M_learn (l : Launch) (G : k_G) (a : Nat → Nat) (rv : Value) (n : Nat) (x1 : Int32) (x2 : Int32) (t : k_St) {r : Bool} {t' : k_St} (hf : f_M_learn n x1 x2 t = some (r, t')) : k_CI l G yX12_learn cX12_learn 3 (some .boolean) 3 (k_WT G.2.1 a rv t) [.ref (a 0), .int x1, .int x2] (k_b r) (k_WT G.2.1 a rv t') := by
  refine k_startI (lv := [(0, .ref (a 0)), (1, .int x1), (2, .int x2)]) (by decide +kernel) (Nat.le_of_ble_eq_true rfl) rfl ?_
  intro p e s m args below meth c hA hr
  have hA : k_Amb p s m args meth c cX12_learn 3 "TaleSharesModel" G _ := hA
  unfold f_M_learn at hf
  obtain ⟨t_1, et_1, hf⟩ := k_lt_e hf
  refine k_aload_n (i := 0) hA dX12_learn_0 rfl 0 rfl ?_
  refine k_iconst hA dX12_learn_1 kc_i_0 ?_
  refine pt_MT_0_0 hA wd_1248 et_1 dX12_learn_2 ?_
  refine k_aload_n (i := 0) hA dX12_learn_5 rfl 0 rfl ?_
  refine k_iload_n (i := 1) hA dX12_learn_6 rfl 1 rfl ?_
  refine k_callVi (As := [.int x1]) (rest := []) hA (m_M_isHouse l G a rv t_1 x1 rfl) cd_X12_isHouse wd_1625 (hc_MT_0 G.2.1 a rv t_1) rfl rfl (Nat.le_of_ble_eq_true rfl) rfl rfl (Nat.le_of_ble_eq_true rfl) dX12_learn_7 ?_
  refine k_if_eq (tgt := 21) hA dX12_learn_10 rfl (fun hc => ?_) (fun hc => ?_)
  · have hf := k_ift hc hf
    obtain ⟨⟨rq_2, tq_2⟩, hq_2, hf⟩ := k_lt_e hf
    dsimp only at hf
    obtain ⟨rfl, rfl⟩ := k_r2 hf
    refine k_aload_n (i := 0) hA dX12_learn_21 rfl 0 rfl ?_
    refine k_iconst hA dX12_learn_22 kc_i_1 ?_
    refine k_callVi (As := [.int (1 : Int32)]) (rest := []) hA (m_M_denied l G a rv (1 : Int32) t_1 hq_2.symm) cd_X12_denied wd_1947 (hc_MT_0 G.2.1 a rv t_1) rfl rfl (Nat.le_of_ble_eq_true rfl) rfl rfl (Nat.le_of_ble_eq_true rfl) dX12_learn_23 ?_
    exact k_iret hA hr (k_narB (k_b01 _)) dX12_learn_26
  have hf := k_iff hc hf
  refine k_aload_n (i := 0) hA dX12_learn_13 rfl 0 rfl ?_
  refine k_iload_n (i := 2) hA dX12_learn_14 rfl 2 rfl ?_
  refine k_callVi (As := [.int x2]) (rest := []) hA (m_M_isPiece l G a rv t_1 x2 rfl) cd_X12_isPiece wd_1617 (hc_MT_0 G.2.1 a rv t_1) rfl rfl (Nat.le_of_ble_eq_true rfl) rfl rfl (Nat.le_of_ble_eq_true rfl) dX12_learn_15 ?_
  refine k_if_ne (tgt := 27) hA dX12_learn_18 rfl (fun hc => ?_) (fun hc => ?_)
  · have hf := k_iff hc hf
    obtain ⟨hi_3, hf⟩ := k_gi_e hf
    refine k_aload_n (i := 0) hA dX12_learn_27 rfl 0 rfl ?_
    refine gt_MT_0_15 hA wd_1263 dX12_learn_28 ?_
    refine k_iload_n (i := 1) hA dX12_learn_31 rfl 1 rfl ?_
    refine ld_MT_2 hA hi_3 dX12_learn_32 ?_
    refine k_iload_n (i := 2) hA dX12_learn_33 rfl 2 rfl ?_
    refine k_callSi (As := [.int (t_1.1 2 x1.toNatClampNeg), .int x2]) (rest := []) hA (m_M_bit l G (k_WT G.2.1 a rv t_1) (t_1.1 2 x1.toNatClampNeg) x2 rfl) cd_X12_bit wd_1575 (Nat.le_of_ble_eq_true rfl) rfl rfl (Nat.le_of_ble_eq_true rfl) dX12_learn_34 ?_
    refine k_if_eq (tgt := 46) hA dX12_learn_37 rfl (fun hc => ?_) (fun hc => ?_)
    · have hf := k_ift hc hf
      obtain ⟨t_4, ht_4, hf⟩ := k_cv_e hf
      obtain ⟨hi_5, hf⟩ := k_gi_e hf
      obtain ⟨hi_6, hf⟩ := k_gi_e hf
      obtain ⟨t_7, et_7, hf⟩ := k_lt_e hf
      obtain ⟨⟨rq_8, tq_8⟩, hq_8, hf⟩ := k_lt_e hf
      dsimp only at hf
      obtain ⟨rfl, rfl⟩ := k_r2 hf
      refine k_aload_n (i := 0) hA dX12_learn_46 rfl 0 rfl ?_
      refine k_callVv (As := []) (rest := []) hA (m_M_remembers l G a rv n t_1 ht_4) cd_X12_remembers wd_1939 (hc_MT_0 G.2.1 a rv t_1) rfl rfl (Nat.le_of_ble_eq_true rfl) rfl rfl (Nat.le_of_ble_eq_true rfl) dX12_learn_47 ?_
      refine k_aload_n (i := 0) hA dX12_learn_50 rfl 0 rfl ?_
      refine gt_MT_0_15 hA wd_1263 dX12_learn_51 ?_
      refine k_iload_n (i := 1) hA dX12_learn_54 rfl 1 rfl ?_
      refine k_dup2_11 hA dX12_learn_55 rfl rfl ?_
      refine ld_MT_2 hA hi_5 dX12_learn_56 ?_
      refine k_iconst hA dX12_learn_57 kc_i_1 ?_
      refine k_iload_n (i := 2) hA dX12_learn_58 rfl 2 rfl ?_
      refine k_ishl hA dX12_learn_59 ?_
      refine k_ior hA dX12_learn_60 ?_
      refine sr_MT_2 hA hi_6 et_7 dX12_learn_61 ?_
      refine k_aload_n (i := 0) hA dX12_learn_62 rfl 0 rfl ?_
      refine k_callVi (As := []) (rest := []) hA (m_M_granted l G a rv t_7 hq_8.symm) cd_X12_granted wd_1951 (hc_MT_0 G.2.1 a rv t_7) rfl rfl (Nat.le_of_ble_eq_true rfl) rfl rfl (Nat.le_of_ble_eq_true rfl) dX12_learn_63 ?_
      exact k_iret hA hr (k_narB (k_b01 _)) dX12_learn_66
    have hf := k_iff hc hf
    obtain ⟨⟨rq_9, tq_9⟩, hq_9, hf⟩ := k_lt_e hf
    dsimp only at hf
    obtain ⟨rfl, rfl⟩ := k_r2 hf
    refine k_aload_n (i := 0) hA dX12_learn_40 rfl 0 rfl ?_
    refine k_iconst hA dX12_learn_41 kc_i_5 ?_
    refine k_callVi (As := [.int (5 : Int32)]) (rest := []) hA (m_M_denied l G a rv (5 : Int32) t_1 hq_9.symm) cd_X12_denied wd_1947 (hc_MT_0 G.2.1 a rv t_1) rfl rfl (Nat.le_of_ble_eq_true rfl) rfl rfl (Nat.le_of_ble_eq_true rfl) dX12_learn_42 ?_
    exact k_iret hA hr (k_narB (k_b01 _)) dX12_learn_45
  have hf := k_ift hc hf
  obtain ⟨⟨rq_10, tq_10⟩, hq_10, hf⟩ := k_lt_e hf
  dsimp only at hf
  obtain ⟨rfl, rfl⟩ := k_r2 hf
  refine k_aload_n (i := 0) hA dX12_learn_21 rfl 0 rfl ?_
  refine k_iconst hA dX12_learn_22 kc_i_1 ?_
  refine k_callVi (As := [.int (1 : Int32)]) (rest := []) hA (m_M_denied l G a rv (1 : Int32) t_1 hq_10.symm) cd_X12_denied wd_1947 (hc_MT_0 G.2.1 a rv t_1) rfl rfl (Nat.le_of_ble_eq_true rfl) rfl rfl (Nat.le_of_ble_eq_true rfl) dX12_learn_23 ?_
  exact k_iret hA hr (k_narB (k_b01 _)) dX12_learn_26

