theorem dX10_meant_0 : decode cX10_meant 0 = .ok (.aload_n 0, 1) := by decide +kernel
theorem dX10_meant_1 : decode cX10_meant 1 = .ok (.invokevirtual 237, 3) := by decide +kernel
theorem dX10_meant_4 : decode cX10_meant 4 = .ok (.ifCond .eq 14, 3) := by decide +kernel
theorem dX10_meant_7 : decode cX10_meant 7 = .ok (.aload_n 0, 1) := by decide +kernel
theorem dX10_meant_8 : decode cX10_meant 8 = .ok (.aload_n 0, 1) := by decide +kernel
theorem dX10_meant_9 : decode cX10_meant 9 = .ok (.invokevirtual 241, 3) := by decide +kernel
theorem dX10_meant_12 : decode cX10_meant 12 = .ok (.invokevirtual 73, 3) := by decide +kernel
theorem dX10_meant_15 : decode cX10_meant 15 = .ok (.goto 15, 3) := by decide +kernel
theorem dX10_meant_18 : decode cX10_meant 18 = .ok (.aload_n 0, 1) := by decide +kernel
theorem dX10_meant_19 : decode cX10_meant 19 = .ok (.aload_n 0, 1) := by decide +kernel
theorem dX10_meant_20 : decode cX10_meant 20 = .ok (.getfield 47, 3) := by decide +kernel
theorem dX10_meant_23 : decode cX10_meant 23 = .ok (.getfield 248, 3) := by decide +kernel
theorem dX10_meant_26 : decode cX10_meant 26 = .ok (.iload_n 1, 1) := by decide +kernel
theorem dX10_meant_27 : decode cX10_meant 27 = .ok (.invokevirtual 182, 3) := by decide +kernel
theorem dX10_meant_30 : decode cX10_meant 30 = .ok (.ireturn, 1) := by decide +kernel
theorem dX10_meanings_0 : decode cX10_meanings 0 = .ok (.aload_n 0, 1) := by decide +kernel
theorem dX10_meanings_1 : decode cX10_meanings 1 = .ok (.invokevirtual 237, 3) := by decide +kernel
theorem dX10_meanings_4 : decode cX10_meanings 4 = .ok (.ifCond .eq 14, 3) := by decide +kernel
theorem dX10_meanings_7 : decode cX10_meanings 7 = .ok (.aload_n 0, 1) := by decide +kernel
theorem dX10_meanings_8 : decode cX10_meanings 8 = .ok (.aload_n 0, 1) := by decide +kernel
theorem dX10_meanings_9 : decode cX10_meanings 9 = .ok (.invokevirtual 241, 3) := by decide +kernel
theorem dX10_meanings_12 : decode cX10_meanings 12 = .ok (.invokevirtual 73, 3) := by decide +kernel
theorem dX10_meanings_15 : decode cX10_meanings 15 = .ok (.goto 14, 3) := by decide +kernel
theorem dX10_meanings_18 : decode cX10_meanings 18 = .ok (.aload_n 0, 1) := by decide +kernel
theorem dX10_meanings_19 : decode cX10_meanings 19 = .ok (.aload_n 0, 1) := by decide +kernel
theorem dX10_meanings_20 : decode cX10_meanings 20 = .ok (.getfield 47, 3) := by decide +kernel
theorem dX10_meanings_23 : decode cX10_meanings 23 = .ok (.getfield 251, 3) := by decide +kernel
theorem dX10_meanings_26 : decode cX10_meanings 26 = .ok (.invokevirtual 109, 3) := by decide +kernel
theorem dX10_meanings_29 : decode cX10_meanings 29 = .ok (.ireturn, 1) := by decide +kernel
theorem dX10_father_0 : decode cX10_father 0 = .ok (.aload_n 0, 1) := by decide +kernel
theorem dX10_father_1 : decode cX10_father 1 = .ok (.iload_n 1, 1) := by decide +kernel
theorem dX10_father_2 : decode cX10_father 2 = .ok (.invokevirtual 257, 3) := by decide +kernel
theorem dX10_father_5 : decode cX10_father 5 = .ok (.istore 5, 2) := by decide +kernel
theorem dX10_father_7 : decode cX10_father 7 = .ok (.iload 5, 2) := by decide +kernel
theorem dX10_father_9 : decode cX10_father 9 = .ok (.ifCond .ne 20, 3) := by decide +kernel
theorem dX10_father_12 : decode cX10_father 12 = .ok (.iload_n 2, 1) := by decide +kernel
theorem dX10_father_13 : decode cX10_father 13 = .ok (.invokestatic 260, 3) := by decide +kernel
theorem dX10_father_16 : decode cX10_father 16 = .ok (.ifCond .ne 10, 3) := by decide +kernel
theorem dX10_father_19 : decode cX10_father 19 = .ok (.iload_n 3, 1) := by decide +kernel
theorem dX10_father_20 : decode cX10_father 20 = .ok (.invokestatic 260, 3) := by decide +kernel
theorem dX10_father_23 : decode cX10_father 23 = .ok (.ifCond .eq 6, 3) := by decide +kernel
theorem dX10_father_26 : decode cX10_father 26 = .ok (.iconst 2, 1) := by decide +kernel
theorem dX10_father_27 : decode cX10_father 27 = .ok (.istore 5, 2) := by decide +kernel
theorem dX10_father_29 : decode cX10_father 29 = .ok (.iload 5, 2) := by decide +kernel
theorem dX10_father_31 : decode cX10_father 31 = .ok (.ifCond .eq 12, 3) := by decide +kernel
theorem dX10_father_34 : decode cX10_father 34 = .ok (.aload_n 0, 1) := by decide +kernel
theorem dX10_father_35 : decode cX10_father 35 = .ok (.iload 5, 2) := by decide +kernel
theorem dX10_father_37 : decode cX10_father 37 = .ok (.putfield 115, 3) := by decide +kernel
theorem dX10_father_40 : decode cX10_father 40 = .ok (.bipush (-100), 2) := by decide +kernel
theorem dX10_father_42 : decode cX10_father 42 = .ok (.ireturn, 1) := by decide +kernel
theorem dX10_father_43 : decode cX10_father 43 = .ok (.aload_n 0, 1) := by decide +kernel
theorem dX10_father_44 : decode cX10_father 44 = .ok (.iload 4, 2) := by decide +kernel
theorem dX10_father_46 : decode cX10_father 46 = .ok (.ifCond .eq 12, 3) := by decide +kernel
theorem dX10_father_49 : decode cX10_father 49 = .ok (.iload_n 1, 1) := by decide +kernel
theorem dX10_father_50 : decode cX10_father 50 = .ok (.iload_n 3, 1) := by decide +kernel
theorem dX10_father_51 : decode cX10_father 51 = .ok (.iload_n 2, 1) := by decide +kernel
theorem dX10_father_52 : decode cX10_father 52 = .ok (.invokestatic 263, 3) := by decide +kernel
theorem dX10_father_55 : decode cX10_father 55 = .ok (.goto 9, 3) := by decide +kernel
theorem dX10_father_58 : decode cX10_father 58 = .ok (.iload_n 1, 1) := by decide +kernel
theorem dX10_father_59 : decode cX10_father 59 = .ok (.iload_n 2, 1) := by decide +kernel
theorem dX10_father_60 : decode cX10_father 60 = .ok (.iload_n 3, 1) := by decide +kernel
theorem dX10_father_61 : decode cX10_father 61 = .ok (.invokestatic 263, 3) := by decide +kernel
theorem dX10_father_64 : decode cX10_father 64 = .ok (.invokevirtual 109, 3) := by decide +kernel
theorem dX10_father_67 : decode cX10_father 67 = .ok (.ireturn, 1) := by decide +kernel
theorem dX10_whyNoHour_0 : decode cX10_whyNoHour 0 = .ok (.aload_n 0, 1) := by decide +kernel
theorem dX10_whyNoHour_1 : decode cX10_whyNoHour 1 = .ok (.getfield 85, 3) := by decide +kernel
theorem dX10_whyNoHour_4 : decode cX10_whyNoHour 4 = .ok (.ifCond .ne 5, 3) := by decide +kernel
theorem dX10_whyNoHour_7 : decode cX10_whyNoHour 7 = .ok (.iconst 1, 1) := by decide +kernel
theorem dX10_whyNoHour_8 : decode cX10_whyNoHour 8 = .ok (.ireturn, 1) := by decide +kernel
theorem dX10_whyNoHour_9 : decode cX10_whyNoHour 9 = .ok (.iload_n 1, 1) := by decide +kernel
theorem dX10_whyNoHour_10 : decode cX10_whyNoHour 10 = .ok (.ifCond .lt 9, 3) := by decide +kernel
theorem dX10_whyNoHour_13 : decode cX10_whyNoHour 13 = .ok (.iload_n 1, 1) := by decide +kernel
theorem dX10_whyNoHour_14 : decode cX10_whyNoHour 14 = .ok (.bipush 20, 2) := by decide +kernel
theorem dX10_whyNoHour_16 : decode cX10_whyNoHour 16 = .ok (.if_icmp .le 7, 3) := by decide +kernel
theorem dX10_whyNoHour_19 : decode cX10_whyNoHour 19 = .ok (.iconst 2, 1) := by decide +kernel
theorem dX10_whyNoHour_20 : decode cX10_whyNoHour 20 = .ok (.goto 4, 3) := by decide +kernel
theorem dX10_whyNoHour_23 : decode cX10_whyNoHour 23 = .ok (.iconst 0, 1) := by decide +kernel
theorem dX10_whyNoHour_24 : decode cX10_whyNoHour 24 = .ok (.ireturn, 1) := by decide +kernel
theorem dX10_noPayment_0 : decode cX10_noPayment 0 = .ok (.iload_n 0, 1) := by decide +kernel
theorem dX10_noPayment_1 : decode cX10_noPayment 1 = .ok (.ifCond .lt 9, 3) := by decide +kernel
theorem dX10_noPayment_4 : decode cX10_noPayment 4 = .ok (.iload_n 0, 1) := by decide +kernel
theorem dX10_noPayment_5 : decode cX10_noPayment 5 = .ok (.bipush 6, 2) := by decide +kernel
theorem dX10_noPayment_7 : decode cX10_noPayment 7 = .ok (.if_icmp .le 7, 3) := by decide +kernel
theorem dX10_noPayment_10 : decode cX10_noPayment 10 = .ok (.iconst 1, 1) := by decide +kernel
theorem dX10_noPayment_11 : decode cX10_noPayment 11 = .ok (.goto 4, 3) := by decide +kernel
theorem dX10_noPayment_14 : decode cX10_noPayment 14 = .ok (.iconst 0, 1) := by decide +kernel
theorem dX10_noPayment_15 : decode cX10_noPayment 15 = .ok (.ireturn, 1) := by decide +kernel
theorem dX10_rests_0 : decode cX10_rests 0 = .ok (.aload_n 0, 1) := by decide +kernel
theorem dX10_rests_1 : decode cX10_rests 1 = .ok (.iload_n 1, 1) := by decide +kernel
theorem dX10_rests_2 : decode cX10_rests 2 = .ok (.invokevirtual 257, 3) := by decide +kernel
theorem dX10_rests_5 : decode cX10_rests 5 = .ok (.istore_n 2, 1) := by decide +kernel
theorem dX10_rests_6 : decode cX10_rests 6 = .ok (.iload_n 2, 1) := by decide +kernel
theorem dX10_rests_7 : decode cX10_rests 7 = .ok (.ifCond .ne 14, 3) := by decide +kernel
theorem dX10_rests_10 : decode cX10_rests 10 = .ok (.aload_n 0, 1) := by decide +kernel
theorem dX10_rests_11 : decode cX10_rests 11 = .ok (.iload_n 1, 1) := by decide +kernel
theorem dX10_rests_12 : decode cX10_rests 12 = .ok (.invokestatic 269, 3) := by decide +kernel
theorem dX10_rests_15 : decode cX10_rests 15 = .ok (.invokevirtual 109, 3) := by decide +kernel
theorem dX10_rests_18 : decode cX10_rests 18 = .ok (.goto 8, 3) := by decide +kernel
theorem dX10_rests_21 : decode cX10_rests 21 = .ok (.aload_n 0, 1) := by decide +kernel
theorem dX10_rests_22 : decode cX10_rests 22 = .ok (.iload_n 2, 1) := by decide +kernel
theorem dX10_rests_23 : decode cX10_rests 23 = .ok (.invokevirtual 73, 3) := by decide +kernel
theorem dX10_rests_26 : decode cX10_rests 26 = .ok (.ireturn, 1) := by decide +kernel
theorem dX10_rest_0 : decode cX10_rest 0 = .ok (.aload_n 0, 1) := by decide +kernel
theorem dX10_rest_1 : decode cX10_rest 1 = .ok (.iload_n 1, 1) := by decide +kernel
theorem dX10_rest_2 : decode cX10_rest 2 = .ok (.invokevirtual 257, 3) := by decide +kernel
theorem dX10_rest_5 : decode cX10_rest 5 = .ok (.istore_n 2, 1) := by decide +kernel
theorem dX10_rest_6 : decode cX10_rest 6 = .ok (.iload_n 2, 1) := by decide +kernel
theorem dX10_rest_7 : decode cX10_rest 7 = .ok (.ifCond .ne 14, 3) := by decide +kernel
theorem dX10_rest_10 : decode cX10_rest 10 = .ok (.aload_n 0, 1) := by decide +kernel
theorem dX10_rest_11 : decode cX10_rest 11 = .ok (.iload_n 1, 1) := by decide +kernel
theorem dX10_rest_12 : decode cX10_rest 12 = .ok (.invokestatic 272, 3) := by decide +kernel
theorem dX10_rest_15 : decode cX10_rest 15 = .ok (.invokevirtual 109, 3) := by decide +kernel
theorem dX10_rest_18 : decode cX10_rest 18 = .ok (.goto 8, 3) := by decide +kernel
theorem dX10_rest_21 : decode cX10_rest 21 = .ok (.aload_n 0, 1) := by decide +kernel
theorem dX10_rest_22 : decode cX10_rest 22 = .ok (.iload_n 2, 1) := by decide +kernel
theorem dX10_rest_23 : decode cX10_rest 23 = .ok (.invokevirtual 73, 3) := by decide +kernel
theorem dX10_rest_26 : decode cX10_rest 26 = .ok (.ireturn, 1) := by decide +kernel
theorem dX10_tells_0 : decode cX10_tells 0 = .ok (.aload_n 0, 1) := by decide +kernel
theorem dX10_tells_1 : decode cX10_tells 1 = .ok (.iload_n 1, 1) := by decide +kernel
theorem dX10_tells_2 : decode cX10_tells 2 = .ok (.invokevirtual 275, 3) := by decide +kernel
theorem dX10_tells_5 : decode cX10_tells 5 = .ok (.istore 4, 2) := by decide +kernel
theorem dX10_tells_7 : decode cX10_tells 7 = .ok (.iload 4, 2) := by decide +kernel
theorem dX10_tells_9 : decode cX10_tells 9 = .ok (.ifCond .ne 15, 3) := by decide +kernel
theorem dX10_tells_12 : decode cX10_tells 12 = .ok (.iload_n 2, 1) := by decide +kernel
theorem dX10_tells_13 : decode cX10_tells 13 = .ok (.ifCond .lt 8, 3) := by decide +kernel
theorem dX10_tells_16 : decode cX10_tells 16 = .ok (.iload_n 2, 1) := by decide +kernel
theorem dX10_tells_17 : decode cX10_tells 17 = .ok (.iload_n 1, 1) := by decide +kernel
theorem dX10_tells_18 : decode cX10_tells 18 = .ok (.if_icmp .le 6, 3) := by decide +kernel
theorem dX10_tells_21 : decode cX10_tells 21 = .ok (.iconst 2, 1) := by decide +kernel
theorem dX10_tells_22 : decode cX10_tells 22 = .ok (.istore 4, 2) := by decide +kernel
theorem dX10_tells_24 : decode cX10_tells 24 = .ok (.iload 4, 2) := by decide +kernel
theorem dX10_tells_26 : decode cX10_tells 26 = .ok (.ifCond .eq 11, 3) := by decide +kernel
theorem dX10_tells_29 : decode cX10_tells 29 = .ok (.aload_n 0, 1) := by decide +kernel
theorem dX10_tells_30 : decode cX10_tells 30 = .ok (.iload 4, 2) := by decide +kernel
theorem dX10_tells_32 : decode cX10_tells 32 = .ok (.invokevirtual 73, 3) := by decide +kernel
theorem dX10_tells_35 : decode cX10_tells 35 = .ok (.i2l, 1) := by decide +kernel
theorem dX10_tells_36 : decode cX10_tells 36 = .ok (.lreturn, 1) := by decide +kernel
theorem dX10_tells_37 : decode cX10_tells 37 = .ok (.aload_n 0, 1) := by decide +kernel
theorem dX10_tells_38 : decode cX10_tells 38 = .ok (.iconst 0, 1) := by decide +kernel
theorem dX10_tells_39 : decode cX10_tells 39 = .ok (.putfield 115, 3) := by decide +kernel
theorem dX10_tells_42 : decode cX10_tells 42 = .ok (.aload_n 0, 1) := by decide +kernel
theorem dX10_tells_43 : decode cX10_tells 43 = .ok (.getfield 10, 3) := by decide +kernel
theorem dX10_tells_46 : decode cX10_tells 46 = .ok (.getfield 278, 3) := by decide +kernel
theorem dX10_tells_49 : decode cX10_tells 49 = .ok (.iload_n 1, 1) := by decide +kernel
theorem dX10_tells_50 : decode cX10_tells 50 = .ok (.iload_n 2, 1) := by decide +kernel
theorem dX10_tells_51 : decode cX10_tells 51 = .ok (.iload_n 3, 1) := by decide +kernel
theorem dX10_tells_52 : decode cX10_tells 52 = .ok (.invokestatic 281, 3) := by decide +kernel
theorem dX10_tells_55 : decode cX10_tells 55 = .ok (.lreturn, 1) := by decide +kernel
theorem dX10_whyNoChance_0 : decode cX10_whyNoChance 0 = .ok (.aload_n 0, 1) := by decide +kernel
theorem dX10_whyNoChance_1 : decode cX10_whyNoChance 1 = .ok (.getfield 85, 3) := by decide +kernel
theorem dX10_whyNoChance_4 : decode cX10_whyNoChance 4 = .ok (.ifCond .ne 5, 3) := by decide +kernel
theorem dX10_whyNoChance_7 : decode cX10_whyNoChance 7 = .ok (.iconst 1, 1) := by decide +kernel
theorem dX10_whyNoChance_8 : decode cX10_whyNoChance 8 = .ok (.ireturn, 1) := by decide +kernel
theorem dX10_whyNoChance_9 : decode cX10_whyNoChance 9 = .ok (.iload_n 1, 1) := by decide +kernel
theorem dX10_whyNoChance_10 : decode cX10_whyNoChance 10 = .ok (.ifCond .lt 9, 3) := by decide +kernel
theorem dX10_whyNoChance_13 : decode cX10_whyNoChance 13 = .ok (.iload_n 1, 1) := by decide +kernel
theorem dX10_whyNoChance_14 : decode cX10_whyNoChance 14 = .ok (.bipush 8, 2) := by decide +kernel
theorem dX10_whyNoChance_16 : decode cX10_whyNoChance 16 = .ok (.if_icmp .le 7, 3) := by decide +kernel
theorem dX10_whyNoChance_19 : decode cX10_whyNoChance 19 = .ok (.iconst 2, 1) := by decide +kernel
theorem dX10_whyNoChance_20 : decode cX10_whyNoChance 20 = .ok (.goto 4, 3) := by decide +kernel
theorem dX10_whyNoChance_23 : decode cX10_whyNoChance 23 = .ok (.iconst 0, 1) := by decide +kernel
theorem dX10_whyNoChance_24 : decode cX10_whyNoChance 24 = .ok (.ireturn, 1) := by decide +kernel
theorem dX10_mean_0 : decode cX10_mean 0 = .ok (.aload_n 0, 1) := by decide +kernel
theorem dX10_mean_1 : decode cX10_mean 1 = .ok (.iload_n 1, 1) := by decide +kernel
theorem dX10_mean_2 : decode cX10_mean 2 = .ok (.invokevirtual 275, 3) := by decide +kernel
theorem dX10_mean_5 : decode cX10_mean 5 = .ok (.istore_n 3, 1) := by decide +kernel
theorem dX10_mean_6 : decode cX10_mean 6 = .ok (.iload_n 3, 1) := by decide +kernel
theorem dX10_mean_7 : decode cX10_mean 7 = .ok (.ifCond .eq 10, 3) := by decide +kernel
theorem dX10_mean_10 : decode cX10_mean 10 = .ok (.aload_n 0, 1) := by decide +kernel
theorem dX10_mean_11 : decode cX10_mean 11 = .ok (.iload_n 3, 1) := by decide +kernel
theorem dX10_mean_12 : decode cX10_mean 12 = .ok (.invokevirtual 73, 3) := by decide +kernel
theorem dX10_mean_15 : decode cX10_mean 15 = .ok (.i2l, 1) := by decide +kernel
theorem dX10_mean_16 : decode cX10_mean 16 = .ok (.lreturn, 1) := by decide +kernel
theorem dX10_mean_17 : decode cX10_mean 17 = .ok (.aload_n 0, 1) := by decide +kernel
theorem dX10_mean_18 : decode cX10_mean 18 = .ok (.iconst 0, 1) := by decide +kernel
theorem dX10_mean_19 : decode cX10_mean 19 = .ok (.putfield 115, 3) := by decide +kernel
theorem dX10_mean_22 : decode cX10_mean 22 = .ok (.aload_n 0, 1) := by decide +kernel
theorem dX10_mean_23 : decode cX10_mean 23 = .ok (.getfield 10, 3) := by decide +kernel
theorem dX10_mean_26 : decode cX10_mean 26 = .ok (.getfield 278, 3) := by decide +kernel
theorem dX10_mean_29 : decode cX10_mean 29 = .ok (.iload_n 1, 1) := by decide +kernel
theorem dX10_mean_30 : decode cX10_mean 30 = .ok (.iload_n 2, 1) := by decide +kernel
theorem dX10_mean_31 : decode cX10_mean 31 = .ok (.invokestatic 287, 3) := by decide +kernel
theorem dX10_mean_34 : decode cX10_mean 34 = .ok (.lreturn, 1) := by decide +kernel
theorem dX10_evenings_0 : decode cX10_evenings 0 = .ok (.aload_n 0, 1) := by decide +kernel
theorem dX10_evenings_1 : decode cX10_evenings 1 = .ok (.iload_n 1, 1) := by decide +kernel
theorem dX10_evenings_2 : decode cX10_evenings 2 = .ok (.invokevirtual 137, 3) := by decide +kernel
theorem dX10_evenings_5 : decode cX10_evenings 5 = .ok (.ifCond .eq 9, 3) := by decide +kernel
theorem dX10_evenings_8 : decode cX10_evenings 8 = .ok (.aload_n 0, 1) := by decide +kernel
theorem dX10_evenings_9 : decode cX10_evenings 9 = .ok (.iconst 1, 1) := by decide +kernel
theorem dX10_evenings_10 : decode cX10_evenings 10 = .ok (.invokevirtual 73, 3) := by decide +kernel
theorem dX10_evenings_13 : decode cX10_evenings 13 = .ok (.ireturn, 1) := by decide +kernel
theorem dX10_evenings_14 : decode cX10_evenings 14 = .ok (.iload_n 2, 1) := by decide +kernel
theorem dX10_evenings_15 : decode cX10_evenings 15 = .ok (.invokestatic 291, 3) := by decide +kernel
theorem dX10_evenings_18 : decode cX10_evenings 18 = .ok (.ifCond .ne 10, 3) := by decide +kernel
theorem dX10_evenings_21 : decode cX10_evenings 21 = .ok (.iload_n 3, 1) := by decide +kernel
theorem dX10_evenings_22 : decode cX10_evenings 22 = .ok (.invokestatic 294, 3) := by decide +kernel
theorem dX10_evenings_25 : decode cX10_evenings 25 = .ok (.ifCond .eq 9, 3) := by decide +kernel
theorem dX10_evenings_28 : decode cX10_evenings 28 = .ok (.aload_n 0, 1) := by decide +kernel
theorem dX10_evenings_29 : decode cX10_evenings 29 = .ok (.iconst 2, 1) := by decide +kernel
theorem dX10_evenings_30 : decode cX10_evenings 30 = .ok (.invokevirtual 73, 3) := by decide +kernel
theorem dX10_evenings_33 : decode cX10_evenings 33 = .ok (.ireturn, 1) := by decide +kernel
theorem dX10_evenings_34 : decode cX10_evenings 34 = .ok (.aload_n 0, 1) := by decide +kernel
theorem dX10_evenings_35 : decode cX10_evenings 35 = .ok (.getfield 61, 3) := by decide +kernel
theorem dX10_evenings_38 : decode cX10_evenings 38 = .ok (.getfield 158, 3) := by decide +kernel
theorem dX10_evenings_41 : decode cX10_evenings 41 = .ok (.lstore 4, 2) := by decide +kernel
theorem dX10_evenings_43 : decode cX10_evenings 43 = .ok (.aload_n 0, 1) := by decide +kernel
theorem dX10_evenings_44 : decode cX10_evenings 44 = .ok (.getfield 54, 3) := by decide +kernel
theorem dX10_evenings_47 : decode cX10_evenings 47 = .ok (.iload_n 2, 1) := by decide +kernel
theorem dX10_evenings_48 : decode cX10_evenings 48 = .ok (.putfield 297, 3) := by decide +kernel
theorem dX10_evenings_51 : decode cX10_evenings 51 = .ok (.iconst 0, 1) := by decide +kernel
theorem dX10_evenings_52 : decode cX10_evenings 52 = .ok (.istore 6, 2) := by decide +kernel
theorem dX10_evenings_54 : decode cX10_evenings 54 = .ok (.iload 6, 2) := by decide +kernel
theorem dX10_evenings_56 : decode cX10_evenings 56 = .ok (.iload_n 3, 1) := by decide +kernel
theorem dX10_evenings_57 : decode cX10_evenings 57 = .ok (.if_icmp .ge 19, 3) := by decide +kernel
theorem dX10_evenings_60 : decode cX10_evenings 60 = .ok (.aload_n 0, 1) := by decide +kernel
theorem dX10_evenings_61 : decode cX10_evenings 61 = .ok (.lload 4, 2) := by decide +kernel
theorem dX10_evenings_63 : decode cX10_evenings 63 = .ok (.iload 6, 2) := by decide +kernel
theorem dX10_evenings_65 : decode cX10_evenings 65 = .ok (.invokevirtual 300, 3) := by decide +kernel
theorem dX10_evenings_68 : decode cX10_evenings 68 = .ok (.lstore 4, 2) := by decide +kernel
theorem dX10_evenings_70 : decode cX10_evenings 70 = .ok (.iinc 6 1, 3) := by decide +kernel
theorem dX10_evenings_73 : decode cX10_evenings 73 = .ok (.goto (-19), 3) := by decide +kernel
theorem dX10_evenings_76 : decode cX10_evenings 76 = .ok (.aload_n 0, 1) := by decide +kernel
theorem dX10_evenings_77 : decode cX10_evenings 77 = .ok (.lload 4, 2) := by decide +kernel
theorem dX10_evenings_79 : decode cX10_evenings 79 = .ok (.iload_n 1, 1) := by decide +kernel
theorem dX10_evenings_80 : decode cX10_evenings 80 = .ok (.invokestatic 304, 3) := by decide +kernel
theorem dX10_evenings_83 : decode cX10_evenings 83 = .ok (.invokevirtual 109, 3) := by decide +kernel
theorem dX10_evenings_86 : decode cX10_evenings 86 = .ok (.ireturn, 1) := by decide +kernel
theorem dX10_noSeed_0 : decode cX10_noSeed 0 = .ok (.iload_n 0, 1) := by decide +kernel
theorem dX10_noSeed_1 : decode cX10_noSeed 1 = .ok (.ifCond .lt 10, 3) := by decide +kernel
theorem dX10_noSeed_4 : decode cX10_noSeed 4 = .ok (.iload_n 0, 1) := by decide +kernel
theorem dX10_noSeed_5 : decode cX10_noSeed 5 = .ok (.ldc_w 322, 3) := by decide +kernel
theorem dX10_noSeed_8 : decode cX10_noSeed 8 = .ok (.if_icmp .lt 7, 3) := by decide +kernel
theorem dX10_noSeed_11 : decode cX10_noSeed 11 = .ok (.iconst 1, 1) := by decide +kernel
theorem dX10_noSeed_12 : decode cX10_noSeed 12 = .ok (.goto 4, 3) := by decide +kernel
theorem dX10_noSeed_15 : decode cX10_noSeed 15 = .ok (.iconst 0, 1) := by decide +kernel
theorem dX10_noSeed_16 : decode cX10_noSeed 16 = .ok (.ireturn, 1) := by decide +kernel
theorem dX10_noEvenings_0 : decode cX10_noEvenings 0 = .ok (.iload_n 0, 1) := by decide +kernel
theorem dX10_noEvenings_1 : decode cX10_noEvenings 1 = .ok (.ifCond .lt 9, 3) := by decide +kernel
theorem dX10_noEvenings_4 : decode cX10_noEvenings 4 = .ok (.iload_n 0, 1) := by decide +kernel
theorem dX10_noEvenings_5 : decode cX10_noEvenings 5 = .ok (.bipush 60, 2) := by decide +kernel
theorem dX10_noEvenings_7 : decode cX10_noEvenings 7 = .ok (.if_icmp .le 7, 3) := by decide +kernel
theorem dX10_noEvenings_10 : decode cX10_noEvenings 10 = .ok (.iconst 1, 1) := by decide +kernel
theorem dX10_noEvenings_11 : decode cX10_noEvenings 11 = .ok (.goto 4, 3) := by decide +kernel
theorem dX10_noEvenings_14 : decode cX10_noEvenings 14 = .ok (.iconst 0, 1) := by decide +kernel
theorem dX10_noEvenings_15 : decode cX10_noEvenings 15 = .ok (.ireturn, 1) := by decide +kernel
theorem dX10_behindEvening_0 : decode cX10_behindEvening 0 = .ok (.aload_n 0, 1) := by decide +kernel
theorem dX10_behindEvening_1 : decode cX10_behindEvening 1 = .ok (.getfield 10, 3) := by decide +kernel
theorem dX10_behindEvening_4 : decode cX10_behindEvening 4 = .ok (.getfield 203, 3) := by decide +kernel
theorem dX10_behindEvening_7 : decode cX10_behindEvening 7 = .ok (.istore 4, 2) := by decide +kernel
theorem dX10_behindEvening_9 : decode cX10_behindEvening 9 = .ok (.iload 4, 2) := by decide +kernel
theorem dX10_behindEvening_11 : decode cX10_behindEvening 11 = .ok (.ifCond .gt 5, 3) := by decide +kernel
theorem dX10_behindEvening_14 : decode cX10_behindEvening 14 = .ok (.lload_n 1, 1) := by decide +kernel
theorem dX10_behindEvening_15 : decode cX10_behindEvening 15 = .ok (.lreturn, 1) := by decide +kernel
theorem dX10_behindEvening_16 : decode cX10_behindEvening 16 = .ok (.aload_n 0, 1) := by decide +kernel
theorem dX10_behindEvening_17 : decode cX10_behindEvening 17 = .ok (.getfield 54, 3) := by decide +kernel
theorem dX10_behindEvening_20 : decode cX10_behindEvening 20 = .ok (.aload_n 0, 1) := by decide +kernel
theorem dX10_behindEvening_21 : decode cX10_behindEvening 21 = .ok (.getfield 26, 3) := by decide +kernel
theorem dX10_behindEvening_24 : decode cX10_behindEvening 24 = .ok (.aload_n 0, 1) := by decide +kernel
theorem dX10_behindEvening_25 : decode cX10_behindEvening 25 = .ok (.getfield 10, 3) := by decide +kernel
theorem dX10_behindEvening_28 : decode cX10_behindEvening 28 = .ok (.invokevirtual 311, 3) := by decide +kernel
theorem dX10_behindEvening_31 : decode cX10_behindEvening 31 = .ok (.lload_n 1, 1) := by decide +kernel
theorem dX10_behindEvening_32 : decode cX10_behindEvening 32 = .ok (.iload_n 3, 1) := by decide +kernel
theorem dX10_behindEvening_33 : decode cX10_behindEvening 33 = .ok (.iload 4, 2) := by decide +kernel
theorem dX10_behindEvening_35 : decode cX10_behindEvening 35 = .ok (.irem, 1) := by decide +kernel
theorem dX10_behindEvening_36 : decode cX10_behindEvening 36 = .ok (.aload_n 0, 1) := by decide +kernel
theorem dX10_behindEvening_37 : decode cX10_behindEvening 37 = .ok (.getfield 54, 3) := by decide +kernel
theorem dX10_behindEvening_40 : decode cX10_behindEvening 40 = .ok (.getfield 315, 3) := by decide +kernel
theorem dX10_behindEvening_43 : decode cX10_behindEvening 43 = .ok (.invokestatic 318, 3) := by decide +kernel
theorem dX10_behindEvening_46 : decode cX10_behindEvening 46 = .ok (.lreturn, 1) := by decide +kernel
theorem dX1_pass_0 : decode cX1_pass 0 = .ok (.aload_n 0, 1) := by decide +kernel
theorem dX1_pass_1 : decode cX1_pass 1 = .ok (.iconst 0, 1) := by decide +kernel
theorem dX1_pass_2 : decode cX1_pass 2 = .ok (.putfield 9, 3) := by decide +kernel
theorem dX1_pass_5 : decode cX1_pass 5 = .ok (.aload_n 1, 1) := by decide +kernel
theorem dX1_pass_6 : decode cX1_pass 6 = .ok (.aload_n 2, 1) := by decide +kernel
theorem dX1_pass_7 : decode cX1_pass 7 = .ok (.invokevirtual 15, 3) := by decide +kernel
theorem dX1_pass_10 : decode cX1_pass 10 = .ok (.invokevirtual 21, 3) := by decide +kernel
theorem dX1_pass_13 : decode cX1_pass 13 = .ok (.istore_n 3, 1) := by decide +kernel
theorem dX1_pass_14 : decode cX1_pass 14 = .ok (.iload_n 3, 1) := by decide +kernel
theorem dX1_pass_15 : decode cX1_pass 15 = .ok (.iconst (-1), 1) := by decide +kernel
theorem dX1_pass_16 : decode cX1_pass 16 = .ok (.if_icmp .ne 4, 3) := by decide +kernel
theorem dX1_pass_19 : decode cX1_pass 19 = .ok (.return_, 1) := by decide +kernel
theorem dX1_pass_20 : decode cX1_pass 20 = .ok (.aload_n 1, 1) := by decide +kernel
theorem dX1_pass_21 : decode cX1_pass 21 = .ok (.iload_n 3, 1) := by decide +kernel
theorem dX1_pass_22 : decode cX1_pass 22 = .ok (.invokevirtual 27, 3) := by decide +kernel
theorem dX1_pass_25 : decode cX1_pass 25 = .ok (.istore 4, 2) := by decide +kernel
theorem dX1_pass_27 : decode cX1_pass 27 = .ok (.iconst 0, 1) := by decide +kernel
theorem dX1_pass_28 : decode cX1_pass 28 = .ok (.istore 5, 2) := by decide +kernel
theorem dX1_pass_30 : decode cX1_pass 30 = .ok (.iload 5, 2) := by decide +kernel
theorem dX1_pass_32 : decode cX1_pass 32 = .ok (.iload 4, 2) := by decide +kernel
theorem dX1_pass_34 : decode cX1_pass 34 = .ok (.if_icmp .ge 59, 3) := by decide +kernel
theorem dX1_pass_37 : decode cX1_pass 37 = .ok (.aload_n 0, 1) := by decide +kernel
theorem dX1_pass_38 : decode cX1_pass 38 = .ok (.bipush 75, 2) := by decide +kernel
theorem dX1_pass_40 : decode cX1_pass 40 = .ok (.aload_n 0, 1) := by decide +kernel
theorem dX1_pass_41 : decode cX1_pass 41 = .ok (.getfield 30, 3) := by decide +kernel
theorem dX1_pass_44 : decode cX1_pass 44 = .ok (.imul, 1) := by decide +kernel
theorem dX1_pass_45 : decode cX1_pass 45 = .ok (.bipush 74, 2) := by decide +kernel
theorem dX1_pass_47 : decode cX1_pass 47 = .ok (.iadd, 1) := by decide +kernel
theorem dX1_pass_48 : decode cX1_pass 48 = .ok (.ldc 33, 2) := by decide +kernel
theorem dX1_pass_50 : decode cX1_pass 50 = .ok (.irem, 1) := by decide +kernel
theorem dX1_pass_51 : decode cX1_pass 51 = .ok (.putfield 30, 3) := by decide +kernel
theorem dX1_pass_54 : decode cX1_pass 54 = .ok (.aload_n 0, 1) := by decide +kernel
theorem dX1_pass_55 : decode cX1_pass 55 = .ok (.getfield 30, 3) := by decide +kernel
theorem dX1_pass_58 : decode cX1_pass 58 = .ok (.bipush 100, 2) := by decide +kernel
theorem dX1_pass_60 : decode cX1_pass 60 = .ok (.irem, 1) := by decide +kernel
theorem dX1_pass_61 : decode cX1_pass 61 = .ok (.aload_n 2, 1) := by decide +kernel
theorem dX1_pass_62 : decode cX1_pass 62 = .ok (.getfield 34, 3) := by decide +kernel
theorem dX1_pass_65 : decode cX1_pass 65 = .ok (.if_icmp .ge 4, 3) := by decide +kernel
theorem dX1_pass_68 : decode cX1_pass 68 = .ok (.return_, 1) := by decide +kernel
theorem dX1_pass_69 : decode cX1_pass 69 = .ok (.aload_n 0, 1) := by decide +kernel
theorem dX1_pass_70 : decode cX1_pass 70 = .ok (.dup, 1) := by decide +kernel
theorem dX1_pass_71 : decode cX1_pass 71 = .ok (.getfield 9, 3) := by decide +kernel
theorem dX1_pass_74 : decode cX1_pass 74 = .ok (.iconst 1, 1) := by decide +kernel
theorem dX1_pass_75 : decode cX1_pass 75 = .ok (.aload_n 1, 1) := by decide +kernel
theorem dX1_pass_76 : decode cX1_pass 76 = .ok (.iload_n 3, 1) := by decide +kernel
theorem dX1_pass_77 : decode cX1_pass 77 = .ok (.iload 5, 2) := by decide +kernel
theorem dX1_pass_79 : decode cX1_pass 79 = .ok (.invokevirtual 37, 3) := by decide +kernel
theorem dX1_pass_82 : decode cX1_pass 82 = .ok (.ishl, 1) := by decide +kernel
theorem dX1_pass_83 : decode cX1_pass 83 = .ok (.ior, 1) := by decide +kernel
theorem dX1_pass_84 : decode cX1_pass 84 = .ok (.putfield 9, 3) := by decide +kernel
theorem dX1_pass_87 : decode cX1_pass 87 = .ok (.iinc 5 1, 3) := by decide +kernel
theorem dX1_pass_90 : decode cX1_pass 90 = .ok (.goto (-60), 3) := by decide +kernel
theorem dX1_pass_93 : decode cX1_pass 93 = .ok (.return_, 1) := by decide +kernel
theorem dX10_allSense_0 : decode cX10_allSense 0 = .ok (.aload_n 0, 1) := by decide +kernel
theorem dX10_allSense_1 : decode cX10_allSense 1 = .ok (.getfield 10, 3) := by decide +kernel
theorem dX10_allSense_4 : decode cX10_allSense 4 = .ok (.getfield 203, 3) := by decide +kernel
theorem dX10_allSense_7 : decode cX10_allSense 7 = .ok (.ifCond .ne 9, 3) := by decide +kernel
theorem dX10_allSense_10 : decode cX10_allSense 10 = .ok (.aload_n 0, 1) := by decide +kernel
theorem dX10_allSense_11 : decode cX10_allSense 11 = .ok (.iconst 1, 1) := by decide +kernel
theorem dX10_allSense_12 : decode cX10_allSense 12 = .ok (.invokevirtual 73, 3) := by decide +kernel
theorem dX10_allSense_15 : decode cX10_allSense 15 = .ok (.ireturn, 1) := by decide +kernel
theorem dX10_allSense_16 : decode cX10_allSense 16 = .ok (.iload_n 1, 1) := by decide +kernel
theorem dX10_allSense_17 : decode cX10_allSense 17 = .ok (.invokestatic 291, 3) := by decide +kernel
theorem dX10_allSense_20 : decode cX10_allSense 20 = .ok (.ifCond .ne 10, 3) := by decide +kernel
theorem dX10_allSense_23 : decode cX10_allSense 23 = .ok (.iload_n 2, 1) := by decide +kernel
theorem dX10_allSense_24 : decode cX10_allSense 24 = .ok (.invokestatic 294, 3) := by decide +kernel
theorem dX10_allSense_27 : decode cX10_allSense 27 = .ok (.ifCond .eq 9, 3) := by decide +kernel
theorem dX10_allSense_30 : decode cX10_allSense 30 = .ok (.aload_n 0, 1) := by decide +kernel
theorem dX10_allSense_31 : decode cX10_allSense 31 = .ok (.iconst 2, 1) := by decide +kernel
theorem dX10_allSense_32 : decode cX10_allSense 32 = .ok (.invokevirtual 73, 3) := by decide +kernel
theorem dX10_allSense_35 : decode cX10_allSense 35 = .ok (.ireturn, 1) := by decide +kernel
theorem dX10_allSense_36 : decode cX10_allSense 36 = .ok (.aload_n 0, 1) := by decide +kernel
theorem dX10_allSense_37 : decode cX10_allSense 37 = .ok (.getfield 61, 3) := by decide +kernel
theorem dX10_allSense_40 : decode cX10_allSense 40 = .ok (.getfield 158, 3) := by decide +kernel
theorem dX10_allSense_43 : decode cX10_allSense 43 = .ok (.lstore_n 3, 1) := by decide +kernel
theorem dX10_allSense_44 : decode cX10_allSense 44 = .ok (.aload_n 0, 1) := by decide +kernel
theorem dX10_allSense_45 : decode cX10_allSense 45 = .ok (.getfield 54, 3) := by decide +kernel
theorem dX10_allSense_48 : decode cX10_allSense 48 = .ok (.iload_n 1, 1) := by decide +kernel
theorem dX10_allSense_49 : decode cX10_allSense 49 = .ok (.putfield 297, 3) := by decide +kernel
theorem dX10_allSense_52 : decode cX10_allSense 52 = .ok (.iconst 0, 1) := by decide +kernel
theorem dX10_allSense_53 : decode cX10_allSense 53 = .ok (.istore 5, 2) := by decide +kernel
theorem dX10_allSense_55 : decode cX10_allSense 55 = .ok (.iload 5, 2) := by decide +kernel
theorem dX10_allSense_57 : decode cX10_allSense 57 = .ok (.iload_n 2, 1) := by decide +kernel
theorem dX10_allSense_58 : decode cX10_allSense 58 = .ok (.if_icmp .ge 34, 3) := by decide +kernel
theorem dX10_allSense_61 : decode cX10_allSense 61 = .ok (.aload_n 0, 1) := by decide +kernel
theorem dX10_allSense_62 : decode cX10_allSense 62 = .ok (.lload_n 3, 1) := by decide +kernel
theorem dX10_allSense_63 : decode cX10_allSense 63 = .ok (.iload 5, 2) := by decide +kernel
theorem dX10_allSense_65 : decode cX10_allSense 65 = .ok (.invokevirtual 300, 3) := by decide +kernel
theorem dX10_allSense_68 : decode cX10_allSense 68 = .ok (.lstore_n 3, 1) := by decide +kernel
theorem dX10_allSense_69 : decode cX10_allSense 69 = .ok (.aload_n 0, 1) := by decide +kernel
theorem dX10_allSense_70 : decode cX10_allSense 70 = .ok (.lload_n 3, 1) := by decide +kernel
theorem dX10_allSense_71 : decode cX10_allSense 71 = .ok (.invokevirtual 307, 3) := by decide +kernel
theorem dX10_allSense_74 : decode cX10_allSense 74 = .ok (.ifCond .eq 12, 3) := by decide +kernel
theorem dX10_allSense_77 : decode cX10_allSense 77 = .ok (.aload_n 0, 1) := by decide +kernel
theorem dX10_allSense_78 : decode cX10_allSense 78 = .ok (.iload 5, 2) := by decide +kernel
theorem dX10_allSense_80 : decode cX10_allSense 80 = .ok (.iconst 1, 1) := by decide +kernel
theorem dX10_allSense_81 : decode cX10_allSense 81 = .ok (.iadd, 1) := by decide +kernel
theorem dX10_allSense_82 : decode cX10_allSense 82 = .ok (.invokevirtual 109, 3) := by decide +kernel
theorem dX10_allSense_85 : decode cX10_allSense 85 = .ok (.ireturn, 1) := by decide +kernel
theorem dX10_allSense_86 : decode cX10_allSense 86 = .ok (.iinc 5 1, 3) := by decide +kernel
theorem dX10_allSense_89 : decode cX10_allSense 89 = .ok (.goto (-34), 3) := by decide +kernel
theorem dX10_allSense_92 : decode cX10_allSense 92 = .ok (.aload_n 0, 1) := by decide +kernel
theorem dX10_allSense_93 : decode cX10_allSense 93 = .ok (.iconst 0, 1) := by decide +kernel
theorem dX10_allSense_94 : decode cX10_allSense 94 = .ok (.invokevirtual 109, 3) := by decide +kernel
theorem dX10_allSense_97 : decode cX10_allSense 97 = .ok (.ireturn, 1) := by decide +kernel
theorem dX10_allHaveSense_0 : decode cX10_allHaveSense 0 = .ok (.iconst 0, 1) := by decide +kernel
theorem dX10_allHaveSense_1 : decode cX10_allHaveSense 1 = .ok (.istore_n 3, 1) := by decide +kernel
theorem dX10_allHaveSense_2 : decode cX10_allHaveSense 2 = .ok (.iload_n 3, 1) := by decide +kernel
theorem dX10_allHaveSense_3 : decode cX10_allHaveSense 3 = .ok (.aload_n 0, 1) := by decide +kernel
theorem dX10_allHaveSense_4 : decode cX10_allHaveSense 4 = .ok (.getfield 10, 3) := by decide +kernel
theorem dX10_allHaveSense_7 : decode cX10_allHaveSense 7 = .ok (.getfield 203, 3) := by decide +kernel
theorem dX10_allHaveSense_10 : decode cX10_allHaveSense 10 = .ok (.if_icmp .ge 26, 3) := by decide +kernel
theorem dX10_allHaveSense_13 : decode cX10_allHaveSense 13 = .ok (.aload_n 0, 1) := by decide +kernel
theorem dX10_allHaveSense_14 : decode cX10_allHaveSense 14 = .ok (.getfield 26, 3) := by decide +kernel
theorem dX10_allHaveSense_17 : decode cX10_allHaveSense 17 = .ok (.lload_n 1, 1) := by decide +kernel
theorem dX10_allHaveSense_18 : decode cX10_allHaveSense 18 = .ok (.iload_n 3, 1) := by decide +kernel
theorem dX10_allHaveSense_19 : decode cX10_allHaveSense 19 = .ok (.invokestatic 304, 3) := by decide +kernel
theorem dX10_allHaveSense_22 : decode cX10_allHaveSense 22 = .ok (.invokevirtual 212, 3) := by decide +kernel
theorem dX10_allHaveSense_25 : decode cX10_allHaveSense 25 = .ok (.ifCond .ne 5, 3) := by decide +kernel
theorem dX10_allHaveSense_28 : decode cX10_allHaveSense 28 = .ok (.iconst 0, 1) := by decide +kernel
theorem dX10_allHaveSense_29 : decode cX10_allHaveSense 29 = .ok (.ireturn, 1) := by decide +kernel
theorem dX10_allHaveSense_30 : decode cX10_allHaveSense 30 = .ok (.iinc 3 1, 3) := by decide +kernel
theorem dX10_allHaveSense_33 : decode cX10_allHaveSense 33 = .ok (.goto (-31), 3) := by decide +kernel
theorem dX10_allHaveSense_36 : decode cX10_allHaveSense 36 = .ok (.iconst 1, 1) := by decide +kernel
theorem dX10_allHaveSense_37 : decode cX10_allHaveSense 37 = .ok (.ireturn, 1) := by decide +kernel
theorem dX10_tell_0 : decode cX10_tell 0 = .ok (.aload_n 0, 1) := by decide +kernel
theorem dX10_tell_1 : decode cX10_tell 1 = .ok (.iload_n 1, 1) := by decide +kernel
theorem dX10_tell_2 : decode cX10_tell 2 = .ok (.invokevirtual 137, 3) := by decide +kernel
theorem dX10_tell_5 : decode cX10_tell 5 = .ok (.ifCond .ne 16, 3) := by decide +kernel
theorem dX10_tell_8 : decode cX10_tell 8 = .ok (.aload_n 0, 1) := by decide +kernel
theorem dX10_tell_9 : decode cX10_tell 9 = .ok (.iload_n 2, 1) := by decide +kernel
theorem dX10_tell_10 : decode cX10_tell 10 = .ok (.invokevirtual 137, 3) := by decide +kernel
theorem dX10_tell_13 : decode cX10_tell 13 = .ok (.ifCond .ne 8, 3) := by decide +kernel
theorem dX10_tell_16 : decode cX10_tell 16 = .ok (.iload_n 1, 1) := by decide +kernel
theorem dX10_tell_17 : decode cX10_tell 17 = .ok (.iload_n 2, 1) := by decide +kernel
theorem dX10_tell_18 : decode cX10_tell 18 = .ok (.if_icmp .ne 9, 3) := by decide +kernel
theorem dX10_tell_21 : decode cX10_tell 21 = .ok (.aload_n 0, 1) := by decide +kernel
theorem dX10_tell_22 : decode cX10_tell 22 = .ok (.iconst 1, 1) := by decide +kernel
theorem dX10_tell_23 : decode cX10_tell 23 = .ok (.invokevirtual 73, 3) := by decide +kernel
theorem dX10_tell_26 : decode cX10_tell 26 = .ok (.ireturn, 1) := by decide +kernel
theorem dX10_tell_27 : decode cX10_tell 27 = .ok (.aload_n 0, 1) := by decide +kernel
theorem dX10_tell_28 : decode cX10_tell 28 = .ok (.getfield 10, 3) := by decide +kernel
theorem dX10_tell_31 : decode cX10_tell 31 = .ok (.iload_n 1, 1) := by decide +kernel
theorem dX10_tell_32 : decode cX10_tell 32 = .ok (.invokevirtual 206, 3) := by decide +kernel
theorem dX10_tell_35 : decode cX10_tell 35 = .ok (.ifCond .eq 9, 3) := by decide +kernel
theorem dX10_tell_38 : decode cX10_tell 38 = .ok (.aload_n 0, 1) := by decide +kernel
theorem dX10_tell_39 : decode cX10_tell 39 = .ok (.iconst 5, 1) := by decide +kernel
theorem dX10_tell_40 : decode cX10_tell 40 = .ok (.invokevirtual 73, 3) := by decide +kernel
theorem dX10_tell_43 : decode cX10_tell 43 = .ok (.ireturn, 1) := by decide +kernel
theorem dX10_tell_44 : decode cX10_tell 44 = .ok (.aload_n 0, 1) := by decide +kernel
theorem dX10_tell_45 : decode cX10_tell 45 = .ok (.getfield 61, 3) := by decide +kernel
theorem dX10_tell_48 : decode cX10_tell 48 = .ok (.iload_n 1, 1) := by decide +kernel
theorem dX10_tell_49 : decode cX10_tell 49 = .ok (.invokevirtual 149, 3) := by decide +kernel
theorem dX10_tell_52 : decode cX10_tell 52 = .ok (.aload_n 0, 1) := by decide +kernel
theorem dX10_tell_53 : decode cX10_tell 53 = .ok (.getfield 61, 3) := by decide +kernel
theorem dX10_tell_56 : decode cX10_tell 56 = .ok (.iload_n 2, 1) := by decide +kernel
theorem dX10_tell_57 : decode cX10_tell 57 = .ok (.invokevirtual 149, 3) := by decide +kernel
theorem dX10_tell_60 : decode cX10_tell 60 = .ok (.iconst (-1), 1) := by decide +kernel
theorem dX10_tell_61 : decode cX10_tell 61 = .ok (.ixor, 1) := by decide +kernel
theorem dX10_tell_62 : decode cX10_tell 62 = .ok (.iand, 1) := by decide +kernel
theorem dX10_tell_63 : decode cX10_tell 63 = .ok (.istore_n 3, 1) := by decide +kernel
theorem dX10_tell_64 : decode cX10_tell 64 = .ok (.aload_n 0, 1) := by decide +kernel
theorem dX10_tell_65 : decode cX10_tell 65 = .ok (.getfield 61, 3) := by decide +kernel
theorem dX10_tell_68 : decode cX10_tell 68 = .ok (.invokevirtual 323, 3) := by decide +kernel
theorem dX10_tell_71 : decode cX10_tell 71 = .ok (.aload_n 0, 1) := by decide +kernel
theorem dX10_tell_72 : decode cX10_tell 72 = .ok (.getfield 61, 3) := by decide +kernel
theorem dX10_tell_75 : decode cX10_tell 75 = .ok (.aload_n 0, 1) := by decide +kernel
theorem dX10_tell_76 : decode cX10_tell 76 = .ok (.getfield 61, 3) := by decide +kernel
theorem dX10_tell_79 : decode cX10_tell 79 = .ok (.getfield 158, 3) := by decide +kernel
theorem dX10_tell_82 : decode cX10_tell 82 = .ok (.iload_n 2, 1) := by decide +kernel
theorem dX10_tell_83 : decode cX10_tell 83 = .ok (.iload_n 3, 1) := by decide +kernel
theorem dX10_tell_84 : decode cX10_tell 84 = .ok (.invokestatic 318, 3) := by decide +kernel
theorem dX10_tell_87 : decode cX10_tell 87 = .ok (.putfield 158, 3) := by decide +kernel
theorem dX10_tell_90 : decode cX10_tell 90 = .ok (.aload_n 0, 1) := by decide +kernel
theorem dX10_tell_91 : decode cX10_tell 91 = .ok (.iload_n 3, 1) := by decide +kernel
theorem dX10_tell_92 : decode cX10_tell 92 = .ok (.invokevirtual 109, 3) := by decide +kernel
theorem dX10_tell_95 : decode cX10_tell 95 = .ok (.ireturn, 1) := by decide +kernel
theorem dX3_keep_0 : decode cX3_keep 0 = .ok (.aload_n 0, 1) := by decide +kernel
theorem dX3_keep_1 : decode cX3_keep 1 = .ok (.getfield 40, 3) := by decide +kernel
theorem dX3_keep_4 : decode cX3_keep 4 = .ok (.bipush 16, 2) := by decide +kernel
theorem dX3_keep_6 : decode cX3_keep 6 = .ok (.if_icmp .lt 24, 3) := by decide +kernel
theorem dX3_keep_9 : decode cX3_keep 9 = .ok (.aload_n 0, 1) := by decide +kernel
theorem dX3_keep_10 : decode cX3_keep 10 = .ok (.getfield 11, 3) := by decide +kernel
theorem dX3_keep_13 : decode cX3_keep 13 = .ok (.iconst 1, 1) := by decide +kernel
theorem dX3_keep_14 : decode cX3_keep 14 = .ok (.aload_n 0, 1) := by decide +kernel
theorem dX3_keep_15 : decode cX3_keep 15 = .ok (.getfield 11, 3) := by decide +kernel
theorem dX3_keep_18 : decode cX3_keep 18 = .ok (.iconst 0, 1) := by decide +kernel
theorem dX3_keep_19 : decode cX3_keep 19 = .ok (.bipush 15, 2) := by decide +kernel
theorem dX3_keep_21 : decode cX3_keep 21 = .ok (.invokestatic 58, 3) := by decide +kernel
theorem dX3_keep_24 : decode cX3_keep 24 = .ok (.aload_n 0, 1) := by decide +kernel
theorem dX3_keep_25 : decode cX3_keep 25 = .ok (.bipush 15, 2) := by decide +kernel
theorem dX3_keep_27 : decode cX3_keep 27 = .ok (.putfield 40, 3) := by decide +kernel
theorem dX3_keep_30 : decode cX3_keep 30 = .ok (.aload_n 0, 1) := by decide +kernel
theorem dX3_keep_31 : decode cX3_keep 31 = .ok (.getfield 11, 3) := by decide +kernel
theorem dX3_keep_34 : decode cX3_keep 34 = .ok (.aload_n 0, 1) := by decide +kernel
theorem dX3_keep_35 : decode cX3_keep 35 = .ok (.getfield 40, 3) := by decide +kernel
theorem dX3_keep_38 : decode cX3_keep 38 = .ok (.aload_n 0, 1) := by decide +kernel
theorem dX3_keep_39 : decode cX3_keep 39 = .ok (.invokevirtual 64, 3) := by decide +kernel
theorem dX3_keep_42 : decode cX3_keep 42 = .ok (.lastore, 1) := by decide +kernel
theorem dX3_keep_43 : decode cX3_keep 43 = .ok (.aload_n 0, 1) := by decide +kernel
theorem dX3_keep_44 : decode cX3_keep 44 = .ok (.dup, 1) := by decide +kernel
theorem dX3_keep_45 : decode cX3_keep 45 = .ok (.getfield 40, 3) := by decide +kernel
theorem dX3_keep_48 : decode cX3_keep 48 = .ok (.iconst 1, 1) := by decide +kernel
theorem dX3_keep_49 : decode cX3_keep 49 = .ok (.iadd, 1) := by decide +kernel
theorem dX3_keep_50 : decode cX3_keep 50 = .ok (.putfield 40, 3) := by decide +kernel
theorem dX3_keep_53 : decode cX3_keep 53 = .ok (.return_, 1) := by decide +kernel
theorem dX3_packed_0 : decode cX3_packed 0 = .ok (.aload_n 0, 1) := by decide +kernel
theorem dX3_packed_1 : decode cX3_packed 1 = .ok (.getfield 37, 3) := by decide +kernel
theorem dX3_packed_4 : decode cX3_packed 4 = .ok (.i2l, 1) := by decide +kernel
theorem dX3_packed_5 : decode cX3_packed 5 = .ok (.bipush 40, 2) := by decide +kernel
theorem dX3_packed_7 : decode cX3_packed 7 = .ok (.lshl, 1) := by decide +kernel
theorem dX3_packed_8 : decode cX3_packed 8 = .ok (.aload_n 0, 1) := by decide +kernel
theorem dX3_packed_9 : decode cX3_packed 9 = .ok (.getfield 25, 3) := by decide +kernel
theorem dX3_packed_12 : decode cX3_packed 12 = .ok (.lor, 1) := by decide +kernel
theorem dX3_packed_13 : decode cX3_packed 13 = .ok (.lreturn, 1) := by decide +kernel
theorem dX10_learn_0 : decode cX10_learn 0 = .ok (.aload_n 0, 1) := by decide +kernel
theorem dX10_learn_1 : decode cX10_learn 1 = .ok (.iload_n 1, 1) := by decide +kernel
theorem dX10_learn_2 : decode cX10_learn 2 = .ok (.invokevirtual 137, 3) := by decide +kernel
theorem dX10_learn_5 : decode cX10_learn 5 = .ok (.ifCond .ne 11, 3) := by decide +kernel
theorem dX10_learn_8 : decode cX10_learn 8 = .ok (.aload_n 0, 1) := by decide +kernel
theorem dX10_learn_9 : decode cX10_learn 9 = .ok (.iload_n 2, 1) := by decide +kernel
theorem dX10_learn_10 : decode cX10_learn 10 = .ok (.invokevirtual 121, 3) := by decide +kernel
theorem dX10_learn_13 : decode cX10_learn 13 = .ok (.ifCond .eq 9, 3) := by decide +kernel
theorem dX10_learn_16 : decode cX10_learn 16 = .ok (.aload_n 0, 1) := by decide +kernel
theorem dX10_learn_17 : decode cX10_learn 17 = .ok (.iconst 1, 1) := by decide +kernel
theorem dX10_learn_18 : decode cX10_learn 18 = .ok (.invokevirtual 326, 3) := by decide +kernel
theorem dX10_learn_21 : decode cX10_learn 21 = .ok (.ireturn, 1) := by decide +kernel
theorem dX10_learn_22 : decode cX10_learn 22 = .ok (.aload_n 0, 1) := by decide +kernel
theorem dX10_learn_23 : decode cX10_learn 23 = .ok (.getfield 61, 3) := by decide +kernel
theorem dX10_learn_26 : decode cX10_learn 26 = .ok (.iload_n 1, 1) := by decide +kernel
theorem dX10_learn_27 : decode cX10_learn 27 = .ok (.iload_n 2, 1) := by decide +kernel
theorem dX10_learn_28 : decode cX10_learn 28 = .ok (.invokevirtual 329, 3) := by decide +kernel
theorem dX10_learn_31 : decode cX10_learn 31 = .ok (.ifCond .eq 9, 3) := by decide +kernel
theorem dX10_learn_34 : decode cX10_learn 34 = .ok (.aload_n 0, 1) := by decide +kernel
theorem dX10_learn_35 : decode cX10_learn 35 = .ok (.iconst 5, 1) := by decide +kernel
theorem dX10_learn_36 : decode cX10_learn 36 = .ok (.invokevirtual 326, 3) := by decide +kernel
theorem dX10_learn_39 : decode cX10_learn 39 = .ok (.ireturn, 1) := by decide +kernel
theorem dX10_learn_40 : decode cX10_learn 40 = .ok (.aload_n 0, 1) := by decide +kernel
theorem dX10_learn_41 : decode cX10_learn 41 = .ok (.getfield 61, 3) := by decide +kernel
theorem dX10_learn_44 : decode cX10_learn 44 = .ok (.invokevirtual 323, 3) := by decide +kernel
theorem dX10_learn_47 : decode cX10_learn 47 = .ok (.aload_n 0, 1) := by decide +kernel
theorem dX10_learn_48 : decode cX10_learn 48 = .ok (.getfield 61, 3) := by decide +kernel
theorem dX10_learn_51 : decode cX10_learn 51 = .ok (.aload_n 0, 1) := by decide +kernel
theorem dX10_learn_52 : decode cX10_learn 52 = .ok (.getfield 61, 3) := by decide +kernel
theorem dX10_learn_55 : decode cX10_learn 55 = .ok (.getfield 158, 3) := by decide +kernel
theorem dX10_learn_58 : decode cX10_learn 58 = .ok (.iload_n 1, 1) := by decide +kernel
theorem dX10_learn_59 : decode cX10_learn 59 = .ok (.iconst 1, 1) := by decide +kernel
theorem dX10_learn_60 : decode cX10_learn 60 = .ok (.iload_n 2, 1) := by decide +kernel
theorem dX10_learn_61 : decode cX10_learn 61 = .ok (.ishl, 1) := by decide +kernel
theorem dX10_learn_62 : decode cX10_learn 62 = .ok (.invokestatic 318, 3) := by decide +kernel
theorem dX10_learn_65 : decode cX10_learn 65 = .ok (.putfield 158, 3) := by decide +kernel
theorem dX10_learn_68 : decode cX10_learn 68 = .ok (.aload_n 0, 1) := by decide +kernel
theorem dX10_learn_69 : decode cX10_learn 69 = .ok (.invokevirtual 333, 3) := by decide +kernel
theorem dX10_learn_72 : decode cX10_learn 72 = .ok (.ireturn, 1) := by decide +kernel
theorem dX10_deny_0 : decode cX10_deny 0 = .ok (.aload_n 0, 1) := by decide +kernel
theorem dX10_deny_1 : decode cX10_deny 1 = .ok (.iload_n 1, 1) := by decide +kernel
theorem dX10_deny_2 : decode cX10_deny 2 = .ok (.putfield 115, 3) := by decide +kernel
theorem dX10_deny_5 : decode cX10_deny 5 = .ok (.iconst 0, 1) := by decide +kernel
theorem dX10_deny_6 : decode cX10_deny 6 = .ok (.ireturn, 1) := by decide +kernel
theorem dX10_allow_0 : decode cX10_allow 0 = .ok (.aload_n 0, 1) := by decide +kernel
theorem dX10_allow_1 : decode cX10_allow 1 = .ok (.iconst 0, 1) := by decide +kernel
theorem dX10_allow_2 : decode cX10_allow 2 = .ok (.putfield 115, 3) := by decide +kernel
theorem dX10_allow_5 : decode cX10_allow 5 = .ok (.iconst 1, 1) := by decide +kernel
theorem dX10_allow_6 : decode cX10_allow 6 = .ok (.ireturn, 1) := by decide +kernel
theorem dX10_forget_0 : decode cX10_forget 0 = .ok (.aload_n 0, 1) := by decide +kernel
theorem dX10_forget_1 : decode cX10_forget 1 = .ok (.iload_n 1, 1) := by decide +kernel
theorem dX10_forget_2 : decode cX10_forget 2 = .ok (.invokevirtual 137, 3) := by decide +kernel
theorem dX10_forget_5 : decode cX10_forget 5 = .ok (.ifCond .ne 11, 3) := by decide +kernel
theorem dX10_forget_8 : decode cX10_forget 8 = .ok (.aload_n 0, 1) := by decide +kernel
theorem dX10_forget_9 : decode cX10_forget 9 = .ok (.iload_n 2, 1) := by decide +kernel
theorem dX10_forget_10 : decode cX10_forget 10 = .ok (.invokevirtual 121, 3) := by decide +kernel
theorem dX10_forget_13 : decode cX10_forget 13 = .ok (.ifCond .eq 9, 3) := by decide +kernel
theorem dX10_forget_16 : decode cX10_forget 16 = .ok (.aload_n 0, 1) := by decide +kernel
theorem dX10_forget_17 : decode cX10_forget 17 = .ok (.iconst 1, 1) := by decide +kernel
theorem dX10_forget_18 : decode cX10_forget 18 = .ok (.invokevirtual 326, 3) := by decide +kernel
theorem dX10_forget_21 : decode cX10_forget 21 = .ok (.ireturn, 1) := by decide +kernel
theorem dX10_forget_22 : decode cX10_forget 22 = .ok (.aload_n 0, 1) := by decide +kernel
theorem dX10_forget_23 : decode cX10_forget 23 = .ok (.getfield 61, 3) := by decide +kernel
theorem dX10_forget_26 : decode cX10_forget 26 = .ok (.iload_n 1, 1) := by decide +kernel
theorem dX10_forget_27 : decode cX10_forget 27 = .ok (.iload_n 2, 1) := by decide +kernel
theorem dX10_forget_28 : decode cX10_forget 28 = .ok (.invokevirtual 329, 3) := by decide +kernel
theorem dX10_forget_31 : decode cX10_forget 31 = .ok (.ifCond .ne 9, 3) := by decide +kernel
theorem dX10_forget_34 : decode cX10_forget 34 = .ok (.aload_n 0, 1) := by decide +kernel
theorem dX10_forget_35 : decode cX10_forget 35 = .ok (.iconst 5, 1) := by decide +kernel
theorem dX10_forget_36 : decode cX10_forget 36 = .ok (.invokevirtual 326, 3) := by decide +kernel
theorem dX10_forget_39 : decode cX10_forget 39 = .ok (.ireturn, 1) := by decide +kernel
theorem dX10_forget_40 : decode cX10_forget 40 = .ok (.aload_n 0, 1) := by decide +kernel
theorem dX10_forget_41 : decode cX10_forget 41 = .ok (.getfield 61, 3) := by decide +kernel
theorem dX10_forget_44 : decode cX10_forget 44 = .ok (.invokevirtual 323, 3) := by decide +kernel
theorem dX10_forget_47 : decode cX10_forget 47 = .ok (.aload_n 0, 1) := by decide +kernel
theorem dX10_forget_48 : decode cX10_forget 48 = .ok (.getfield 61, 3) := by decide +kernel
theorem dX10_forget_51 : decode cX10_forget 51 = .ok (.dup, 1) := by decide +kernel
theorem dX10_forget_52 : decode cX10_forget 52 = .ok (.getfield 158, 3) := by decide +kernel
theorem dX10_forget_55 : decode cX10_forget 55 = .ok (.lconst 1, 1) := by decide +kernel
theorem dX10_forget_56 : decode cX10_forget 56 = .ok (.bipush 8, 2) := by decide +kernel
theorem dX10_forget_58 : decode cX10_forget 58 = .ok (.iload_n 1, 1) := by decide +kernel
theorem dX10_forget_59 : decode cX10_forget 59 = .ok (.imul, 1) := by decide +kernel
theorem dX10_forget_60 : decode cX10_forget 60 = .ok (.iload_n 2, 1) := by decide +kernel
theorem dX10_forget_61 : decode cX10_forget 61 = .ok (.iadd, 1) := by decide +kernel
theorem dX10_forget_62 : decode cX10_forget 62 = .ok (.lshl, 1) := by decide +kernel
theorem dX10_forget_63 : decode cX10_forget 63 = .ok (.ldc2_w 168, 3) := by decide +kernel
theorem dX10_forget_66 : decode cX10_forget 66 = .ok (.lxor, 1) := by decide +kernel
theorem dX10_forget_67 : decode cX10_forget 67 = .ok (.land, 1) := by decide +kernel
theorem dX10_forget_68 : decode cX10_forget 68 = .ok (.putfield 158, 3) := by decide +kernel
theorem dX10_forget_71 : decode cX10_forget 71 = .ok (.aload_n 0, 1) := by decide +kernel
theorem dX10_forget_72 : decode cX10_forget 72 = .ok (.invokevirtual 333, 3) := by decide +kernel
theorem dX10_forget_75 : decode cX10_forget 75 = .ok (.ireturn, 1) := by decide +kernel
theorem dX10_evening_0 : decode cX10_evening 0 = .ok (.aload_n 0, 1) := by decide +kernel
theorem dX10_evening_1 : decode cX10_evening 1 = .ok (.iload_n 1, 1) := by decide +kernel
theorem dX10_evening_2 : decode cX10_evening 2 = .ok (.invokevirtual 137, 3) := by decide +kernel
theorem dX10_evening_5 : decode cX10_evening 5 = .ok (.ifCond .eq 9, 3) := by decide +kernel
theorem dX10_evening_8 : decode cX10_evening 8 = .ok (.aload_n 0, 1) := by decide +kernel
theorem dX10_evening_9 : decode cX10_evening 9 = .ok (.iconst 1, 1) := by decide +kernel
theorem dX10_evening_10 : decode cX10_evening 10 = .ok (.invokevirtual 73, 3) := by decide +kernel
theorem dX10_evening_13 : decode cX10_evening 13 = .ok (.ireturn, 1) := by decide +kernel
theorem dX10_evening_14 : decode cX10_evening 14 = .ok (.aload_n 0, 1) := by decide +kernel
theorem dX10_evening_15 : decode cX10_evening 15 = .ok (.getfield 26, 3) := by decide +kernel
theorem dX10_evening_18 : decode cX10_evening 18 = .ok (.getfield 336, 3) := by decide +kernel
theorem dX10_evening_21 : decode cX10_evening 21 = .ok (.ifCond .ne 10, 3) := by decide +kernel
theorem dX10_evening_24 : decode cX10_evening 24 = .ok (.aload_n 0, 1) := by decide +kernel
theorem dX10_evening_25 : decode cX10_evening 25 = .ok (.bipush 6, 2) := by decide +kernel
theorem dX10_evening_27 : decode cX10_evening 27 = .ok (.invokevirtual 73, 3) := by decide +kernel
theorem dX10_evening_30 : decode cX10_evening 30 = .ok (.ireturn, 1) := by decide +kernel
theorem dX10_evening_31 : decode cX10_evening 31 = .ok (.aload_n 0, 1) := by decide +kernel
theorem dX10_evening_32 : decode cX10_evening 32 = .ok (.getfield 61, 3) := by decide +kernel
theorem dX10_evening_35 : decode cX10_evening 35 = .ok (.invokevirtual 323, 3) := by decide +kernel
theorem dX10_evening_38 : decode cX10_evening 38 = .ok (.aload_n 0, 1) := by decide +kernel
theorem dX10_evening_39 : decode cX10_evening 39 = .ok (.getfield 54, 3) := by decide +kernel
theorem dX10_evening_42 : decode cX10_evening 42 = .ok (.aload_n 0, 1) := by decide +kernel
theorem dX10_evening_43 : decode cX10_evening 43 = .ok (.getfield 61, 3) := by decide +kernel
theorem dX10_evening_46 : decode cX10_evening 46 = .ok (.getfield 339, 3) := by decide +kernel
theorem dX10_evening_49 : decode cX10_evening 49 = .ok (.putfield 297, 3) := by decide +kernel
theorem dX10_evening_52 : decode cX10_evening 52 = .ok (.aload_n 0, 1) := by decide +kernel
theorem dX10_evening_53 : decode cX10_evening 53 = .ok (.getfield 54, 3) := by decide +kernel
theorem dX10_evening_56 : decode cX10_evening 56 = .ok (.aload_n 0, 1) := by decide +kernel
theorem dX10_evening_57 : decode cX10_evening 57 = .ok (.getfield 26, 3) := by decide +kernel
theorem dX10_evening_60 : decode cX10_evening 60 = .ok (.aload_n 0, 1) := by decide +kernel
theorem dX10_evening_61 : decode cX10_evening 61 = .ok (.getfield 10, 3) := by decide +kernel
theorem dX10_evening_64 : decode cX10_evening 64 = .ok (.invokevirtual 311, 3) := by decide +kernel
theorem dX10_evening_67 : decode cX10_evening 67 = .ok (.aload_n 0, 1) := by decide +kernel
theorem dX10_evening_68 : decode cX10_evening 68 = .ok (.getfield 61, 3) := by decide +kernel
theorem dX10_evening_71 : decode cX10_evening 71 = .ok (.aload_n 0, 1) := by decide +kernel
theorem dX10_evening_72 : decode cX10_evening 72 = .ok (.getfield 54, 3) := by decide +kernel
theorem dX10_evening_75 : decode cX10_evening 75 = .ok (.getfield 297, 3) := by decide +kernel
theorem dX10_evening_78 : decode cX10_evening 78 = .ok (.putfield 339, 3) := by decide +kernel
theorem dX10_evening_81 : decode cX10_evening 81 = .ok (.aload_n 0, 1) := by decide +kernel
theorem dX10_evening_82 : decode cX10_evening 82 = .ok (.getfield 61, 3) := by decide +kernel
theorem dX10_evening_85 : decode cX10_evening 85 = .ok (.aload_n 0, 1) := by decide +kernel
theorem dX10_evening_86 : decode cX10_evening 86 = .ok (.getfield 61, 3) := by decide +kernel
theorem dX10_evening_89 : decode cX10_evening 89 = .ok (.getfield 158, 3) := by decide +kernel
theorem dX10_evening_92 : decode cX10_evening 92 = .ok (.iload_n 1, 1) := by decide +kernel
theorem dX10_evening_93 : decode cX10_evening 93 = .ok (.aload_n 0, 1) := by decide +kernel
theorem dX10_evening_94 : decode cX10_evening 94 = .ok (.getfield 54, 3) := by decide +kernel
theorem dX10_evening_97 : decode cX10_evening 97 = .ok (.getfield 315, 3) := by decide +kernel
theorem dX10_evening_100 : decode cX10_evening 100 = .ok (.invokestatic 318, 3) := by decide +kernel
theorem dX10_evening_103 : decode cX10_evening 103 = .ok (.putfield 158, 3) := by decide +kernel
theorem dX10_evening_106 : decode cX10_evening 106 = .ok (.aload_n 0, 1) := by decide +kernel
theorem dX10_evening_107 : decode cX10_evening 107 = .ok (.aload_n 0, 1) := by decide +kernel
theorem dX10_evening_108 : decode cX10_evening 108 = .ok (.getfield 54, 3) := by decide +kernel
theorem dX10_evening_111 : decode cX10_evening 111 = .ok (.getfield 315, 3) := by decide +kernel
theorem dX10_evening_114 : decode cX10_evening 114 = .ok (.invokestatic 195, 3) := by decide +kernel
theorem dX10_evening_117 : decode cX10_evening 117 = .ok (.invokevirtual 109, 3) := by decide +kernel
theorem dX10_evening_120 : decode cX10_evening 120 = .ok (.ireturn, 1) := by decide +kernel
theorem dX10_seed_0 : decode cX10_seed 0 = .ok (.aload_n 0, 1) := by decide +kernel
theorem dX10_seed_1 : decode cX10_seed 1 = .ok (.getfield 85, 3) := by decide +kernel
theorem dX10_seed_4 : decode cX10_seed 4 = .ok (.ifCond .ne 9, 3) := by decide +kernel
theorem dX10_seed_7 : decode cX10_seed 7 = .ok (.aload_n 0, 1) := by decide +kernel
theorem dX10_seed_8 : decode cX10_seed 8 = .ok (.iconst 1, 1) := by decide +kernel
theorem dX10_seed_9 : decode cX10_seed 9 = .ok (.invokevirtual 326, 3) := by decide +kernel
theorem dX10_seed_12 : decode cX10_seed 12 = .ok (.ireturn, 1) := by decide +kernel
theorem dX10_seed_13 : decode cX10_seed 13 = .ok (.iload_n 1, 1) := by decide +kernel
theorem dX10_seed_14 : decode cX10_seed 14 = .ok (.invokestatic 291, 3) := by decide +kernel
theorem dX10_seed_17 : decode cX10_seed 17 = .ok (.ifCond .eq 9, 3) := by decide +kernel
theorem dX10_seed_20 : decode cX10_seed 20 = .ok (.aload_n 0, 1) := by decide +kernel
theorem dX10_seed_21 : decode cX10_seed 21 = .ok (.iconst 2, 1) := by decide +kernel
theorem dX10_seed_22 : decode cX10_seed 22 = .ok (.invokevirtual 326, 3) := by decide +kernel
theorem dX10_seed_25 : decode cX10_seed 25 = .ok (.ireturn, 1) := by decide +kernel
theorem dX10_seed_26 : decode cX10_seed 26 = .ok (.aload_n 0, 1) := by decide +kernel
theorem dX10_seed_27 : decode cX10_seed 27 = .ok (.getfield 61, 3) := by decide +kernel
theorem dX10_seed_30 : decode cX10_seed 30 = .ok (.iload_n 1, 1) := by decide +kernel
theorem dX10_seed_31 : decode cX10_seed 31 = .ok (.putfield 339, 3) := by decide +kernel
theorem dX10_seed_34 : decode cX10_seed 34 = .ok (.aload_n 0, 1) := by decide +kernel
theorem dX10_seed_35 : decode cX10_seed 35 = .ok (.invokevirtual 333, 3) := by decide +kernel
theorem dX10_seed_38 : decode cX10_seed 38 = .ok (.ireturn, 1) := by decide +kernel
theorem dX10_undo_0 : decode cX10_undo 0 = .ok (.aload_n 0, 1) := by decide +kernel
theorem dX10_undo_1 : decode cX10_undo 1 = .ok (.getfield 61, 3) := by decide +kernel
theorem dX10_undo_4 : decode cX10_undo 4 = .ok (.invokevirtual 340, 3) := by decide +kernel
theorem dX10_undo_7 : decode cX10_undo 7 = .ok (.ifCond .eq 10, 3) := by decide +kernel
theorem dX10_undo_10 : decode cX10_undo 10 = .ok (.aload_n 0, 1) := by decide +kernel
theorem dX10_undo_11 : decode cX10_undo 11 = .ok (.invokevirtual 333, 3) := by decide +kernel
theorem dX10_undo_14 : decode cX10_undo 14 = .ok (.goto 9, 3) := by decide +kernel
theorem dX10_undo_17 : decode cX10_undo 17 = .ok (.aload_n 0, 1) := by decide +kernel
theorem dX10_undo_18 : decode cX10_undo 18 = .ok (.bipush 6, 2) := by decide +kernel
theorem dX10_undo_20 : decode cX10_undo 20 = .ok (.invokevirtual 326, 3) := by decide +kernel
theorem dX10_undo_23 : decode cX10_undo 23 = .ok (.ireturn, 1) := by decide +kernel
theorem dX3_undoLatest_0 : decode cX3_undoLatest 0 = .ok (.aload_n 0, 1) := by decide +kernel
theorem dX3_undoLatest_1 : decode cX3_undoLatest 1 = .ok (.getfield 40, 3) := by decide +kernel
theorem dX3_undoLatest_4 : decode cX3_undoLatest 4 = .ok (.ifCond .gt 5, 3) := by decide +kernel
theorem dX3_undoLatest_7 : decode cX3_undoLatest 7 = .ok (.iconst 0, 1) := by decide +kernel
theorem dX3_undoLatest_8 : decode cX3_undoLatest 8 = .ok (.ireturn, 1) := by decide +kernel
theorem dX3_undoLatest_9 : decode cX3_undoLatest 9 = .ok (.aload_n 0, 1) := by decide +kernel
theorem dX3_undoLatest_10 : decode cX3_undoLatest 10 = .ok (.dup, 1) := by decide +kernel
theorem dX3_undoLatest_11 : decode cX3_undoLatest 11 = .ok (.getfield 40, 3) := by decide +kernel
theorem dX3_undoLatest_14 : decode cX3_undoLatest 14 = .ok (.iconst 1, 1) := by decide +kernel
theorem dX3_undoLatest_15 : decode cX3_undoLatest 15 = .ok (.isub, 1) := by decide +kernel
theorem dX3_undoLatest_16 : decode cX3_undoLatest 16 = .ok (.putfield 40, 3) := by decide +kernel
theorem dX3_undoLatest_19 : decode cX3_undoLatest 19 = .ok (.aload_n 0, 1) := by decide +kernel
theorem dX3_undoLatest_20 : decode cX3_undoLatest 20 = .ok (.aload_n 0, 1) := by decide +kernel
theorem dX3_undoLatest_21 : decode cX3_undoLatest 21 = .ok (.getfield 11, 3) := by decide +kernel
theorem dX3_undoLatest_24 : decode cX3_undoLatest 24 = .ok (.aload_n 0, 1) := by decide +kernel
theorem dX3_undoLatest_25 : decode cX3_undoLatest 25 = .ok (.getfield 40, 3) := by decide +kernel
theorem dX3_undoLatest_28 : decode cX3_undoLatest 28 = .ok (.laload, 1) := by decide +kernel
theorem dX3_undoLatest_29 : decode cX3_undoLatest 29 = .ok (.invokevirtual 68, 3) := by decide +kernel
theorem dX3_undoLatest_32 : decode cX3_undoLatest 32 = .ok (.iconst 1, 1) := by decide +kernel
theorem dX3_undoLatest_33 : decode cX3_undoLatest 33 = .ok (.ireturn, 1) := by decide +kernel
theorem dX3_unpack_0 : decode cX3_unpack 0 = .ok (.aload_n 0, 1) := by decide +kernel
theorem dX3_unpack_1 : decode cX3_unpack 1 = .ok (.lload_n 1, 1) := by decide +kernel
theorem dX3_unpack_2 : decode cX3_unpack 2 = .ok (.bipush 40, 2) := by decide +kernel
theorem dX3_unpack_4 : decode cX3_unpack 4 = .ok (.lshr, 1) := by decide +kernel
theorem dX3_unpack_5 : decode cX3_unpack 5 = .ok (.l2i, 1) := by decide +kernel
theorem dX3_unpack_6 : decode cX3_unpack 6 = .ok (.putfield 37, 3) := by decide +kernel
theorem dX3_unpack_9 : decode cX3_unpack 9 = .ok (.aload_n 0, 1) := by decide +kernel
theorem dX3_unpack_10 : decode cX3_unpack 10 = .ok (.lload_n 1, 1) := by decide +kernel
theorem dX3_unpack_11 : decode cX3_unpack 11 = .ok (.ldc2_w 72, 3) := by decide +kernel
theorem dX3_unpack_14 : decode cX3_unpack 14 = .ok (.land, 1) := by decide +kernel
theorem dX3_unpack_15 : decode cX3_unpack 15 = .ok (.putfield 25, 3) := by decide +kernel
theorem dX3_unpack_18 : decode cX3_unpack 18 = .ok (.return_, 1) := by decide +kernel
theorem dX10_image_0 : decode cX10_image 0 = .ok (.aload_n 0, 1) := by decide +kernel
theorem dX10_image_1 : decode cX10_image 1 = .ok (.getfield 85, 3) := by decide +kernel
theorem dX10_image_4 : decode cX10_image 4 = .ok (.ifCond .ne 9, 3) := by decide +kernel
theorem dX10_image_7 : decode cX10_image 7 = .ok (.aload_n 0, 1) := by decide +kernel
theorem dX10_image_8 : decode cX10_image 8 = .ok (.iconst 1, 1) := by decide +kernel
theorem dX10_image_9 : decode cX10_image 9 = .ok (.invokevirtual 73, 3) := by decide +kernel
theorem dX10_image_12 : decode cX10_image 12 = .ok (.ireturn, 1) := by decide +kernel
theorem dX10_image_13 : decode cX10_image 13 = .ok (.aload_n 0, 1) := by decide +kernel
theorem dX10_image_14 : decode cX10_image 14 = .ok (.getfield 61, 3) := by decide +kernel
theorem dX10_image_17 : decode cX10_image 17 = .ok (.invokevirtual 343, 3) := by decide +kernel
theorem dX10_image_20 : decode cX10_image 20 = .ok (.istore_n 1, 1) := by decide +kernel
theorem dX10_image_21 : decode cX10_image 21 = .ok (.iload_n 1, 1) := by decide +kernel
theorem dX10_image_22 : decode cX10_image 22 = .ok (.iconst (-1), 1) := by decide +kernel
theorem dX10_image_23 : decode cX10_image 23 = .ok (.if_icmp .ne 11, 3) := by decide +kernel
theorem dX10_image_26 : decode cX10_image 26 = .ok (.aload_n 0, 1) := by decide +kernel
theorem dX10_image_27 : decode cX10_image 27 = .ok (.iconst 3, 1) := by decide +kernel
theorem dX10_image_28 : decode cX10_image 28 = .ok (.invokevirtual 73, 3) := by decide +kernel
theorem dX10_image_31 : decode cX10_image 31 = .ok (.goto 8, 3) := by decide +kernel
theorem dX10_image_34 : decode cX10_image 34 = .ok (.aload_n 0, 1) := by decide +kernel
theorem dX10_image_35 : decode cX10_image 35 = .ok (.iload_n 1, 1) := by decide +kernel
theorem dX10_image_36 : decode cX10_image 36 = .ok (.invokevirtual 109, 3) := by decide +kernel
theorem dX10_image_39 : decode cX10_image 39 = .ok (.ireturn, 1) := by decide +kernel
theorem dX3_takeImage_0 : decode cX3_takeImage 0 = .ok (.aload_n 0, 1) := by decide +kernel
theorem dX3_takeImage_1 : decode cX3_takeImage 1 = .ok (.getfield 43, 3) := by decide +kernel
theorem dX3_takeImage_4 : decode cX3_takeImage 4 = .ok (.iconst 3, 1) := by decide +kernel
theorem dX3_takeImage_5 : decode cX3_takeImage 5 = .ok (.if_icmp .lt 5, 3) := by decide +kernel
theorem dX3_takeImage_8 : decode cX3_takeImage 8 = .ok (.iconst (-1), 1) := by decide +kernel
theorem dX3_takeImage_9 : decode cX3_takeImage 9 = .ok (.ireturn, 1) := by decide +kernel
theorem dX3_takeImage_10 : decode cX3_takeImage 10 = .ok (.aload_n 0, 1) := by decide +kernel
theorem dX3_takeImage_11 : decode cX3_takeImage 11 = .ok (.getfield 15, 3) := by decide +kernel
theorem dX3_takeImage_14 : decode cX3_takeImage 14 = .ok (.aload_n 0, 1) := by decide +kernel
theorem dX3_takeImage_15 : decode cX3_takeImage 15 = .ok (.getfield 43, 3) := by decide +kernel
theorem dX3_takeImage_18 : decode cX3_takeImage 18 = .ok (.aload_n 0, 1) := by decide +kernel
theorem dX3_takeImage_19 : decode cX3_takeImage 19 = .ok (.invokevirtual 64, 3) := by decide +kernel
theorem dX3_takeImage_22 : decode cX3_takeImage 22 = .ok (.lastore, 1) := by decide +kernel
theorem dX3_takeImage_23 : decode cX3_takeImage 23 = .ok (.aload_n 0, 1) := by decide +kernel
theorem dX3_takeImage_24 : decode cX3_takeImage 24 = .ok (.dup, 1) := by decide +kernel
theorem dX3_takeImage_25 : decode cX3_takeImage 25 = .ok (.getfield 43, 3) := by decide +kernel
theorem dX3_takeImage_28 : decode cX3_takeImage 28 = .ok (.iconst 1, 1) := by decide +kernel
theorem dX3_takeImage_29 : decode cX3_takeImage 29 = .ok (.iadd, 1) := by decide +kernel
theorem dX3_takeImage_30 : decode cX3_takeImage 30 = .ok (.putfield 43, 3) := by decide +kernel
theorem dX3_takeImage_33 : decode cX3_takeImage 33 = .ok (.aload_n 0, 1) := by decide +kernel
theorem dX3_takeImage_34 : decode cX3_takeImage 34 = .ok (.getfield 43, 3) := by decide +kernel
theorem dX3_takeImage_37 : decode cX3_takeImage 37 = .ok (.iconst 1, 1) := by decide +kernel
theorem dX3_takeImage_38 : decode cX3_takeImage 38 = .ok (.isub, 1) := by decide +kernel
theorem dX3_takeImage_39 : decode cX3_takeImage 39 = .ok (.ireturn, 1) := by decide +kernel
theorem dX10_back_0 : decode cX10_back 0 = .ok (.aload_n 0, 1) := by decide +kernel
theorem dX10_back_1 : decode cX10_back 1 = .ok (.getfield 61, 3) := by decide +kernel
theorem dX10_back_4 : decode cX10_back 4 = .ok (.iload_n 1, 1) := by decide +kernel
theorem dX10_back_5 : decode cX10_back 5 = .ok (.invokevirtual 346, 3) := by decide +kernel
theorem dX10_back_8 : decode cX10_back 8 = .ok (.ifCond .eq 10, 3) := by decide +kernel
theorem dX10_back_11 : decode cX10_back 11 = .ok (.aload_n 0, 1) := by decide +kernel
theorem dX10_back_12 : decode cX10_back 12 = .ok (.invokevirtual 333, 3) := by decide +kernel
theorem dX10_back_15 : decode cX10_back 15 = .ok (.goto 8, 3) := by decide +kernel
theorem dX10_back_18 : decode cX10_back 18 = .ok (.aload_n 0, 1) := by decide +kernel
theorem dX10_back_19 : decode cX10_back 19 = .ok (.iconst 1, 1) := by decide +kernel
theorem dX10_back_20 : decode cX10_back 20 = .ok (.invokevirtual 326, 3) := by decide +kernel
theorem dX10_back_23 : decode cX10_back 23 = .ok (.ireturn, 1) := by decide +kernel
theorem dX3_goBack_0 : decode cX3_goBack 0 = .ok (.iload_n 1, 1) := by decide +kernel
theorem dX3_goBack_1 : decode cX3_goBack 1 = .ok (.ifCond .lt 11, 3) := by decide +kernel
theorem dX3_goBack_4 : decode cX3_goBack 4 = .ok (.iload_n 1, 1) := by decide +kernel
theorem dX3_goBack_5 : decode cX3_goBack 5 = .ok (.aload_n 0, 1) := by decide +kernel
theorem dX3_goBack_6 : decode cX3_goBack 6 = .ok (.getfield 43, 3) := by decide +kernel
theorem dX3_goBack_9 : decode cX3_goBack 9 = .ok (.if_icmp .lt 5, 3) := by decide +kernel
theorem dX3_goBack_12 : decode cX3_goBack 12 = .ok (.iconst 0, 1) := by decide +kernel
theorem dX3_goBack_13 : decode cX3_goBack 13 = .ok (.ireturn, 1) := by decide +kernel
theorem dX3_goBack_14 : decode cX3_goBack 14 = .ok (.aload_n 0, 1) := by decide +kernel
theorem dX3_goBack_15 : decode cX3_goBack 15 = .ok (.aload_n 0, 1) := by decide +kernel
theorem dX3_goBack_16 : decode cX3_goBack 16 = .ok (.getfield 15, 3) := by decide +kernel
theorem dX3_goBack_19 : decode cX3_goBack 19 = .ok (.iload_n 1, 1) := by decide +kernel
theorem dX3_goBack_20 : decode cX3_goBack 20 = .ok (.laload, 1) := by decide +kernel
theorem dX3_goBack_21 : decode cX3_goBack 21 = .ok (.invokevirtual 68, 3) := by decide +kernel
theorem dX3_goBack_24 : decode cX3_goBack 24 = .ok (.aload_n 0, 1) := by decide +kernel
theorem dX3_goBack_25 : decode cX3_goBack 25 = .ok (.iconst 0, 1) := by decide +kernel
theorem dX3_goBack_26 : decode cX3_goBack 26 = .ok (.putfield 40, 3) := by decide +kernel
theorem dX3_goBack_29 : decode cX3_goBack 29 = .ok (.iconst 1, 1) := by decide +kernel
theorem dX3_goBack_30 : decode cX3_goBack 30 = .ok (.ireturn, 1) := by decide +kernel
theorem dX10_size_0 : decode cX10_size 0 = .ok (.iload_n 1, 1) := by decide +kernel
theorem dX10_size_1 : decode cX10_size 1 = .ok (.tableswitch 162 0 11 #[63, 71, 79, 87, 95, 103, 111, 122, 130, 138, 146, 154], 63) := by decide +kernel
theorem dX10_size_64 : decode cX10_size 64 = .ok (.aload_n 0, 1) := by decide +kernel
theorem dX10_size_65 : decode cX10_size 65 = .ok (.getfield 10, 3) := by decide +kernel
theorem dX10_size_68 : decode cX10_size 68 = .ok (.getfield 352, 3) := by decide +kernel
theorem dX10_size_71 : decode cX10_size 71 = .ok (.ireturn, 1) := by decide +kernel
theorem dX10_size_72 : decode cX10_size 72 = .ok (.aload_n 0, 1) := by decide +kernel
theorem dX10_size_73 : decode cX10_size 73 = .ok (.getfield 10, 3) := by decide +kernel
theorem dX10_size_76 : decode cX10_size 76 = .ok (.getfield 278, 3) := by decide +kernel
theorem dX10_size_79 : decode cX10_size 79 = .ok (.ireturn, 1) := by decide +kernel
theorem dX10_size_80 : decode cX10_size 80 = .ok (.aload_n 0, 1) := by decide +kernel
theorem dX10_size_81 : decode cX10_size 81 = .ok (.getfield 10, 3) := by decide +kernel
theorem dX10_size_84 : decode cX10_size 84 = .ok (.getfield 106, 3) := by decide +kernel
theorem dX10_size_87 : decode cX10_size 87 = .ok (.ireturn, 1) := by decide +kernel
theorem dX10_size_88 : decode cX10_size 88 = .ok (.aload_n 0, 1) := by decide +kernel
theorem dX10_size_89 : decode cX10_size 89 = .ok (.getfield 10, 3) := by decide +kernel
theorem dX10_size_92 : decode cX10_size 92 = .ok (.getfield 355, 3) := by decide +kernel
theorem dX10_size_95 : decode cX10_size 95 = .ok (.ireturn, 1) := by decide +kernel
theorem dX10_size_96 : decode cX10_size 96 = .ok (.aload_n 0, 1) := by decide +kernel
theorem dX10_size_97 : decode cX10_size 97 = .ok (.getfield 10, 3) := by decide +kernel
theorem dX10_size_100 : decode cX10_size 100 = .ok (.getfield 203, 3) := by decide +kernel
theorem dX10_size_103 : decode cX10_size 103 = .ok (.ireturn, 1) := by decide +kernel
theorem dX10_size_104 : decode cX10_size 104 = .ok (.aload_n 0, 1) := by decide +kernel
theorem dX10_size_105 : decode cX10_size 105 = .ok (.getfield 10, 3) := by decide +kernel
theorem dX10_size_108 : decode cX10_size 108 = .ok (.getfield 358, 3) := by decide +kernel
theorem dX10_size_111 : decode cX10_size 111 = .ok (.ireturn, 1) := by decide +kernel
theorem dX10_size_112 : decode cX10_size 112 = .ok (.aload_n 0, 1) := by decide +kernel
theorem dX10_size_113 : decode cX10_size 113 = .ok (.getfield 10, 3) := by decide +kernel
theorem dX10_size_116 : decode cX10_size 116 = .ok (.getfield 152, 3) := by decide +kernel
theorem dX10_size_119 : decode cX10_size 119 = .ok (.invokestatic 195, 3) := by decide +kernel
theorem dX10_size_122 : decode cX10_size 122 = .ok (.ireturn, 1) := by decide +kernel
theorem dX10_size_123 : decode cX10_size 123 = .ok (.aload_n 0, 1) := by decide +kernel
theorem dX10_size_124 : decode cX10_size 124 = .ok (.getfield 10, 3) := by decide +kernel
theorem dX10_size_127 : decode cX10_size 127 = .ok (.getfield 254, 3) := by decide +kernel
theorem dX10_size_130 : decode cX10_size 130 = .ok (.ireturn, 1) := by decide +kernel
theorem dX10_size_131 : decode cX10_size 131 = .ok (.aload_n 0, 1) := by decide +kernel
theorem dX10_size_132 : decode cX10_size 132 = .ok (.getfield 61, 3) := by decide +kernel
theorem dX10_size_135 : decode cX10_size 135 = .ok (.getfield 339, 3) := by decide +kernel
theorem dX10_size_138 : decode cX10_size 138 = .ok (.ireturn, 1) := by decide +kernel
theorem dX10_size_139 : decode cX10_size 139 = .ok (.aload_n 0, 1) := by decide +kernel
theorem dX10_size_140 : decode cX10_size 140 = .ok (.getfield 61, 3) := by decide +kernel
theorem dX10_size_143 : decode cX10_size 143 = .ok (.getfield 361, 3) := by decide +kernel
theorem dX10_size_146 : decode cX10_size 146 = .ok (.ireturn, 1) := by decide +kernel
theorem dX10_size_147 : decode cX10_size 147 = .ok (.aload_n 0, 1) := by decide +kernel
theorem dX10_size_148 : decode cX10_size 148 = .ok (.getfield 61, 3) := by decide +kernel
theorem dX10_size_151 : decode cX10_size 151 = .ok (.getfield 364, 3) := by decide +kernel
theorem dX10_size_154 : decode cX10_size 154 = .ok (.ireturn, 1) := by decide +kernel
theorem dX10_size_155 : decode cX10_size 155 = .ok (.aload_n 0, 1) := by decide +kernel
theorem dX10_size_156 : decode cX10_size 156 = .ok (.getfield 19, 3) := by decide +kernel
theorem dX10_size_159 : decode cX10_size 159 = .ok (.getfield 65, 3) := by decide +kernel
theorem dX10_size_162 : decode cX10_size 162 = .ok (.ireturn, 1) := by decide +kernel
theorem dX10_size_163 : decode cX10_size 163 = .ok (.iconst (-1), 1) := by decide +kernel
theorem dX10_size_164 : decode cX10_size 164 = .ok (.ireturn, 1) := by decide +kernel
theorem dX10_trouble_0 : decode cX10_trouble 0 = .ok (.aload_n 0, 1) := by decide +kernel
theorem dX10_trouble_1 : decode cX10_trouble 1 = .ok (.getfield 115, 3) := by decide +kernel
theorem dX10_trouble_4 : decode cX10_trouble 4 = .ok (.ireturn, 1) := by decide +kernel
def f_X_meant (n : Nat) (x1 : Int32) (t : k_St) : Option (Int32 × k_St) := (if (k_b (f_X_noMixed t)) = 0 then k_cl (f_X_pieceOfTale n (t.1 31 1) x1 t) (fun r_2 t_1 => some (r_2, t_1)) else k_lt (f_X_refuse (f_X_whyNoMixed t) t) (fun q_3 => some (q_3.1, q_3.2)))
theorem m_X_meant (l : Launch) (G : k_G) (a : Nat → Nat) (tl : Value) (n : Nat) (x1 : Int32) (t : k_St) {r : Int32} {t' : k_St} (hf : f_X_meant n x1 t = some (r, t')) : k_CI l G yX10_meant cX10_meant 2 (some .int) 5 (k_WX G.2.1 a tl t) [.ref (a 0), .int x1] r (k_WX G.2.1 a tl t') := by
  refine k_startI (lv := [(0, .ref (a 0)), (1, .int x1)]) (by decide +kernel) (Nat.le_of_ble_eq_true rfl) rfl ?_
  intro p e s m args below meth c hA hr
  have hA : k_Amb p s m args meth c cX10_meant 2 "TaleShares" G _ := hA
  unfold f_X_meant at hf
  refine k_aload_n (i := 0) hA dX10_meant_0 rfl 0 rfl ?_
  refine k_callVi (As := []) (rest := []) hA (m_X_noMixed l G a tl t rfl) cd_X10_noMixed wd_981 (hc_X_0 G.2.1 a tl t) rfl rfl (Nat.le_of_ble_eq_true rfl) rfl rfl (Nat.le_of_ble_eq_true rfl) dX10_meant_1 ?_
  refine k_if_eq (tgt := 18) hA dX10_meant_4 rfl (fun hc => ?_) (fun hc => ?_)
  · have hf := k_ift hc hf
    obtain ⟨r_2, t_1, ht_1, hf⟩ := k_cl_e hf
    obtain ⟨rfl, rfl⟩ := k_r2 hf
    refine k_aload_n (i := 0) hA dX10_meant_18 rfl 0 rfl ?_
    refine k_aload_n (i := 0) hA dX10_meant_19 rfl 0 rfl ?_
    refine gt_X_0_4 hA wd_441 dX10_meant_20 ?_
    refine gt_X_31_1 hA wd_377 dX10_meant_23 ?_
    refine k_iload_n (i := 1) hA dX10_meant_26 rfl 1 rfl ?_
    refine k_callVi (As := [.int (t.1 31 1), .int x1]) (rest := []) hA (m_X_pieceOfTale l G a tl n (t.1 31 1) x1 t ht_1) cd_X10_pieceOfTale wd_840 (hc_X_0 G.2.1 a tl t) rfl rfl (Nat.le_of_ble_eq_true rfl) rfl rfl (Nat.le_of_ble_eq_true rfl) dX10_meant_27 ?_
    exact k_iret hA hr rfl dX10_meant_30
  have hf := k_iff hc hf
  obtain ⟨⟨rq_3, tq_3⟩, hq_3, hf⟩ := k_lt_e hf
  dsimp only at hf
  obtain ⟨rfl, rfl⟩ := k_r2 hf
  refine k_aload_n (i := 0) hA dX10_meant_7 rfl 0 rfl ?_
  refine k_aload_n (i := 0) hA dX10_meant_8 rfl 0 rfl ?_
  refine k_callVi (As := []) (rest := [.ref (a 0)]) hA (m_X_whyNoMixed l G a tl t rfl) cd_X10_whyNoMixed wd_985 (hc_X_0 G.2.1 a tl t) rfl rfl (Nat.le_of_ble_eq_true rfl) rfl rfl (Nat.le_of_ble_eq_true rfl) dX10_meant_9 ?_
  refine k_callVi (As := [.int (f_X_whyNoMixed t)]) (rest := []) hA (m_X_refuse l G a tl (f_X_whyNoMixed t) t hq_3.symm) cd_X10_refuse wd_480 (hc_X_0 G.2.1 a tl t) rfl rfl (Nat.le_of_ble_eq_true rfl) rfl rfl (Nat.le_of_ble_eq_true rfl) dX10_meant_12 ?_
  refine k_goto (tgt := 30) hA dX10_meant_15 rfl ?_
  exact k_iret hA hr rfl dX10_meant_30

def f_X_meanings (t : k_St) : Int32 × k_St := (if (k_b (f_X_noMixed t)) = 0 then k_lt (f_X_answer (t.1 31 2) t) (fun q_1 => (q_1.1, q_1.2)) else k_lt (f_X_refuse (f_X_whyNoMixed t) t) (fun q_2 => (q_2.1, q_2.2)))
theorem m_X_meanings (l : Launch) (G : k_G) (a : Nat → Nat) (tl : Value) (t : k_St) {r : Int32} {t' : k_St} (hf : f_X_meanings t = (r, t')) : k_CI l G yX10_meanings cX10_meanings 1 (some .int) 2 (k_WX G.2.1 a tl t) [.ref (a 0)] r (k_WX G.2.1 a tl t') := by
  refine k_startI (lv := [(0, .ref (a 0))]) (by decide +kernel) (Nat.le_of_ble_eq_true rfl) rfl ?_
  intro p e s m args below meth c hA hr
  have hA : k_Amb p s m args meth c cX10_meanings 1 "TaleShares" G _ := hA
  unfold f_X_meanings at hf
  refine k_aload_n (i := 0) hA dX10_meanings_0 rfl 0 rfl ?_
  refine k_callVi (As := []) (rest := []) hA (m_X_noMixed l G a tl t rfl) cd_X10_noMixed wd_981 (hc_X_0 G.2.1 a tl t) rfl rfl (Nat.le_of_ble_eq_true rfl) rfl rfl (Nat.le_of_ble_eq_true rfl) dX10_meanings_1 ?_
  refine k_if_eq (tgt := 18) hA dX10_meanings_4 rfl (fun hc => ?_) (fun hc => ?_)
  · have hf := k_ift hc hf
    obtain ⟨⟨rq_1, tq_1⟩, hq_1, hf⟩ := k_lt_e hf
    dsimp only at hf
    obtain ⟨rfl, rfl⟩ := k_p2 hf
    refine k_aload_n (i := 0) hA dX10_meanings_18 rfl 0 rfl ?_
    refine k_aload_n (i := 0) hA dX10_meanings_19 rfl 0 rfl ?_
    refine gt_X_0_4 hA wd_441 dX10_meanings_20 ?_
    refine gt_X_31_2 hA wd_379 dX10_meanings_23 ?_
    refine k_callVi (As := [.int (t.1 31 2)]) (rest := []) hA (m_X_answer l G a tl (t.1 31 2) t hq_1.symm) cd_X10_answer wd_732 (hc_X_0 G.2.1 a tl t) rfl rfl (Nat.le_of_ble_eq_true rfl) rfl rfl (Nat.le_of_ble_eq_true rfl) dX10_meanings_26 ?_
    exact k_iret hA hr rfl dX10_meanings_29
  have hf := k_iff hc hf
  obtain ⟨⟨rq_2, tq_2⟩, hq_2, hf⟩ := k_lt_e hf
  dsimp only at hf
  obtain ⟨rfl, rfl⟩ := k_p2 hf
  refine k_aload_n (i := 0) hA dX10_meanings_7 rfl 0 rfl ?_
  refine k_aload_n (i := 0) hA dX10_meanings_8 rfl 0 rfl ?_
  refine k_callVi (As := []) (rest := [.ref (a 0)]) hA (m_X_whyNoMixed l G a tl t rfl) cd_X10_whyNoMixed wd_985 (hc_X_0 G.2.1 a tl t) rfl rfl (Nat.le_of_ble_eq_true rfl) rfl rfl (Nat.le_of_ble_eq_true rfl) dX10_meanings_9 ?_
  refine k_callVi (As := [.int (f_X_whyNoMixed t)]) (rest := []) hA (m_X_refuse l G a tl (f_X_whyNoMixed t) t hq_2.symm) cd_X10_refuse wd_480 (hc_X_0 G.2.1 a tl t) rfl rfl (Nat.le_of_ble_eq_true rfl) rfl rfl (Nat.le_of_ble_eq_true rfl) dX10_meanings_12 ?_
  refine k_goto (tgt := 29) hA dX10_meanings_15 rfl ?_
  exact k_iret hA hr rfl dX10_meanings_29

def f_X_whyNoHour (t : k_St) (x1 : Int32) : Int32 := (if (t.1 0 10) = 0 then (1 : Int32) else (if x1 < 0 then (2 : Int32) else (if x1 ≤ (20 : Int32) then (0 : Int32) else (2 : Int32))))
theorem m_X_whyNoHour (l : Launch) (G : k_G) (a : Nat → Nat) (tl : Value) (t : k_St) (x1 : Int32) {r : Int32} (hf : f_X_whyNoHour t x1 = r) : k_CI l G yX10_whyNoHour cX10_whyNoHour 2 (some .int) 1 (k_WX G.2.1 a tl t) [.ref (a 0), .int x1] r (k_WX G.2.1 a tl t) := by
  refine k_startI (lv := [(0, .ref (a 0)), (1, .int x1)]) (by decide +kernel) (Nat.le_of_ble_eq_true rfl) rfl ?_
  intro p e s m args below meth c hA hr
  have hA : k_Amb p s m args meth c cX10_whyNoHour 2 "TaleShares" G _ := hA
  unfold f_X_whyNoHour at hf
  refine k_aload_n (i := 0) hA dX10_whyNoHour_0 rfl 0 rfl ?_
  refine gt_X_0_8 hA wd_445 dX10_whyNoHour_1 ?_
  refine k_if_ne (tgt := 9) hA dX10_whyNoHour_4 rfl (fun hc => ?_) (fun hc => ?_)
  · have hf := k_iff hc hf
    refine k_iload_n (i := 1) hA dX10_whyNoHour_9 rfl 1 rfl ?_
    refine k_if_lt (tgt := 19) hA dX10_whyNoHour_10 rfl (fun hc => ?_) (fun hc => ?_)
    · have hf := k_ift hc hf
      subst hf
      refine k_iconst hA dX10_whyNoHour_19 kc_i_2 ?_
      refine k_goto (tgt := 24) hA dX10_whyNoHour_20 rfl ?_
      exact k_iret hA hr rfl dX10_whyNoHour_24
    have hf := k_iff hc hf
    refine k_iload_n (i := 1) hA dX10_whyNoHour_13 rfl 1 rfl ?_
    refine k_bipush hA dX10_whyNoHour_14 kc_b_20 ?_
    refine k_icmp_le (tgt := 23) hA dX10_whyNoHour_16 rfl (fun hc => ?_) (fun hc => ?_)
    · have hf := k_ift hc hf
      subst hf
      refine k_iconst hA dX10_whyNoHour_23 kc_i_0 ?_
      exact k_iret hA hr rfl dX10_whyNoHour_24
    have hf := k_iff hc hf
    subst hf
    refine k_iconst hA dX10_whyNoHour_19 kc_i_2 ?_
    refine k_goto (tgt := 24) hA dX10_whyNoHour_20 rfl ?_
    exact k_iret hA hr rfl dX10_whyNoHour_24
  have hf := k_ift hc hf
  subst hf
  refine k_iconst hA dX10_whyNoHour_7 kc_i_1 ?_
  exact k_iret hA hr rfl dX10_whyNoHour_8

def f_X_noPayment (x0 : Int32) : Bool := (if x0 < 0 then true else (if x0 ≤ (6 : Int32) then false else true))
theorem m_X_noPayment (l : Launch) (G : k_G) (w : va_W) (x0 : Int32) {r : Bool} (hf : f_X_noPayment x0 = r) : k_CI l G yX10_noPayment cX10_noPayment 1 (some .boolean) 1 w [.int x0] (k_b r) w := by
  refine k_startI (lv := [(0, .int x0)]) (by decide +kernel) (Nat.le_of_ble_eq_true rfl) rfl ?_
  intro p e s m args below meth c hA hr
  have hA : k_Amb p s m args meth c cX10_noPayment 1 "TaleShares" G _ := hA
  unfold f_X_noPayment at hf
  refine k_iload_n (i := 0) hA dX10_noPayment_0 rfl 0 rfl ?_
  refine k_if_lt (tgt := 10) hA dX10_noPayment_1 rfl (fun hc => ?_) (fun hc => ?_)
  · have hf := k_ift hc hf
    subst hf
    refine k_iconst hA dX10_noPayment_10 kc_i_1 ?_
    refine k_goto (tgt := 15) hA dX10_noPayment_11 rfl ?_
    exact k_iret hA hr (k_narB (k_b01 _)) dX10_noPayment_15
  have hf := k_iff hc hf
  refine k_iload_n (i := 0) hA dX10_noPayment_4 rfl 0 rfl ?_
  refine k_bipush hA dX10_noPayment_5 kc_b_6 ?_
  refine k_icmp_le (tgt := 14) hA dX10_noPayment_7 rfl (fun hc => ?_) (fun hc => ?_)
  · have hf := k_ift hc hf
    subst hf
    refine k_iconst hA dX10_noPayment_14 kc_i_0 ?_
    exact k_iret hA hr (k_narB (k_b01 _)) dX10_noPayment_15
  have hf := k_iff hc hf
  subst hf
  refine k_iconst hA dX10_noPayment_10 kc_i_1 ?_
  refine k_goto (tgt := 15) hA dX10_noPayment_11 rfl ?_
  exact k_iret hA hr (k_narB (k_b01 _)) dX10_noPayment_15

def f_X_father_29 (x1 : Int32) (x2 : Int32) (x3 : Int32) (x4 : Int32) (x5 : Int32) (t : k_St) : Int32 × k_St := (if x5 = 0 then (if x4 = 0 then k_lt (f_X_answer (f_Fa_has x1 x2 x3) t) (fun q_1 => (q_1.1, q_1.2)) else k_lt (f_X_answer (f_Fa_has x1 x3 x2) t) (fun q_2 => (q_2.1, q_2.2))) else k_lt (k_sI t 0 12 x5) (fun t_3 => ((-100 : Int32), t_3)))
def f_X_father_26 (x1 : Int32) (x2 : Int32) (x3 : Int32) (x4 : Int32) (t : k_St) : Int32 × k_St := f_X_father_29 x1 x2 x3 x4 (2 : Int32) t
def f_X_father (x1 : Int32) (x2 : Int32) (x3 : Int32) (x4 : Int32) (t : k_St) : Int32 × k_St := k_lt (f_X_whyNoHour t x1) (fun x5_1 => (if x5_1 = 0 then (if (k_b (f_X_noPayment x2)) = 0 then (if (k_b (f_X_noPayment x3)) = 0 then f_X_father_29 x1 x2 x3 x4 x5_1 t else f_X_father_26 x1 x2 x3 x4 t) else f_X_father_26 x1 x2 x3 x4 t) else f_X_father_29 x1 x2 x3 x4 x5_1 t))
theorem m_X_father_29 {p : Program} (l : Launch) {e : Env} {s : State} {m : MethodId} {args : Array Value} {below : List Frame} {meth : Method} {c : Code} (G : k_G) (a : Nat → Nat) (tl : Value) {w0 : va_W} {r : Int32} {t' : k_St} (hA : k_Amb p s m args meth c cX10_father 6 "TaleShares" G (va_A w0 s.heap.size)) (hr : meth.sig.returnType = (some .int)) : ∀ (x1 : Int32) (x2 : Int32) (x3 : Int32) (x4 : Int32) (x5 : Int32) (t : k_St), f_X_father_29 x1 x2 x3 x4 x5 t = (r, t') → k_Go p l e (k_rm 2) s m args below meth c (k_QI G w0 r (k_WX G.2.1 a tl t') args s below) 6 G (va_A w0 s.heap.size) (k_WX G.2.1 a tl t) 29 [(0, .ref (a 0)), (1, .int x1), (2, .int x2), (3, .int x3), (4, .int x4), (5, .int x5)] [] := by
  intro x1 x2 x3 x4 x5 t hf
  unfold f_X_father_29 at hf
  refine k_iload hA dX10_father_29 5 rfl ?_
  refine k_if_eq (tgt := 43) hA dX10_father_31 rfl (fun hc => ?_) (fun hc => ?_)
  · have hf := k_ift hc hf
    refine k_aload_n (i := 0) hA dX10_father_43 rfl 0 rfl ?_
    refine k_iload hA dX10_father_44 4 rfl ?_
    refine k_if_eq (tgt := 58) hA dX10_father_46 rfl (fun hc => ?_) (fun hc => ?_)
    · have hf := k_ift hc hf
      obtain ⟨⟨rq_1, tq_1⟩, hq_1, hf⟩ := k_lt_e hf
      dsimp only at hf
      obtain ⟨rfl, rfl⟩ := k_p2 hf
      refine k_iload_n (i := 1) hA dX10_father_58 rfl 1 rfl ?_
      refine k_iload_n (i := 2) hA dX10_father_59 rfl 2 rfl ?_
      refine k_iload_n (i := 3) hA dX10_father_60 rfl 3 rfl ?_
      refine k_callSi (As := [.int x1, .int x2, .int x3]) (rest := [.ref (a 0)]) hA (m_Fa_has l G (k_WX G.2.1 a tl t) x1 x2 x3 rfl) cd_X2_has wd_1008 (Nat.le_of_ble_eq_true rfl) rfl rfl (Nat.le_of_ble_eq_true rfl) dX10_father_61 ?_
      refine k_callVi (As := [.int (f_Fa_has x1 x2 x3)]) (rest := []) hA (m_X_answer l G a tl (f_Fa_has x1 x2 x3) t hq_1.symm) cd_X10_answer wd_732 (hc_X_0 G.2.1 a tl t) rfl rfl (Nat.le_of_ble_eq_true rfl) rfl rfl (Nat.le_of_ble_eq_true rfl) dX10_father_64 ?_
      exact k_iret hA hr rfl dX10_father_67
    have hf := k_iff hc hf
    obtain ⟨⟨rq_2, tq_2⟩, hq_2, hf⟩ := k_lt_e hf
    dsimp only at hf
    obtain ⟨rfl, rfl⟩ := k_p2 hf
    refine k_iload_n (i := 1) hA dX10_father_49 rfl 1 rfl ?_
    refine k_iload_n (i := 3) hA dX10_father_50 rfl 3 rfl ?_
    refine k_iload_n (i := 2) hA dX10_father_51 rfl 2 rfl ?_
    refine k_callSi (As := [.int x1, .int x3, .int x2]) (rest := [.ref (a 0)]) hA (m_Fa_has l G (k_WX G.2.1 a tl t) x1 x3 x2 rfl) cd_X2_has wd_1008 (Nat.le_of_ble_eq_true rfl) rfl rfl (Nat.le_of_ble_eq_true rfl) dX10_father_52 ?_
    refine k_goto (tgt := 64) hA dX10_father_55 rfl ?_
    refine k_callVi (As := [.int (f_Fa_has x1 x3 x2)]) (rest := []) hA (m_X_answer l G a tl (f_Fa_has x1 x3 x2) t hq_2.symm) cd_X10_answer wd_732 (hc_X_0 G.2.1 a tl t) rfl rfl (Nat.le_of_ble_eq_true rfl) rfl rfl (Nat.le_of_ble_eq_true rfl) dX10_father_64 ?_
    exact k_iret hA hr rfl dX10_father_67
  have hf := k_iff hc hf
  obtain ⟨t_3, et_3, hf⟩ := k_lt_e hf
  obtain ⟨rfl, rfl⟩ := k_p2 hf
  refine k_aload_n (i := 0) hA dX10_father_34 rfl 0 rfl ?_
  refine k_iload hA dX10_father_35 5 rfl ?_
  refine pt_X_0_9 hA wd_446 et_3 dX10_father_37 ?_
  refine k_bipush hA dX10_father_40 kc_b_m100 ?_
  exact k_iret hA hr rfl dX10_father_42

theorem m_X_father_26 {p : Program} (l : Launch) {e : Env} {s : State} {m : MethodId} {args : Array Value} {below : List Frame} {meth : Method} {c : Code} (G : k_G) (a : Nat → Nat) (tl : Value) {w0 : va_W} {r : Int32} {t' : k_St} (hA : k_Amb p s m args meth c cX10_father 6 "TaleShares" G (va_A w0 s.heap.size)) (hr : meth.sig.returnType = (some .int)) : ∀ (x1 : Int32) (x2 : Int32) (x3 : Int32) (x4 : Int32) (t : k_St), f_X_father_26 x1 x2 x3 x4 t = (r, t') → k_Go p l e (k_rm 2) s m args below meth c (k_QI G w0 r (k_WX G.2.1 a tl t') args s below) 6 G (va_A w0 s.heap.size) (k_WX G.2.1 a tl t) 26 [(0, .ref (a 0)), (1, .int x1), (2, .int x2), (3, .int x3), (4, .int x4)] [] := by
  intro x1 x2 x3 x4 t hf
  unfold f_X_father_26 at hf
  refine k_iconst hA dX10_father_26 kc_i_2 ?_
  refine k_istore (lv' := [(5, .int (2 : Int32)), (0, .ref (a 0)), (1, .int x1), (2, .int x2), (3, .int x3), (4, .int x4)]) hA dX10_father_27 rfl (Nat.le_of_ble_eq_true rfl) rfl ?_
  refine k_pick (lv' := [(0, .ref (a 0)), (1, .int x1), (2, .int x2), (3, .int x3), (4, .int x4), (5, .int (2 : Int32))]) [1, 2, 3, 4, 5, 0] rfl ?_
  exact m_X_father_29 l G a tl hA hr x1 x2 x3 x4 (2 : Int32) t hf

theorem m_X_father (l : Launch) (G : k_G) (a : Nat → Nat) (tl : Value) (x1 : Int32) (x2 : Int32) (x3 : Int32) (x4 : Int32) (t : k_St) {r : Int32} {t' : k_St} (hf : f_X_father x1 x2 x3 x4 t = (r, t')) : k_CI l G yX10_father cX10_father 6 (some .int) 2 (k_WX G.2.1 a tl t) [.ref (a 0), .int x1, .int x2, .int x3, .int x4] r (k_WX G.2.1 a tl t') := by
  refine k_startI (lv := [(0, .ref (a 0)), (1, .int x1), (2, .int x2), (3, .int x3), (4, .int x4)]) (by decide +kernel) (Nat.le_of_ble_eq_true rfl) rfl ?_
  intro p e s m args below meth c hA hr
  have hA : k_Amb p s m args meth c cX10_father 6 "TaleShares" G _ := hA
  unfold f_X_father at hf
  obtain ⟨x5_1, ex5_1, hf⟩ := k_lt_e hf
  refine k_aload_n (i := 0) hA dX10_father_0 rfl 0 rfl ?_
  refine k_iload_n (i := 1) hA dX10_father_1 rfl 1 rfl ?_
  refine k_callVi (As := [.int x1]) (rest := []) hA (m_X_whyNoHour l G a tl t x1 rfl) cd_X10_whyNoHour wd_1001 (hc_X_0 G.2.1 a tl t) rfl rfl (Nat.le_of_ble_eq_true rfl) rfl rfl (Nat.le_of_ble_eq_true rfl) dX10_father_2 ?_
  refine k_istore (lv' := [(5, .int x5_1), (0, .ref (a 0)), (1, .int x1), (2, .int x2), (3, .int x3), (4, .int x4)]) hA dX10_father_5 ex5_1 (Nat.le_of_ble_eq_true rfl) rfl ?_
  refine k_iload hA dX10_father_7 0 rfl ?_
  refine k_if_ne (tgt := 29) hA dX10_father_9 rfl (fun hc => ?_) (fun hc => ?_)
  · have hf := k_iff hc hf
    refine k_pick (lv' := [(0, .ref (a 0)), (1, .int x1), (2, .int x2), (3, .int x3), (4, .int x4), (5, .int x5_1)]) [1, 2, 3, 4, 5, 0] rfl ?_
    exact m_X_father_29 l G a tl hA hr x1 x2 x3 x4 x5_1 t hf
  have hf := k_ift hc hf
  refine k_iload_n (i := 2) hA dX10_father_12 rfl 3 rfl ?_
  refine k_callSi (As := [.int x2]) (rest := []) hA (m_X_noPayment l G (k_WX G.2.1 a tl t) x2 rfl) cd_X10_noPayment wd_1005 (Nat.le_of_ble_eq_true rfl) rfl rfl (Nat.le_of_ble_eq_true rfl) dX10_father_13 ?_
  refine k_if_ne (tgt := 26) hA dX10_father_16 rfl (fun hc => ?_) (fun hc => ?_)
  · have hf := k_iff hc hf
    refine k_pick (lv' := [(0, .ref (a 0)), (1, .int x1), (2, .int x2), (3, .int x3), (4, .int x4)]) [1, 2, 3, 4, 5] rfl ?_
    exact m_X_father_26 l G a tl hA hr x1 x2 x3 x4 t hf
  have hf := k_ift hc hf
  refine k_iload_n (i := 3) hA dX10_father_19 rfl 4 rfl ?_
  refine k_callSi (As := [.int x3]) (rest := []) hA (m_X_noPayment l G (k_WX G.2.1 a tl t) x3 rfl) cd_X10_noPayment wd_1005 (Nat.le_of_ble_eq_true rfl) rfl rfl (Nat.le_of_ble_eq_true rfl) dX10_father_20 ?_
  refine k_if_eq (tgt := 29) hA dX10_father_23 rfl (fun hc => ?_) (fun hc => ?_)
  · have hf := k_ift hc hf
    refine k_pick (lv' := [(0, .ref (a 0)), (1, .int x1), (2, .int x2), (3, .int x3), (4, .int x4), (5, .int x5_1)]) [1, 2, 3, 4, 5, 0] rfl ?_
    exact m_X_father_29 l G a tl hA hr x1 x2 x3 x4 x5_1 t hf
  have hf := k_iff hc hf
  refine k_pick (lv' := [(0, .ref (a 0)), (1, .int x1), (2, .int x2), (3, .int x3), (4, .int x4)]) [1, 2, 3, 4, 5] rfl ?_
  exact m_X_father_26 l G a tl hA hr x1 x2 x3 x4 t hf

def f_X_rests (n : Nat) (x1 : Int32) (t : k_St) : Option (Int32 × k_St) := k_lt (f_X_whyNoHour t x1) (fun x2_1 => (if x2_1 = 0 then k_cp (f_Fa_countRests n x1) (fun r_3 => k_lt (f_X_answer r_3 t) (fun q_4 => some (q_4.1, q_4.2))) else k_lt (f_X_refuse x2_1 t) (fun q_2 => some (q_2.1, q_2.2))))
theorem m_X_rests (l : Launch) (G : k_G) (a : Nat → Nat) (tl : Value) (n : Nat) (x1 : Int32) (t : k_St) {r : Int32} {t' : k_St} (hf : f_X_rests n x1 t = some (r, t')) : k_CI l G yX10_rests cX10_rests 3 (some .int) 5 (k_WX G.2.1 a tl t) [.ref (a 0), .int x1] r (k_WX G.2.1 a tl t') := by
  refine k_startI (lv := [(0, .ref (a 0)), (1, .int x1)]) (by decide +kernel) (Nat.le_of_ble_eq_true rfl) rfl ?_
  intro p e s m args below meth c hA hr
  have hA : k_Amb p s m args meth c cX10_rests 3 "TaleShares" G _ := hA
  unfold f_X_rests at hf
  obtain ⟨x2_1, ex2_1, hf⟩ := k_lt_e hf
  refine k_aload_n (i := 0) hA dX10_rests_0 rfl 0 rfl ?_
  refine k_iload_n (i := 1) hA dX10_rests_1 rfl 1 rfl ?_
  refine k_callVi (As := [.int x1]) (rest := []) hA (m_X_whyNoHour l G a tl t x1 rfl) cd_X10_whyNoHour wd_1001 (hc_X_0 G.2.1 a tl t) rfl rfl (Nat.le_of_ble_eq_true rfl) rfl rfl (Nat.le_of_ble_eq_true rfl) dX10_rests_2 ?_
  refine k_istore_n (i := 2) (lv' := [(2, .int x2_1), (0, .ref (a 0)), (1, .int x1)]) hA dX10_rests_5 rfl ex2_1 (Nat.le_of_ble_eq_true rfl) rfl ?_
  refine k_iload_n (i := 2) hA dX10_rests_6 rfl 0 rfl ?_
  refine k_if_ne (tgt := 21) hA dX10_rests_7 rfl (fun hc => ?_) (fun hc => ?_)
  · have hf := k_iff hc hf
    obtain ⟨⟨rq_2, tq_2⟩, hq_2, hf⟩ := k_lt_e hf
    dsimp only at hf
    obtain ⟨rfl, rfl⟩ := k_r2 hf
    refine k_aload_n (i := 0) hA dX10_rests_21 rfl 1 rfl ?_
    refine k_iload_n (i := 2) hA dX10_rests_22 rfl 0 rfl ?_
    refine k_callVi (As := [.int x2_1]) (rest := []) hA (m_X_refuse l G a tl x2_1 t hq_2.symm) cd_X10_refuse wd_480 (hc_X_0 G.2.1 a tl t) rfl rfl (Nat.le_of_ble_eq_true rfl) rfl rfl (Nat.le_of_ble_eq_true rfl) dX10_rests_23 ?_
    exact k_iret hA hr rfl dX10_rests_26
  have hf := k_ift hc hf
  obtain ⟨r_3, hr_3, hf⟩ := k_cp_e hf
  obtain ⟨⟨rq_4, tq_4⟩, hq_4, hf⟩ := k_lt_e hf
  dsimp only at hf
  obtain ⟨rfl, rfl⟩ := k_r2 hf
  refine k_aload_n (i := 0) hA dX10_rests_10 rfl 1 rfl ?_
  refine k_iload_n (i := 1) hA dX10_rests_11 rfl 2 rfl ?_
  refine k_callSi (As := [.int x1]) (rest := [.ref (a 0)]) hA (m_Fa_countRests l G (k_WX G.2.1 a tl t) n x1 hr_3) cd_X2_countRests wd_1015 (Nat.le_of_ble_eq_true rfl) rfl rfl (Nat.le_of_ble_eq_true rfl) dX10_rests_12 ?_
  refine k_callVi (As := [.int r_3]) (rest := []) hA (m_X_answer l G a tl r_3 t hq_4.symm) cd_X10_answer wd_732 (hc_X_0 G.2.1 a tl t) rfl rfl (Nat.le_of_ble_eq_true rfl) rfl rfl (Nat.le_of_ble_eq_true rfl) dX10_rests_15 ?_
  refine k_goto (tgt := 26) hA dX10_rests_18 rfl ?_
  exact k_iret hA hr rfl dX10_rests_26

def f_X_rest (n : Nat) (x1 : Int32) (t : k_St) : Option (Int32 × k_St) := k_lt (f_X_whyNoHour t x1) (fun x2_1 => (if x2_1 = 0 then k_cp (f_Fa_firstRest n x1) (fun r_3 => k_lt (f_X_answer r_3 t) (fun q_4 => some (q_4.1, q_4.2))) else k_lt (f_X_refuse x2_1 t) (fun q_2 => some (q_2.1, q_2.2))))
theorem m_X_rest (l : Launch) (G : k_G) (a : Nat → Nat) (tl : Value) (n : Nat) (x1 : Int32) (t : k_St) {r : Int32} {t' : k_St} (hf : f_X_rest n x1 t = some (r, t')) : k_CI l G yX10_rest cX10_rest 3 (some .int) 5 (k_WX G.2.1 a tl t) [.ref (a 0), .int x1] r (k_WX G.2.1 a tl t') := by
  refine k_startI (lv := [(0, .ref (a 0)), (1, .int x1)]) (by decide +kernel) (Nat.le_of_ble_eq_true rfl) rfl ?_
  intro p e s m args below meth c hA hr
  have hA : k_Amb p s m args meth c cX10_rest 3 "TaleShares" G _ := hA
  unfold f_X_rest at hf
  obtain ⟨x2_1, ex2_1, hf⟩ := k_lt_e hf
  refine k_aload_n (i := 0) hA dX10_rest_0 rfl 0 rfl ?_
  refine k_iload_n (i := 1) hA dX10_rest_1 rfl 1 rfl ?_
  refine k_callVi (As := [.int x1]) (rest := []) hA (m_X_whyNoHour l G a tl t x1 rfl) cd_X10_whyNoHour wd_1001 (hc_X_0 G.2.1 a tl t) rfl rfl (Nat.le_of_ble_eq_true rfl) rfl rfl (Nat.le_of_ble_eq_true rfl) dX10_rest_2 ?_
  refine k_istore_n (i := 2) (lv' := [(2, .int x2_1), (0, .ref (a 0)), (1, .int x1)]) hA dX10_rest_5 rfl ex2_1 (Nat.le_of_ble_eq_true rfl) rfl ?_
  refine k_iload_n (i := 2) hA dX10_rest_6 rfl 0 rfl ?_
  refine k_if_ne (tgt := 21) hA dX10_rest_7 rfl (fun hc => ?_) (fun hc => ?_)
  · have hf := k_iff hc hf
    obtain ⟨⟨rq_2, tq_2⟩, hq_2, hf⟩ := k_lt_e hf
    dsimp only at hf
    obtain ⟨rfl, rfl⟩ := k_r2 hf
    refine k_aload_n (i := 0) hA dX10_rest_21 rfl 1 rfl ?_
    refine k_iload_n (i := 2) hA dX10_rest_22 rfl 0 rfl ?_
    refine k_callVi (As := [.int x2_1]) (rest := []) hA (m_X_refuse l G a tl x2_1 t hq_2.symm) cd_X10_refuse wd_480 (hc_X_0 G.2.1 a tl t) rfl rfl (Nat.le_of_ble_eq_true rfl) rfl rfl (Nat.le_of_ble_eq_true rfl) dX10_rest_23 ?_
    exact k_iret hA hr rfl dX10_rest_26
  have hf := k_ift hc hf
  obtain ⟨r_3, hr_3, hf⟩ := k_cp_e hf
  obtain ⟨⟨rq_4, tq_4⟩, hq_4, hf⟩ := k_lt_e hf
  dsimp only at hf
  obtain ⟨rfl, rfl⟩ := k_r2 hf
  refine k_aload_n (i := 0) hA dX10_rest_10 rfl 1 rfl ?_
  refine k_iload_n (i := 1) hA dX10_rest_11 rfl 2 rfl ?_
  refine k_callSi (As := [.int x1]) (rest := [.ref (a 0)]) hA (m_Fa_firstRest l G (k_WX G.2.1 a tl t) n x1 hr_3) cd_X2_firstRest wd_1029 (Nat.le_of_ble_eq_true rfl) rfl rfl (Nat.le_of_ble_eq_true rfl) dX10_rest_12 ?_
  refine k_callVi (As := [.int r_3]) (rest := []) hA (m_X_answer l G a tl r_3 t hq_4.symm) cd_X10_answer wd_732 (hc_X_0 G.2.1 a tl t) rfl rfl (Nat.le_of_ble_eq_true rfl) rfl rfl (Nat.le_of_ble_eq_true rfl) dX10_rest_15 ?_
  refine k_goto (tgt := 26) hA dX10_rest_18 rfl ?_
  exact k_iret hA hr rfl dX10_rest_26

def f_X_whyNoChance (t : k_St) (x1 : Int32) : Int32 := (if (t.1 0 10) = 0 then (1 : Int32) else (if x1 < 0 then (2 : Int32) else (if x1 ≤ (8 : Int32) then (0 : Int32) else (2 : Int32))))
theorem m_X_whyNoChance (l : Launch) (G : k_G) (a : Nat → Nat) (tl : Value) (t : k_St) (x1 : Int32) {r : Int32} (hf : f_X_whyNoChance t x1 = r) : k_CI l G yX10_whyNoChance cX10_whyNoChance 2 (some .int) 1 (k_WX G.2.1 a tl t) [.ref (a 0), .int x1] r (k_WX G.2.1 a tl t) := by
  refine k_startI (lv := [(0, .ref (a 0)), (1, .int x1)]) (by decide +kernel) (Nat.le_of_ble_eq_true rfl) rfl ?_
  intro p e s m args below meth c hA hr
  have hA : k_Amb p s m args meth c cX10_whyNoChance 2 "TaleShares" G _ := hA
  unfold f_X_whyNoChance at hf
  refine k_aload_n (i := 0) hA dX10_whyNoChance_0 rfl 0 rfl ?_
  refine gt_X_0_8 hA wd_445 dX10_whyNoChance_1 ?_
  refine k_if_ne (tgt := 9) hA dX10_whyNoChance_4 rfl (fun hc => ?_) (fun hc => ?_)
  · have hf := k_iff hc hf
    refine k_iload_n (i := 1) hA dX10_whyNoChance_9 rfl 1 rfl ?_
    refine k_if_lt (tgt := 19) hA dX10_whyNoChance_10 rfl (fun hc => ?_) (fun hc => ?_)
    · have hf := k_ift hc hf
      subst hf
      refine k_iconst hA dX10_whyNoChance_19 kc_i_2 ?_
      refine k_goto (tgt := 24) hA dX10_whyNoChance_20 rfl ?_
      exact k_iret hA hr rfl dX10_whyNoChance_24
    have hf := k_iff hc hf
    refine k_iload_n (i := 1) hA dX10_whyNoChance_13 rfl 1 rfl ?_
    refine k_bipush hA dX10_whyNoChance_14 kc_b_8 ?_
    refine k_icmp_le (tgt := 23) hA dX10_whyNoChance_16 rfl (fun hc => ?_) (fun hc => ?_)
    · have hf := k_ift hc hf
      subst hf
      refine k_iconst hA dX10_whyNoChance_23 kc_i_0 ?_
      exact k_iret hA hr rfl dX10_whyNoChance_24
    have hf := k_iff hc hf
    subst hf
    refine k_iconst hA dX10_whyNoChance_19 kc_i_2 ?_
    refine k_goto (tgt := 24) hA dX10_whyNoChance_20 rfl ?_
    exact k_iret hA hr rfl dX10_whyNoChance_24
  have hf := k_ift hc hf
  subst hf
  refine k_iconst hA dX10_whyNoChance_7 kc_i_1 ?_
  exact k_iret hA hr rfl dX10_whyNoChance_8

def f_X_tells_24 (n : Nat) (x1 : Int32) (x2 : Int32) (x3 : Int32) (x4 : Int32) (t : k_St) : Option (Int64 × k_St) := (if x4 = 0 then k_lt (k_sI t 0 12 (0 : Int32)) (fun t_1 => k_cp (f_Ch_ofTelling n (t_1.1 2 1) x1 x2 x3) (fun r_2 => some (r_2, t_1))) else k_lt (f_X_refuse x4 t) (fun q_3 => some (q_3.1.toInt64, q_3.2)))
def f_X_tells_21 (n : Nat) (x1 : Int32) (x2 : Int32) (x3 : Int32) (t : k_St) : Option (Int64 × k_St) := f_X_tells_24 n x1 x2 x3 (2 : Int32) t
def f_X_tells (n : Nat) (x1 : Int32) (x2 : Int32) (x3 : Int32) (t : k_St) : Option (Int64 × k_St) := k_lt (f_X_whyNoChance t x1) (fun x4_1 => (if x4_1 = 0 then (if x2 < 0 then f_X_tells_21 n x1 x2 x3 t else (if x2 ≤ x1 then f_X_tells_24 n x1 x2 x3 x4_1 t else f_X_tells_21 n x1 x2 x3 t)) else f_X_tells_24 n x1 x2 x3 x4_1 t))
theorem m_X_tells_24 {p : Program} (l : Launch) {e : Env} {s : State} {m : MethodId} {args : Array Value} {below : List Frame} {meth : Method} {c : Code} (G : k_G) (a : Nat → Nat) (tl : Value) (n : Nat) {w0 : va_W} {r : Int64} {t' : k_St} (hA : k_Amb p s m args meth c cX10_tells 5 "TaleShares" G (va_A w0 s.heap.size)) (hr : meth.sig.returnType = (some .long)) : ∀ (x1 : Int32) (x2 : Int32) (x3 : Int32) (x4 : Int32) (t : k_St), f_X_tells_24 n x1 x2 x3 x4 t = some (r, t') → k_Go p l e (k_rm 4) s m args below meth c (k_QL G w0 r (k_WX G.2.1 a tl t') args s below) 5 G (va_A w0 s.heap.size) (k_WX G.2.1 a tl t) 24 [(0, .ref (a 0)), (1, .int x1), (2, .int x2), (3, .int x3), (4, .int x4)] [] := by
  intro x1 x2 x3 x4 t hf
  unfold f_X_tells_24 at hf
  refine k_iload hA dX10_tells_24 4 rfl ?_
  refine k_if_eq (tgt := 37) hA dX10_tells_26 rfl (fun hc => ?_) (fun hc => ?_)
  · have hf := k_ift hc hf
    obtain ⟨t_1, et_1, hf⟩ := k_lt_e hf
    obtain ⟨r_2, hr_2, hf⟩ := k_cp_e hf
    obtain ⟨rfl, rfl⟩ := k_r2 hf
    refine k_aload_n (i := 0) hA dX10_tells_37 rfl 0 rfl ?_
    refine k_iconst hA dX10_tells_38 kc_i_0 ?_
    refine pt_X_0_9 hA wd_446 et_1 dX10_tells_39 ?_
    refine k_aload_n (i := 0) hA dX10_tells_42 rfl 0 rfl ?_
    refine gt_X_0_7 hA wd_444 dX10_tells_43 ?_
    refine gt_X_2_1 hA wd_164 dX10_tells_46 ?_
    refine k_iload_n (i := 1) hA dX10_tells_49 rfl 1 rfl ?_
    refine k_iload_n (i := 2) hA dX10_tells_50 rfl 2 rfl ?_
    refine k_iload_n (i := 3) hA dX10_tells_51 rfl 3 rfl ?_
    refine k_callSl (As := [.int (t_1.1 2 1), .int x1, .int x2, .int x3]) (rest := []) hA (m_Ch_ofTelling l G (k_WX G.2.1 a tl t_1) n (t_1.1 2 1) x1 x2 x3 hr_2) cd_X0_ofTelling wd_1040 (Nat.le_of_ble_eq_true rfl) rfl rfl (Nat.le_of_ble_eq_true rfl) dX10_tells_52 ?_
    exact k_lret hA hr dX10_tells_55
  have hf := k_iff hc hf
  obtain ⟨⟨rq_3, tq_3⟩, hq_3, hf⟩ := k_lt_e hf
  dsimp only at hf
  obtain ⟨rfl, rfl⟩ := k_r2 hf
  refine k_aload_n (i := 0) hA dX10_tells_29 rfl 0 rfl ?_
  refine k_iload hA dX10_tells_30 4 rfl ?_
  refine k_callVi (As := [.int x4]) (rest := []) hA (m_X_refuse l G a tl x4 t hq_3.symm) cd_X10_refuse wd_480 (hc_X_0 G.2.1 a tl t) rfl rfl (Nat.le_of_ble_eq_true rfl) rfl rfl (Nat.le_of_ble_eq_true rfl) dX10_tells_32 ?_
  refine k_i2l hA dX10_tells_35 ?_
  exact k_lret hA hr dX10_tells_36

theorem m_X_tells_21 {p : Program} (l : Launch) {e : Env} {s : State} {m : MethodId} {args : Array Value} {below : List Frame} {meth : Method} {c : Code} (G : k_G) (a : Nat → Nat) (tl : Value) (n : Nat) {w0 : va_W} {r : Int64} {t' : k_St} (hA : k_Amb p s m args meth c cX10_tells 5 "TaleShares" G (va_A w0 s.heap.size)) (hr : meth.sig.returnType = (some .long)) : ∀ (x1 : Int32) (x2 : Int32) (x3 : Int32) (t : k_St), f_X_tells_21 n x1 x2 x3 t = some (r, t') → k_Go p l e (k_rm 4) s m args below meth c (k_QL G w0 r (k_WX G.2.1 a tl t') args s below) 5 G (va_A w0 s.heap.size) (k_WX G.2.1 a tl t) 21 [(0, .ref (a 0)), (1, .int x1), (2, .int x2), (3, .int x3)] [] := by
  intro x1 x2 x3 t hf
  unfold f_X_tells_21 at hf
  refine k_iconst hA dX10_tells_21 kc_i_2 ?_
  refine k_istore (lv' := [(4, .int (2 : Int32)), (0, .ref (a 0)), (1, .int x1), (2, .int x2), (3, .int x3)]) hA dX10_tells_22 rfl (Nat.le_of_ble_eq_true rfl) rfl ?_
  refine k_pick (lv' := [(0, .ref (a 0)), (1, .int x1), (2, .int x2), (3, .int x3), (4, .int (2 : Int32))]) [1, 2, 3, 4, 0] rfl ?_
  exact m_X_tells_24 l G a tl n hA hr x1 x2 x3 (2 : Int32) t hf

theorem m_X_tells (l : Launch) (G : k_G) (a : Nat → Nat) (tl : Value) (n : Nat) (x1 : Int32) (x2 : Int32) (x3 : Int32) (t : k_St) {r : Int64} {t' : k_St} (hf : f_X_tells n x1 x2 x3 t = some (r, t')) : k_CL l G yX10_tells cX10_tells 5 (some .long) 4 (k_WX G.2.1 a tl t) [.ref (a 0), .int x1, .int x2, .int x3] r (k_WX G.2.1 a tl t') := by
  refine k_startL (lv := [(0, .ref (a 0)), (1, .int x1), (2, .int x2), (3, .int x3)]) (by decide +kernel) (Nat.le_of_ble_eq_true rfl) rfl ?_
  intro p e s m args below meth c hA hr
  have hA : k_Amb p s m args meth c cX10_tells 5 "TaleShares" G _ := hA
  unfold f_X_tells at hf
  obtain ⟨x4_1, ex4_1, hf⟩ := k_lt_e hf
  refine k_aload_n (i := 0) hA dX10_tells_0 rfl 0 rfl ?_
  refine k_iload_n (i := 1) hA dX10_tells_1 rfl 1 rfl ?_
  refine k_callVi (As := [.int x1]) (rest := []) hA (m_X_whyNoChance l G a tl t x1 rfl) cd_X10_whyNoChance wd_1036 (hc_X_0 G.2.1 a tl t) rfl rfl (Nat.le_of_ble_eq_true rfl) rfl rfl (Nat.le_of_ble_eq_true rfl) dX10_tells_2 ?_
  refine k_istore (lv' := [(4, .int x4_1), (0, .ref (a 0)), (1, .int x1), (2, .int x2), (3, .int x3)]) hA dX10_tells_5 ex4_1 (Nat.le_of_ble_eq_true rfl) rfl ?_
  refine k_iload hA dX10_tells_7 0 rfl ?_
  refine k_if_ne (tgt := 24) hA dX10_tells_9 rfl (fun hc => ?_) (fun hc => ?_)
  · have hf := k_iff hc hf
    refine k_pick (lv' := [(0, .ref (a 0)), (1, .int x1), (2, .int x2), (3, .int x3), (4, .int x4_1)]) [1, 2, 3, 4, 0] rfl ?_
    exact m_X_tells_24 l G a tl n hA hr x1 x2 x3 x4_1 t hf
  have hf := k_ift hc hf
  refine k_iload_n (i := 2) hA dX10_tells_12 rfl 3 rfl ?_
  refine k_if_lt (tgt := 21) hA dX10_tells_13 rfl (fun hc => ?_) (fun hc => ?_)
  · have hf := k_ift hc hf
    refine k_pick (lv' := [(0, .ref (a 0)), (1, .int x1), (2, .int x2), (3, .int x3)]) [1, 2, 3, 4] rfl ?_
    exact m_X_tells_21 l G a tl n hA hr x1 x2 x3 t hf
  have hf := k_iff hc hf
  refine k_iload_n (i := 2) hA dX10_tells_16 rfl 3 rfl ?_
  refine k_iload_n (i := 1) hA dX10_tells_17 rfl 2 rfl ?_
  refine k_icmp_le (tgt := 24) hA dX10_tells_18 rfl (fun hc => ?_) (fun hc => ?_)
  · have hf := k_ift hc hf
    refine k_pick (lv' := [(0, .ref (a 0)), (1, .int x1), (2, .int x2), (3, .int x3), (4, .int x4_1)]) [1, 2, 3, 4, 0] rfl ?_
    exact m_X_tells_24 l G a tl n hA hr x1 x2 x3 x4_1 t hf
  have hf := k_iff hc hf
  refine k_pick (lv' := [(0, .ref (a 0)), (1, .int x1), (2, .int x2), (3, .int x3)]) [1, 2, 3, 4] rfl ?_
  exact m_X_tells_21 l G a tl n hA hr x1 x2 x3 t hf

def f_X_mean (n : Nat) (x1 : Int32) (x2 : Int32) (t : k_St) : Option (Int64 × k_St) := k_lt (f_X_whyNoChance t x1) (fun x3_1 => (if x3_1 = 0 then k_lt (k_sI t 0 12 (0 : Int32)) (fun t_2 => k_cp (f_Ch_ofMean n (t_2.1 2 1) x1 x2) (fun r_3 => some (r_3, t_2))) else k_lt (f_X_refuse x3_1 t) (fun q_4 => some (q_4.1.toInt64, q_4.2))))
theorem m_X_mean (l : Launch) (G : k_G) (a : Nat → Nat) (tl : Value) (n : Nat) (x1 : Int32) (x2 : Int32) (t : k_St) {r : Int64} {t' : k_St} (hf : f_X_mean n x1 x2 t = some (r, t')) : k_CL l G yX10_mean cX10_mean 4 (some .long) 4 (k_WX G.2.1 a tl t) [.ref (a 0), .int x1, .int x2] r (k_WX G.2.1 a tl t') := by
  refine k_startL (lv := [(0, .ref (a 0)), (1, .int x1), (2, .int x2)]) (by decide +kernel) (Nat.le_of_ble_eq_true rfl) rfl ?_
  intro p e s m args below meth c hA hr
  have hA : k_Amb p s m args meth c cX10_mean 4 "TaleShares" G _ := hA
  unfold f_X_mean at hf
  obtain ⟨x3_1, ex3_1, hf⟩ := k_lt_e hf
  refine k_aload_n (i := 0) hA dX10_mean_0 rfl 0 rfl ?_
  refine k_iload_n (i := 1) hA dX10_mean_1 rfl 1 rfl ?_
  refine k_callVi (As := [.int x1]) (rest := []) hA (m_X_whyNoChance l G a tl t x1 rfl) cd_X10_whyNoChance wd_1036 (hc_X_0 G.2.1 a tl t) rfl rfl (Nat.le_of_ble_eq_true rfl) rfl rfl (Nat.le_of_ble_eq_true rfl) dX10_mean_2 ?_
  refine k_istore_n (i := 3) (lv' := [(3, .int x3_1), (0, .ref (a 0)), (1, .int x1), (2, .int x2)]) hA dX10_mean_5 rfl ex3_1 (Nat.le_of_ble_eq_true rfl) rfl ?_
  refine k_iload_n (i := 3) hA dX10_mean_6 rfl 0 rfl ?_
  refine k_if_eq (tgt := 17) hA dX10_mean_7 rfl (fun hc => ?_) (fun hc => ?_)
  · have hf := k_ift hc hf
    obtain ⟨t_2, et_2, hf⟩ := k_lt_e hf
    obtain ⟨r_3, hr_3, hf⟩ := k_cp_e hf
    obtain ⟨rfl, rfl⟩ := k_r2 hf
    refine k_aload_n (i := 0) hA dX10_mean_17 rfl 1 rfl ?_
    refine k_iconst hA dX10_mean_18 kc_i_0 ?_
    refine pt_X_0_9 hA wd_446 et_2 dX10_mean_19 ?_
    refine k_aload_n (i := 0) hA dX10_mean_22 rfl 1 rfl ?_
    refine gt_X_0_7 hA wd_444 dX10_mean_23 ?_
    refine gt_X_2_1 hA wd_164 dX10_mean_26 ?_
    refine k_iload_n (i := 1) hA dX10_mean_29 rfl 2 rfl ?_
    refine k_iload_n (i := 2) hA dX10_mean_30 rfl 3 rfl ?_
    refine k_callSl (As := [.int (t_2.1 2 1), .int x1, .int x2]) (rest := []) hA (m_Ch_ofMean l G (k_WX G.2.1 a tl t_2) n (t_2.1 2 1) x1 x2 hr_3) cd_X0_ofMean wd_1060 (Nat.le_of_ble_eq_true rfl) rfl rfl (Nat.le_of_ble_eq_true rfl) dX10_mean_31 ?_
    exact k_lret hA hr dX10_mean_34
  have hf := k_iff hc hf
  obtain ⟨⟨rq_4, tq_4⟩, hq_4, hf⟩ := k_lt_e hf
  dsimp only at hf
  obtain ⟨rfl, rfl⟩ := k_r2 hf
  refine k_aload_n (i := 0) hA dX10_mean_10 rfl 1 rfl ?_
  refine k_iload_n (i := 3) hA dX10_mean_11 rfl 0 rfl ?_
  refine k_callVi (As := [.int x3_1]) (rest := []) hA (m_X_refuse l G a tl x3_1 t hq_4.symm) cd_X10_refuse wd_480 (hc_X_0 G.2.1 a tl t) rfl rfl (Nat.le_of_ble_eq_true rfl) rfl rfl (Nat.le_of_ble_eq_true rfl) dX10_mean_12 ?_
  refine k_i2l hA dX10_mean_15 ?_
  exact k_lret hA hr dX10_mean_16

def f_X_noSeed (x0 : Int32) : Bool := (if x0 < 0 then true else (if x0 < (65537 : Int32) then false else true))
theorem m_X_noSeed (l : Launch) (G : k_G) (w : va_W) (x0 : Int32) {r : Bool} (hf : f_X_noSeed x0 = r) : k_CI l G yX10_noSeed cX10_noSeed 1 (some .boolean) 1 w [.int x0] (k_b r) w := by
  refine k_startI (lv := [(0, .int x0)]) (by decide +kernel) (Nat.le_of_ble_eq_true rfl) rfl ?_
  intro p e s m args below meth c hA hr
  have hA : k_Amb p s m args meth c cX10_noSeed 1 "TaleShares" G _ := hA
  unfold f_X_noSeed at hf
  refine k_iload_n (i := 0) hA dX10_noSeed_0 rfl 0 rfl ?_
  refine k_if_lt (tgt := 11) hA dX10_noSeed_1 rfl (fun hc => ?_) (fun hc => ?_)
  · have hf := k_ift hc hf
    subst hf
    refine k_iconst hA dX10_noSeed_11 kc_i_1 ?_
    refine k_goto (tgt := 16) hA dX10_noSeed_12 rfl ?_
    exact k_iret hA hr (k_narB (k_b01 _)) dX10_noSeed_16
  have hf := k_iff hc hf
  refine k_iload_n (i := 0) hA dX10_noSeed_4 rfl 0 rfl ?_
  refine k_ldcw hA wd_1070 dX10_noSeed_5 ?_
  refine k_icmp_lt (tgt := 15) hA dX10_noSeed_8 rfl (fun hc => ?_) (fun hc => ?_)
  · have hf := k_ift hc hf
    subst hf
    refine k_iconst hA dX10_noSeed_15 kc_i_0 ?_
    exact k_iret hA hr (k_narB (k_b01 _)) dX10_noSeed_16
  have hf := k_iff hc hf
  subst hf
  refine k_iconst hA dX10_noSeed_11 kc_i_1 ?_
  refine k_goto (tgt := 16) hA dX10_noSeed_12 rfl ?_
  exact k_iret hA hr (k_narB (k_b01 _)) dX10_noSeed_16

def f_X_noEvenings (x0 : Int32) : Bool := (if x0 < 0 then true else (if x0 ≤ (60 : Int32) then false else true))
theorem m_X_noEvenings (l : Launch) (G : k_G) (w : va_W) (x0 : Int32) {r : Bool} (hf : f_X_noEvenings x0 = r) : k_CI l G yX10_noEvenings cX10_noEvenings 1 (some .boolean) 1 w [.int x0] (k_b r) w := by
  refine k_startI (lv := [(0, .int x0)]) (by decide +kernel) (Nat.le_of_ble_eq_true rfl) rfl ?_
  intro p e s m args below meth c hA hr
  have hA : k_Amb p s m args meth c cX10_noEvenings 1 "TaleShares" G _ := hA
  unfold f_X_noEvenings at hf
  refine k_iload_n (i := 0) hA dX10_noEvenings_0 rfl 0 rfl ?_
  refine k_if_lt (tgt := 10) hA dX10_noEvenings_1 rfl (fun hc => ?_) (fun hc => ?_)
  · have hf := k_ift hc hf
    subst hf
    refine k_iconst hA dX10_noEvenings_10 kc_i_1 ?_
    refine k_goto (tgt := 15) hA dX10_noEvenings_11 rfl ?_
    exact k_iret hA hr (k_narB (k_b01 _)) dX10_noEvenings_15
  have hf := k_iff hc hf
  refine k_iload_n (i := 0) hA dX10_noEvenings_4 rfl 0 rfl ?_
  refine k_bipush hA dX10_noEvenings_5 kc_b_60 ?_
  refine k_icmp_le (tgt := 14) hA dX10_noEvenings_7 rfl (fun hc => ?_) (fun hc => ?_)
  · have hf := k_ift hc hf
    subst hf
    refine k_iconst hA dX10_noEvenings_14 kc_i_0 ?_
    exact k_iret hA hr (k_narB (k_b01 _)) dX10_noEvenings_15
  have hf := k_iff hc hf
  subst hf
  refine k_iconst hA dX10_noEvenings_10 kc_i_1 ?_
  refine k_goto (tgt := 15) hA dX10_noEvenings_11 rfl ?_
  exact k_iret hA hr (k_narB (k_b01 _)) dX10_noEvenings_15

def f_Ev_pass_30 (n : Nat) : Nat → Int32 → Int32 → Int32 → k_St → Option k_St
  | 0, _, _, _, _ => none
  | k + 1, x3, x4, x5, t => (if x4 ≤ x5 then some t else k_lt (k_sI t 33 0 ((((75 : Int32) * (t.1 33 0)) + (74 : Int32)) - (((75 : Int32) * (t.1 33 0)) + (74 : Int32)) / (65537 : Int32) * (65537 : Int32))) (fun t_1 => (if (t_1.1 2 1) ≤ ((t_1.1 33 0) - (t_1.1 33 0) / (100 : Int32) * (100 : Int32)) then k_cp (f_Ta_pieceAt n t_1 x3 x5) (fun r_2 => k_lt (k_sI t_1 33 1 ((t_1.1 33 1) ||| ((1 : Int32) <<< (r_2 &&& 31)))) (fun t_3 => k_lt (x5 + (1 : Int32)) (fun x5_4 => f_Ev_pass_30 n k x3 x4 x5_4 t_3))) else some t_1)))
def f_Ev_pass (n : Nat) (t : k_St) : Option k_St := k_lt (k_sI t 33 1 (0 : Int32)) (fun t_1 => k_cp (f_Ta_longestOf n t_1 (f_Te_allPieces t_1)) (fun r_2 => (if r_2 = (-1 : Int32) then some t_1 else k_cp (f_Ta_lengthOf t_1 r_2) (fun r_3 => f_Ev_pass_30 n n r_2 r_3 (0 : Int32) t_1))))
theorem m_Ev_pass_30 {p : Program} (l : Launch) {e : Env} {s : State} {m : MethodId} {args : Array Value} {below : List Frame} {meth : Method} {c : Code} (G : k_G) (a : Nat → Nat) (tl : Value) (n : Nat) {w0 : va_W} {t' : k_St} (hA : k_Amb p s m args meth c cX1_pass 6 "TaleShares$Evening" G (va_A w0 s.heap.size)) (hr : meth.sig.returnType = none) : ∀ (k : Nat) (x3 : Int32) (x4 : Int32) (x5 : Int32) (t : k_St), f_Ev_pass_30 n k x3 x4 x5 t = some t' → k_Go p l e (k_rm 4) s m args below meth c (k_QV G w0 (k_WX G.2.1 a tl t') args s below) 6 G (va_A w0 s.heap.size) (k_WX G.2.1 a tl t) 30 [(0, .ref (a 33)), (1, .ref (a 21)), (2, .ref (a 2)), (3, .int x3), (4, .int x4), (5, .int x5)] [] := by
  intro k
  induction k with
  | zero => intro x3 x4 x5 t hf; cases hf
  | succ k ih =>
  intro x3 x4 x5 t hf
  rw [f_Ev_pass_30] at hf
  refine k_iload hA dX1_pass_30 5 rfl ?_
  refine k_iload hA dX1_pass_32 4 rfl ?_
  refine k_icmp_ge (tgt := 93) hA dX1_pass_34 rfl (fun hc => ?_) (fun hc => ?_)
  · have hf := k_ift hc hf
    obtain rfl := k_r1 hf
    exact k_vret hA hr dX1_pass_93
  have hf := k_iff hc hf
  obtain ⟨t_1, et_1, hf⟩ := k_lt_e hf
  refine k_aload_n (i := 0) hA dX1_pass_37 rfl 0 rfl ?_
  refine k_bipush hA dX1_pass_38 kc_b_75 ?_
  refine k_aload_n (i := 0) hA dX1_pass_40 rfl 0 rfl ?_
  refine gt_X_33_0 hA wd_396 dX1_pass_41 ?_
  refine k_imul hA dX1_pass_44 ?_
  refine k_bipush hA dX1_pass_45 kc_b_74 ?_
  refine k_iadd hA dX1_pass_47 ?_
  refine k_ldc hA wd_1085 dX1_pass_48 ?_
  refine k_irem hA dX1_pass_50 (by decide) ?_
  refine pt_X_33_0 hA wd_396 et_1 dX1_pass_51 ?_
  refine k_aload_n (i := 0) hA dX1_pass_54 rfl 0 rfl ?_
  refine gt_X_33_0 hA wd_396 dX1_pass_55 ?_
  refine k_bipush hA dX1_pass_58 kc_b_100 ?_
  refine k_irem hA dX1_pass_60 (by decide) ?_
  refine k_aload_n (i := 2) hA dX1_pass_61 rfl 2 rfl ?_
  refine gt_X_2_1 hA wd_162 dX1_pass_62 ?_
  refine k_icmp_ge (tgt := 69) hA dX1_pass_65 rfl (fun hc => ?_) (fun hc => ?_)
  · have hf := k_ift hc hf
    obtain ⟨r_2, hr_2, hf⟩ := k_cp_e hf
    obtain ⟨t_3, et_3, hf⟩ := k_lt_e hf
    obtain ⟨x5_4, ex5_4, hf⟩ := k_lt_e hf
    refine k_aload_n (i := 0) hA dX1_pass_69 rfl 0 rfl ?_
    refine k_dup hA dX1_pass_70 rfl ?_
    refine gt_X_33_1 hA wd_398 dX1_pass_71 ?_
    refine k_iconst hA dX1_pass_74 kc_i_1 ?_
    refine k_aload_n (i := 1) hA dX1_pass_75 rfl 1 rfl ?_
    refine k_iload_n (i := 3) hA dX1_pass_76 rfl 3 rfl ?_
    refine k_iload hA dX1_pass_77 5 rfl ?_
    refine k_callVi (As := [.int x3, .int x5]) (rest := [.int (1 : Int32), .int (t_1.1 33 1), .ref (a 33)]) hA (m_Ta_pieceAt l G a tl n t_1 x3 x5 hr_2) cd_X7_pieceAt wd_1086 (hc_X_21 G.2.1 a tl t_1) rfl rfl (Nat.le_of_ble_eq_true rfl) rfl rfl (Nat.le_of_ble_eq_true rfl) dX1_pass_79 ?_
    refine k_ishl hA dX1_pass_82 ?_
    refine k_ior hA dX1_pass_83 ?_
    refine pt_X_33_1 hA wd_398 et_3 dX1_pass_84 ?_
    refine k_iinc (j := 5) (v := x5_4) (lv' := [(5, .int x5_4), (0, .ref (a 33)), (1, .ref (a 21)), (2, .ref (a 2)), (3, .int x3), (4, .int x4)]) hA dX1_pass_87 rfl (k_inc ex5_4 kc_i_1) (Nat.le_of_ble_eq_true rfl) rfl ?_
    refine k_goto (tgt := 30) hA dX1_pass_90 rfl ?_
    refine k_pick (lv' := [(0, .ref (a 33)), (1, .ref (a 21)), (2, .ref (a 2)), (3, .int x3), (4, .int x4), (5, .int x5_4)]) [1, 2, 3, 4, 5, 0] rfl ?_
    exact ih x3 x4 x5_4 t_3 hf
  have hf := k_iff hc hf
  obtain rfl := k_r1 hf
  exact k_vret hA hr dX1_pass_68

theorem m_Ev_pass (l : Launch) (G : k_G) (a : Nat → Nat) (tl : Value) (n : Nat) (t : k_St) {t' : k_St} (hf : f_Ev_pass n t = some t') : k_CV l G yX1_pass cX1_pass 6 none 4 (k_WX G.2.1 a tl t) [.ref (a 33), .ref (a 21), .ref (a 2)] (k_WX G.2.1 a tl t') := by
  refine k_startV (lv := [(0, .ref (a 33)), (1, .ref (a 21)), (2, .ref (a 2))]) (by decide +kernel) (Nat.le_of_ble_eq_true rfl) rfl ?_
  intro p e s m args below meth c hA hr
  have hA : k_Amb p s m args meth c cX1_pass 6 "TaleShares$Evening" G _ := hA
  unfold f_Ev_pass at hf
  obtain ⟨t_1, et_1, hf⟩ := k_lt_e hf
  obtain ⟨r_2, hr_2, hf⟩ := k_cp_e hf
  refine k_aload_n (i := 0) hA dX1_pass_0 rfl 0 rfl ?_
  refine k_iconst hA dX1_pass_1 kc_i_0 ?_
  refine pt_X_33_1 hA wd_398 et_1 dX1_pass_2 ?_
  refine k_aload_n (i := 1) hA dX1_pass_5 rfl 1 rfl ?_
  refine k_aload_n (i := 2) hA dX1_pass_6 rfl 2 rfl ?_
  refine k_callVi (As := []) (rest := [.ref (a 21)]) hA (m_Te_allPieces l G a tl t_1 rfl) cd_X8_allPieces wd_1082 (hc_X_2 G.2.1 a tl t_1) rfl rfl (Nat.le_of_ble_eq_true rfl) rfl rfl (Nat.le_of_ble_eq_true rfl) dX1_pass_7 ?_
  refine k_callVi (As := [.int (f_Te_allPieces t_1)]) (rest := []) hA (m_Ta_longestOf l G a tl n t_1 (f_Te_allPieces t_1) hr_2) cd_X7_longestOf wd_1083 (hc_X_21 G.2.1 a tl t_1) rfl rfl (Nat.le_of_ble_eq_true rfl) rfl rfl (Nat.le_of_ble_eq_true rfl) dX1_pass_10 ?_
  refine k_istore_n (i := 3) (lv' := [(3, .int r_2), (0, .ref (a 33)), (1, .ref (a 21)), (2, .ref (a 2))]) hA dX1_pass_13 rfl rfl (Nat.le_of_ble_eq_true rfl) rfl ?_
  refine k_iload_n (i := 3) hA dX1_pass_14 rfl 0 rfl ?_
  refine k_iconst hA dX1_pass_15 kc_i_m1 ?_
  refine k_icmp_ne (tgt := 20) hA dX1_pass_16 rfl (fun hc => ?_) (fun hc => ?_)
  · have hf := k_iff hc hf
    obtain ⟨r_3, hr_3, hf⟩ := k_cp_e hf
    refine k_aload_n (i := 1) hA dX1_pass_20 rfl 2 rfl ?_
    refine k_iload_n (i := 3) hA dX1_pass_21 rfl 0 rfl ?_
    refine k_callVi (As := [.int r_2]) (rest := []) hA (m_Ta_lengthOf l G a tl t_1 r_2 hr_3) cd_X7_lengthOf wd_1084 (hc_X_21 G.2.1 a tl t_1) rfl rfl (Nat.le_of_ble_eq_true rfl) rfl rfl (Nat.le_of_ble_eq_true rfl) dX1_pass_22 ?_
    refine k_istore (lv' := [(4, .int r_3), (3, .int r_2), (0, .ref (a 33)), (1, .ref (a 21)), (2, .ref (a 2))]) hA dX1_pass_25 rfl (Nat.le_of_ble_eq_true rfl) rfl ?_
    refine k_iconst hA dX1_pass_27 kc_i_0 ?_
    refine k_istore (lv' := [(5, .int (0 : Int32)), (4, .int r_3), (3, .int r_2), (0, .ref (a 33)), (1, .ref (a 21)), (2, .ref (a 2))]) hA dX1_pass_28 rfl (Nat.le_of_ble_eq_true rfl) rfl ?_
    refine k_pick (lv' := [(0, .ref (a 33)), (1, .ref (a 21)), (2, .ref (a 2)), (3, .int r_2), (4, .int r_3), (5, .int (0 : Int32))]) [3, 4, 5, 2, 1, 0] rfl ?_
    exact m_Ev_pass_30 l G a tl n hA hr n r_2 r_3 (0 : Int32) t_1 hf
  have hf := k_ift hc hf
  obtain rfl := k_r1 hf
  exact k_vret hA hr dX1_pass_19

def f_X_behindEvening (n : Nat) (x1 : Int64) (x3 : Int32) (t : k_St) : Option (Int64 × k_St) := k_lt (t.1 2 4) (fun x4_1 => (if 0 < x4_1 then k_cv (f_Ev_pass n t) (fun t_2 => k_gd (¬ x4_1 = 0) (some ((f_X_withMore x1 (x3 - x3 / x4_1 * x4_1) (t_2.1 33 1)), t_2))) else some (x1, t)))
theorem m_X_behindEvening (l : Launch) (G : k_G) (a : Nat → Nat) (tl : Value) (n : Nat) (x1 : Int64) (x3 : Int32) (t : k_St) {r : Int64} {t' : k_St} (hf : f_X_behindEvening n x1 x3 t = some (r, t')) : k_CL l G yX10_behindEvening cX10_behindEvening 5 (some .long) 5 (k_WX G.2.1 a tl t) [.ref (a 0), .long x1, .int x3] r (k_WX G.2.1 a tl t') := by
  refine k_startL (lv := [(0, .ref (a 0)), (1, .long x1), (3, .int x3)]) (by decide +kernel) (Nat.le_of_ble_eq_true rfl) rfl ?_
  intro p e s m args below meth c hA hr
  have hA : k_Amb p s m args meth c cX10_behindEvening 5 "TaleShares" G _ := hA
  unfold f_X_behindEvening at hf
  obtain ⟨x4_1, ex4_1, hf⟩ := k_lt_e hf
  refine k_aload_n (i := 0) hA dX10_behindEvening_0 rfl 0 rfl ?_
  refine gt_X_0_7 hA wd_444 dX10_behindEvening_1 ?_
  refine gt_X_2_4 hA wd_177 dX10_behindEvening_4 ?_
  refine k_istore (lv' := [(4, .int x4_1), (0, .ref (a 0)), (1, .long x1), (3, .int x3)]) hA dX10_behindEvening_7 ex4_1 (Nat.le_of_ble_eq_true rfl) rfl ?_
  refine k_iload hA dX10_behindEvening_9 0 rfl ?_
  refine k_if_gt (tgt := 16) hA dX10_behindEvening_11 rfl (fun hc => ?_) (fun hc => ?_)
  · have hf := k_ift hc hf
    obtain ⟨t_2, ht_2, hf⟩ := k_cv_e hf
    obtain ⟨hn_3, hf⟩ := k_gd_e hf
    obtain ⟨rfl, rfl⟩ := k_r2 hf
    refine k_aload_n (i := 0) hA dX10_behindEvening_16 rfl 1 rfl ?_
    refine gt_X_0_5 hA wd_442 dX10_behindEvening_17 ?_
    refine k_aload_n (i := 0) hA dX10_behindEvening_20 rfl 1 rfl ?_
    refine gt_X_0_1 hA wd_438 dX10_behindEvening_21 ?_
    refine k_aload_n (i := 0) hA dX10_behindEvening_24 rfl 1 rfl ?_
    refine gt_X_0_7 hA wd_444 dX10_behindEvening_25 ?_
    refine k_callVv (As := [.ref (a 21), .ref (a 2)]) (rest := []) hA (m_Ev_pass l G a tl n t ht_2) cd_X1_pass wd_1078 (hc_X_33 G.2.1 a tl t) rfl rfl (Nat.le_of_ble_eq_true rfl) rfl rfl (Nat.le_of_ble_eq_true rfl) dX10_behindEvening_28 ?_
    refine k_lload_n (i := 1) hA dX10_behindEvening_31 rfl 2 rfl ?_
    refine k_iload_n (i := 3) hA dX10_behindEvening_32 rfl 3 rfl ?_
    refine k_iload hA dX10_behindEvening_33 0 rfl ?_
    refine k_irem hA dX10_behindEvening_35 hn_3 ?_
    refine k_aload_n (i := 0) hA dX10_behindEvening_36 rfl 1 rfl ?_
    refine gt_X_0_5 hA wd_442 dX10_behindEvening_37 ?_
    refine gt_X_33_1 hA wd_399 dX10_behindEvening_40 ?_
    refine k_callSl (As := [.long x1, .int (x3 - x3 / x4_1 * x4_1), .int (t_2.1 33 1)]) (rest := []) hA (m_X_withMore l G (k_WX G.2.1 a tl t_2) x1 (x3 - x3 / x4_1 * x4_1) (t_2.1 33 1) rfl) cd_X10_withMore wd_1087 (Nat.le_of_ble_eq_true rfl) rfl rfl (Nat.le_of_ble_eq_true rfl) dX10_behindEvening_43 ?_
    exact k_lret hA hr dX10_behindEvening_46
  have hf := k_iff hc hf
  obtain ⟨rfl, rfl⟩ := k_r2 hf
  refine k_lload_n (i := 1) hA dX10_behindEvening_14 rfl 2 rfl ?_
  exact k_lret hA hr dX10_behindEvening_15

def f_X_evenings_54 (n : Nat) : Nat → Int32 → Int32 → Int64 → Int32 → k_St → Option (Int32 × k_St)
  | 0, _, _, _, _, _ => none
  | k + 1, x1, x3, x4, x6, t => (if x3 ≤ x6 then k_lt (f_X_answer (f_X_partOf x4 x1) t) (fun q_1 => some (q_1.1, q_1.2)) else k_cl (f_X_behindEvening n x4 x6 t) (fun r_3 t_2 => k_lt (x6 + (1 : Int32)) (fun x6_4 => f_X_evenings_54 n k x1 x3 r_3 x6_4 t_2)))
def f_X_evenings (n : Nat) (x1 : Int32) (x2 : Int32) (x3 : Int32) (t : k_St) : Option (Int32 × k_St) := (if (k_b (f_X_noHouse t x1)) = 0 then (if (k_b (f_X_noSeed x2)) = 0 then (if (k_b (f_X_noEvenings x3)) = 0 then k_lt (t.2 34 0) (fun x4_2 => k_lt (k_sI t 33 0 x2) (fun t_3 => f_X_evenings_54 n n x1 x3 x4_2 (0 : Int32) t_3)) else k_lt (f_X_refuse (2 : Int32) t) (fun q_4 => some (q_4.1, q_4.2))) else k_lt (f_X_refuse (2 : Int32) t) (fun q_1 => some (q_1.1, q_1.2))) else k_lt (f_X_refuse (1 : Int32) t) (fun q_5 => some (q_5.1, q_5.2)))
theorem m_X_evenings_54 {p : Program} (l : Launch) {e : Env} {s : State} {m : MethodId} {args : Array Value} {below : List Frame} {meth : Method} {c : Code} (G : k_G) (a : Nat → Nat) (tl : Value) (n : Nat) {w0 : va_W} {r : Int32} {t' : k_St} (hA : k_Amb p s m args meth c cX10_evenings 7 "TaleShares" G (va_A w0 s.heap.size)) (hr : meth.sig.returnType = (some .int)) : ∀ (k : Nat) (x1 : Int32) (x3 : Int32) (x4 : Int64) (x6 : Int32) (t : k_St), f_X_evenings_54 n k x1 x3 x4 x6 t = some (r, t') → k_Go p l e (k_rm 6) s m args below meth c (k_QI G w0 r (k_WX G.2.1 a tl t') args s below) 7 G (va_A w0 s.heap.size) (k_WX G.2.1 a tl t) 54 [(0, .ref (a 0)), (1, .int x1), (3, .int x3), (4, .long x4), (6, .int x6)] [] := by
  intro k
  induction k with
  | zero => intro x1 x3 x4 x6 t hf; cases hf
  | succ k ih =>
  intro x1 x3 x4 x6 t hf
  rw [f_X_evenings_54] at hf
  refine k_iload hA dX10_evenings_54 4 rfl ?_
  refine k_iload_n (i := 3) hA dX10_evenings_56 rfl 2 rfl ?_
  refine k_icmp_ge (tgt := 76) hA dX10_evenings_57 rfl (fun hc => ?_) (fun hc => ?_)
  · have hf := k_ift hc hf
    obtain ⟨⟨rq_1, tq_1⟩, hq_1, hf⟩ := k_lt_e hf
    dsimp only at hf
    obtain ⟨rfl, rfl⟩ := k_r2 hf
    refine k_aload_n (i := 0) hA dX10_evenings_76 rfl 0 rfl ?_
    refine k_lload hA dX10_evenings_77 3 rfl ?_
    refine k_iload_n (i := 1) hA dX10_evenings_79 rfl 1 rfl ?_
    refine k_callSi (As := [.long x4, .int x1]) (rest := [.ref (a 0)]) hA (m_X_partOf l G (k_WX G.2.1 a tl t) x4 x1 rfl) cd_X10_partOf wd_804 (Nat.le_of_ble_eq_true rfl) rfl rfl (Nat.le_of_ble_eq_true rfl) dX10_evenings_80 ?_
    refine k_callVi (As := [.int (f_X_partOf x4 x1)]) (rest := []) hA (m_X_answer l G a tl (f_X_partOf x4 x1) t hq_1.symm) cd_X10_answer wd_732 (hc_X_0 G.2.1 a tl t) rfl rfl (Nat.le_of_ble_eq_true rfl) rfl rfl (Nat.le_of_ble_eq_true rfl) dX10_evenings_83 ?_
    exact k_iret hA hr rfl dX10_evenings_86
  have hf := k_iff hc hf
  obtain ⟨r_3, t_2, ht_2, hf⟩ := k_cl_e hf
  obtain ⟨x6_4, ex6_4, hf⟩ := k_lt_e hf
  refine k_aload_n (i := 0) hA dX10_evenings_60 rfl 0 rfl ?_
  refine k_lload hA dX10_evenings_61 3 rfl ?_
  refine k_iload hA dX10_evenings_63 4 rfl ?_
  refine k_callVl (As := [.long x4, .int x6]) (rest := []) hA (m_X_behindEvening l G a tl n x4 x6 t ht_2) cd_X10_behindEvening wd_1074 (hc_X_0 G.2.1 a tl t) rfl rfl (Nat.le_of_ble_eq_true rfl) rfl rfl (Nat.le_of_ble_eq_true rfl) dX10_evenings_65 ?_
  refine k_lstore (lv' := [(4, .long r_3), (0, .ref (a 0)), (1, .int x1), (3, .int x3), (6, .int x6)]) hA dX10_evenings_68 rfl (Nat.le_of_ble_eq_true rfl) rfl ?_
  refine k_iinc (j := 4) (v := x6_4) (lv' := [(6, .int x6_4), (4, .long r_3), (0, .ref (a 0)), (1, .int x1), (3, .int x3)]) hA dX10_evenings_70 rfl (k_inc ex6_4 kc_i_1) (Nat.le_of_ble_eq_true rfl) rfl ?_
  refine k_goto (tgt := 54) hA dX10_evenings_73 rfl ?_
  refine k_pick (lv' := [(0, .ref (a 0)), (1, .int x1), (3, .int x3), (4, .long r_3), (6, .int x6_4)]) [2, 3, 4, 1, 0] rfl ?_
  exact ih x1 x3 r_3 x6_4 t_2 hf

theorem m_X_evenings (l : Launch) (G : k_G) (a : Nat → Nat) (tl : Value) (n : Nat) (x1 : Int32) (x2 : Int32) (x3 : Int32) (t : k_St) {r : Int32} {t' : k_St} (hf : f_X_evenings n x1 x2 x3 t = some (r, t')) : k_CI l G yX10_evenings cX10_evenings 7 (some .int) 6 (k_WX G.2.1 a tl t) [.ref (a 0), .int x1, .int x2, .int x3] r (k_WX G.2.1 a tl t') := by
  refine k_startI (lv := [(0, .ref (a 0)), (1, .int x1), (2, .int x2), (3, .int x3)]) (by decide +kernel) (Nat.le_of_ble_eq_true rfl) rfl ?_
  intro p e s m args below meth c hA hr
  have hA : k_Amb p s m args meth c cX10_evenings 7 "TaleShares" G _ := hA
  unfold f_X_evenings at hf
  refine k_aload_n (i := 0) hA dX10_evenings_0 rfl 0 rfl ?_
  refine k_iload_n (i := 1) hA dX10_evenings_1 rfl 1 rfl ?_
  refine k_callVi (As := [.int x1]) (rest := []) hA (m_X_noHouse l G a tl t x1 rfl) cd_X10_noHouse wd_776 (hc_X_0 G.2.1 a tl t) rfl rfl (Nat.le_of_ble_eq_true rfl) rfl rfl (Nat.le_of_ble_eq_true rfl) dX10_evenings_2 ?_
  refine k_if_eq (tgt := 14) hA dX10_evenings_5 rfl (fun hc => ?_) (fun hc => ?_)
  · have hf := k_ift hc hf
    refine k_iload_n (i := 2) hA dX10_evenings_14 rfl 2 rfl ?_
    refine k_callSi (As := [.int x2]) (rest := []) hA (m_X_noSeed l G (k_WX G.2.1 a tl t) x2 rfl) cd_X10_noSeed wd_1067 (Nat.le_of_ble_eq_true rfl) rfl rfl (Nat.le_of_ble_eq_true rfl) dX10_evenings_15 ?_
    refine k_if_ne (tgt := 28) hA dX10_evenings_18 rfl (fun hc => ?_) (fun hc => ?_)
    · have hf := k_iff hc hf
      obtain ⟨⟨rq_1, tq_1⟩, hq_1, hf⟩ := k_lt_e hf
      dsimp only at hf
      obtain ⟨rfl, rfl⟩ := k_r2 hf
      refine k_aload_n (i := 0) hA dX10_evenings_28 rfl 0 rfl ?_
      refine k_iconst hA dX10_evenings_29 kc_i_2 ?_
      refine k_callVi (As := [.int (2 : Int32)]) (rest := []) hA (m_X_refuse l G a tl (2 : Int32) t hq_1.symm) cd_X10_refuse wd_480 (hc_X_0 G.2.1 a tl t) rfl rfl (Nat.le_of_ble_eq_true rfl) rfl rfl (Nat.le_of_ble_eq_true rfl) dX10_evenings_30 ?_
      exact k_iret hA hr rfl dX10_evenings_33
    have hf := k_ift hc hf
    refine k_iload_n (i := 3) hA dX10_evenings_21 rfl 3 rfl ?_
    refine k_callSi (As := [.int x3]) (rest := []) hA (m_X_noEvenings l G (k_WX G.2.1 a tl t) x3 rfl) cd_X10_noEvenings wd_1071 (Nat.le_of_ble_eq_true rfl) rfl rfl (Nat.le_of_ble_eq_true rfl) dX10_evenings_22 ?_
    refine k_if_eq (tgt := 34) hA dX10_evenings_25 rfl (fun hc => ?_) (fun hc => ?_)
    · have hf := k_ift hc hf
      obtain ⟨x4_2, ex4_2, hf⟩ := k_lt_e hf
      obtain ⟨t_3, et_3, hf⟩ := k_lt_e hf
      refine k_aload_n (i := 0) hA dX10_evenings_34 rfl 0 rfl ?_
      refine gt_X_0_6 hA wd_443 dX10_evenings_35 ?_
      refine gt_X_34_0 hA wd_412 dX10_evenings_38 ?_
      refine k_lstore (lv' := [(4, .long x4_2), (0, .ref (a 0)), (1, .int x1), (2, .int x2), (3, .int x3)]) hA dX10_evenings_41 ex4_2 (Nat.le_of_ble_eq_true rfl) rfl ?_
      refine k_aload_n (i := 0) hA dX10_evenings_43 rfl 1 rfl ?_
      refine gt_X_0_5 hA wd_442 dX10_evenings_44 ?_
      refine k_iload_n (i := 2) hA dX10_evenings_47 rfl 3 rfl ?_
      refine pt_X_33_0 hA wd_397 et_3 dX10_evenings_48 ?_
      refine k_iconst hA dX10_evenings_51 kc_i_0 ?_
      refine k_istore (lv' := [(6, .int (0 : Int32)), (4, .long x4_2), (0, .ref (a 0)), (1, .int x1), (2, .int x2), (3, .int x3)]) hA dX10_evenings_52 rfl (Nat.le_of_ble_eq_true rfl) rfl ?_
      refine k_pick (lv' := [(0, .ref (a 0)), (1, .int x1), (3, .int x3), (4, .long x4_2), (6, .int (0 : Int32))]) [2, 3, 5, 1, 0] rfl ?_
      exact m_X_evenings_54 l G a tl n hA hr n x1 x3 x4_2 (0 : Int32) t_3 hf
    have hf := k_iff hc hf
    obtain ⟨⟨rq_4, tq_4⟩, hq_4, hf⟩ := k_lt_e hf
    dsimp only at hf
    obtain ⟨rfl, rfl⟩ := k_r2 hf
    refine k_aload_n (i := 0) hA dX10_evenings_28 rfl 0 rfl ?_
    refine k_iconst hA dX10_evenings_29 kc_i_2 ?_
    refine k_callVi (As := [.int (2 : Int32)]) (rest := []) hA (m_X_refuse l G a tl (2 : Int32) t hq_4.symm) cd_X10_refuse wd_480 (hc_X_0 G.2.1 a tl t) rfl rfl (Nat.le_of_ble_eq_true rfl) rfl rfl (Nat.le_of_ble_eq_true rfl) dX10_evenings_30 ?_
    exact k_iret hA hr rfl dX10_evenings_33
  have hf := k_iff hc hf
  obtain ⟨⟨rq_5, tq_5⟩, hq_5, hf⟩ := k_lt_e hf
  dsimp only at hf
  obtain ⟨rfl, rfl⟩ := k_r2 hf
  refine k_aload_n (i := 0) hA dX10_evenings_8 rfl 0 rfl ?_
  refine k_iconst hA dX10_evenings_9 kc_i_1 ?_
  refine k_callVi (As := [.int (1 : Int32)]) (rest := []) hA (m_X_refuse l G a tl (1 : Int32) t hq_5.symm) cd_X10_refuse wd_480 (hc_X_0 G.2.1 a tl t) rfl rfl (Nat.le_of_ble_eq_true rfl) rfl rfl (Nat.le_of_ble_eq_true rfl) dX10_evenings_10 ?_
  exact k_iret hA hr rfl dX10_evenings_13

def f_X_allHaveSense_2 (n : Nat) (t : k_St) : Nat → Int64 → Int32 → Option Bool
  | 0, _, _ => none
  | k + 1, x1, x3 => (if (t.1 2 4) ≤ x3 then some true else k_cp (f_Ta_makeSense n t (f_X_partOf x1 x3)) (fun r_1 => (if (k_b r_1) = 0 then some false else k_lt (x3 + (1 : Int32)) (fun x3_2 => f_X_allHaveSense_2 n t k x1 x3_2))))
def f_X_allHaveSense (n : Nat) (t : k_St) (x1 : Int64) : Option Bool := f_X_allHaveSense_2 n t n x1 (0 : Int32)
theorem m_X_allHaveSense_2 {p : Program} (l : Launch) {e : Env} {s : State} {m : MethodId} {args : Array Value} {below : List Frame} {meth : Method} {c : Code} (G : k_G) (a : Nat → Nat) (tl : Value) (n : Nat) (t : k_St) {w0 : va_W} {r : Bool} (hA : k_Amb p s m args meth c cX10_allHaveSense 4 "TaleShares" G (va_A w0 s.heap.size)) (hr : meth.sig.returnType = (some .boolean)) : ∀ (k : Nat) (x1 : Int64) (x3 : Int32), f_X_allHaveSense_2 n t k x1 x3 = some r → k_Go p l e (k_rm 4) s m args below meth c (k_QI G w0 (k_b r) (k_WX G.2.1 a tl t) args s below) 4 G (va_A w0 s.heap.size) (k_WX G.2.1 a tl t) 2 [(0, .ref (a 0)), (1, .long x1), (3, .int x3)] [] := by
  intro k
  induction k with
  | zero => intro x1 x3 hf; cases hf
  | succ k ih =>
  intro x1 x3 hf
  rw [f_X_allHaveSense_2] at hf
  refine k_iload_n (i := 3) hA dX10_allHaveSense_2 rfl 2 rfl ?_
  refine k_aload_n (i := 0) hA dX10_allHaveSense_3 rfl 0 rfl ?_
  refine gt_X_0_7 hA wd_444 dX10_allHaveSense_4 ?_
  refine gt_X_2_4 hA wd_177 dX10_allHaveSense_7 ?_
  refine k_icmp_ge (tgt := 36) hA dX10_allHaveSense_10 rfl (fun hc => ?_) (fun hc => ?_)
  · have hf := k_ift hc hf
    obtain rfl := k_r1 hf
    refine k_iconst hA dX10_allHaveSense_36 kc_i_1 ?_
    exact k_iret hA hr (k_narB (k_b01 _)) dX10_allHaveSense_37
  have hf := k_iff hc hf
  obtain ⟨r_1, hr_1, hf⟩ := k_cp_e hf
  refine k_aload_n (i := 0) hA dX10_allHaveSense_13 rfl 0 rfl ?_
  refine gt_X_0_1 hA wd_438 dX10_allHaveSense_14 ?_
  refine k_lload_n (i := 1) hA dX10_allHaveSense_17 rfl 1 rfl ?_
  refine k_iload_n (i := 3) hA dX10_allHaveSense_18 rfl 2 rfl ?_
  refine k_callSi (As := [.long x1, .int x3]) (rest := [.ref (a 21)]) hA (m_X_partOf l G (k_WX G.2.1 a tl t) x1 x3 rfl) cd_X10_partOf wd_804 (Nat.le_of_ble_eq_true rfl) rfl rfl (Nat.le_of_ble_eq_true rfl) dX10_allHaveSense_19 ?_
  refine k_callVi (As := [.int (f_X_partOf x1 x3)]) (rest := []) hA (m_Ta_makeSense l G a tl n t (f_X_partOf x1 x3) hr_1) cd_X7_makeSense wd_785 (hc_X_21 G.2.1 a tl t) rfl rfl (Nat.le_of_ble_eq_true rfl) rfl rfl (Nat.le_of_ble_eq_true rfl) dX10_allHaveSense_22 ?_
  refine k_if_ne (tgt := 30) hA dX10_allHaveSense_25 rfl (fun hc => ?_) (fun hc => ?_)
  · have hf := k_iff hc hf
    obtain ⟨x3_2, ex3_2, hf⟩ := k_lt_e hf
    refine k_iinc (j := 2) (v := x3_2) (lv' := [(3, .int x3_2), (0, .ref (a 0)), (1, .long x1)]) hA dX10_allHaveSense_30 rfl (k_inc ex3_2 kc_i_1) (Nat.le_of_ble_eq_true rfl) rfl ?_
    refine k_goto (tgt := 2) hA dX10_allHaveSense_33 rfl ?_
    refine k_pick (lv' := [(0, .ref (a 0)), (1, .long x1), (3, .int x3_2)]) [1, 2, 0] rfl ?_
    exact ih x1 x3_2 hf
  have hf := k_ift hc hf
  obtain rfl := k_r1 hf
  refine k_iconst hA dX10_allHaveSense_28 kc_i_0 ?_
  exact k_iret hA hr (k_narB (k_b01 _)) dX10_allHaveSense_29

theorem m_X_allHaveSense (l : Launch) (G : k_G) (a : Nat → Nat) (tl : Value) (n : Nat) (t : k_St) (x1 : Int64) {r : Bool} (hf : f_X_allHaveSense n t x1 = some r) : k_CI l G yX10_allHaveSense cX10_allHaveSense 4 (some .boolean) 4 (k_WX G.2.1 a tl t) [.ref (a 0), .long x1] (k_b r) (k_WX G.2.1 a tl t) := by
  refine k_startI (lv := [(0, .ref (a 0)), (1, .long x1)]) (by decide +kernel) (Nat.le_of_ble_eq_true rfl) rfl ?_
  intro p e s m args below meth c hA hr
  have hA : k_Amb p s m args meth c cX10_allHaveSense 4 "TaleShares" G _ := hA
  unfold f_X_allHaveSense at hf
  refine k_iconst hA dX10_allHaveSense_0 kc_i_0 ?_
  refine k_istore_n (i := 3) (lv' := [(3, .int (0 : Int32)), (0, .ref (a 0)), (1, .long x1)]) hA dX10_allHaveSense_1 rfl rfl (Nat.le_of_ble_eq_true rfl) rfl ?_
  refine k_pick (lv' := [(0, .ref (a 0)), (1, .long x1), (3, .int (0 : Int32))]) [1, 2, 0] rfl ?_
  exact m_X_allHaveSense_2 l G a tl n t hA hr n x1 (0 : Int32) hf

def f_X_allSense_55 (n : Nat) : Nat → Int32 → Int64 → Int32 → k_St → Option (Int32 × k_St)
  | 0, _, _, _, _ => none
  | k + 1, x2, x3, x5, t => (if x2 ≤ x5 then k_lt (f_X_answer (0 : Int32) t) (fun q_1 => some (q_1.1, q_1.2)) else k_cl (f_X_behindEvening n x3 x5 t) (fun r_3 t_2 => k_cp (f_X_allHaveSense n t_2 r_3) (fun r_4 => (if (k_b r_4) = 0 then k_lt (x5 + (1 : Int32)) (fun x5_5 => f_X_allSense_55 n k x2 r_3 x5_5 t_2) else k_lt (f_X_answer (x5 + (1 : Int32)) t_2) (fun q_6 => some (q_6.1, q_6.2))))))
def f_X_allSense (n : Nat) (x1 : Int32) (x2 : Int32) (t : k_St) : Option (Int32 × k_St) := (if (t.1 2 4) = 0 then k_lt (f_X_refuse (1 : Int32) t) (fun q_5 => some (q_5.1, q_5.2)) else (if (k_b (f_X_noSeed x1)) = 0 then (if (k_b (f_X_noEvenings x2)) = 0 then k_lt (t.2 34 0) (fun x3_2 => k_lt (k_sI t 33 0 x1) (fun t_3 => f_X_allSense_55 n n x2 x3_2 (0 : Int32) t_3)) else k_lt (f_X_refuse (2 : Int32) t) (fun q_4 => some (q_4.1, q_4.2))) else k_lt (f_X_refuse (2 : Int32) t) (fun q_1 => some (q_1.1, q_1.2))))
theorem m_X_allSense_55 {p : Program} (l : Launch) {e : Env} {s : State} {m : MethodId} {args : Array Value} {below : List Frame} {meth : Method} {c : Code} (G : k_G) (a : Nat → Nat) (tl : Value) (n : Nat) {w0 : va_W} {r : Int32} {t' : k_St} (hA : k_Amb p s m args meth c cX10_allSense 6 "TaleShares" G (va_A w0 s.heap.size)) (hr : meth.sig.returnType = (some .int)) : ∀ (k : Nat) (x2 : Int32) (x3 : Int64) (x5 : Int32) (t : k_St), f_X_allSense_55 n k x2 x3 x5 t = some (r, t') → k_Go p l e (k_rm 6) s m args below meth c (k_QI G w0 r (k_WX G.2.1 a tl t') args s below) 6 G (va_A w0 s.heap.size) (k_WX G.2.1 a tl t) 55 [(0, .ref (a 0)), (2, .int x2), (3, .long x3), (5, .int x5)] [] := by
  intro k
  induction k with
  | zero => intro x2 x3 x5 t hf; cases hf
  | succ k ih =>
  intro x2 x3 x5 t hf
  rw [f_X_allSense_55] at hf
  refine k_iload hA dX10_allSense_55 3 rfl ?_
  refine k_iload_n (i := 2) hA dX10_allSense_57 rfl 1 rfl ?_
  refine k_icmp_ge (tgt := 92) hA dX10_allSense_58 rfl (fun hc => ?_) (fun hc => ?_)
  · have hf := k_ift hc hf
    obtain ⟨⟨rq_1, tq_1⟩, hq_1, hf⟩ := k_lt_e hf
    dsimp only at hf
    obtain ⟨rfl, rfl⟩ := k_r2 hf
    refine k_aload_n (i := 0) hA dX10_allSense_92 rfl 0 rfl ?_
    refine k_iconst hA dX10_allSense_93 kc_i_0 ?_
    refine k_callVi (As := [.int (0 : Int32)]) (rest := []) hA (m_X_answer l G a tl (0 : Int32) t hq_1.symm) cd_X10_answer wd_732 (hc_X_0 G.2.1 a tl t) rfl rfl (Nat.le_of_ble_eq_true rfl) rfl rfl (Nat.le_of_ble_eq_true rfl) dX10_allSense_94 ?_
    exact k_iret hA hr rfl dX10_allSense_97
  have hf := k_iff hc hf
  obtain ⟨r_3, t_2, ht_2, hf⟩ := k_cl_e hf
  obtain ⟨r_4, hr_4, hf⟩ := k_cp_e hf
  refine k_aload_n (i := 0) hA dX10_allSense_61 rfl 0 rfl ?_
  refine k_lload_n (i := 3) hA dX10_allSense_62 rfl 2 rfl ?_
  refine k_iload hA dX10_allSense_63 3 rfl ?_
  refine k_callVl (As := [.long x3, .int x5]) (rest := []) hA (m_X_behindEvening l G a tl n x3 x5 t ht_2) cd_X10_behindEvening wd_1074 (hc_X_0 G.2.1 a tl t) rfl rfl (Nat.le_of_ble_eq_true rfl) rfl rfl (Nat.le_of_ble_eq_true rfl) dX10_allSense_65 ?_
  refine k_lstore_n (i := 3) (lv' := [(3, .long r_3), (0, .ref (a 0)), (2, .int x2), (5, .int x5)]) hA dX10_allSense_68 rfl rfl (Nat.le_of_ble_eq_true rfl) rfl ?_
  refine k_aload_n (i := 0) hA dX10_allSense_69 rfl 1 rfl ?_
  refine k_lload_n (i := 3) hA dX10_allSense_70 rfl 0 rfl ?_
  refine k_callVi (As := [.long r_3]) (rest := []) hA (m_X_allHaveSense l G a tl n t_2 r_3 hr_4) cd_X10_allHaveSense wd_1092 (hc_X_0 G.2.1 a tl t_2) rfl rfl (Nat.le_of_ble_eq_true rfl) rfl rfl (Nat.le_of_ble_eq_true rfl) dX10_allSense_71 ?_
  refine k_if_eq (tgt := 86) hA dX10_allSense_74 rfl (fun hc => ?_) (fun hc => ?_)
  · have hf := k_ift hc hf
    obtain ⟨x5_5, ex5_5, hf⟩ := k_lt_e hf
    refine k_iinc (j := 3) (v := x5_5) (lv' := [(5, .int x5_5), (3, .long r_3), (0, .ref (a 0)), (2, .int x2)]) hA dX10_allSense_86 rfl (k_inc ex5_5 kc_i_1) (Nat.le_of_ble_eq_true rfl) rfl ?_
    refine k_goto (tgt := 55) hA dX10_allSense_89 rfl ?_
    refine k_pick (lv' := [(0, .ref (a 0)), (2, .int x2), (3, .long r_3), (5, .int x5_5)]) [2, 3, 1, 0] rfl ?_
    exact ih x2 r_3 x5_5 t_2 hf
  have hf := k_iff hc hf
  obtain ⟨⟨rq_6, tq_6⟩, hq_6, hf⟩ := k_lt_e hf
  dsimp only at hf
  obtain ⟨rfl, rfl⟩ := k_r2 hf
  refine k_aload_n (i := 0) hA dX10_allSense_77 rfl 1 rfl ?_
  refine k_iload hA dX10_allSense_78 3 rfl ?_
  refine k_iconst hA dX10_allSense_80 kc_i_1 ?_
  refine k_iadd hA dX10_allSense_81 ?_
  refine k_callVi (As := [.int (x5 + (1 : Int32))]) (rest := []) hA (m_X_answer l G a tl (x5 + (1 : Int32)) t_2 hq_6.symm) cd_X10_answer wd_732 (hc_X_0 G.2.1 a tl t_2) rfl rfl (Nat.le_of_ble_eq_true rfl) rfl rfl (Nat.le_of_ble_eq_true rfl) dX10_allSense_82 ?_
  exact k_iret hA hr rfl dX10_allSense_85

theorem m_X_allSense (l : Launch) (G : k_G) (a : Nat → Nat) (tl : Value) (n : Nat) (x1 : Int32) (x2 : Int32) (t : k_St) {r : Int32} {t' : k_St} (hf : f_X_allSense n x1 x2 t = some (r, t')) : k_CI l G yX10_allSense cX10_allSense 6 (some .int) 6 (k_WX G.2.1 a tl t) [.ref (a 0), .int x1, .int x2] r (k_WX G.2.1 a tl t') := by
  refine k_startI (lv := [(0, .ref (a 0)), (1, .int x1), (2, .int x2)]) (by decide +kernel) (Nat.le_of_ble_eq_true rfl) rfl ?_
  intro p e s m args below meth c hA hr
  have hA : k_Amb p s m args meth c cX10_allSense 6 "TaleShares" G _ := hA
  unfold f_X_allSense at hf
  refine k_aload_n (i := 0) hA dX10_allSense_0 rfl 0 rfl ?_
  refine gt_X_0_7 hA wd_444 dX10_allSense_1 ?_
  refine gt_X_2_4 hA wd_177 dX10_allSense_4 ?_
  refine k_if_ne (tgt := 16) hA dX10_allSense_7 rfl (fun hc => ?_) (fun hc => ?_)
  · have hf := k_iff hc hf
    refine k_iload_n (i := 1) hA dX10_allSense_16 rfl 1 rfl ?_
    refine k_callSi (As := [.int x1]) (rest := []) hA (m_X_noSeed l G (k_WX G.2.1 a tl t) x1 rfl) cd_X10_noSeed wd_1067 (Nat.le_of_ble_eq_true rfl) rfl rfl (Nat.le_of_ble_eq_true rfl) dX10_allSense_17 ?_
    refine k_if_ne (tgt := 30) hA dX10_allSense_20 rfl (fun hc => ?_) (fun hc => ?_)
    · have hf := k_iff hc hf
      obtain ⟨⟨rq_1, tq_1⟩, hq_1, hf⟩ := k_lt_e hf
      dsimp only at hf
      obtain ⟨rfl, rfl⟩ := k_r2 hf
      refine k_aload_n (i := 0) hA dX10_allSense_30 rfl 0 rfl ?_
      refine k_iconst hA dX10_allSense_31 kc_i_2 ?_
      refine k_callVi (As := [.int (2 : Int32)]) (rest := []) hA (m_X_refuse l G a tl (2 : Int32) t hq_1.symm) cd_X10_refuse wd_480 (hc_X_0 G.2.1 a tl t) rfl rfl (Nat.le_of_ble_eq_true rfl) rfl rfl (Nat.le_of_ble_eq_true rfl) dX10_allSense_32 ?_
      exact k_iret hA hr rfl dX10_allSense_35
    have hf := k_ift hc hf
    refine k_iload_n (i := 2) hA dX10_allSense_23 rfl 2 rfl ?_
    refine k_callSi (As := [.int x2]) (rest := []) hA (m_X_noEvenings l G (k_WX G.2.1 a tl t) x2 rfl) cd_X10_noEvenings wd_1071 (Nat.le_of_ble_eq_true rfl) rfl rfl (Nat.le_of_ble_eq_true rfl) dX10_allSense_24 ?_
    refine k_if_eq (tgt := 36) hA dX10_allSense_27 rfl (fun hc => ?_) (fun hc => ?_)
    · have hf := k_ift hc hf
      obtain ⟨x3_2, ex3_2, hf⟩ := k_lt_e hf
      obtain ⟨t_3, et_3, hf⟩ := k_lt_e hf
      refine k_aload_n (i := 0) hA dX10_allSense_36 rfl 0 rfl ?_
      refine gt_X_0_6 hA wd_443 dX10_allSense_37 ?_
      refine gt_X_34_0 hA wd_412 dX10_allSense_40 ?_
      refine k_lstore_n (i := 3) (lv' := [(3, .long x3_2), (0, .ref (a 0)), (1, .int x1), (2, .int x2)]) hA dX10_allSense_43 rfl ex3_2 (Nat.le_of_ble_eq_true rfl) rfl ?_
      refine k_aload_n (i := 0) hA dX10_allSense_44 rfl 1 rfl ?_
      refine gt_X_0_5 hA wd_442 dX10_allSense_45 ?_
      refine k_iload_n (i := 1) hA dX10_allSense_48 rfl 2 rfl ?_
      refine pt_X_33_0 hA wd_397 et_3 dX10_allSense_49 ?_
      refine k_iconst hA dX10_allSense_52 kc_i_0 ?_
      refine k_istore (lv' := [(5, .int (0 : Int32)), (3, .long x3_2), (0, .ref (a 0)), (1, .int x1), (2, .int x2)]) hA dX10_allSense_53 rfl (Nat.le_of_ble_eq_true rfl) rfl ?_
      refine k_pick (lv' := [(0, .ref (a 0)), (2, .int x2), (3, .long x3_2), (5, .int (0 : Int32))]) [2, 4, 1, 0] rfl ?_
      exact m_X_allSense_55 l G a tl n hA hr n x2 x3_2 (0 : Int32) t_3 hf
    have hf := k_iff hc hf
    obtain ⟨⟨rq_4, tq_4⟩, hq_4, hf⟩ := k_lt_e hf
    dsimp only at hf
    obtain ⟨rfl, rfl⟩ := k_r2 hf
    refine k_aload_n (i := 0) hA dX10_allSense_30 rfl 0 rfl ?_
    refine k_iconst hA dX10_allSense_31 kc_i_2 ?_
    refine k_callVi (As := [.int (2 : Int32)]) (rest := []) hA (m_X_refuse l G a tl (2 : Int32) t hq_4.symm) cd_X10_refuse wd_480 (hc_X_0 G.2.1 a tl t) rfl rfl (Nat.le_of_ble_eq_true rfl) rfl rfl (Nat.le_of_ble_eq_true rfl) dX10_allSense_32 ?_
    exact k_iret hA hr rfl dX10_allSense_35
  have hf := k_ift hc hf
  obtain ⟨⟨rq_5, tq_5⟩, hq_5, hf⟩ := k_lt_e hf
  dsimp only at hf
  obtain ⟨rfl, rfl⟩ := k_r2 hf
  refine k_aload_n (i := 0) hA dX10_allSense_10 rfl 0 rfl ?_
  refine k_iconst hA dX10_allSense_11 kc_i_1 ?_
  refine k_callVi (As := [.int (1 : Int32)]) (rest := []) hA (m_X_refuse l G a tl (1 : Int32) t hq_5.symm) cd_X10_refuse wd_480 (hc_X_0 G.2.1 a tl t) rfl rfl (Nat.le_of_ble_eq_true rfl) rfl rfl (Nat.le_of_ble_eq_true rfl) dX10_allSense_12 ?_
  exact k_iret hA hr rfl dX10_allSense_15

def f_No_packed (t : k_St) : Int64 := ((((t.1 34 1).toInt64) <<< ((40 : Int32).toInt64 &&& 63)) ||| (t.2 34 0))
theorem m_No_packed (l : Launch) (G : k_G) (a : Nat → Nat) (tl : Value) (t : k_St) {r : Int64} (hf : f_No_packed t = r) : k_CL l G yX3_packed cX3_packed 1 (some .long) 1 (k_WX G.2.1 a tl t) [.ref (a 34)] r (k_WX G.2.1 a tl t) := by
  refine k_startL (lv := [(0, .ref (a 34))]) (by decide +kernel) (Nat.le_of_ble_eq_true rfl) rfl ?_
  intro p e s m args below meth c hA hr
  have hA : k_Amb p s m args meth c cX3_packed 1 "TaleShares$Now" G _ := hA
  unfold f_No_packed at hf
  subst hf
  refine k_aload_n (i := 0) hA dX3_packed_0 rfl 0 rfl ?_
  refine gt_X_34_1 hA wd_413 dX3_packed_1 ?_
  refine k_i2l hA dX3_packed_4 ?_
  refine k_bipush hA dX3_packed_5 kc_b_40 ?_
  refine k_lshl hA dX3_packed_7 ?_
  refine k_aload_n (i := 0) hA dX3_packed_8 rfl 0 rfl ?_
  refine gt_X_34_0 hA wd_411 dX3_packed_9 ?_
  refine k_lor hA dX3_packed_12 ?_
  exact k_lret hA hr dX3_packed_13

def f_No_keep_30 (t : k_St) : Option k_St := k_gi (t.1 34 2) 16 (k_lt (k_sL t 35 (t.1 34 2).toNatClampNeg (f_No_packed t)) (fun t_2 => k_lt (k_sI t_2 34 2 ((t_2.1 34 2) + (1 : Int32))) (fun t_3 => some t_3)))
def f_No_keep (t : k_St) : Option k_St := (if (t.1 34 2) < (16 : Int32) then f_No_keep_30 t else k_lt (k_cpL t 35 1 0 15) (fun t_1 => k_lt (k_sI t_1 34 2 (15 : Int32)) (fun t_2 => f_No_keep_30 t_2)))
theorem m_No_keep_30 {p : Program} (l : Launch) {e : Env} {s : State} {m : MethodId} {args : Array Value} {below : List Frame} {meth : Method} {c : Code} (G : k_G) (a : Nat → Nat) (tl : Value) {w0 : va_W} {t' : k_St} (hA : k_Amb p s m args meth c cX3_keep 1 "TaleShares$Now" G (va_A w0 s.heap.size)) (hr : meth.sig.returnType = none) : ∀ (t : k_St), f_No_keep_30 t = some t' → k_Go p l e (k_rm 2) s m args below meth c (k_QV G w0 (k_WX G.2.1 a tl t') args s below) 1 G (va_A w0 s.heap.size) (k_WX G.2.1 a tl t) 30 [(0, .ref (a 34))] [] := by
  intro t hf
  unfold f_No_keep_30 at hf
  obtain ⟨hi_1, hf⟩ := k_gi_e hf
  obtain ⟨t_2, et_2, hf⟩ := k_lt_e hf
  obtain ⟨t_3, et_3, hf⟩ := k_lt_e hf
  obtain rfl := k_r1 hf
  refine k_aload_n (i := 0) hA dX3_keep_30 rfl 0 rfl ?_
  refine gt_X_34_5 hA wd_420 dX3_keep_31 ?_
  refine k_aload_n (i := 0) hA dX3_keep_34 rfl 0 rfl ?_
  refine gt_X_34_2 hA wd_415 dX3_keep_35 ?_
  refine k_aload_n (i := 0) hA dX3_keep_38 rfl 0 rfl ?_
  refine k_callVl (As := []) (rest := [.int (t.1 34 2), .ref (a 35)]) hA (m_No_packed l G a tl t rfl) cd_X3_packed wd_1107 (hc_X_34 G.2.1 a tl t) rfl rfl (Nat.le_of_ble_eq_true rfl) rfl rfl (Nat.le_of_ble_eq_true rfl) dX3_keep_39 ?_
  refine sr_X_35 hA hi_1 et_2 dX3_keep_42 ?_
  refine k_aload_n (i := 0) hA dX3_keep_43 rfl 0 rfl ?_
  refine k_dup hA dX3_keep_44 rfl ?_
  refine gt_X_34_2 hA wd_415 dX3_keep_45 ?_
  refine k_iconst hA dX3_keep_48 kc_i_1 ?_
  refine k_iadd hA dX3_keep_49 ?_
  refine pt_X_34_2 hA wd_415 et_3 dX3_keep_50 ?_
  exact k_vret hA hr dX3_keep_53

theorem m_No_keep (l : Launch) (G : k_G) (a : Nat → Nat) (tl : Value) (t : k_St) {t' : k_St} (hf : f_No_keep t = some t') : k_CV l G yX3_keep cX3_keep 1 none 2 (k_WX G.2.1 a tl t) [.ref (a 34)] (k_WX G.2.1 a tl t') := by
  refine k_startV (lv := [(0, .ref (a 34))]) (by decide +kernel) (Nat.le_of_ble_eq_true rfl) rfl ?_
  intro p e s m args below meth c hA hr
  have hA : k_Amb p s m args meth c cX3_keep 1 "TaleShares$Now" G _ := hA
  unfold f_No_keep at hf
  refine k_aload_n (i := 0) hA dX3_keep_0 rfl 0 rfl ?_
  refine gt_X_34_2 hA wd_415 dX3_keep_1 ?_
  refine k_bipush hA dX3_keep_4 kc_b_16 ?_
  refine k_icmp_lt (tgt := 30) hA dX3_keep_6 rfl (fun hc => ?_) (fun hc => ?_)
  · have hf := k_ift hc hf
    exact m_No_keep_30 l G a tl hA hr t hf
  have hf := k_iff hc hf
  obtain ⟨t_1, et_1, hf⟩ := k_lt_e hf
  obtain ⟨t_2, et_2, hf⟩ := k_lt_e hf
  refine k_aload_n (i := 0) hA dX3_keep_9 rfl 0 rfl ?_
  refine gt_X_34_5 hA wd_420 dX3_keep_10 ?_
  refine k_iconst hA dX3_keep_13 kc_i_1 ?_
  refine k_aload_n (i := 0) hA dX3_keep_14 rfl 0 rfl ?_
  refine gt_X_34_5 hA wd_420 dX3_keep_15 ?_
  refine k_iconst hA dX3_keep_18 kc_i_0 ?_
  refine k_bipush hA dX3_keep_19 kc_b_15 ?_
  refine cp_X_35 hA wd_1104 wd_1106 et_1 (Nat.le_of_ble_eq_true rfl) (Nat.le_of_ble_eq_true rfl) dX3_keep_21 ?_
  refine k_aload_n (i := 0) hA dX3_keep_24 rfl 0 rfl ?_
  refine k_bipush hA dX3_keep_25 kc_b_15 ?_
  refine pt_X_34_2 hA wd_415 et_2 dX3_keep_27 ?_
  exact m_No_keep_30 l G a tl hA hr t_2 hf

def f_X_tell (x1 : Int32) (x2 : Int32) (t : k_St) : Option (Int32 × k_St) := (if (k_b (f_X_noHouse t x1)) = 0 then (if (k_b (f_X_noHouse t x2)) = 0 then (if x1 = x2 then k_lt (f_X_refuse (1 : Int32) t) (fun q_8 => some (q_8.1, q_8.2)) else (if (k_b (f_Te_isSilent t x1)) = 0 then k_lt ((f_No_knownBy t x1) &&& ((f_No_knownBy t x2) ^^^ (-1 : Int32))) (fun x3_3 => k_cv (f_No_keep t) (fun t_4 => k_lt (k_sL t_4 34 0 (f_X_withMore (t_4.2 34 0) x2 x3_3)) (fun t_5 => k_lt (f_X_answer x3_3 t_5) (fun q_6 => some (q_6.1, q_6.2))))) else k_lt (f_X_refuse (5 : Int32) t) (fun q_7 => some (q_7.1, q_7.2)))) else k_lt (f_X_refuse (1 : Int32) t) (fun q_2 => some (q_2.1, q_2.2))) else k_lt (f_X_refuse (1 : Int32) t) (fun q_1 => some (q_1.1, q_1.2)))
theorem m_X_tell (l : Launch) (G : k_G) (a : Nat → Nat) (tl : Value) (x1 : Int32) (x2 : Int32) (t : k_St) {r : Int32} {t' : k_St} (hf : f_X_tell x1 x2 t = some (r, t')) : k_CI l G yX10_tell cX10_tell 4 (some .int) 3 (k_WX G.2.1 a tl t) [.ref (a 0), .int x1, .int x2] r (k_WX G.2.1 a tl t') := by
  refine k_startI (lv := [(0, .ref (a 0)), (1, .int x1), (2, .int x2)]) (by decide +kernel) (Nat.le_of_ble_eq_true rfl) rfl ?_
  intro p e s m args below meth c hA hr
  have hA : k_Amb p s m args meth c cX10_tell 4 "TaleShares" G _ := hA
  unfold f_X_tell at hf
  refine k_aload_n (i := 0) hA dX10_tell_0 rfl 0 rfl ?_
  refine k_iload_n (i := 1) hA dX10_tell_1 rfl 1 rfl ?_
  refine k_callVi (As := [.int x1]) (rest := []) hA (m_X_noHouse l G a tl t x1 rfl) cd_X10_noHouse wd_776 (hc_X_0 G.2.1 a tl t) rfl rfl (Nat.le_of_ble_eq_true rfl) rfl rfl (Nat.le_of_ble_eq_true rfl) dX10_tell_2 ?_
  refine k_if_ne (tgt := 21) hA dX10_tell_5 rfl (fun hc => ?_) (fun hc => ?_)
  · have hf := k_iff hc hf
    obtain ⟨⟨rq_1, tq_1⟩, hq_1, hf⟩ := k_lt_e hf
    dsimp only at hf
    obtain ⟨rfl, rfl⟩ := k_r2 hf
    refine k_aload_n (i := 0) hA dX10_tell_21 rfl 0 rfl ?_
    refine k_iconst hA dX10_tell_22 kc_i_1 ?_
    refine k_callVi (As := [.int (1 : Int32)]) (rest := []) hA (m_X_refuse l G a tl (1 : Int32) t hq_1.symm) cd_X10_refuse wd_480 (hc_X_0 G.2.1 a tl t) rfl rfl (Nat.le_of_ble_eq_true rfl) rfl rfl (Nat.le_of_ble_eq_true rfl) dX10_tell_23 ?_
    exact k_iret hA hr rfl dX10_tell_26
  have hf := k_ift hc hf
  refine k_aload_n (i := 0) hA dX10_tell_8 rfl 0 rfl ?_
  refine k_iload_n (i := 2) hA dX10_tell_9 rfl 2 rfl ?_
  refine k_callVi (As := [.int x2]) (rest := []) hA (m_X_noHouse l G a tl t x2 rfl) cd_X10_noHouse wd_776 (hc_X_0 G.2.1 a tl t) rfl rfl (Nat.le_of_ble_eq_true rfl) rfl rfl (Nat.le_of_ble_eq_true rfl) dX10_tell_10 ?_
  refine k_if_ne (tgt := 21) hA dX10_tell_13 rfl (fun hc => ?_) (fun hc => ?_)
  · have hf := k_iff hc hf
    obtain ⟨⟨rq_2, tq_2⟩, hq_2, hf⟩ := k_lt_e hf
    dsimp only at hf
    obtain ⟨rfl, rfl⟩ := k_r2 hf
    refine k_aload_n (i := 0) hA dX10_tell_21 rfl 0 rfl ?_
    refine k_iconst hA dX10_tell_22 kc_i_1 ?_
    refine k_callVi (As := [.int (1 : Int32)]) (rest := []) hA (m_X_refuse l G a tl (1 : Int32) t hq_2.symm) cd_X10_refuse wd_480 (hc_X_0 G.2.1 a tl t) rfl rfl (Nat.le_of_ble_eq_true rfl) rfl rfl (Nat.le_of_ble_eq_true rfl) dX10_tell_23 ?_
    exact k_iret hA hr rfl dX10_tell_26
  have hf := k_ift hc hf
  refine k_iload_n (i := 1) hA dX10_tell_16 rfl 1 rfl ?_
  refine k_iload_n (i := 2) hA dX10_tell_17 rfl 2 rfl ?_
  refine k_icmp_ne (tgt := 27) hA dX10_tell_18 rfl (fun hc => ?_) (fun hc => ?_)
  · have hf := k_iff hc hf
    refine k_aload_n (i := 0) hA dX10_tell_27 rfl 0 rfl ?_
    refine gt_X_0_7 hA wd_444 dX10_tell_28 ?_
    refine k_iload_n (i := 1) hA dX10_tell_31 rfl 1 rfl ?_
    refine k_callVi (As := [.int x1]) (rest := []) hA (m_Te_isSilent l G a tl t x1 rfl) cd_X8_isSilent wd_892 (hc_X_2 G.2.1 a tl t) rfl rfl (Nat.le_of_ble_eq_true rfl) rfl rfl (Nat.le_of_ble_eq_true rfl) dX10_tell_32 ?_
    refine k_if_eq (tgt := 44) hA dX10_tell_35 rfl (fun hc => ?_) (fun hc => ?_)
    · have hf := k_ift hc hf
      obtain ⟨x3_3, ex3_3, hf⟩ := k_lt_e hf
      obtain ⟨t_4, ht_4, hf⟩ := k_cv_e hf
      obtain ⟨t_5, et_5, hf⟩ := k_lt_e hf
      obtain ⟨⟨rq_6, tq_6⟩, hq_6, hf⟩ := k_lt_e hf
      dsimp only at hf
      obtain ⟨rfl, rfl⟩ := k_r2 hf
      refine k_aload_n (i := 0) hA dX10_tell_44 rfl 0 rfl ?_
      refine gt_X_0_6 hA wd_443 dX10_tell_45 ?_
      refine k_iload_n (i := 1) hA dX10_tell_48 rfl 1 rfl ?_
      refine k_callVi (As := [.int x1]) (rest := []) hA (m_No_knownBy l G a tl t x1 rfl) cd_X3_knownBy wd_780 (hc_X_34 G.2.1 a tl t) rfl rfl (Nat.le_of_ble_eq_true rfl) rfl rfl (Nat.le_of_ble_eq_true rfl) dX10_tell_49 ?_
      refine k_aload_n (i := 0) hA dX10_tell_52 rfl 0 rfl ?_
      refine gt_X_0_6 hA wd_443 dX10_tell_53 ?_
      refine k_iload_n (i := 2) hA dX10_tell_56 rfl 2 rfl ?_
      refine k_callVi (As := [.int x2]) (rest := [.int (f_No_knownBy t x1)]) hA (m_No_knownBy l G a tl t x2 rfl) cd_X3_knownBy wd_780 (hc_X_34 G.2.1 a tl t) rfl rfl (Nat.le_of_ble_eq_true rfl) rfl rfl (Nat.le_of_ble_eq_true rfl) dX10_tell_57 ?_
      refine k_iconst hA dX10_tell_60 kc_i_m1 ?_
      refine k_ixor hA dX10_tell_61 ?_
      refine k_iand hA dX10_tell_62 ?_
      refine k_istore_n (i := 3) (lv' := [(3, .int x3_3), (0, .ref (a 0)), (1, .int x1), (2, .int x2)]) hA dX10_tell_63 rfl ex3_3 (Nat.le_of_ble_eq_true rfl) rfl ?_
      refine k_aload_n (i := 0) hA dX10_tell_64 rfl 1 rfl ?_
      refine gt_X_0_6 hA wd_443 dX10_tell_65 ?_
      refine k_callVv (As := []) (rest := []) hA (m_No_keep l G a tl t ht_4) cd_X3_keep wd_1100 (hc_X_34 G.2.1 a tl t) rfl rfl (Nat.le_of_ble_eq_true rfl) rfl rfl (Nat.le_of_ble_eq_true rfl) dX10_tell_68 ?_
      refine k_aload_n (i := 0) hA dX10_tell_71 rfl 1 rfl ?_
      refine gt_X_0_6 hA wd_443 dX10_tell_72 ?_
      refine k_aload_n (i := 0) hA dX10_tell_75 rfl 1 rfl ?_
      refine gt_X_0_6 hA wd_443 dX10_tell_76 ?_
      refine gt_X_34_0 hA wd_412 dX10_tell_79 ?_
      refine k_iload_n (i := 2) hA dX10_tell_82 rfl 3 rfl ?_
      refine k_iload_n (i := 3) hA dX10_tell_83 rfl 0 rfl ?_
      refine k_callSl (As := [.long (t_4.2 34 0), .int x2, .int x3_3]) (rest := [.ref (a 34)]) hA (m_X_withMore l G (k_WX G.2.1 a tl t_4) (t_4.2 34 0) x2 x3_3 rfl) cd_X10_withMore wd_1087 (Nat.le_of_ble_eq_true rfl) rfl rfl (Nat.le_of_ble_eq_true rfl) dX10_tell_84 ?_
      refine pt_X_34_0 hA wd_412 et_5 dX10_tell_87 ?_
      refine k_aload_n (i := 0) hA dX10_tell_90 rfl 1 rfl ?_
      refine k_iload_n (i := 3) hA dX10_tell_91 rfl 0 rfl ?_
      refine k_callVi (As := [.int x3_3]) (rest := []) hA (m_X_answer l G a tl x3_3 t_5 hq_6.symm) cd_X10_answer wd_732 (hc_X_0 G.2.1 a tl t_5) rfl rfl (Nat.le_of_ble_eq_true rfl) rfl rfl (Nat.le_of_ble_eq_true rfl) dX10_tell_92 ?_
      exact k_iret hA hr rfl dX10_tell_95
    have hf := k_iff hc hf
    obtain ⟨⟨rq_7, tq_7⟩, hq_7, hf⟩ := k_lt_e hf
    dsimp only at hf
    obtain ⟨rfl, rfl⟩ := k_r2 hf
    refine k_aload_n (i := 0) hA dX10_tell_38 rfl 0 rfl ?_
    refine k_iconst hA dX10_tell_39 kc_i_5 ?_
    refine k_callVi (As := [.int (5 : Int32)]) (rest := []) hA (m_X_refuse l G a tl (5 : Int32) t hq_7.symm) cd_X10_refuse wd_480 (hc_X_0 G.2.1 a tl t) rfl rfl (Nat.le_of_ble_eq_true rfl) rfl rfl (Nat.le_of_ble_eq_true rfl) dX10_tell_40 ?_
    exact k_iret hA hr rfl dX10_tell_43
  have hf := k_ift hc hf
  obtain ⟨⟨rq_8, tq_8⟩, hq_8, hf⟩ := k_lt_e hf
  dsimp only at hf
  obtain ⟨rfl, rfl⟩ := k_r2 hf
  refine k_aload_n (i := 0) hA dX10_tell_21 rfl 0 rfl ?_
  refine k_iconst hA dX10_tell_22 kc_i_1 ?_
  refine k_callVi (As := [.int (1 : Int32)]) (rest := []) hA (m_X_refuse l G a tl (1 : Int32) t hq_8.symm) cd_X10_refuse wd_480 (hc_X_0 G.2.1 a tl t) rfl rfl (Nat.le_of_ble_eq_true rfl) rfl rfl (Nat.le_of_ble_eq_true rfl) dX10_tell_23 ?_
  exact k_iret hA hr rfl dX10_tell_26

def f_X_deny (x1 : Int32) (t : k_St) : Bool × k_St := k_lt (k_sI t 0 12 x1) (fun t_1 => (false, t_1))
theorem m_X_deny (l : Launch) (G : k_G) (a : Nat → Nat) (tl : Value) (x1 : Int32) (t : k_St) {r : Bool} {t' : k_St} (hf : f_X_deny x1 t = (r, t')) : k_CI l G yX10_deny cX10_deny 2 (some .boolean) 1 (k_WX G.2.1 a tl t) [.ref (a 0), .int x1] (k_b r) (k_WX G.2.1 a tl t') := by
  refine k_startI (lv := [(0, .ref (a 0)), (1, .int x1)]) (by decide +kernel) (Nat.le_of_ble_eq_true rfl) rfl ?_
  intro p e s m args below meth c hA hr
  have hA : k_Amb p s m args meth c cX10_deny 2 "TaleShares" G _ := hA
  unfold f_X_deny at hf
  obtain ⟨t_1, et_1, hf⟩ := k_lt_e hf
  obtain ⟨rfl, rfl⟩ := k_p2 hf
  refine k_aload_n (i := 0) hA dX10_deny_0 rfl 0 rfl ?_
  refine k_iload_n (i := 1) hA dX10_deny_1 rfl 1 rfl ?_
  refine pt_X_0_9 hA wd_446 et_1 dX10_deny_2 ?_
  refine k_iconst hA dX10_deny_5 kc_i_0 ?_
  exact k_iret hA hr (k_narB (k_b01 _)) dX10_deny_6

def f_X_allow (t : k_St) : Bool × k_St := k_lt (k_sI t 0 12 (0 : Int32)) (fun t_1 => (true, t_1))
theorem m_X_allow (l : Launch) (G : k_G) (a : Nat → Nat) (tl : Value) (t : k_St) {r : Bool} {t' : k_St} (hf : f_X_allow t = (r, t')) : k_CI l G yX10_allow cX10_allow 1 (some .boolean) 1 (k_WX G.2.1 a tl t) [.ref (a 0)] (k_b r) (k_WX G.2.1 a tl t') := by
  refine k_startI (lv := [(0, .ref (a 0))]) (by decide +kernel) (Nat.le_of_ble_eq_true rfl) rfl ?_
  intro p e s m args below meth c hA hr
  have hA : k_Amb p s m args meth c cX10_allow 1 "TaleShares" G _ := hA
  unfold f_X_allow at hf
  obtain ⟨t_1, et_1, hf⟩ := k_lt_e hf
  obtain ⟨rfl, rfl⟩ := k_p2 hf
  refine k_aload_n (i := 0) hA dX10_allow_0 rfl 0 rfl ?_
  refine k_iconst hA dX10_allow_1 kc_i_0 ?_
  refine pt_X_0_9 hA wd_446 et_1 dX10_allow_2 ?_
  refine k_iconst hA dX10_allow_5 kc_i_1 ?_
  exact k_iret hA hr (k_narB (k_b01 _)) dX10_allow_6

def f_X_learn (x1 : Int32) (x2 : Int32) (t : k_St) : Option (Bool × k_St) := (if (k_b (f_X_noHouse t x1)) = 0 then (if (k_b (f_X_noPiece t x2)) = 0 then (if (k_b (f_No_isKnown t x1 x2)) = 0 then k_cv (f_No_keep t) (fun t_2 => k_lt (k_sL t_2 34 0 (f_X_withMore (t_2.2 34 0) x1 ((1 : Int32) <<< (x2 &&& 31)))) (fun t_3 => k_lt (f_X_allow t_3) (fun q_4 => some (q_4.1, q_4.2)))) else k_lt (f_X_deny (5 : Int32) t) (fun q_5 => some (q_5.1, q_5.2))) else k_lt (f_X_deny (1 : Int32) t) (fun q_6 => some (q_6.1, q_6.2))) else k_lt (f_X_deny (1 : Int32) t) (fun q_1 => some (q_1.1, q_1.2)))
theorem m_X_learn (l : Launch) (G : k_G) (a : Nat → Nat) (tl : Value) (x1 : Int32) (x2 : Int32) (t : k_St) {r : Bool} {t' : k_St} (hf : f_X_learn x1 x2 t = some (r, t')) : k_CI l G yX10_learn cX10_learn 3 (some .boolean) 4 (k_WX G.2.1 a tl t) [.ref (a 0), .int x1, .int x2] (k_b r) (k_WX G.2.1 a tl t') := by
  refine k_startI (lv := [(0, .ref (a 0)), (1, .int x1), (2, .int x2)]) (by decide +kernel) (Nat.le_of_ble_eq_true rfl) rfl ?_
  intro p e s m args below meth c hA hr
  have hA : k_Amb p s m args meth c cX10_learn 3 "TaleShares" G _ := hA
  unfold f_X_learn at hf
  refine k_aload_n (i := 0) hA dX10_learn_0 rfl 0 rfl ?_
  refine k_iload_n (i := 1) hA dX10_learn_1 rfl 1 rfl ?_
  refine k_callVi (As := [.int x1]) (rest := []) hA (m_X_noHouse l G a tl t x1 rfl) cd_X10_noHouse wd_776 (hc_X_0 G.2.1 a tl t) rfl rfl (Nat.le_of_ble_eq_true rfl) rfl rfl (Nat.le_of_ble_eq_true rfl) dX10_learn_2 ?_
  refine k_if_ne (tgt := 16) hA dX10_learn_5 rfl (fun hc => ?_) (fun hc => ?_)
  · have hf := k_iff hc hf
    obtain ⟨⟨rq_1, tq_1⟩, hq_1, hf⟩ := k_lt_e hf
    dsimp only at hf
    obtain ⟨rfl, rfl⟩ := k_r2 hf
    refine k_aload_n (i := 0) hA dX10_learn_16 rfl 0 rfl ?_
    refine k_iconst hA dX10_learn_17 kc_i_1 ?_
    refine k_callVi (As := [.int (1 : Int32)]) (rest := []) hA (m_X_deny l G a tl (1 : Int32) t hq_1.symm) cd_X10_deny wd_1115 (hc_X_0 G.2.1 a tl t) rfl rfl (Nat.le_of_ble_eq_true rfl) rfl rfl (Nat.le_of_ble_eq_true rfl) dX10_learn_18 ?_
    exact k_iret hA hr (k_narB (k_b01 _)) dX10_learn_21
  have hf := k_ift hc hf
  refine k_aload_n (i := 0) hA dX10_learn_8 rfl 0 rfl ?_
  refine k_iload_n (i := 2) hA dX10_learn_9 rfl 2 rfl ?_
  refine k_callVi (As := [.int x2]) (rest := []) hA (m_X_noPiece l G a tl t x2 rfl) cd_X10_noPiece wd_748 (hc_X_0 G.2.1 a tl t) rfl rfl (Nat.le_of_ble_eq_true rfl) rfl rfl (Nat.le_of_ble_eq_true rfl) dX10_learn_10 ?_
  refine k_if_eq (tgt := 22) hA dX10_learn_13 rfl (fun hc => ?_) (fun hc => ?_)
  · have hf := k_ift hc hf
    refine k_aload_n (i := 0) hA dX10_learn_22 rfl 0 rfl ?_
    refine gt_X_0_6 hA wd_443 dX10_learn_23 ?_
    refine k_iload_n (i := 1) hA dX10_learn_26 rfl 1 rfl ?_
    refine k_iload_n (i := 2) hA dX10_learn_27 rfl 2 rfl ?_
    refine k_callVi (As := [.int x1, .int x2]) (rest := []) hA (m_No_isKnown l G a tl t x1 x2 rfl) cd_X3_isKnown wd_1119 (hc_X_34 G.2.1 a tl t) rfl rfl (Nat.le_of_ble_eq_true rfl) rfl rfl (Nat.le_of_ble_eq_true rfl) dX10_learn_28 ?_
    refine k_if_eq (tgt := 40) hA dX10_learn_31 rfl (fun hc => ?_) (fun hc => ?_)
    · have hf := k_ift hc hf
      obtain ⟨t_2, ht_2, hf⟩ := k_cv_e hf
      obtain ⟨t_3, et_3, hf⟩ := k_lt_e hf
      obtain ⟨⟨rq_4, tq_4⟩, hq_4, hf⟩ := k_lt_e hf
      dsimp only at hf
      obtain ⟨rfl, rfl⟩ := k_r2 hf
      refine k_aload_n (i := 0) hA dX10_learn_40 rfl 0 rfl ?_
      refine gt_X_0_6 hA wd_443 dX10_learn_41 ?_
      refine k_callVv (As := []) (rest := []) hA (m_No_keep l G a tl t ht_2) cd_X3_keep wd_1100 (hc_X_34 G.2.1 a tl t) rfl rfl (Nat.le_of_ble_eq_true rfl) rfl rfl (Nat.le_of_ble_eq_true rfl) dX10_learn_44 ?_
      refine k_aload_n (i := 0) hA dX10_learn_47 rfl 0 rfl ?_
      refine gt_X_0_6 hA wd_443 dX10_learn_48 ?_
      refine k_aload_n (i := 0) hA dX10_learn_51 rfl 0 rfl ?_
      refine gt_X_0_6 hA wd_443 dX10_learn_52 ?_
      refine gt_X_34_0 hA wd_412 dX10_learn_55 ?_
      refine k_iload_n (i := 1) hA dX10_learn_58 rfl 1 rfl ?_
      refine k_iconst hA dX10_learn_59 kc_i_1 ?_
      refine k_iload_n (i := 2) hA dX10_learn_60 rfl 2 rfl ?_
      refine k_ishl hA dX10_learn_61 ?_
      refine k_callSl (As := [.long (t_2.2 34 0), .int x1, .int ((1 : Int32) <<< (x2 &&& 31))]) (rest := [.ref (a 34)]) hA (m_X_withMore l G (k_WX G.2.1 a tl t_2) (t_2.2 34 0) x1 ((1 : Int32) <<< (x2 &&& 31)) rfl) cd_X10_withMore wd_1087 (Nat.le_of_ble_eq_true rfl) rfl rfl (Nat.le_of_ble_eq_true rfl) dX10_learn_62 ?_
      refine pt_X_34_0 hA wd_412 et_3 dX10_learn_65 ?_
      refine k_aload_n (i := 0) hA dX10_learn_68 rfl 0 rfl ?_
      refine k_callVi (As := []) (rest := []) hA (m_X_allow l G a tl t_3 hq_4.symm) cd_X10_allow wd_1120 (hc_X_0 G.2.1 a tl t_3) rfl rfl (Nat.le_of_ble_eq_true rfl) rfl rfl (Nat.le_of_ble_eq_true rfl) dX10_learn_69 ?_
      exact k_iret hA hr (k_narB (k_b01 _)) dX10_learn_72
    have hf := k_iff hc hf
    obtain ⟨⟨rq_5, tq_5⟩, hq_5, hf⟩ := k_lt_e hf
    dsimp only at hf
    obtain ⟨rfl, rfl⟩ := k_r2 hf
    refine k_aload_n (i := 0) hA dX10_learn_34 rfl 0 rfl ?_
    refine k_iconst hA dX10_learn_35 kc_i_5 ?_
    refine k_callVi (As := [.int (5 : Int32)]) (rest := []) hA (m_X_deny l G a tl (5 : Int32) t hq_5.symm) cd_X10_deny wd_1115 (hc_X_0 G.2.1 a tl t) rfl rfl (Nat.le_of_ble_eq_true rfl) rfl rfl (Nat.le_of_ble_eq_true rfl) dX10_learn_36 ?_
    exact k_iret hA hr (k_narB (k_b01 _)) dX10_learn_39
  have hf := k_iff hc hf
  obtain ⟨⟨rq_6, tq_6⟩, hq_6, hf⟩ := k_lt_e hf
  dsimp only at hf
  obtain ⟨rfl, rfl⟩ := k_r2 hf
  refine k_aload_n (i := 0) hA dX10_learn_16 rfl 0 rfl ?_
  refine k_iconst hA dX10_learn_17 kc_i_1 ?_
  refine k_callVi (As := [.int (1 : Int32)]) (rest := []) hA (m_X_deny l G a tl (1 : Int32) t hq_6.symm) cd_X10_deny wd_1115 (hc_X_0 G.2.1 a tl t) rfl rfl (Nat.le_of_ble_eq_true rfl) rfl rfl (Nat.le_of_ble_eq_true rfl) dX10_learn_18 ?_
  exact k_iret hA hr (k_narB (k_b01 _)) dX10_learn_21

def f_X_forget (x1 : Int32) (x2 : Int32) (t : k_St) : Option (Bool × k_St) := (if (k_b (f_X_noHouse t x1)) = 0 then (if (k_b (f_X_noPiece t x2)) = 0 then (if (k_b (f_No_isKnown t x1 x2)) = 0 then k_lt (f_X_deny (5 : Int32) t) (fun q_5 => some (q_5.1, q_5.2)) else k_cv (f_No_keep t) (fun t_2 => k_lt (k_sL t_2 34 0 ((t_2.2 34 0) &&& (((1 : Int64) <<< ((((8 : Int32) * x1) + x2).toInt64 &&& 63)) ^^^ (-1 : Int64)))) (fun t_3 => k_lt (f_X_allow t_3) (fun q_4 => some (q_4.1, q_4.2))))) else k_lt (f_X_deny (1 : Int32) t) (fun q_6 => some (q_6.1, q_6.2))) else k_lt (f_X_deny (1 : Int32) t) (fun q_1 => some (q_1.1, q_1.2)))
theorem m_X_forget (l : Launch) (G : k_G) (a : Nat → Nat) (tl : Value) (x1 : Int32) (x2 : Int32) (t : k_St) {r : Bool} {t' : k_St} (hf : f_X_forget x1 x2 t = some (r, t')) : k_CI l G yX10_forget cX10_forget 3 (some .boolean) 4 (k_WX G.2.1 a tl t) [.ref (a 0), .int x1, .int x2] (k_b r) (k_WX G.2.1 a tl t') := by
  refine k_startI (lv := [(0, .ref (a 0)), (1, .int x1), (2, .int x2)]) (by decide +kernel) (Nat.le_of_ble_eq_true rfl) rfl ?_
  intro p e s m args below meth c hA hr
  have hA : k_Amb p s m args meth c cX10_forget 3 "TaleShares" G _ := hA
  unfold f_X_forget at hf
  refine k_aload_n (i := 0) hA dX10_forget_0 rfl 0 rfl ?_
  refine k_iload_n (i := 1) hA dX10_forget_1 rfl 1 rfl ?_
  refine k_callVi (As := [.int x1]) (rest := []) hA (m_X_noHouse l G a tl t x1 rfl) cd_X10_noHouse wd_776 (hc_X_0 G.2.1 a tl t) rfl rfl (Nat.le_of_ble_eq_true rfl) rfl rfl (Nat.le_of_ble_eq_true rfl) dX10_forget_2 ?_
  refine k_if_ne (tgt := 16) hA dX10_forget_5 rfl (fun hc => ?_) (fun hc => ?_)
  · have hf := k_iff hc hf
    obtain ⟨⟨rq_1, tq_1⟩, hq_1, hf⟩ := k_lt_e hf
    dsimp only at hf
    obtain ⟨rfl, rfl⟩ := k_r2 hf
    refine k_aload_n (i := 0) hA dX10_forget_16 rfl 0 rfl ?_
    refine k_iconst hA dX10_forget_17 kc_i_1 ?_
    refine k_callVi (As := [.int (1 : Int32)]) (rest := []) hA (m_X_deny l G a tl (1 : Int32) t hq_1.symm) cd_X10_deny wd_1115 (hc_X_0 G.2.1 a tl t) rfl rfl (Nat.le_of_ble_eq_true rfl) rfl rfl (Nat.le_of_ble_eq_true rfl) dX10_forget_18 ?_
    exact k_iret hA hr (k_narB (k_b01 _)) dX10_forget_21
  have hf := k_ift hc hf
  refine k_aload_n (i := 0) hA dX10_forget_8 rfl 0 rfl ?_
  refine k_iload_n (i := 2) hA dX10_forget_9 rfl 2 rfl ?_
  refine k_callVi (As := [.int x2]) (rest := []) hA (m_X_noPiece l G a tl t x2 rfl) cd_X10_noPiece wd_748 (hc_X_0 G.2.1 a tl t) rfl rfl (Nat.le_of_ble_eq_true rfl) rfl rfl (Nat.le_of_ble_eq_true rfl) dX10_forget_10 ?_
  refine k_if_eq (tgt := 22) hA dX10_forget_13 rfl (fun hc => ?_) (fun hc => ?_)
  · have hf := k_ift hc hf
    refine k_aload_n (i := 0) hA dX10_forget_22 rfl 0 rfl ?_
    refine gt_X_0_6 hA wd_443 dX10_forget_23 ?_
    refine k_iload_n (i := 1) hA dX10_forget_26 rfl 1 rfl ?_
    refine k_iload_n (i := 2) hA dX10_forget_27 rfl 2 rfl ?_
    refine k_callVi (As := [.int x1, .int x2]) (rest := []) hA (m_No_isKnown l G a tl t x1 x2 rfl) cd_X3_isKnown wd_1119 (hc_X_34 G.2.1 a tl t) rfl rfl (Nat.le_of_ble_eq_true rfl) rfl rfl (Nat.le_of_ble_eq_true rfl) dX10_forget_28 ?_
    refine k_if_ne (tgt := 40) hA dX10_forget_31 rfl (fun hc => ?_) (fun hc => ?_)
    · have hf := k_iff hc hf
      obtain ⟨t_2, ht_2, hf⟩ := k_cv_e hf
      obtain ⟨t_3, et_3, hf⟩ := k_lt_e hf
      obtain ⟨⟨rq_4, tq_4⟩, hq_4, hf⟩ := k_lt_e hf
      dsimp only at hf
      obtain ⟨rfl, rfl⟩ := k_r2 hf
      refine k_aload_n (i := 0) hA dX10_forget_40 rfl 0 rfl ?_
      refine gt_X_0_6 hA wd_443 dX10_forget_41 ?_
      refine k_callVv (As := []) (rest := []) hA (m_No_keep l G a tl t ht_2) cd_X3_keep wd_1100 (hc_X_34 G.2.1 a tl t) rfl rfl (Nat.le_of_ble_eq_true rfl) rfl rfl (Nat.le_of_ble_eq_true rfl) dX10_forget_44 ?_
      refine k_aload_n (i := 0) hA dX10_forget_47 rfl 0 rfl ?_
      refine gt_X_0_6 hA wd_443 dX10_forget_48 ?_
      refine k_dup hA dX10_forget_51 rfl ?_
      refine gt_X_34_0 hA wd_412 dX10_forget_52 ?_
      refine k_lconst hA dX10_forget_55 kc_l_1 ?_
      refine k_bipush hA dX10_forget_56 kc_b_8 ?_
      refine k_iload_n (i := 1) hA dX10_forget_58 rfl 1 rfl ?_
      refine k_imul hA dX10_forget_59 ?_
      refine k_iload_n (i := 2) hA dX10_forget_60 rfl 2 rfl ?_
      refine k_iadd hA dX10_forget_61 ?_
      refine k_lshl hA dX10_forget_62 ?_
      refine k_ldc2 hA wd_810 dX10_forget_63 ?_
      refine k_lxor hA dX10_forget_66 ?_
      refine k_land hA dX10_forget_67 ?_
      refine pt_X_34_0 hA wd_412 et_3 dX10_forget_68 ?_
      refine k_aload_n (i := 0) hA dX10_forget_71 rfl 0 rfl ?_
      refine k_callVi (As := []) (rest := []) hA (m_X_allow l G a tl t_3 hq_4.symm) cd_X10_allow wd_1120 (hc_X_0 G.2.1 a tl t_3) rfl rfl (Nat.le_of_ble_eq_true rfl) rfl rfl (Nat.le_of_ble_eq_true rfl) dX10_forget_72 ?_
      exact k_iret hA hr (k_narB (k_b01 _)) dX10_forget_75
    have hf := k_ift hc hf
    obtain ⟨⟨rq_5, tq_5⟩, hq_5, hf⟩ := k_lt_e hf
    dsimp only at hf
    obtain ⟨rfl, rfl⟩ := k_r2 hf
    refine k_aload_n (i := 0) hA dX10_forget_34 rfl 0 rfl ?_
    refine k_iconst hA dX10_forget_35 kc_i_5 ?_
    refine k_callVi (As := [.int (5 : Int32)]) (rest := []) hA (m_X_deny l G a tl (5 : Int32) t hq_5.symm) cd_X10_deny wd_1115 (hc_X_0 G.2.1 a tl t) rfl rfl (Nat.le_of_ble_eq_true rfl) rfl rfl (Nat.le_of_ble_eq_true rfl) dX10_forget_36 ?_
    exact k_iret hA hr (k_narB (k_b01 _)) dX10_forget_39
  have hf := k_iff hc hf
  obtain ⟨⟨rq_6, tq_6⟩, hq_6, hf⟩ := k_lt_e hf
  dsimp only at hf
  obtain ⟨rfl, rfl⟩ := k_r2 hf
  refine k_aload_n (i := 0) hA dX10_forget_16 rfl 0 rfl ?_
  refine k_iconst hA dX10_forget_17 kc_i_1 ?_
  refine k_callVi (As := [.int (1 : Int32)]) (rest := []) hA (m_X_deny l G a tl (1 : Int32) t hq_6.symm) cd_X10_deny wd_1115 (hc_X_0 G.2.1 a tl t) rfl rfl (Nat.le_of_ble_eq_true rfl) rfl rfl (Nat.le_of_ble_eq_true rfl) dX10_forget_18 ?_
  exact k_iret hA hr (k_narB (k_b01 _)) dX10_forget_21

def f_X_evening (n : Nat) (x1 : Int32) (t : k_St) : Option (Int32 × k_St) := (if (k_b (f_X_noHouse t x1)) = 0 then (if (t.1 21 0) = 0 then k_lt (f_X_refuse (6 : Int32) t) (fun q_7 => some (q_7.1, q_7.2)) else k_cv (f_No_keep t) (fun t_1 => k_lt (k_sI t_1 33 0 (t_1.1 34 1)) (fun t_2 => k_cv (f_Ev_pass n t_2) (fun t_3 => k_lt (k_sI t_3 34 1 (t_3.1 33 0)) (fun t_4 => k_lt (k_sL t_4 34 0 (f_X_withMore (t_4.2 34 0) x1 (t_4.1 33 1))) (fun t_5 => k_lt (f_X_answer (f_In_bitCount_0f7a4 (t_5.1 33 1)) t_5) (fun q_6 => some (q_6.1, q_6.2)))))))) else k_lt (f_X_refuse (1 : Int32) t) (fun q_8 => some (q_8.1, q_8.2)))
theorem m_X_evening (l : Launch) (G : k_G) (a : Nat → Nat) (tl : Value) (n : Nat) (x1 : Int32) (t : k_St) {r : Int32} {t' : k_St} (hf : f_X_evening n x1 t = some (r, t')) : k_CI l G yX10_evening cX10_evening 2 (some .int) 5 (k_WX G.2.1 a tl t) [.ref (a 0), .int x1] r (k_WX G.2.1 a tl t') := by
  refine k_startI (lv := [(0, .ref (a 0)), (1, .int x1)]) (by decide +kernel) (Nat.le_of_ble_eq_true rfl) rfl ?_
  intro p e s m args below meth c hA hr
  have hA : k_Amb p s m args meth c cX10_evening 2 "TaleShares" G _ := hA
  unfold f_X_evening at hf
  refine k_aload_n (i := 0) hA dX10_evening_0 rfl 0 rfl ?_
  refine k_iload_n (i := 1) hA dX10_evening_1 rfl 1 rfl ?_
  refine k_callVi (As := [.int x1]) (rest := []) hA (m_X_noHouse l G a tl t x1 rfl) cd_X10_noHouse wd_776 (hc_X_0 G.2.1 a tl t) rfl rfl (Nat.le_of_ble_eq_true rfl) rfl rfl (Nat.le_of_ble_eq_true rfl) dX10_evening_2 ?_
  refine k_if_eq (tgt := 14) hA dX10_evening_5 rfl (fun hc => ?_) (fun hc => ?_)
  · have hf := k_ift hc hf
    refine k_aload_n (i := 0) hA dX10_evening_14 rfl 0 rfl ?_
    refine gt_X_0_1 hA wd_438 dX10_evening_15 ?_
    refine gt_X_21_0 hA wd_307 dX10_evening_18 ?_
    refine k_if_ne (tgt := 31) hA dX10_evening_21 rfl (fun hc => ?_) (fun hc => ?_)
    · have hf := k_iff hc hf
      obtain ⟨t_1, ht_1, hf⟩ := k_cv_e hf
      obtain ⟨t_2, et_2, hf⟩ := k_lt_e hf
      obtain ⟨t_3, ht_3, hf⟩ := k_cv_e hf
      obtain ⟨t_4, et_4, hf⟩ := k_lt_e hf
      obtain ⟨t_5, et_5, hf⟩ := k_lt_e hf
      obtain ⟨⟨rq_6, tq_6⟩, hq_6, hf⟩ := k_lt_e hf
      dsimp only at hf
      obtain ⟨rfl, rfl⟩ := k_r2 hf
      refine k_aload_n (i := 0) hA dX10_evening_31 rfl 0 rfl ?_
      refine gt_X_0_6 hA wd_443 dX10_evening_32 ?_
      refine k_callVv (As := []) (rest := []) hA (m_No_keep l G a tl t ht_1) cd_X3_keep wd_1100 (hc_X_34 G.2.1 a tl t) rfl rfl (Nat.le_of_ble_eq_true rfl) rfl rfl (Nat.le_of_ble_eq_true rfl) dX10_evening_35 ?_
      refine k_aload_n (i := 0) hA dX10_evening_38 rfl 0 rfl ?_
      refine gt_X_0_5 hA wd_442 dX10_evening_39 ?_
      refine k_aload_n (i := 0) hA dX10_evening_42 rfl 0 rfl ?_
      refine gt_X_0_6 hA wd_443 dX10_evening_43 ?_
      refine gt_X_34_1 hA wd_414 dX10_evening_46 ?_
      refine pt_X_33_0 hA wd_397 et_2 dX10_evening_49 ?_
      refine k_aload_n (i := 0) hA dX10_evening_52 rfl 0 rfl ?_
      refine gt_X_0_5 hA wd_442 dX10_evening_53 ?_
      refine k_aload_n (i := 0) hA dX10_evening_56 rfl 0 rfl ?_
      refine gt_X_0_1 hA wd_438 dX10_evening_57 ?_
      refine k_aload_n (i := 0) hA dX10_evening_60 rfl 0 rfl ?_
      refine gt_X_0_7 hA wd_444 dX10_evening_61 ?_
      refine k_callVv (As := [.ref (a 21), .ref (a 2)]) (rest := []) hA (m_Ev_pass l G a tl n t_2 ht_3) cd_X1_pass wd_1078 (hc_X_33 G.2.1 a tl t_2) rfl rfl (Nat.le_of_ble_eq_true rfl) rfl rfl (Nat.le_of_ble_eq_true rfl) dX10_evening_64 ?_
      refine k_aload_n (i := 0) hA dX10_evening_67 rfl 0 rfl ?_
      refine gt_X_0_6 hA wd_443 dX10_evening_68 ?_
      refine k_aload_n (i := 0) hA dX10_evening_71 rfl 0 rfl ?_
      refine gt_X_0_5 hA wd_442 dX10_evening_72 ?_
      refine gt_X_33_0 hA wd_397 dX10_evening_75 ?_
      refine pt_X_34_1 hA wd_414 et_4 dX10_evening_78 ?_
      refine k_aload_n (i := 0) hA dX10_evening_81 rfl 0 rfl ?_
      refine gt_X_0_6 hA wd_443 dX10_evening_82 ?_
      refine k_aload_n (i := 0) hA dX10_evening_85 rfl 0 rfl ?_
      refine gt_X_0_6 hA wd_443 dX10_evening_86 ?_
      refine gt_X_34_0 hA wd_412 dX10_evening_89 ?_
      refine k_iload_n (i := 1) hA dX10_evening_92 rfl 1 rfl ?_
      refine k_aload_n (i := 0) hA dX10_evening_93 rfl 0 rfl ?_
      refine gt_X_0_5 hA wd_442 dX10_evening_94 ?_
      refine gt_X_33_1 hA wd_399 dX10_evening_97 ?_
      refine k_callSl (As := [.long (t_4.2 34 0), .int x1, .int (t_4.1 33 1)]) (rest := [.ref (a 34)]) hA (m_X_withMore l G (k_WX G.2.1 a tl t_4) (t_4.2 34 0) x1 (t_4.1 33 1) rfl) cd_X10_withMore wd_1087 (Nat.le_of_ble_eq_true rfl) rfl rfl (Nat.le_of_ble_eq_true rfl) dX10_evening_100 ?_
      refine pt_X_34_0 hA wd_412 et_5 dX10_evening_103 ?_
      refine k_aload_n (i := 0) hA dX10_evening_106 rfl 0 rfl ?_
      refine k_aload_n (i := 0) hA dX10_evening_107 rfl 0 rfl ?_
      refine gt_X_0_5 hA wd_442 dX10_evening_108 ?_
      refine gt_X_33_1 hA wd_399 dX10_evening_111 ?_
      refine k_callSi (As := [.int (t_5.1 33 1)]) (rest := [.ref (a 0)]) hA (m_In_bitCount_0f7a4 l G (k_WX G.2.1 a tl t_5) (t_5.1 33 1) rfl) cd_J6_bitCount_0f7a4 wd_871 (Nat.le_of_ble_eq_true rfl) rfl rfl (Nat.le_of_ble_eq_true rfl) dX10_evening_114 ?_
      refine k_callVi (As := [.int (f_In_bitCount_0f7a4 (t_5.1 33 1))]) (rest := []) hA (m_X_answer l G a tl (f_In_bitCount_0f7a4 (t_5.1 33 1)) t_5 hq_6.symm) cd_X10_answer wd_732 (hc_X_0 G.2.1 a tl t_5) rfl rfl (Nat.le_of_ble_eq_true rfl) rfl rfl (Nat.le_of_ble_eq_true rfl) dX10_evening_117 ?_
      exact k_iret hA hr rfl dX10_evening_120
    have hf := k_ift hc hf
    obtain ⟨⟨rq_7, tq_7⟩, hq_7, hf⟩ := k_lt_e hf
    dsimp only at hf
    obtain ⟨rfl, rfl⟩ := k_r2 hf
    refine k_aload_n (i := 0) hA dX10_evening_24 rfl 0 rfl ?_
    refine k_bipush hA dX10_evening_25 kc_b_6 ?_
    refine k_callVi (As := [.int (6 : Int32)]) (rest := []) hA (m_X_refuse l G a tl (6 : Int32) t hq_7.symm) cd_X10_refuse wd_480 (hc_X_0 G.2.1 a tl t) rfl rfl (Nat.le_of_ble_eq_true rfl) rfl rfl (Nat.le_of_ble_eq_true rfl) dX10_evening_27 ?_
    exact k_iret hA hr rfl dX10_evening_30
  have hf := k_iff hc hf
  obtain ⟨⟨rq_8, tq_8⟩, hq_8, hf⟩ := k_lt_e hf
  dsimp only at hf
  obtain ⟨rfl, rfl⟩ := k_r2 hf
  refine k_aload_n (i := 0) hA dX10_evening_8 rfl 0 rfl ?_
  refine k_iconst hA dX10_evening_9 kc_i_1 ?_
  refine k_callVi (As := [.int (1 : Int32)]) (rest := []) hA (m_X_refuse l G a tl (1 : Int32) t hq_8.symm) cd_X10_refuse wd_480 (hc_X_0 G.2.1 a tl t) rfl rfl (Nat.le_of_ble_eq_true rfl) rfl rfl (Nat.le_of_ble_eq_true rfl) dX10_evening_10 ?_
  exact k_iret hA hr rfl dX10_evening_13

def f_X_seed (x1 : Int32) (t : k_St) : Bool × k_St := (if (t.1 0 10) = 0 then k_lt (f_X_deny (1 : Int32) t) (fun q_4 => (q_4.1, q_4.2)) else (if (k_b (f_X_noSeed x1)) = 0 then k_lt (k_sI t 34 1 x1) (fun t_1 => k_lt (f_X_allow t_1) (fun q_2 => (q_2.1, q_2.2))) else k_lt (f_X_deny (2 : Int32) t) (fun q_3 => (q_3.1, q_3.2))))
theorem m_X_seed (l : Launch) (G : k_G) (a : Nat → Nat) (tl : Value) (x1 : Int32) (t : k_St) {r : Bool} {t' : k_St} (hf : f_X_seed x1 t = (r, t')) : k_CI l G yX10_seed cX10_seed 2 (some .boolean) 2 (k_WX G.2.1 a tl t) [.ref (a 0), .int x1] (k_b r) (k_WX G.2.1 a tl t') := by
  refine k_startI (lv := [(0, .ref (a 0)), (1, .int x1)]) (by decide +kernel) (Nat.le_of_ble_eq_true rfl) rfl ?_
  intro p e s m args below meth c hA hr
  have hA : k_Amb p s m args meth c cX10_seed 2 "TaleShares" G _ := hA
  unfold f_X_seed at hf
  refine k_aload_n (i := 0) hA dX10_seed_0 rfl 0 rfl ?_
  refine gt_X_0_8 hA wd_445 dX10_seed_1 ?_
  refine k_if_ne (tgt := 13) hA dX10_seed_4 rfl (fun hc => ?_) (fun hc => ?_)
  · have hf := k_iff hc hf
    refine k_iload_n (i := 1) hA dX10_seed_13 rfl 1 rfl ?_
    refine k_callSi (As := [.int x1]) (rest := []) hA (m_X_noSeed l G (k_WX G.2.1 a tl t) x1 rfl) cd_X10_noSeed wd_1067 (Nat.le_of_ble_eq_true rfl) rfl rfl (Nat.le_of_ble_eq_true rfl) dX10_seed_14 ?_
    refine k_if_eq (tgt := 26) hA dX10_seed_17 rfl (fun hc => ?_) (fun hc => ?_)
    · have hf := k_ift hc hf
      obtain ⟨t_1, et_1, hf⟩ := k_lt_e hf
      obtain ⟨⟨rq_2, tq_2⟩, hq_2, hf⟩ := k_lt_e hf
      dsimp only at hf
      obtain ⟨rfl, rfl⟩ := k_p2 hf
      refine k_aload_n (i := 0) hA dX10_seed_26 rfl 0 rfl ?_
      refine gt_X_0_6 hA wd_443 dX10_seed_27 ?_
      refine k_iload_n (i := 1) hA dX10_seed_30 rfl 1 rfl ?_
      refine pt_X_34_1 hA wd_414 et_1 dX10_seed_31 ?_
      refine k_aload_n (i := 0) hA dX10_seed_34 rfl 0 rfl ?_
      refine k_callVi (As := []) (rest := []) hA (m_X_allow l G a tl t_1 hq_2.symm) cd_X10_allow wd_1120 (hc_X_0 G.2.1 a tl t_1) rfl rfl (Nat.le_of_ble_eq_true rfl) rfl rfl (Nat.le_of_ble_eq_true rfl) dX10_seed_35 ?_
      exact k_iret hA hr (k_narB (k_b01 _)) dX10_seed_38
    have hf := k_iff hc hf
    obtain ⟨⟨rq_3, tq_3⟩, hq_3, hf⟩ := k_lt_e hf
    dsimp only at hf
    obtain ⟨rfl, rfl⟩ := k_p2 hf
    refine k_aload_n (i := 0) hA dX10_seed_20 rfl 0 rfl ?_
    refine k_iconst hA dX10_seed_21 kc_i_2 ?_
    refine k_callVi (As := [.int (2 : Int32)]) (rest := []) hA (m_X_deny l G a tl (2 : Int32) t hq_3.symm) cd_X10_deny wd_1115 (hc_X_0 G.2.1 a tl t) rfl rfl (Nat.le_of_ble_eq_true rfl) rfl rfl (Nat.le_of_ble_eq_true rfl) dX10_seed_22 ?_
    exact k_iret hA hr (k_narB (k_b01 _)) dX10_seed_25
  have hf := k_ift hc hf
  obtain ⟨⟨rq_4, tq_4⟩, hq_4, hf⟩ := k_lt_e hf
  dsimp only at hf
  obtain ⟨rfl, rfl⟩ := k_p2 hf
  refine k_aload_n (i := 0) hA dX10_seed_7 rfl 0 rfl ?_
  refine k_iconst hA dX10_seed_8 kc_i_1 ?_
  refine k_callVi (As := [.int (1 : Int32)]) (rest := []) hA (m_X_deny l G a tl (1 : Int32) t hq_4.symm) cd_X10_deny wd_1115 (hc_X_0 G.2.1 a tl t) rfl rfl (Nat.le_of_ble_eq_true rfl) rfl rfl (Nat.le_of_ble_eq_true rfl) dX10_seed_9 ?_
  exact k_iret hA hr (k_narB (k_b01 _)) dX10_seed_12

def f_No_unpack (x1 : Int64) (t : k_St) : k_St := k_lt (k_sI t 34 1 ((x1 >>> ((40 : Int32).toInt64 &&& 63)).toInt32)) (fun t_1 => k_lt (k_sL t_1 34 0 (x1 &&& (1099511627775 : Int64))) (fun t_2 => t_2))
theorem m_No_unpack (l : Launch) (G : k_G) (a : Nat → Nat) (tl : Value) (x1 : Int64) (t : k_St) {t' : k_St} (hf : f_No_unpack x1 t = t') : k_CV l G yX3_unpack cX3_unpack 3 none 1 (k_WX G.2.1 a tl t) [.ref (a 34), .long x1] (k_WX G.2.1 a tl t') := by
  refine k_startV (lv := [(0, .ref (a 34)), (1, .long x1)]) (by decide +kernel) (Nat.le_of_ble_eq_true rfl) rfl ?_
  intro p e s m args below meth c hA hr
  have hA : k_Amb p s m args meth c cX3_unpack 3 "TaleShares$Now" G _ := hA
  unfold f_No_unpack at hf
  obtain ⟨t_1, et_1, hf⟩ := k_lt_e hf
  obtain ⟨t_2, et_2, hf⟩ := k_lt_e hf
  subst hf
  refine k_aload_n (i := 0) hA dX3_unpack_0 rfl 0 rfl ?_
  refine k_lload_n (i := 1) hA dX3_unpack_1 rfl 1 rfl ?_
  refine k_bipush hA dX3_unpack_2 kc_b_40 ?_
  refine k_lshr hA dX3_unpack_4 ?_
  refine k_l2i hA dX3_unpack_5 ?_
  refine pt_X_34_1 hA wd_413 et_1 dX3_unpack_6 ?_
  refine k_aload_n (i := 0) hA dX3_unpack_9 rfl 0 rfl ?_
  refine k_lload_n (i := 1) hA dX3_unpack_10 rfl 1 rfl ?_
  refine k_ldc2 hA wd_1148 dX3_unpack_11 ?_
  refine k_land hA dX3_unpack_14 ?_
  refine pt_X_34_0 hA wd_411 et_2 dX3_unpack_15 ?_
  exact k_vret hA hr dX3_unpack_18

def f_No_undoLatest (t : k_St) : Option (Bool × k_St) := (if 0 < (t.1 34 2) then k_lt (k_sI t 34 2 ((t.1 34 2) - (1 : Int32))) (fun t_1 => k_gi (t_1.1 34 2) 16 (k_lt (f_No_unpack (t_1.2 35 (t_1.1 34 2).toNatClampNeg) t_1) (fun t_3 => some (true, t_3)))) else some (false, t))
theorem m_No_undoLatest (l : Launch) (G : k_G) (a : Nat → Nat) (tl : Value) (t : k_St) {r : Bool} {t' : k_St} (hf : f_No_undoLatest t = some (r, t')) : k_CI l G yX3_undoLatest cX3_undoLatest 1 (some .boolean) 2 (k_WX G.2.1 a tl t) [.ref (a 34)] (k_b r) (k_WX G.2.1 a tl t') := by
  refine k_startI (lv := [(0, .ref (a 34))]) (by decide +kernel) (Nat.le_of_ble_eq_true rfl) rfl ?_
  intro p e s m args below meth c hA hr
  have hA : k_Amb p s m args meth c cX3_undoLatest 1 "TaleShares$Now" G _ := hA
  unfold f_No_undoLatest at hf
  refine k_aload_n (i := 0) hA dX3_undoLatest_0 rfl 0 rfl ?_
  refine gt_X_34_2 hA wd_415 dX3_undoLatest_1 ?_
  refine k_if_gt (tgt := 9) hA dX3_undoLatest_4 rfl (fun hc => ?_) (fun hc => ?_)
  · have hf := k_ift hc hf
    obtain ⟨t_1, et_1, hf⟩ := k_lt_e hf
    obtain ⟨hi_2, hf⟩ := k_gi_e hf
    obtain ⟨t_3, ht_3, hf⟩ := k_lt_e hf
    obtain ⟨rfl, rfl⟩ := k_r2 hf
    refine k_aload_n (i := 0) hA dX3_undoLatest_9 rfl 0 rfl ?_
    refine k_dup hA dX3_undoLatest_10 rfl ?_
    refine gt_X_34_2 hA wd_415 dX3_undoLatest_11 ?_
    refine k_iconst hA dX3_undoLatest_14 kc_i_1 ?_
    refine k_isub hA dX3_undoLatest_15 ?_
    refine pt_X_34_2 hA wd_415 et_1 dX3_undoLatest_16 ?_
    refine k_aload_n (i := 0) hA dX3_undoLatest_19 rfl 0 rfl ?_
    refine k_aload_n (i := 0) hA dX3_undoLatest_20 rfl 0 rfl ?_
    refine gt_X_34_5 hA wd_420 dX3_undoLatest_21 ?_
    refine k_aload_n (i := 0) hA dX3_undoLatest_24 rfl 0 rfl ?_
    refine gt_X_34_2 hA wd_415 dX3_undoLatest_25 ?_
    refine ld_X_35 hA hi_2 dX3_undoLatest_28 ?_
    refine k_callVv (As := [.long (t_1.2 35 (t_1.1 34 2).toNatClampNeg)]) (rest := []) hA (m_No_unpack l G a tl (t_1.2 35 (t_1.1 34 2).toNatClampNeg) t_1 ht_3.symm) cd_X3_unpack wd_1144 (hc_X_34 G.2.1 a tl t_1) rfl rfl (Nat.le_of_ble_eq_true rfl) rfl rfl (Nat.le_of_ble_eq_true rfl) dX3_undoLatest_29 ?_
    refine k_iconst hA dX3_undoLatest_32 kc_i_1 ?_
    exact k_iret hA hr (k_narB (k_b01 _)) dX3_undoLatest_33
  have hf := k_iff hc hf
  obtain ⟨rfl, rfl⟩ := k_r2 hf
  refine k_iconst hA dX3_undoLatest_7 kc_i_0 ?_
  exact k_iret hA hr (k_narB (k_b01 _)) dX3_undoLatest_8

def f_X_undo (t : k_St) : Option (Bool × k_St) := k_cl (f_No_undoLatest t) (fun r_2 t_1 => (if (k_b r_2) = 0 then k_lt (f_X_deny (6 : Int32) t_1) (fun q_3 => some (q_3.1, q_3.2)) else k_lt (f_X_allow t_1) (fun q_4 => some (q_4.1, q_4.2))))
theorem m_X_undo (l : Launch) (G : k_G) (a : Nat → Nat) (tl : Value) (t : k_St) {r : Bool} {t' : k_St} (hf : f_X_undo t = some (r, t')) : k_CI l G yX10_undo cX10_undo 1 (some .boolean) 3 (k_WX G.2.1 a tl t) [.ref (a 0)] (k_b r) (k_WX G.2.1 a tl t') := by
  refine k_startI (lv := [(0, .ref (a 0))]) (by decide +kernel) (Nat.le_of_ble_eq_true rfl) rfl ?_
  intro p e s m args below meth c hA hr
  have hA : k_Amb p s m args meth c cX10_undo 1 "TaleShares" G _ := hA
  unfold f_X_undo at hf
  obtain ⟨r_2, t_1, ht_1, hf⟩ := k_cl_e hf
  refine k_aload_n (i := 0) hA dX10_undo_0 rfl 0 rfl ?_
  refine gt_X_0_6 hA wd_443 dX10_undo_1 ?_
  refine k_callVi (As := []) (rest := []) hA (m_No_undoLatest l G a tl t ht_1) cd_X3_undoLatest wd_1140 (hc_X_34 G.2.1 a tl t) rfl rfl (Nat.le_of_ble_eq_true rfl) rfl rfl (Nat.le_of_ble_eq_true rfl) dX10_undo_4 ?_
  refine k_if_eq (tgt := 17) hA dX10_undo_7 rfl (fun hc => ?_) (fun hc => ?_)
  · have hf := k_ift hc hf
    obtain ⟨⟨rq_3, tq_3⟩, hq_3, hf⟩ := k_lt_e hf
    dsimp only at hf
    obtain ⟨rfl, rfl⟩ := k_r2 hf
    refine k_aload_n (i := 0) hA dX10_undo_17 rfl 0 rfl ?_
    refine k_bipush hA dX10_undo_18 kc_b_6 ?_
    refine k_callVi (As := [.int (6 : Int32)]) (rest := []) hA (m_X_deny l G a tl (6 : Int32) t_1 hq_3.symm) cd_X10_deny wd_1115 (hc_X_0 G.2.1 a tl t_1) rfl rfl (Nat.le_of_ble_eq_true rfl) rfl rfl (Nat.le_of_ble_eq_true rfl) dX10_undo_20 ?_
    exact k_iret hA hr (k_narB (k_b01 _)) dX10_undo_23
  have hf := k_iff hc hf
  obtain ⟨⟨rq_4, tq_4⟩, hq_4, hf⟩ := k_lt_e hf
  dsimp only at hf
  obtain ⟨rfl, rfl⟩ := k_r2 hf
  refine k_aload_n (i := 0) hA dX10_undo_10 rfl 0 rfl ?_
  refine k_callVi (As := []) (rest := []) hA (m_X_allow l G a tl t_1 hq_4.symm) cd_X10_allow wd_1120 (hc_X_0 G.2.1 a tl t_1) rfl rfl (Nat.le_of_ble_eq_true rfl) rfl rfl (Nat.le_of_ble_eq_true rfl) dX10_undo_11 ?_
  refine k_goto (tgt := 23) hA dX10_undo_14 rfl ?_
  exact k_iret hA hr (k_narB (k_b01 _)) dX10_undo_23

def f_No_takeImage (t : k_St) : Option (Int32 × k_St) := (if (t.1 34 3) < (3 : Int32) then k_gi (t.1 34 3) 3 (k_lt (k_sL t 36 (t.1 34 3).toNatClampNeg (f_No_packed t)) (fun t_2 => k_lt (k_sI t_2 34 3 ((t_2.1 34 3) + (1 : Int32))) (fun t_3 => some (((t_3.1 34 3) - (1 : Int32)), t_3)))) else some ((-1 : Int32), t))
theorem m_No_takeImage (l : Launch) (G : k_G) (a : Nat → Nat) (tl : Value) (t : k_St) {r : Int32} {t' : k_St} (hf : f_No_takeImage t = some (r, t')) : k_CI l G yX3_takeImage cX3_takeImage 1 (some .int) 2 (k_WX G.2.1 a tl t) [.ref (a 34)] r (k_WX G.2.1 a tl t') := by
  refine k_startI (lv := [(0, .ref (a 34))]) (by decide +kernel) (Nat.le_of_ble_eq_true rfl) rfl ?_
  intro p e s m args below meth c hA hr
  have hA : k_Amb p s m args meth c cX3_takeImage 1 "TaleShares$Now" G _ := hA
  unfold f_No_takeImage at hf
  refine k_aload_n (i := 0) hA dX3_takeImage_0 rfl 0 rfl ?_
  refine gt_X_34_3 hA wd_417 dX3_takeImage_1 ?_
  refine k_iconst hA dX3_takeImage_4 kc_i_3 ?_
  refine k_icmp_lt (tgt := 10) hA dX3_takeImage_5 rfl (fun hc => ?_) (fun hc => ?_)
  · have hf := k_ift hc hf
    obtain ⟨hi_1, hf⟩ := k_gi_e hf
    obtain ⟨t_2, et_2, hf⟩ := k_lt_e hf
    obtain ⟨t_3, et_3, hf⟩ := k_lt_e hf
    obtain ⟨rfl, rfl⟩ := k_r2 hf
    refine k_aload_n (i := 0) hA dX3_takeImage_10 rfl 0 rfl ?_
    refine gt_X_34_6 hA wd_421 dX3_takeImage_11 ?_
    refine k_aload_n (i := 0) hA dX3_takeImage_14 rfl 0 rfl ?_
    refine gt_X_34_3 hA wd_417 dX3_takeImage_15 ?_
    refine k_aload_n (i := 0) hA dX3_takeImage_18 rfl 0 rfl ?_
    refine k_callVl (As := []) (rest := [.int (t.1 34 3), .ref (a 36)]) hA (m_No_packed l G a tl t rfl) cd_X3_packed wd_1107 (hc_X_34 G.2.1 a tl t) rfl rfl (Nat.le_of_ble_eq_true rfl) rfl rfl (Nat.le_of_ble_eq_true rfl) dX3_takeImage_19 ?_
    refine sr_X_36 hA hi_1 et_2 dX3_takeImage_22 ?_
    refine k_aload_n (i := 0) hA dX3_takeImage_23 rfl 0 rfl ?_
    refine k_dup hA dX3_takeImage_24 rfl ?_
    refine gt_X_34_3 hA wd_417 dX3_takeImage_25 ?_
    refine k_iconst hA dX3_takeImage_28 kc_i_1 ?_
    refine k_iadd hA dX3_takeImage_29 ?_
    refine pt_X_34_3 hA wd_417 et_3 dX3_takeImage_30 ?_
    refine k_aload_n (i := 0) hA dX3_takeImage_33 rfl 0 rfl ?_
    refine gt_X_34_3 hA wd_417 dX3_takeImage_34 ?_
    refine k_iconst hA dX3_takeImage_37 kc_i_1 ?_
    refine k_isub hA dX3_takeImage_38 ?_
    exact k_iret hA hr rfl dX3_takeImage_39
  have hf := k_iff hc hf
  obtain ⟨rfl, rfl⟩ := k_r2 hf
  refine k_iconst hA dX3_takeImage_8 kc_i_m1 ?_
  exact k_iret hA hr rfl dX3_takeImage_9

def f_X_image (t : k_St) : Option (Int32 × k_St) := (if (t.1 0 10) = 0 then k_lt (f_X_refuse (1 : Int32) t) (fun q_5 => some (q_5.1, q_5.2)) else k_cl (f_No_takeImage t) (fun r_2 t_1 => (if r_2 = (-1 : Int32) then k_lt (f_X_refuse (3 : Int32) t_1) (fun q_4 => some (q_4.1, q_4.2)) else k_lt (f_X_answer r_2 t_1) (fun q_3 => some (q_3.1, q_3.2)))))
theorem m_X_image (l : Launch) (G : k_G) (a : Nat → Nat) (tl : Value) (t : k_St) {r : Int32} {t' : k_St} (hf : f_X_image t = some (r, t')) : k_CI l G yX10_image cX10_image 2 (some .int) 3 (k_WX G.2.1 a tl t) [.ref (a 0)] r (k_WX G.2.1 a tl t') := by
  refine k_startI (lv := [(0, .ref (a 0))]) (by decide +kernel) (Nat.le_of_ble_eq_true rfl) rfl ?_
  intro p e s m args below meth c hA hr
  have hA : k_Amb p s m args meth c cX10_image 2 "TaleShares" G _ := hA
  unfold f_X_image at hf
  refine k_aload_n (i := 0) hA dX10_image_0 rfl 0 rfl ?_
  refine gt_X_0_8 hA wd_445 dX10_image_1 ?_
  refine k_if_ne (tgt := 13) hA dX10_image_4 rfl (fun hc => ?_) (fun hc => ?_)
  · have hf := k_iff hc hf
    obtain ⟨r_2, t_1, ht_1, hf⟩ := k_cl_e hf
    refine k_aload_n (i := 0) hA dX10_image_13 rfl 0 rfl ?_
    refine gt_X_0_6 hA wd_443 dX10_image_14 ?_
    refine k_callVi (As := []) (rest := []) hA (m_No_takeImage l G a tl t ht_1) cd_X3_takeImage wd_1153 (hc_X_34 G.2.1 a tl t) rfl rfl (Nat.le_of_ble_eq_true rfl) rfl rfl (Nat.le_of_ble_eq_true rfl) dX10_image_17 ?_
    refine k_istore_n (i := 1) (lv' := [(1, .int r_2), (0, .ref (a 0))]) hA dX10_image_20 rfl rfl (Nat.le_of_ble_eq_true rfl) rfl ?_
    refine k_iload_n (i := 1) hA dX10_image_21 rfl 0 rfl ?_
    refine k_iconst hA dX10_image_22 kc_i_m1 ?_
    refine k_icmp_ne (tgt := 34) hA dX10_image_23 rfl (fun hc => ?_) (fun hc => ?_)
    · have hf := k_iff hc hf
      obtain ⟨⟨rq_3, tq_3⟩, hq_3, hf⟩ := k_lt_e hf
      dsimp only at hf
      obtain ⟨rfl, rfl⟩ := k_r2 hf
      refine k_aload_n (i := 0) hA dX10_image_34 rfl 1 rfl ?_
      refine k_iload_n (i := 1) hA dX10_image_35 rfl 0 rfl ?_
      refine k_callVi (As := [.int r_2]) (rest := []) hA (m_X_answer l G a tl r_2 t_1 hq_3.symm) cd_X10_answer wd_732 (hc_X_0 G.2.1 a tl t_1) rfl rfl (Nat.le_of_ble_eq_true rfl) rfl rfl (Nat.le_of_ble_eq_true rfl) dX10_image_36 ?_
      exact k_iret hA hr rfl dX10_image_39
    have hf := k_ift hc hf
    obtain ⟨⟨rq_4, tq_4⟩, hq_4, hf⟩ := k_lt_e hf
    dsimp only at hf
    obtain ⟨rfl, rfl⟩ := k_r2 hf
    refine k_aload_n (i := 0) hA dX10_image_26 rfl 1 rfl ?_
    refine k_iconst hA dX10_image_27 kc_i_3 ?_
    refine k_callVi (As := [.int (3 : Int32)]) (rest := []) hA (m_X_refuse l G a tl (3 : Int32) t_1 hq_4.symm) cd_X10_refuse wd_480 (hc_X_0 G.2.1 a tl t_1) rfl rfl (Nat.le_of_ble_eq_true rfl) rfl rfl (Nat.le_of_ble_eq_true rfl) dX10_image_28 ?_
    refine k_goto (tgt := 39) hA dX10_image_31 rfl ?_
    exact k_iret hA hr rfl dX10_image_39
  have hf := k_ift hc hf
  obtain ⟨⟨rq_5, tq_5⟩, hq_5, hf⟩ := k_lt_e hf
  dsimp only at hf
  obtain ⟨rfl, rfl⟩ := k_r2 hf
  refine k_aload_n (i := 0) hA dX10_image_7 rfl 0 rfl ?_
  refine k_iconst hA dX10_image_8 kc_i_1 ?_
  refine k_callVi (As := [.int (1 : Int32)]) (rest := []) hA (m_X_refuse l G a tl (1 : Int32) t hq_5.symm) cd_X10_refuse wd_480 (hc_X_0 G.2.1 a tl t) rfl rfl (Nat.le_of_ble_eq_true rfl) rfl rfl (Nat.le_of_ble_eq_true rfl) dX10_image_9 ?_
  exact k_iret hA hr rfl dX10_image_12

def f_No_goBack (x1 : Int32) (t : k_St) : Option (Bool × k_St) := (if x1 < 0 then some (false, t) else (if x1 < (t.1 34 3) then k_gi x1 3 (k_lt (f_No_unpack (t.2 36 x1.toNatClampNeg) t) (fun t_2 => k_lt (k_sI t_2 34 2 (0 : Int32)) (fun t_3 => some (true, t_3)))) else some (false, t)))
theorem m_No_goBack (l : Launch) (G : k_G) (a : Nat → Nat) (tl : Value) (x1 : Int32) (t : k_St) {r : Bool} {t' : k_St} (hf : f_No_goBack x1 t = some (r, t')) : k_CI l G yX3_goBack cX3_goBack 2 (some .boolean) 2 (k_WX G.2.1 a tl t) [.ref (a 34), .int x1] (k_b r) (k_WX G.2.1 a tl t') := by
  refine k_startI (lv := [(0, .ref (a 34)), (1, .int x1)]) (by decide +kernel) (Nat.le_of_ble_eq_true rfl) rfl ?_
  intro p e s m args below meth c hA hr
  have hA : k_Amb p s m args meth c cX3_goBack 2 "TaleShares$Now" G _ := hA
  unfold f_No_goBack at hf
  refine k_iload_n (i := 1) hA dX3_goBack_0 rfl 1 rfl ?_
  refine k_if_lt (tgt := 12) hA dX3_goBack_1 rfl (fun hc => ?_) (fun hc => ?_)
  · have hf := k_ift hc hf
    obtain ⟨rfl, rfl⟩ := k_r2 hf
    refine k_iconst hA dX3_goBack_12 kc_i_0 ?_
    exact k_iret hA hr (k_narB (k_b01 _)) dX3_goBack_13
  have hf := k_iff hc hf
  refine k_iload_n (i := 1) hA dX3_goBack_4 rfl 1 rfl ?_
  refine k_aload_n (i := 0) hA dX3_goBack_5 rfl 0 rfl ?_
  refine gt_X_34_3 hA wd_417 dX3_goBack_6 ?_
  refine k_icmp_lt (tgt := 14) hA dX3_goBack_9 rfl (fun hc => ?_) (fun hc => ?_)
  · have hf := k_ift hc hf
    obtain ⟨hi_1, hf⟩ := k_gi_e hf
    obtain ⟨t_2, ht_2, hf⟩ := k_lt_e hf
    obtain ⟨t_3, et_3, hf⟩ := k_lt_e hf
    obtain ⟨rfl, rfl⟩ := k_r2 hf
    refine k_aload_n (i := 0) hA dX3_goBack_14 rfl 0 rfl ?_
    refine k_aload_n (i := 0) hA dX3_goBack_15 rfl 0 rfl ?_
    refine gt_X_34_6 hA wd_421 dX3_goBack_16 ?_
    refine k_iload_n (i := 1) hA dX3_goBack_19 rfl 1 rfl ?_
    refine ld_X_36 hA hi_1 dX3_goBack_20 ?_
    refine k_callVv (As := [.long (t.2 36 x1.toNatClampNeg)]) (rest := []) hA (m_No_unpack l G a tl (t.2 36 x1.toNatClampNeg) t ht_2.symm) cd_X3_unpack wd_1144 (hc_X_34 G.2.1 a tl t) rfl rfl (Nat.le_of_ble_eq_true rfl) rfl rfl (Nat.le_of_ble_eq_true rfl) dX3_goBack_21 ?_
    refine k_aload_n (i := 0) hA dX3_goBack_24 rfl 0 rfl ?_
    refine k_iconst hA dX3_goBack_25 kc_i_0 ?_
    refine pt_X_34_2 hA wd_415 et_3 dX3_goBack_26 ?_
    refine k_iconst hA dX3_goBack_29 kc_i_1 ?_
    exact k_iret hA hr (k_narB (k_b01 _)) dX3_goBack_30
  have hf := k_iff hc hf
  obtain ⟨rfl, rfl⟩ := k_r2 hf
  refine k_iconst hA dX3_goBack_12 kc_i_0 ?_
  exact k_iret hA hr (k_narB (k_b01 _)) dX3_goBack_13

def f_X_back (x1 : Int32) (t : k_St) : Option (Bool × k_St) := k_cl (f_No_goBack x1 t) (fun r_2 t_1 => (if (k_b r_2) = 0 then k_lt (f_X_deny (1 : Int32) t_1) (fun q_3 => some (q_3.1, q_3.2)) else k_lt (f_X_allow t_1) (fun q_4 => some (q_4.1, q_4.2))))
theorem m_X_back (l : Launch) (G : k_G) (a : Nat → Nat) (tl : Value) (x1 : Int32) (t : k_St) {r : Bool} {t' : k_St} (hf : f_X_back x1 t = some (r, t')) : k_CI l G yX10_back cX10_back 2 (some .boolean) 3 (k_WX G.2.1 a tl t) [.ref (a 0), .int x1] (k_b r) (k_WX G.2.1 a tl t') := by
  refine k_startI (lv := [(0, .ref (a 0)), (1, .int x1)]) (by decide +kernel) (Nat.le_of_ble_eq_true rfl) rfl ?_
  intro p e s m args below meth c hA hr
  have hA : k_Amb p s m args meth c cX10_back 2 "TaleShares" G _ := hA
  unfold f_X_back at hf
  obtain ⟨r_2, t_1, ht_1, hf⟩ := k_cl_e hf
  refine k_aload_n (i := 0) hA dX10_back_0 rfl 0 rfl ?_
  refine gt_X_0_6 hA wd_443 dX10_back_1 ?_
  refine k_iload_n (i := 1) hA dX10_back_4 rfl 1 rfl ?_
  refine k_callVi (As := [.int x1]) (rest := []) hA (m_No_goBack l G a tl x1 t ht_1) cd_X3_goBack wd_1161 (hc_X_34 G.2.1 a tl t) rfl rfl (Nat.le_of_ble_eq_true rfl) rfl rfl (Nat.le_of_ble_eq_true rfl) dX10_back_5 ?_
  refine k_if_eq (tgt := 18) hA dX10_back_8 rfl (fun hc => ?_) (fun hc => ?_)
  · have hf := k_ift hc hf
    obtain ⟨⟨rq_3, tq_3⟩, hq_3, hf⟩ := k_lt_e hf
    dsimp only at hf
    obtain ⟨rfl, rfl⟩ := k_r2 hf
    refine k_aload_n (i := 0) hA dX10_back_18 rfl 0 rfl ?_
    refine k_iconst hA dX10_back_19 kc_i_1 ?_
    refine k_callVi (As := [.int (1 : Int32)]) (rest := []) hA (m_X_deny l G a tl (1 : Int32) t_1 hq_3.symm) cd_X10_deny wd_1115 (hc_X_0 G.2.1 a tl t_1) rfl rfl (Nat.le_of_ble_eq_true rfl) rfl rfl (Nat.le_of_ble_eq_true rfl) dX10_back_20 ?_
    exact k_iret hA hr (k_narB (k_b01 _)) dX10_back_23
  have hf := k_iff hc hf
  obtain ⟨⟨rq_4, tq_4⟩, hq_4, hf⟩ := k_lt_e hf
  dsimp only at hf
  obtain ⟨rfl, rfl⟩ := k_r2 hf
  refine k_aload_n (i := 0) hA dX10_back_11 rfl 0 rfl ?_
  refine k_callVi (As := []) (rest := []) hA (m_X_allow l G a tl t_1 hq_4.symm) cd_X10_allow wd_1120 (hc_X_0 G.2.1 a tl t_1) rfl rfl (Nat.le_of_ble_eq_true rfl) rfl rfl (Nat.le_of_ble_eq_true rfl) dX10_back_12 ?_
  refine k_goto (tgt := 23) hA dX10_back_15 rfl ?_
  exact k_iret hA hr (k_narB (k_b01 _)) dX10_back_23

def f_X_size (t : k_St) (x1 : Int32) : Int32 := (if x1 = (0 : Int32) then (t.1 2 0) else if x1 = (1 : Int32) then (t.1 2 1) else if x1 = (2 : Int32) then (t.1 2 2) else if x1 = (3 : Int32) then (t.1 2 3) else if x1 = (4 : Int32) then (t.1 2 4) else if x1 = (5 : Int32) then (t.1 2 5) else if x1 = (6 : Int32) then (f_In_bitCount_0f7a4 (t.1 2 6)) else if x1 = (7 : Int32) then (t.1 2 7) else if x1 = (8 : Int32) then (t.1 34 1) else if x1 = (9 : Int32) then (t.1 34 2) else if x1 = (10 : Int32) then (t.1 34 3) else if x1 = (11 : Int32) then (t.1 0 11) else (-1 : Int32))
theorem m_X_size (l : Launch) (G : k_G) (a : Nat → Nat) (tl : Value) (t : k_St) (x1 : Int32) {r : Int32} (hf : f_X_size t x1 = r) : k_CI l G yX10_size cX10_size 2 (some .int) 2 (k_WX G.2.1 a tl t) [.ref (a 0), .int x1] r (k_WX G.2.1 a tl t) := by
  refine k_startI (lv := [(0, .ref (a 0)), (1, .int x1)]) (by decide +kernel) (Nat.le_of_ble_eq_true rfl) rfl ?_
  intro p e s m args below meth c hA hr
  have hA : k_Amb p s m args meth c cX10_size 2 "TaleShares" G _ := hA
  unfold f_X_size at hf
  refine k_iload_n (i := 1) hA dX10_size_0 rfl 1 rfl ?_
  by_cases hs_0 : x1 = (0 : Int32)
  · have hf := k_ift hs_0 hf
    refine k_tin (tgt := 64) hA dX10_size_1 (by rw [hs_0]; decide) (by rw [hs_0]; decide) (by rw [hs_0]; rfl) rfl ?_
    subst hf
    refine k_aload_n (i := 0) hA dX10_size_64 rfl 0 rfl ?_
    refine gt_X_0_7 hA wd_444 dX10_size_65 ?_
    refine gt_X_2_0 hA wd_160 dX10_size_68 ?_
    exact k_iret hA hr rfl dX10_size_71
  have hf := k_iff hs_0 hf
  by_cases hs_1 : x1 = (1 : Int32)
  · have hf := k_ift hs_1 hf
    refine k_tin (tgt := 72) hA dX10_size_1 (by rw [hs_1]; decide) (by rw [hs_1]; decide) (by rw [hs_1]; rfl) rfl ?_
    subst hf
    refine k_aload_n (i := 0) hA dX10_size_72 rfl 0 rfl ?_
    refine gt_X_0_7 hA wd_444 dX10_size_73 ?_
    refine gt_X_2_1 hA wd_164 dX10_size_76 ?_
    exact k_iret hA hr rfl dX10_size_79
  have hf := k_iff hs_1 hf
  by_cases hs_2 : x1 = (2 : Int32)
  · have hf := k_ift hs_2 hf
    refine k_tin (tgt := 80) hA dX10_size_1 (by rw [hs_2]; decide) (by rw [hs_2]; decide) (by rw [hs_2]; rfl) rfl ?_
    subst hf
    refine k_aload_n (i := 0) hA dX10_size_80 rfl 0 rfl ?_
    refine gt_X_0_7 hA wd_444 dX10_size_81 ?_
    refine gt_X_2_2 hA wd_167 dX10_size_84 ?_
    exact k_iret hA hr rfl dX10_size_87
  have hf := k_iff hs_2 hf
  by_cases hs_3 : x1 = (3 : Int32)
  · have hf := k_ift hs_3 hf
    refine k_tin (tgt := 88) hA dX10_size_1 (by rw [hs_3]; decide) (by rw [hs_3]; decide) (by rw [hs_3]; rfl) rfl ?_
    subst hf
    refine k_aload_n (i := 0) hA dX10_size_88 rfl 0 rfl ?_
    refine gt_X_0_7 hA wd_444 dX10_size_89 ?_
    refine gt_X_2_3 hA wd_171 dX10_size_92 ?_
    exact k_iret hA hr rfl dX10_size_95
  have hf := k_iff hs_3 hf
  by_cases hs_4 : x1 = (4 : Int32)
  · have hf := k_ift hs_4 hf
    refine k_tin (tgt := 96) hA dX10_size_1 (by rw [hs_4]; decide) (by rw [hs_4]; decide) (by rw [hs_4]; rfl) rfl ?_
    subst hf
    refine k_aload_n (i := 0) hA dX10_size_96 rfl 0 rfl ?_
    refine gt_X_0_7 hA wd_444 dX10_size_97 ?_
    refine gt_X_2_4 hA wd_177 dX10_size_100 ?_
    exact k_iret hA hr rfl dX10_size_103
  have hf := k_iff hs_4 hf
  by_cases hs_5 : x1 = (5 : Int32)
  · have hf := k_ift hs_5 hf
    refine k_tin (tgt := 104) hA dX10_size_1 (by rw [hs_5]; decide) (by rw [hs_5]; decide) (by rw [hs_5]; rfl) rfl ?_
    subst hf
    refine k_aload_n (i := 0) hA dX10_size_104 rfl 0 rfl ?_
    refine gt_X_0_7 hA wd_444 dX10_size_105 ?_
    refine gt_X_2_5 hA wd_180 dX10_size_108 ?_
    exact k_iret hA hr rfl dX10_size_111
  have hf := k_iff hs_5 hf
  by_cases hs_6 : x1 = (6 : Int32)
  · have hf := k_ift hs_6 hf
    refine k_tin (tgt := 112) hA dX10_size_1 (by rw [hs_6]; decide) (by rw [hs_6]; decide) (by rw [hs_6]; rfl) rfl ?_
    subst hf
    refine k_aload_n (i := 0) hA dX10_size_112 rfl 0 rfl ?_
    refine gt_X_0_7 hA wd_444 dX10_size_113 ?_
    refine gt_X_2_6 hA wd_183 dX10_size_116 ?_
    refine k_callSi (As := [.int (t.1 2 6)]) (rest := []) hA (m_In_bitCount_0f7a4 l G (k_WX G.2.1 a tl t) (t.1 2 6) rfl) cd_J6_bitCount_0f7a4 wd_871 (Nat.le_of_ble_eq_true rfl) rfl rfl (Nat.le_of_ble_eq_true rfl) dX10_size_119 ?_
    exact k_iret hA hr rfl dX10_size_122
  have hf := k_iff hs_6 hf
  by_cases hs_7 : x1 = (7 : Int32)
  · have hf := k_ift hs_7 hf
    refine k_tin (tgt := 123) hA dX10_size_1 (by rw [hs_7]; decide) (by rw [hs_7]; decide) (by rw [hs_7]; rfl) rfl ?_
    subst hf
    refine k_aload_n (i := 0) hA dX10_size_123 rfl 0 rfl ?_
    refine gt_X_0_7 hA wd_444 dX10_size_124 ?_
    refine gt_X_2_7 hA wd_188 dX10_size_127 ?_
    exact k_iret hA hr rfl dX10_size_130
  have hf := k_iff hs_7 hf
  by_cases hs_8 : x1 = (8 : Int32)
  · have hf := k_ift hs_8 hf
    refine k_tin (tgt := 131) hA dX10_size_1 (by rw [hs_8]; decide) (by rw [hs_8]; decide) (by rw [hs_8]; rfl) rfl ?_
    subst hf
    refine k_aload_n (i := 0) hA dX10_size_131 rfl 0 rfl ?_
    refine gt_X_0_6 hA wd_443 dX10_size_132 ?_
    refine gt_X_34_1 hA wd_414 dX10_size_135 ?_
    exact k_iret hA hr rfl dX10_size_138
  have hf := k_iff hs_8 hf
  by_cases hs_9 : x1 = (9 : Int32)
  · have hf := k_ift hs_9 hf
    refine k_tin (tgt := 139) hA dX10_size_1 (by rw [hs_9]; decide) (by rw [hs_9]; decide) (by rw [hs_9]; rfl) rfl ?_
    subst hf
    refine k_aload_n (i := 0) hA dX10_size_139 rfl 0 rfl ?_
    refine gt_X_0_6 hA wd_443 dX10_size_140 ?_
    refine gt_X_34_2 hA wd_416 dX10_size_143 ?_
    exact k_iret hA hr rfl dX10_size_146
  have hf := k_iff hs_9 hf
  by_cases hs_10 : x1 = (10 : Int32)
  · have hf := k_ift hs_10 hf
    refine k_tin (tgt := 147) hA dX10_size_1 (by rw [hs_10]; decide) (by rw [hs_10]; decide) (by rw [hs_10]; rfl) rfl ?_
    subst hf
    refine k_aload_n (i := 0) hA dX10_size_147 rfl 0 rfl ?_
    refine gt_X_0_6 hA wd_443 dX10_size_148 ?_
    refine gt_X_34_3 hA wd_418 dX10_size_151 ?_
    exact k_iret hA hr rfl dX10_size_154
  have hf := k_iff hs_10 hf
  by_cases hs_11 : x1 = (11 : Int32)
  · have hf := k_ift hs_11 hf
    refine k_tin (tgt := 155) hA dX10_size_1 (by rw [hs_11]; decide) (by rw [hs_11]; decide) (by rw [hs_11]; rfl) rfl ?_
    subst hf
    refine k_aload_n (i := 0) hA dX10_size_155 rfl 0 rfl ?_
    refine gt_X_0_0 hA wd_437 dX10_size_156 ?_
    refine gt_X_18_2 hA wd_258 dX10_size_159 ?_
    exact k_iret hA hr rfl dX10_size_162
  have hf := k_iff hs_11 hf
  refine k_tout (tgt := 163) hA dX10_size_1 (k_sw0_11 hs_0 hs_1 hs_2 hs_3 hs_4 hs_5 hs_6 hs_7 hs_8 hs_9 hs_10 hs_11) rfl ?_
  subst hf
  refine k_iconst hA dX10_size_163 kc_i_m1 ?_
  exact k_iret hA hr rfl dX10_size_164

def f_X_trouble (t : k_St) : Int32 := (t.1 0 12)
theorem m_X_trouble (l : Launch) (G : k_G) (a : Nat → Nat) (tl : Value) (t : k_St) {r : Int32} (hf : f_X_trouble t = r) : k_CI l G yX10_trouble cX10_trouble 1 (some .int) 1 (k_WX G.2.1 a tl t) [.ref (a 0)] r (k_WX G.2.1 a tl t) := by
  refine k_startI (lv := [(0, .ref (a 0))]) (by decide +kernel) (Nat.le_of_ble_eq_true rfl) rfl ?_
  intro p e s m args below meth c hA hr
  have hA : k_Amb p s m args meth c cX10_trouble 1 "TaleShares" G _ := hA
  unfold f_X_trouble at hf
  subst hf
  refine k_aload_n (i := 0) hA dX10_trouble_0 rfl 0 rfl ?_
  refine gt_X_0_9 hA wd_446 dX10_trouble_1 ?_
  exact k_iret hA hr rfl dX10_trouble_4

