theorem dX2_countRests_0 : decode cX2_countRests 0 = .ok (.iconst 0, 1) := by decide +kernel
theorem dX2_countRests_1 : decode cX2_countRests 1 = .ok (.istore_n 1, 1) := by decide +kernel
theorem dX2_countRests_2 : decode cX2_countRests 2 = .ok (.iconst 0, 1) := by decide +kernel
theorem dX2_countRests_3 : decode cX2_countRests 3 = .ok (.istore_n 2, 1) := by decide +kernel
theorem dX2_countRests_4 : decode cX2_countRests 4 = .ok (.iload_n 2, 1) := by decide +kernel
theorem dX2_countRests_5 : decode cX2_countRests 5 = .ok (.bipush 6, 2) := by decide +kernel
theorem dX2_countRests_7 : decode cX2_countRests 7 = .ok (.if_icmp .gt 35, 3) := by decide +kernel
theorem dX2_countRests_10 : decode cX2_countRests 10 = .ok (.iconst 0, 1) := by decide +kernel
theorem dX2_countRests_11 : decode cX2_countRests 11 = .ok (.istore_n 3, 1) := by decide +kernel
theorem dX2_countRests_12 : decode cX2_countRests 12 = .ok (.iload_n 3, 1) := by decide +kernel
theorem dX2_countRests_13 : decode cX2_countRests 13 = .ok (.bipush 6, 2) := by decide +kernel
theorem dX2_countRests_15 : decode cX2_countRests 15 = .ok (.if_icmp .gt 21, 3) := by decide +kernel
theorem dX2_countRests_18 : decode cX2_countRests 18 = .ok (.iload_n 0, 1) := by decide +kernel
theorem dX2_countRests_19 : decode cX2_countRests 19 = .ok (.iload_n 2, 1) := by decide +kernel
theorem dX2_countRests_20 : decode cX2_countRests 20 = .ok (.iload_n 3, 1) := by decide +kernel
theorem dX2_countRests_21 : decode cX2_countRests 21 = .ok (.invokestatic 19, 3) := by decide +kernel
theorem dX2_countRests_24 : decode cX2_countRests 24 = .ok (.ifCond .eq 6, 3) := by decide +kernel
theorem dX2_countRests_27 : decode cX2_countRests 27 = .ok (.iinc 1 1, 3) := by decide +kernel
theorem dX2_countRests_30 : decode cX2_countRests 30 = .ok (.iinc 3 1, 3) := by decide +kernel
theorem dX2_countRests_33 : decode cX2_countRests 33 = .ok (.goto (-21), 3) := by decide +kernel
theorem dX2_countRests_36 : decode cX2_countRests 36 = .ok (.iinc 2 1, 3) := by decide +kernel
theorem dX2_countRests_39 : decode cX2_countRests 39 = .ok (.goto (-35), 3) := by decide +kernel
theorem dX2_countRests_42 : decode cX2_countRests 42 = .ok (.iload_n 1, 1) := by decide +kernel
theorem dX2_countRests_43 : decode cX2_countRests 43 = .ok (.ireturn, 1) := by decide +kernel
theorem dX2_isRest_0 : decode cX2_isRest 0 = .ok (.iload_n 0, 1) := by decide +kernel
theorem dX2_isRest_1 : decode cX2_isRest 1 = .ok (.iload_n 1, 1) := by decide +kernel
theorem dX2_isRest_2 : decode cX2_isRest 2 = .ok (.iload_n 2, 1) := by decide +kernel
theorem dX2_isRest_3 : decode cX2_isRest 3 = .ok (.invokestatic 15, 3) := by decide +kernel
theorem dX2_isRest_6 : decode cX2_isRest 6 = .ok (.ifCond .eq 16, 3) := by decide +kernel
theorem dX2_isRest_9 : decode cX2_isRest 9 = .ok (.iload_n 0, 1) := by decide +kernel
theorem dX2_isRest_10 : decode cX2_isRest 10 = .ok (.iload_n 2, 1) := by decide +kernel
theorem dX2_isRest_11 : decode cX2_isRest 11 = .ok (.iload_n 1, 1) := by decide +kernel
theorem dX2_isRest_12 : decode cX2_isRest 12 = .ok (.invokestatic 15, 3) := by decide +kernel
theorem dX2_isRest_15 : decode cX2_isRest 15 = .ok (.ifCond .eq 7, 3) := by decide +kernel
theorem dX2_isRest_18 : decode cX2_isRest 18 = .ok (.iconst 1, 1) := by decide +kernel
theorem dX2_isRest_19 : decode cX2_isRest 19 = .ok (.goto 4, 3) := by decide +kernel
theorem dX2_isRest_22 : decode cX2_isRest 22 = .ok (.iconst 0, 1) := by decide +kernel
theorem dX2_isRest_23 : decode cX2_isRest 23 = .ok (.ireturn, 1) := by decide +kernel
theorem dX2_isBest_0 : decode cX2_isBest 0 = .ok (.iconst 0, 1) := by decide +kernel
theorem dX2_isBest_1 : decode cX2_isBest 1 = .ok (.istore_n 3, 1) := by decide +kernel
theorem dX2_isBest_2 : decode cX2_isBest 2 = .ok (.iload_n 3, 1) := by decide +kernel
theorem dX2_isBest_3 : decode cX2_isBest 3 = .ok (.bipush 6, 2) := by decide +kernel
theorem dX2_isBest_5 : decode cX2_isBest 5 = .ok (.if_icmp .gt 26, 3) := by decide +kernel
theorem dX2_isBest_8 : decode cX2_isBest 8 = .ok (.iload_n 0, 1) := by decide +kernel
theorem dX2_isBest_9 : decode cX2_isBest 9 = .ok (.iload_n 3, 1) := by decide +kernel
theorem dX2_isBest_10 : decode cX2_isBest 10 = .ok (.iload_n 2, 1) := by decide +kernel
theorem dX2_isBest_11 : decode cX2_isBest 11 = .ok (.invokestatic 11, 3) := by decide +kernel
theorem dX2_isBest_14 : decode cX2_isBest 14 = .ok (.iload_n 0, 1) := by decide +kernel
theorem dX2_isBest_15 : decode cX2_isBest 15 = .ok (.iload_n 1, 1) := by decide +kernel
theorem dX2_isBest_16 : decode cX2_isBest 16 = .ok (.iload_n 2, 1) := by decide +kernel
theorem dX2_isBest_17 : decode cX2_isBest 17 = .ok (.invokestatic 11, 3) := by decide +kernel
theorem dX2_isBest_20 : decode cX2_isBest 20 = .ok (.if_icmp .le 5, 3) := by decide +kernel
theorem dX2_isBest_23 : decode cX2_isBest 23 = .ok (.iconst 0, 1) := by decide +kernel
theorem dX2_isBest_24 : decode cX2_isBest 24 = .ok (.ireturn, 1) := by decide +kernel
theorem dX2_isBest_25 : decode cX2_isBest 25 = .ok (.iinc 3 1, 3) := by decide +kernel
theorem dX2_isBest_28 : decode cX2_isBest 28 = .ok (.goto (-26), 3) := by decide +kernel
theorem dX2_isBest_31 : decode cX2_isBest 31 = .ok (.iconst 1, 1) := by decide +kernel
theorem dX2_isBest_32 : decode cX2_isBest 32 = .ok (.ireturn, 1) := by decide +kernel
theorem dX2_has_0 : decode cX2_has 0 = .ok (.iload_n 1, 1) := by decide +kernel
theorem dX2_has_1 : decode cX2_has 1 = .ok (.iload_n 2, 1) := by decide +kernel
theorem dX2_has_2 : decode cX2_has 2 = .ok (.if_icmp .ge 6, 3) := by decide +kernel
theorem dX2_has_5 : decode cX2_has 5 = .ok (.iload_n 1, 1) := by decide +kernel
theorem dX2_has_6 : decode cX2_has 6 = .ok (.ineg, 1) := by decide +kernel
theorem dX2_has_7 : decode cX2_has 7 = .ok (.ireturn, 1) := by decide +kernel
theorem dX2_has_8 : decode cX2_has 8 = .ok (.iload_n 1, 1) := by decide +kernel
theorem dX2_has_9 : decode cX2_has 9 = .ok (.iload_n 2, 1) := by decide +kernel
theorem dX2_has_10 : decode cX2_has 10 = .ok (.if_icmp .le 9, 3) := by decide +kernel
theorem dX2_has_13 : decode cX2_has 13 = .ok (.iload_n 0, 1) := by decide +kernel
theorem dX2_has_14 : decode cX2_has 14 = .ok (.iconst 2, 1) := by decide +kernel
theorem dX2_has_15 : decode cX2_has 15 = .ok (.iadd, 1) := by decide +kernel
theorem dX2_has_16 : decode cX2_has 16 = .ok (.goto 4, 3) := by decide +kernel
theorem dX2_has_19 : decode cX2_has 19 = .ok (.iload_n 0, 1) := by decide +kernel
theorem dX2_has_20 : decode cX2_has 20 = .ok (.iload_n 1, 1) := by decide +kernel
theorem dX2_has_21 : decode cX2_has 21 = .ok (.isub, 1) := by decide +kernel
theorem dX2_has_22 : decode cX2_has 22 = .ok (.ireturn, 1) := by decide +kernel
theorem dX2_firstRest_0 : decode cX2_firstRest 0 = .ok (.iconst 0, 1) := by decide +kernel
theorem dX2_firstRest_1 : decode cX2_firstRest 1 = .ok (.istore_n 1, 1) := by decide +kernel
theorem dX2_firstRest_2 : decode cX2_firstRest 2 = .ok (.iload_n 1, 1) := by decide +kernel
theorem dX2_firstRest_3 : decode cX2_firstRest 3 = .ok (.bipush 6, 2) := by decide +kernel
theorem dX2_firstRest_5 : decode cX2_firstRest 5 = .ok (.if_icmp .gt 39, 3) := by decide +kernel
theorem dX2_firstRest_8 : decode cX2_firstRest 8 = .ok (.iconst 0, 1) := by decide +kernel
theorem dX2_firstRest_9 : decode cX2_firstRest 9 = .ok (.istore_n 2, 1) := by decide +kernel
theorem dX2_firstRest_10 : decode cX2_firstRest 10 = .ok (.iload_n 2, 1) := by decide +kernel
theorem dX2_firstRest_11 : decode cX2_firstRest 11 = .ok (.bipush 6, 2) := by decide +kernel
theorem dX2_firstRest_13 : decode cX2_firstRest 13 = .ok (.if_icmp .gt 25, 3) := by decide +kernel
theorem dX2_firstRest_16 : decode cX2_firstRest 16 = .ok (.iload_n 0, 1) := by decide +kernel
theorem dX2_firstRest_17 : decode cX2_firstRest 17 = .ok (.iload_n 1, 1) := by decide +kernel
theorem dX2_firstRest_18 : decode cX2_firstRest 18 = .ok (.iload_n 2, 1) := by decide +kernel
theorem dX2_firstRest_19 : decode cX2_firstRest 19 = .ok (.invokestatic 19, 3) := by decide +kernel
theorem dX2_firstRest_22 : decode cX2_firstRest 22 = .ok (.ifCond .eq 10, 3) := by decide +kernel
theorem dX2_firstRest_25 : decode cX2_firstRest 25 = .ok (.bipush 10, 2) := by decide +kernel
theorem dX2_firstRest_27 : decode cX2_firstRest 27 = .ok (.iload_n 1, 1) := by decide +kernel
theorem dX2_firstRest_28 : decode cX2_firstRest 28 = .ok (.imul, 1) := by decide +kernel
theorem dX2_firstRest_29 : decode cX2_firstRest 29 = .ok (.iload_n 2, 1) := by decide +kernel
theorem dX2_firstRest_30 : decode cX2_firstRest 30 = .ok (.iadd, 1) := by decide +kernel
theorem dX2_firstRest_31 : decode cX2_firstRest 31 = .ok (.ireturn, 1) := by decide +kernel
theorem dX2_firstRest_32 : decode cX2_firstRest 32 = .ok (.iinc 2 1, 3) := by decide +kernel
theorem dX2_firstRest_35 : decode cX2_firstRest 35 = .ok (.goto (-25), 3) := by decide +kernel
theorem dX2_firstRest_38 : decode cX2_firstRest 38 = .ok (.iinc 1 1, 3) := by decide +kernel
theorem dX2_firstRest_41 : decode cX2_firstRest 41 = .ok (.goto (-39), 3) := by decide +kernel
theorem dX2_firstRest_44 : decode cX2_firstRest 44 = .ok (.bipush (-2), 2) := by decide +kernel
theorem dX2_firstRest_46 : decode cX2_firstRest 46 = .ok (.ireturn, 1) := by decide +kernel
theorem dX0_ofTelling_0 : decode cX0_ofTelling 0 = .ok (.bipush 100, 2) := by decide +kernel
theorem dX0_ofTelling_2 : decode cX0_ofTelling 2 = .ok (.iload_n 0, 1) := by decide +kernel
theorem dX0_ofTelling_3 : decode cX0_ofTelling 3 = .ok (.isub, 1) := by decide +kernel
theorem dX0_ofTelling_4 : decode cX0_ofTelling 4 = .ok (.i2l, 1) := by decide +kernel
theorem dX0_ofTelling_5 : decode cX0_ofTelling 5 = .ok (.iload_n 2, 1) := by decide +kernel
theorem dX0_ofTelling_6 : decode cX0_ofTelling 6 = .ok (.invokestatic 9, 3) := by decide +kernel
theorem dX0_ofTelling_9 : decode cX0_ofTelling 9 = .ok (.lstore 4, 2) := by decide +kernel
theorem dX0_ofTelling_11 : decode cX0_ofTelling 11 = .ok (.iload_n 2, 1) := by decide +kernel
theorem dX0_ofTelling_12 : decode cX0_ofTelling 12 = .ok (.iload_n 1, 1) := by decide +kernel
theorem dX0_ofTelling_13 : decode cX0_ofTelling 13 = .ok (.if_icmp .lt 17, 3) := by decide +kernel
theorem dX0_ofTelling_16 : decode cX0_ofTelling 16 = .ok (.lload 4, 2) := by decide +kernel
theorem dX0_ofTelling_18 : decode cX0_ofTelling 18 = .ok (.ldc2_w 15, 3) := by decide +kernel
theorem dX0_ofTelling_21 : decode cX0_ofTelling 21 = .ok (.iload_n 2, 1) := by decide +kernel
theorem dX0_ofTelling_22 : decode cX0_ofTelling 22 = .ok (.invokestatic 9, 3) := by decide +kernel
theorem dX0_ofTelling_25 : decode cX0_ofTelling 25 = .ok (.iload_n 3, 1) := by decide +kernel
theorem dX0_ofTelling_26 : decode cX0_ofTelling 26 = .ok (.invokestatic 17, 3) := by decide +kernel
theorem dX0_ofTelling_29 : decode cX0_ofTelling 29 = .ok (.lreturn, 1) := by decide +kernel
theorem dX0_ofTelling_30 : decode cX0_ofTelling 30 = .ok (.lload 4, 2) := by decide +kernel
theorem dX0_ofTelling_32 : decode cX0_ofTelling 32 = .ok (.iload_n 0, 1) := by decide +kernel
theorem dX0_ofTelling_33 : decode cX0_ofTelling 33 = .ok (.i2l, 1) := by decide +kernel
theorem dX0_ofTelling_34 : decode cX0_ofTelling 34 = .ok (.lmul, 1) := by decide +kernel
theorem dX0_ofTelling_35 : decode cX0_ofTelling 35 = .ok (.ldc2_w 15, 3) := by decide +kernel
theorem dX0_ofTelling_38 : decode cX0_ofTelling 38 = .ok (.iload_n 2, 1) := by decide +kernel
theorem dX0_ofTelling_39 : decode cX0_ofTelling 39 = .ok (.iconst 1, 1) := by decide +kernel
theorem dX0_ofTelling_40 : decode cX0_ofTelling 40 = .ok (.iadd, 1) := by decide +kernel
theorem dX0_ofTelling_41 : decode cX0_ofTelling 41 = .ok (.invokestatic 9, 3) := by decide +kernel
theorem dX0_ofTelling_44 : decode cX0_ofTelling 44 = .ok (.iload_n 3, 1) := by decide +kernel
theorem dX0_ofTelling_45 : decode cX0_ofTelling 45 = .ok (.invokestatic 17, 3) := by decide +kernel
theorem dX0_ofTelling_48 : decode cX0_ofTelling 48 = .ok (.lreturn, 1) := by decide +kernel
theorem dX0_power_0 : decode cX0_power 0 = .ok (.lconst 1, 1) := by decide +kernel
theorem dX0_power_1 : decode cX0_power 1 = .ok (.lstore_n 3, 1) := by decide +kernel
theorem dX0_power_2 : decode cX0_power 2 = .ok (.iconst 0, 1) := by decide +kernel
theorem dX0_power_3 : decode cX0_power 3 = .ok (.istore 5, 2) := by decide +kernel
theorem dX0_power_5 : decode cX0_power 5 = .ok (.iload 5, 2) := by decide +kernel
theorem dX0_power_7 : decode cX0_power 7 = .ok (.iload_n 2, 1) := by decide +kernel
theorem dX0_power_8 : decode cX0_power 8 = .ok (.if_icmp .ge 13, 3) := by decide +kernel
theorem dX0_power_11 : decode cX0_power 11 = .ok (.lload_n 3, 1) := by decide +kernel
theorem dX0_power_12 : decode cX0_power 12 = .ok (.lload_n 0, 1) := by decide +kernel
theorem dX0_power_13 : decode cX0_power 13 = .ok (.lmul, 1) := by decide +kernel
theorem dX0_power_14 : decode cX0_power 14 = .ok (.lstore_n 3, 1) := by decide +kernel
theorem dX0_power_15 : decode cX0_power 15 = .ok (.iinc 5 1, 3) := by decide +kernel
theorem dX0_power_18 : decode cX0_power 18 = .ok (.goto (-13), 3) := by decide +kernel
theorem dX0_power_21 : decode cX0_power 21 = .ok (.lload_n 3, 1) := by decide +kernel
theorem dX0_power_22 : decode cX0_power 22 = .ok (.lreturn, 1) := by decide +kernel
theorem dX0_inLowest_0 : decode cX0_inLowest 0 = .ok (.lload_n 0, 1) := by decide +kernel
theorem dX0_inLowest_1 : decode cX0_inLowest 1 = .ok (.lload_n 2, 1) := by decide +kernel
theorem dX0_inLowest_2 : decode cX0_inLowest 2 = .ok (.invokestatic 21, 3) := by decide +kernel
theorem dX0_inLowest_5 : decode cX0_inLowest 5 = .ok (.lstore 5, 2) := by decide +kernel
theorem dX0_inLowest_7 : decode cX0_inLowest 7 = .ok (.iload 4, 2) := by decide +kernel
theorem dX0_inLowest_9 : decode cX0_inLowest 9 = .ok (.ifCond .eq 7, 3) := by decide +kernel
theorem dX0_inLowest_12 : decode cX0_inLowest 12 = .ok (.lload_n 2, 1) := by decide +kernel
theorem dX0_inLowest_13 : decode cX0_inLowest 13 = .ok (.goto 4, 3) := by decide +kernel
theorem dX0_inLowest_16 : decode cX0_inLowest 16 = .ok (.lload_n 0, 1) := by decide +kernel
theorem dX0_inLowest_17 : decode cX0_inLowest 17 = .ok (.lload 5, 2) := by decide +kernel
theorem dX0_inLowest_19 : decode cX0_inLowest 19 = .ok (.ldiv, 1) := by decide +kernel
theorem dX0_inLowest_20 : decode cX0_inLowest 20 = .ok (.lreturn, 1) := by decide +kernel
theorem dX0_commonOf_0 : decode cX0_commonOf 0 = .ok (.lload_n 0, 1) := by decide +kernel
theorem dX0_commonOf_1 : decode cX0_commonOf 1 = .ok (.lstore 4, 2) := by decide +kernel
theorem dX0_commonOf_3 : decode cX0_commonOf 3 = .ok (.lload_n 2, 1) := by decide +kernel
theorem dX0_commonOf_4 : decode cX0_commonOf 4 = .ok (.lstore 6, 2) := by decide +kernel
theorem dX0_commonOf_6 : decode cX0_commonOf 6 = .ok (.iconst 0, 1) := by decide +kernel
theorem dX0_commonOf_7 : decode cX0_commonOf 7 = .ok (.istore 8, 2) := by decide +kernel
theorem dX0_commonOf_9 : decode cX0_commonOf 9 = .ok (.iload 8, 2) := by decide +kernel
theorem dX0_commonOf_11 : decode cX0_commonOf 11 = .ok (.bipush 100, 2) := by decide +kernel
theorem dX0_commonOf_13 : decode cX0_commonOf 13 = .ok (.if_icmp .ge 31, 3) := by decide +kernel
theorem dX0_commonOf_16 : decode cX0_commonOf 16 = .ok (.lload 6, 2) := by decide +kernel
theorem dX0_commonOf_18 : decode cX0_commonOf 18 = .ok (.lconst 0, 1) := by decide +kernel
theorem dX0_commonOf_19 : decode cX0_commonOf 19 = .ok (.lcmp, 1) := by decide +kernel
theorem dX0_commonOf_20 : decode cX0_commonOf 20 = .ok (.ifCond .eq 24, 3) := by decide +kernel
theorem dX0_commonOf_23 : decode cX0_commonOf 23 = .ok (.lload 4, 2) := by decide +kernel
theorem dX0_commonOf_25 : decode cX0_commonOf 25 = .ok (.lload 6, 2) := by decide +kernel
theorem dX0_commonOf_27 : decode cX0_commonOf 27 = .ok (.lrem, 1) := by decide +kernel
theorem dX0_commonOf_28 : decode cX0_commonOf 28 = .ok (.lstore 9, 2) := by decide +kernel
theorem dX0_commonOf_30 : decode cX0_commonOf 30 = .ok (.lload 6, 2) := by decide +kernel
theorem dX0_commonOf_32 : decode cX0_commonOf 32 = .ok (.lstore 4, 2) := by decide +kernel
theorem dX0_commonOf_34 : decode cX0_commonOf 34 = .ok (.lload 9, 2) := by decide +kernel
theorem dX0_commonOf_36 : decode cX0_commonOf 36 = .ok (.lstore 6, 2) := by decide +kernel
theorem dX0_commonOf_38 : decode cX0_commonOf 38 = .ok (.iinc 8 1, 3) := by decide +kernel
theorem dX0_commonOf_41 : decode cX0_commonOf 41 = .ok (.goto (-32), 3) := by decide +kernel
theorem dX0_commonOf_44 : decode cX0_commonOf 44 = .ok (.lload 4, 2) := by decide +kernel
theorem dX0_commonOf_46 : decode cX0_commonOf 46 = .ok (.lconst 1, 1) := by decide +kernel
theorem dX0_commonOf_47 : decode cX0_commonOf 47 = .ok (.invokestatic 25, 3) := by decide +kernel
theorem dX0_commonOf_50 : decode cX0_commonOf 50 = .ok (.lreturn, 1) := by decide +kernel
theorem dX0_ofMean_0 : decode cX0_ofMean 0 = .ok (.lconst 0, 1) := by decide +kernel
theorem dX0_ofMean_1 : decode cX0_ofMean 1 = .ok (.lstore_n 3, 1) := by decide +kernel
theorem dX0_ofMean_2 : decode cX0_ofMean 2 = .ok (.iconst 1, 1) := by decide +kernel
theorem dX0_ofMean_3 : decode cX0_ofMean 3 = .ok (.istore 5, 2) := by decide +kernel
theorem dX0_ofMean_5 : decode cX0_ofMean 5 = .ok (.iload 5, 2) := by decide +kernel
theorem dX0_ofMean_7 : decode cX0_ofMean 7 = .ok (.iload_n 1, 1) := by decide +kernel
theorem dX0_ofMean_8 : decode cX0_ofMean 8 = .ok (.if_icmp .gt 33, 3) := by decide +kernel
theorem dX0_ofMean_11 : decode cX0_ofMean 11 = .ok (.lload_n 3, 1) := by decide +kernel
theorem dX0_ofMean_12 : decode cX0_ofMean 12 = .ok (.bipush 100, 2) := by decide +kernel
theorem dX0_ofMean_14 : decode cX0_ofMean 14 = .ok (.iload_n 0, 1) := by decide +kernel
theorem dX0_ofMean_15 : decode cX0_ofMean 15 = .ok (.isub, 1) := by decide +kernel
theorem dX0_ofMean_16 : decode cX0_ofMean 16 = .ok (.i2l, 1) := by decide +kernel
theorem dX0_ofMean_17 : decode cX0_ofMean 17 = .ok (.iload 5, 2) := by decide +kernel
theorem dX0_ofMean_19 : decode cX0_ofMean 19 = .ok (.invokestatic 9, 3) := by decide +kernel
theorem dX0_ofMean_22 : decode cX0_ofMean 22 = .ok (.ldc2_w 15, 3) := by decide +kernel
theorem dX0_ofMean_25 : decode cX0_ofMean 25 = .ok (.iload_n 1, 1) := by decide +kernel
theorem dX0_ofMean_26 : decode cX0_ofMean 26 = .ok (.iload 5, 2) := by decide +kernel
theorem dX0_ofMean_28 : decode cX0_ofMean 28 = .ok (.isub, 1) := by decide +kernel
theorem dX0_ofMean_29 : decode cX0_ofMean 29 = .ok (.invokestatic 9, 3) := by decide +kernel
theorem dX0_ofMean_32 : decode cX0_ofMean 32 = .ok (.lmul, 1) := by decide +kernel
theorem dX0_ofMean_33 : decode cX0_ofMean 33 = .ok (.ladd, 1) := by decide +kernel
theorem dX0_ofMean_34 : decode cX0_ofMean 34 = .ok (.lstore_n 3, 1) := by decide +kernel
theorem dX0_ofMean_35 : decode cX0_ofMean 35 = .ok (.iinc 5 1, 3) := by decide +kernel
theorem dX0_ofMean_38 : decode cX0_ofMean 38 = .ok (.goto (-33), 3) := by decide +kernel
theorem dX0_ofMean_41 : decode cX0_ofMean 41 = .ok (.lload_n 3, 1) := by decide +kernel
theorem dX0_ofMean_42 : decode cX0_ofMean 42 = .ok (.ldc2_w 15, 3) := by decide +kernel
theorem dX0_ofMean_45 : decode cX0_ofMean 45 = .ok (.iload_n 1, 1) := by decide +kernel
theorem dX0_ofMean_46 : decode cX0_ofMean 46 = .ok (.invokestatic 9, 3) := by decide +kernel
theorem dX0_ofMean_49 : decode cX0_ofMean 49 = .ok (.iload_n 2, 1) := by decide +kernel
theorem dX0_ofMean_50 : decode cX0_ofMean 50 = .ok (.invokestatic 17, 3) := by decide +kernel
theorem dX0_ofMean_53 : decode cX0_ofMean 53 = .ok (.lreturn, 1) := by decide +kernel
def f_Fa_has (x0 : Int32) (x1 : Int32) (x2 : Int32) : Int32 := (if x2 ≤ x1 then (if x1 ≤ x2 then (x0 - x1) else ((x0 + (2 : Int32)) - x1)) else (0 - x1))
theorem m_Fa_has (l : Launch) (G : k_G) (w : va_W) (x0 : Int32) (x1 : Int32) (x2 : Int32) {r : Int32} (hf : f_Fa_has x0 x1 x2 = r) : k_CI l G yX2_has cX2_has 3 (some .int) 1 w [.int x0, .int x1, .int x2] r w := by
  refine k_startI (lv := [(0, .int x0), (1, .int x1), (2, .int x2)]) (by decide +kernel) (Nat.le_of_ble_eq_true rfl) rfl ?_
  intro p e s m args below meth c hA hr
  have hA : k_Amb p s m args meth c cX2_has 3 "TaleShares$Fathers" G _ := hA
  unfold f_Fa_has at hf
  refine k_iload_n (i := 1) hA dX2_has_0 rfl 1 rfl ?_
  refine k_iload_n (i := 2) hA dX2_has_1 rfl 2 rfl ?_
  refine k_icmp_ge (tgt := 8) hA dX2_has_2 rfl (fun hc => ?_) (fun hc => ?_)
  · have hf := k_ift hc hf
    refine k_iload_n (i := 1) hA dX2_has_8 rfl 1 rfl ?_
    refine k_iload_n (i := 2) hA dX2_has_9 rfl 2 rfl ?_
    refine k_icmp_le (tgt := 19) hA dX2_has_10 rfl (fun hc => ?_) (fun hc => ?_)
    · have hf := k_ift hc hf
      subst hf
      refine k_iload_n (i := 0) hA dX2_has_19 rfl 0 rfl ?_
      refine k_iload_n (i := 1) hA dX2_has_20 rfl 1 rfl ?_
      refine k_isub hA dX2_has_21 ?_
      exact k_iret hA hr rfl dX2_has_22
    have hf := k_iff hc hf
    subst hf
    refine k_iload_n (i := 0) hA dX2_has_13 rfl 0 rfl ?_
    refine k_iconst hA dX2_has_14 kc_i_2 ?_
    refine k_iadd hA dX2_has_15 ?_
    refine k_goto (tgt := 20) hA dX2_has_16 rfl ?_
    refine k_iload_n (i := 1) hA dX2_has_20 rfl 1 rfl ?_
    refine k_isub hA dX2_has_21 ?_
    exact k_iret hA hr rfl dX2_has_22
  have hf := k_iff hc hf
  subst hf
  refine k_iload_n (i := 1) hA dX2_has_5 rfl 1 rfl ?_
  refine k_ineg hA dX2_has_6 ?_
  exact k_iret hA hr rfl dX2_has_7

def f_Fa_isBest_2 (n : Nat) : Nat → Int32 → Int32 → Int32 → Int32 → Option Bool
  | 0, _, _, _, _ => none
  | k + 1, x0, x1, x2, x3 => (if (6 : Int32) < x3 then some true else (if (f_Fa_has x0 x3 x2) ≤ (f_Fa_has x0 x1 x2) then k_lt (x3 + (1 : Int32)) (fun x3_1 => f_Fa_isBest_2 n k x0 x1 x2 x3_1) else some false))
def f_Fa_isBest (n : Nat) (x0 : Int32) (x1 : Int32) (x2 : Int32) : Option Bool := f_Fa_isBest_2 n n x0 x1 x2 (0 : Int32)
theorem m_Fa_isBest_2 {p : Program} (l : Launch) {e : Env} {s : State} {m : MethodId} {args : Array Value} {below : List Frame} {meth : Method} {c : Code} (G : k_G) (w : va_W) (n : Nat) {w0 : va_W} {r : Bool} (hA : k_Amb p s m args meth c cX2_isBest 4 "TaleShares$Fathers" G (va_A w0 s.heap.size)) (hr : meth.sig.returnType = (some .boolean)) : ∀ (k : Nat) (x0 : Int32) (x1 : Int32) (x2 : Int32) (x3 : Int32), f_Fa_isBest_2 n k x0 x1 x2 x3 = some r → k_Go p l e (k_rm 2) s m args below meth c (k_QI G w0 (k_b r) w args s below) 4 G (va_A w0 s.heap.size) w 2 [(0, .int x0), (1, .int x1), (2, .int x2), (3, .int x3)] [] := by
  intro k
  induction k with
  | zero => intro x0 x1 x2 x3 hf; cases hf
  | succ k ih =>
  intro x0 x1 x2 x3 hf
  rw [f_Fa_isBest_2] at hf
  refine k_iload_n (i := 3) hA dX2_isBest_2 rfl 3 rfl ?_
  refine k_bipush hA dX2_isBest_3 kc_b_6 ?_
  refine k_icmp_gt (tgt := 31) hA dX2_isBest_5 rfl (fun hc => ?_) (fun hc => ?_)
  · have hf := k_ift hc hf
    obtain rfl := k_r1 hf
    refine k_iconst hA dX2_isBest_31 kc_i_1 ?_
    exact k_iret hA hr (k_narB (k_b01 _)) dX2_isBest_32
  have hf := k_iff hc hf
  refine k_iload_n (i := 0) hA dX2_isBest_8 rfl 0 rfl ?_
  refine k_iload_n (i := 3) hA dX2_isBest_9 rfl 3 rfl ?_
  refine k_iload_n (i := 2) hA dX2_isBest_10 rfl 2 rfl ?_
  refine k_callSi (As := [.int x0, .int x3, .int x2]) (rest := []) hA (m_Fa_has l G w x0 x3 x2 rfl) cd_X2_has wd_1024 (Nat.le_of_ble_eq_true rfl) rfl rfl (Nat.le_of_ble_eq_true rfl) dX2_isBest_11 ?_
  refine k_iload_n (i := 0) hA dX2_isBest_14 rfl 0 rfl ?_
  refine k_iload_n (i := 1) hA dX2_isBest_15 rfl 1 rfl ?_
  refine k_iload_n (i := 2) hA dX2_isBest_16 rfl 2 rfl ?_
  refine k_callSi (As := [.int x0, .int x1, .int x2]) (rest := [.int (f_Fa_has x0 x3 x2)]) hA (m_Fa_has l G w x0 x1 x2 rfl) cd_X2_has wd_1024 (Nat.le_of_ble_eq_true rfl) rfl rfl (Nat.le_of_ble_eq_true rfl) dX2_isBest_17 ?_
  refine k_icmp_le (tgt := 25) hA dX2_isBest_20 rfl (fun hc => ?_) (fun hc => ?_)
  · have hf := k_ift hc hf
    obtain ⟨x3_1, ex3_1, hf⟩ := k_lt_e hf
    refine k_iinc (j := 3) (v := x3_1) (lv' := [(3, .int x3_1), (0, .int x0), (1, .int x1), (2, .int x2)]) hA dX2_isBest_25 rfl (k_inc ex3_1 kc_i_1) (Nat.le_of_ble_eq_true rfl) rfl ?_
    refine k_goto (tgt := 2) hA dX2_isBest_28 rfl ?_
    refine k_pick (lv' := [(0, .int x0), (1, .int x1), (2, .int x2), (3, .int x3_1)]) [1, 2, 3, 0] rfl ?_
    exact ih x0 x1 x2 x3_1 hf
  have hf := k_iff hc hf
  obtain rfl := k_r1 hf
  refine k_iconst hA dX2_isBest_23 kc_i_0 ?_
  exact k_iret hA hr (k_narB (k_b01 _)) dX2_isBest_24

theorem m_Fa_isBest (l : Launch) (G : k_G) (w : va_W) (n : Nat) (x0 : Int32) (x1 : Int32) (x2 : Int32) {r : Bool} (hf : f_Fa_isBest n x0 x1 x2 = some r) : k_CI l G yX2_isBest cX2_isBest 4 (some .boolean) 2 w [.int x0, .int x1, .int x2] (k_b r) w := by
  refine k_startI (lv := [(0, .int x0), (1, .int x1), (2, .int x2)]) (by decide +kernel) (Nat.le_of_ble_eq_true rfl) rfl ?_
  intro p e s m args below meth c hA hr
  have hA : k_Amb p s m args meth c cX2_isBest 4 "TaleShares$Fathers" G _ := hA
  unfold f_Fa_isBest at hf
  refine k_iconst hA dX2_isBest_0 kc_i_0 ?_
  refine k_istore_n (i := 3) (lv' := [(3, .int (0 : Int32)), (0, .int x0), (1, .int x1), (2, .int x2)]) hA dX2_isBest_1 rfl rfl (Nat.le_of_ble_eq_true rfl) rfl ?_
  refine k_pick (lv' := [(0, .int x0), (1, .int x1), (2, .int x2), (3, .int (0 : Int32))]) [1, 2, 3, 0] rfl ?_
  exact m_Fa_isBest_2 l G w n hA hr n x0 x1 x2 (0 : Int32) hf

def f_Fa_isRest (n : Nat) (x0 : Int32) (x1 : Int32) (x2 : Int32) : Option Bool := k_cp (f_Fa_isBest n x0 x1 x2) (fun r_1 => (if (k_b r_1) = 0 then some false else k_cp (f_Fa_isBest n x0 x2 x1) (fun r_2 => (if (k_b r_2) = 0 then some false else some true))))
theorem m_Fa_isRest (l : Launch) (G : k_G) (w : va_W) (n : Nat) (x0 : Int32) (x1 : Int32) (x2 : Int32) {r : Bool} (hf : f_Fa_isRest n x0 x1 x2 = some r) : k_CI l G yX2_isRest cX2_isRest 3 (some .boolean) 3 w [.int x0, .int x1, .int x2] (k_b r) w := by
  refine k_startI (lv := [(0, .int x0), (1, .int x1), (2, .int x2)]) (by decide +kernel) (Nat.le_of_ble_eq_true rfl) rfl ?_
  intro p e s m args below meth c hA hr
  have hA : k_Amb p s m args meth c cX2_isRest 3 "TaleShares$Fathers" G _ := hA
  unfold f_Fa_isRest at hf
  obtain ⟨r_1, hr_1, hf⟩ := k_cp_e hf
  refine k_iload_n (i := 0) hA dX2_isRest_0 rfl 0 rfl ?_
  refine k_iload_n (i := 1) hA dX2_isRest_1 rfl 1 rfl ?_
  refine k_iload_n (i := 2) hA dX2_isRest_2 rfl 2 rfl ?_
  refine k_callSi (As := [.int x0, .int x1, .int x2]) (rest := []) hA (m_Fa_isBest l G w n x0 x1 x2 hr_1) cd_X2_isBest wd_1021 (Nat.le_of_ble_eq_true rfl) rfl rfl (Nat.le_of_ble_eq_true rfl) dX2_isRest_3 ?_
  refine k_if_eq (tgt := 22) hA dX2_isRest_6 rfl (fun hc => ?_) (fun hc => ?_)
  · have hf := k_ift hc hf
    obtain rfl := k_r1 hf
    refine k_iconst hA dX2_isRest_22 kc_i_0 ?_
    exact k_iret hA hr (k_narB (k_b01 _)) dX2_isRest_23
  have hf := k_iff hc hf
  obtain ⟨r_2, hr_2, hf⟩ := k_cp_e hf
  refine k_iload_n (i := 0) hA dX2_isRest_9 rfl 0 rfl ?_
  refine k_iload_n (i := 2) hA dX2_isRest_10 rfl 2 rfl ?_
  refine k_iload_n (i := 1) hA dX2_isRest_11 rfl 1 rfl ?_
  refine k_callSi (As := [.int x0, .int x2, .int x1]) (rest := []) hA (m_Fa_isBest l G w n x0 x2 x1 hr_2) cd_X2_isBest wd_1021 (Nat.le_of_ble_eq_true rfl) rfl rfl (Nat.le_of_ble_eq_true rfl) dX2_isRest_12 ?_
  refine k_if_eq (tgt := 22) hA dX2_isRest_15 rfl (fun hc => ?_) (fun hc => ?_)
  · have hf := k_ift hc hf
    obtain rfl := k_r1 hf
    refine k_iconst hA dX2_isRest_22 kc_i_0 ?_
    exact k_iret hA hr (k_narB (k_b01 _)) dX2_isRest_23
  have hf := k_iff hc hf
  obtain rfl := k_r1 hf
  refine k_iconst hA dX2_isRest_18 kc_i_1 ?_
  refine k_goto (tgt := 23) hA dX2_isRest_19 rfl ?_
  exact k_iret hA hr (k_narB (k_b01 _)) dX2_isRest_23

def f_Fa_countRests_12 (n : Nat) (rec4 : Int32 → Int32 → Int32 → Option Int32) : Nat → Int32 → Int32 → Int32 → Int32 → Option Int32
  | 0, _, _, _, _ => none
  | k + 1, x0, x1, x2, x3 => (if (6 : Int32) < x3 then k_lt (x2 + (1 : Int32)) (fun x2_1 => rec4 x0 x1 x2_1) else k_cp (f_Fa_isRest n x0 x2 x3) (fun r_2 => (if (k_b r_2) = 0 then k_lt (x3 + (1 : Int32)) (fun x3_3 => f_Fa_countRests_12 n rec4 k x0 x1 x2 x3_3) else k_lt (x1 + (1 : Int32)) (fun x1_4 => k_lt (x3 + (1 : Int32)) (fun x3_5 => f_Fa_countRests_12 n rec4 k x0 x1_4 x2 x3_5)))))
def f_Fa_countRests_4 (n : Nat) : Nat → Int32 → Int32 → Int32 → Option Int32
  | 0, _, _, _ => none
  | k + 1, x0, x1, x2 => (if (6 : Int32) < x2 then some x1 else f_Fa_countRests_12 n (f_Fa_countRests_4 n k) n x0 x1 x2 (0 : Int32))
def f_Fa_countRests (n : Nat) (x0 : Int32) : Option Int32 := f_Fa_countRests_4 n n x0 (0 : Int32) (0 : Int32)
theorem m_Fa_countRests_12 {p : Program} (l : Launch) {e : Env} {s : State} {m : MethodId} {args : Array Value} {below : List Frame} {meth : Method} {c : Code} (G : k_G) (w : va_W) (n : Nat) {w0 : va_W} {r : Int32} (hA : k_Amb p s m args meth c cX2_countRests 4 "TaleShares$Fathers" G (va_A w0 s.heap.size)) (hr : meth.sig.returnType = (some .int)) (rec4 : Int32 → Int32 → Int32 → Option Int32) (hrec4 : ∀ (x0 : Int32) (x1 : Int32) (x2 : Int32), rec4 x0 x1 x2 = some r → k_Go p l e (k_rm 4) s m args below meth c (k_QI G w0 r w args s below) 4 G (va_A w0 s.heap.size) w 4 [(0, .int x0), (1, .int x1), (2, .int x2)] []) : ∀ (k : Nat) (x0 : Int32) (x1 : Int32) (x2 : Int32) (x3 : Int32), f_Fa_countRests_12 n rec4 k x0 x1 x2 x3 = some r → k_Go p l e (k_rm 4) s m args below meth c (k_QI G w0 r w args s below) 4 G (va_A w0 s.heap.size) w 12 [(0, .int x0), (1, .int x1), (2, .int x2), (3, .int x3)] [] := by
  intro k
  induction k with
  | zero => intro x0 x1 x2 x3 hf; cases hf
  | succ k ih =>
  intro x0 x1 x2 x3 hf
  rw [f_Fa_countRests_12] at hf
  refine k_iload_n (i := 3) hA dX2_countRests_12 rfl 3 rfl ?_
  refine k_bipush hA dX2_countRests_13 kc_b_6 ?_
  refine k_icmp_gt (tgt := 36) hA dX2_countRests_15 rfl (fun hc => ?_) (fun hc => ?_)
  · have hf := k_ift hc hf
    obtain ⟨x2_1, ex2_1, hf⟩ := k_lt_e hf
    refine k_iinc (j := 2) (v := x2_1) (lv' := [(2, .int x2_1), (0, .int x0), (1, .int x1), (3, .int x3)]) hA dX2_countRests_36 rfl (k_inc ex2_1 kc_i_1) (Nat.le_of_ble_eq_true rfl) rfl ?_
    refine k_goto (tgt := 4) hA dX2_countRests_39 rfl ?_
    refine k_pick (lv' := [(0, .int x0), (1, .int x1), (2, .int x2_1)]) [1, 2, 0] rfl ?_
    exact hrec4 x0 x1 x2_1 hf
  have hf := k_iff hc hf
  obtain ⟨r_2, hr_2, hf⟩ := k_cp_e hf
  refine k_iload_n (i := 0) hA dX2_countRests_18 rfl 0 rfl ?_
  refine k_iload_n (i := 2) hA dX2_countRests_19 rfl 2 rfl ?_
  refine k_iload_n (i := 3) hA dX2_countRests_20 rfl 3 rfl ?_
  refine k_callSi (As := [.int x0, .int x2, .int x3]) (rest := []) hA (m_Fa_isRest l G w n x0 x2 x3 hr_2) cd_X2_isRest wd_1018 (Nat.le_of_ble_eq_true rfl) rfl rfl (Nat.le_of_ble_eq_true rfl) dX2_countRests_21 ?_
  refine k_if_eq (tgt := 30) hA dX2_countRests_24 rfl (fun hc => ?_) (fun hc => ?_)
  · have hf := k_ift hc hf
    obtain ⟨x3_3, ex3_3, hf⟩ := k_lt_e hf
    refine k_iinc (j := 3) (v := x3_3) (lv' := [(3, .int x3_3), (0, .int x0), (1, .int x1), (2, .int x2)]) hA dX2_countRests_30 rfl (k_inc ex3_3 kc_i_1) (Nat.le_of_ble_eq_true rfl) rfl ?_
    refine k_goto (tgt := 12) hA dX2_countRests_33 rfl ?_
    refine k_pick (lv' := [(0, .int x0), (1, .int x1), (2, .int x2), (3, .int x3_3)]) [1, 2, 3, 0] rfl ?_
    exact ih x0 x1 x2 x3_3 hf
  have hf := k_iff hc hf
  obtain ⟨x1_4, ex1_4, hf⟩ := k_lt_e hf
  obtain ⟨x3_5, ex3_5, hf⟩ := k_lt_e hf
  refine k_iinc (j := 1) (v := x1_4) (lv' := [(1, .int x1_4), (0, .int x0), (2, .int x2), (3, .int x3)]) hA dX2_countRests_27 rfl (k_inc ex1_4 kc_i_1) (Nat.le_of_ble_eq_true rfl) rfl ?_
  refine k_iinc (j := 3) (v := x3_5) (lv' := [(3, .int x3_5), (1, .int x1_4), (0, .int x0), (2, .int x2)]) hA dX2_countRests_30 rfl (k_inc ex3_5 kc_i_1) (Nat.le_of_ble_eq_true rfl) rfl ?_
  refine k_goto (tgt := 12) hA dX2_countRests_33 rfl ?_
  refine k_pick (lv' := [(0, .int x0), (1, .int x1_4), (2, .int x2), (3, .int x3_5)]) [2, 1, 3, 0] rfl ?_
  exact ih x0 x1_4 x2 x3_5 hf

theorem m_Fa_countRests_4 {p : Program} (l : Launch) {e : Env} {s : State} {m : MethodId} {args : Array Value} {below : List Frame} {meth : Method} {c : Code} (G : k_G) (w : va_W) (n : Nat) {w0 : va_W} {r : Int32} (hA : k_Amb p s m args meth c cX2_countRests 4 "TaleShares$Fathers" G (va_A w0 s.heap.size)) (hr : meth.sig.returnType = (some .int)) : ∀ (k : Nat) (x0 : Int32) (x1 : Int32) (x2 : Int32), f_Fa_countRests_4 n k x0 x1 x2 = some r → k_Go p l e (k_rm 4) s m args below meth c (k_QI G w0 r w args s below) 4 G (va_A w0 s.heap.size) w 4 [(0, .int x0), (1, .int x1), (2, .int x2)] [] := by
  intro k
  induction k with
  | zero => intro x0 x1 x2 hf; cases hf
  | succ k ih =>
  intro x0 x1 x2 hf
  rw [f_Fa_countRests_4] at hf
  refine k_iload_n (i := 2) hA dX2_countRests_4 rfl 2 rfl ?_
  refine k_bipush hA dX2_countRests_5 kc_b_6 ?_
  refine k_icmp_gt (tgt := 42) hA dX2_countRests_7 rfl (fun hc => ?_) (fun hc => ?_)
  · have hf := k_ift hc hf
    obtain rfl := k_r1 hf
    refine k_iload_n (i := 1) hA dX2_countRests_42 rfl 1 rfl ?_
    exact k_iret hA hr rfl dX2_countRests_43
  have hf := k_iff hc hf
  refine k_iconst hA dX2_countRests_10 kc_i_0 ?_
  refine k_istore_n (i := 3) (lv' := [(3, .int (0 : Int32)), (0, .int x0), (1, .int x1), (2, .int x2)]) hA dX2_countRests_11 rfl rfl (Nat.le_of_ble_eq_true rfl) rfl ?_
  refine k_pick (lv' := [(0, .int x0), (1, .int x1), (2, .int x2), (3, .int (0 : Int32))]) [1, 2, 3, 0] rfl ?_
  exact m_Fa_countRests_12 l G w n hA hr (f_Fa_countRests_4 n k) ih n x0 x1 x2 (0 : Int32) hf

theorem m_Fa_countRests (l : Launch) (G : k_G) (w : va_W) (n : Nat) (x0 : Int32) {r : Int32} (hf : f_Fa_countRests n x0 = some r) : k_CI l G yX2_countRests cX2_countRests 4 (some .int) 4 w [.int x0] r w := by
  refine k_startI (lv := [(0, .int x0)]) (by decide +kernel) (Nat.le_of_ble_eq_true rfl) rfl ?_
  intro p e s m args below meth c hA hr
  have hA : k_Amb p s m args meth c cX2_countRests 4 "TaleShares$Fathers" G _ := hA
  unfold f_Fa_countRests at hf
  refine k_iconst hA dX2_countRests_0 kc_i_0 ?_
  refine k_istore_n (i := 1) (lv' := [(1, .int (0 : Int32)), (0, .int x0)]) hA dX2_countRests_1 rfl rfl (Nat.le_of_ble_eq_true rfl) rfl ?_
  refine k_iconst hA dX2_countRests_2 kc_i_0 ?_
  refine k_istore_n (i := 2) (lv' := [(2, .int (0 : Int32)), (1, .int (0 : Int32)), (0, .int x0)]) hA dX2_countRests_3 rfl rfl (Nat.le_of_ble_eq_true rfl) rfl ?_
  refine k_pick (lv' := [(0, .int x0), (1, .int (0 : Int32)), (2, .int (0 : Int32))]) [2, 1, 0] rfl ?_
  exact m_Fa_countRests_4 l G w n hA hr n x0 (0 : Int32) (0 : Int32) hf

def f_Fa_firstRest_10 (n : Nat) (rec2 : Int32 → Int32 → Option Int32) : Nat → Int32 → Int32 → Int32 → Option Int32
  | 0, _, _, _ => none
  | k + 1, x0, x1, x2 => (if (6 : Int32) < x2 then k_lt (x1 + (1 : Int32)) (fun x1_1 => rec2 x0 x1_1) else k_cp (f_Fa_isRest n x0 x1 x2) (fun r_2 => (if (k_b r_2) = 0 then k_lt (x2 + (1 : Int32)) (fun x2_3 => f_Fa_firstRest_10 n rec2 k x0 x1 x2_3) else some (((10 : Int32) * x1) + x2))))
def f_Fa_firstRest_2 (n : Nat) : Nat → Int32 → Int32 → Option Int32
  | 0, _, _ => none
  | k + 1, x0, x1 => (if (6 : Int32) < x1 then some (-2 : Int32) else f_Fa_firstRest_10 n (f_Fa_firstRest_2 n k) n x0 x1 (0 : Int32))
def f_Fa_firstRest (n : Nat) (x0 : Int32) : Option Int32 := f_Fa_firstRest_2 n n x0 (0 : Int32)
theorem m_Fa_firstRest_10 {p : Program} (l : Launch) {e : Env} {s : State} {m : MethodId} {args : Array Value} {below : List Frame} {meth : Method} {c : Code} (G : k_G) (w : va_W) (n : Nat) {w0 : va_W} {r : Int32} (hA : k_Amb p s m args meth c cX2_firstRest 3 "TaleShares$Fathers" G (va_A w0 s.heap.size)) (hr : meth.sig.returnType = (some .int)) (rec2 : Int32 → Int32 → Option Int32) (hrec2 : ∀ (x0 : Int32) (x1 : Int32), rec2 x0 x1 = some r → k_Go p l e (k_rm 4) s m args below meth c (k_QI G w0 r w args s below) 3 G (va_A w0 s.heap.size) w 2 [(0, .int x0), (1, .int x1)] []) : ∀ (k : Nat) (x0 : Int32) (x1 : Int32) (x2 : Int32), f_Fa_firstRest_10 n rec2 k x0 x1 x2 = some r → k_Go p l e (k_rm 4) s m args below meth c (k_QI G w0 r w args s below) 3 G (va_A w0 s.heap.size) w 10 [(0, .int x0), (1, .int x1), (2, .int x2)] [] := by
  intro k
  induction k with
  | zero => intro x0 x1 x2 hf; cases hf
  | succ k ih =>
  intro x0 x1 x2 hf
  rw [f_Fa_firstRest_10] at hf
  refine k_iload_n (i := 2) hA dX2_firstRest_10 rfl 2 rfl ?_
  refine k_bipush hA dX2_firstRest_11 kc_b_6 ?_
  refine k_icmp_gt (tgt := 38) hA dX2_firstRest_13 rfl (fun hc => ?_) (fun hc => ?_)
  · have hf := k_ift hc hf
    obtain ⟨x1_1, ex1_1, hf⟩ := k_lt_e hf
    refine k_iinc (j := 1) (v := x1_1) (lv' := [(1, .int x1_1), (0, .int x0), (2, .int x2)]) hA dX2_firstRest_38 rfl (k_inc ex1_1 kc_i_1) (Nat.le_of_ble_eq_true rfl) rfl ?_
    refine k_goto (tgt := 2) hA dX2_firstRest_41 rfl ?_
    refine k_pick (lv' := [(0, .int x0), (1, .int x1_1)]) [1, 0] rfl ?_
    exact hrec2 x0 x1_1 hf
  have hf := k_iff hc hf
  obtain ⟨r_2, hr_2, hf⟩ := k_cp_e hf
  refine k_iload_n (i := 0) hA dX2_firstRest_16 rfl 0 rfl ?_
  refine k_iload_n (i := 1) hA dX2_firstRest_17 rfl 1 rfl ?_
  refine k_iload_n (i := 2) hA dX2_firstRest_18 rfl 2 rfl ?_
  refine k_callSi (As := [.int x0, .int x1, .int x2]) (rest := []) hA (m_Fa_isRest l G w n x0 x1 x2 hr_2) cd_X2_isRest wd_1018 (Nat.le_of_ble_eq_true rfl) rfl rfl (Nat.le_of_ble_eq_true rfl) dX2_firstRest_19 ?_
  refine k_if_eq (tgt := 32) hA dX2_firstRest_22 rfl (fun hc => ?_) (fun hc => ?_)
  · have hf := k_ift hc hf
    obtain ⟨x2_3, ex2_3, hf⟩ := k_lt_e hf
    refine k_iinc (j := 2) (v := x2_3) (lv' := [(2, .int x2_3), (0, .int x0), (1, .int x1)]) hA dX2_firstRest_32 rfl (k_inc ex2_3 kc_i_1) (Nat.le_of_ble_eq_true rfl) rfl ?_
    refine k_goto (tgt := 10) hA dX2_firstRest_35 rfl ?_
    refine k_pick (lv' := [(0, .int x0), (1, .int x1), (2, .int x2_3)]) [1, 2, 0] rfl ?_
    exact ih x0 x1 x2_3 hf
  have hf := k_iff hc hf
  obtain rfl := k_r1 hf
  refine k_bipush hA dX2_firstRest_25 kc_b_10 ?_
  refine k_iload_n (i := 1) hA dX2_firstRest_27 rfl 1 rfl ?_
  refine k_imul hA dX2_firstRest_28 ?_
  refine k_iload_n (i := 2) hA dX2_firstRest_29 rfl 2 rfl ?_
  refine k_iadd hA dX2_firstRest_30 ?_
  exact k_iret hA hr rfl dX2_firstRest_31

theorem m_Fa_firstRest_2 {p : Program} (l : Launch) {e : Env} {s : State} {m : MethodId} {args : Array Value} {below : List Frame} {meth : Method} {c : Code} (G : k_G) (w : va_W) (n : Nat) {w0 : va_W} {r : Int32} (hA : k_Amb p s m args meth c cX2_firstRest 3 "TaleShares$Fathers" G (va_A w0 s.heap.size)) (hr : meth.sig.returnType = (some .int)) : ∀ (k : Nat) (x0 : Int32) (x1 : Int32), f_Fa_firstRest_2 n k x0 x1 = some r → k_Go p l e (k_rm 4) s m args below meth c (k_QI G w0 r w args s below) 3 G (va_A w0 s.heap.size) w 2 [(0, .int x0), (1, .int x1)] [] := by
  intro k
  induction k with
  | zero => intro x0 x1 hf; cases hf
  | succ k ih =>
  intro x0 x1 hf
  rw [f_Fa_firstRest_2] at hf
  refine k_iload_n (i := 1) hA dX2_firstRest_2 rfl 1 rfl ?_
  refine k_bipush hA dX2_firstRest_3 kc_b_6 ?_
  refine k_icmp_gt (tgt := 44) hA dX2_firstRest_5 rfl (fun hc => ?_) (fun hc => ?_)
  · have hf := k_ift hc hf
    obtain rfl := k_r1 hf
    refine k_bipush hA dX2_firstRest_44 kc_b_m2 ?_
    exact k_iret hA hr rfl dX2_firstRest_46
  have hf := k_iff hc hf
  refine k_iconst hA dX2_firstRest_8 kc_i_0 ?_
  refine k_istore_n (i := 2) (lv' := [(2, .int (0 : Int32)), (0, .int x0), (1, .int x1)]) hA dX2_firstRest_9 rfl rfl (Nat.le_of_ble_eq_true rfl) rfl ?_
  refine k_pick (lv' := [(0, .int x0), (1, .int x1), (2, .int (0 : Int32))]) [1, 2, 0] rfl ?_
  exact m_Fa_firstRest_10 l G w n hA hr (f_Fa_firstRest_2 n k) ih n x0 x1 (0 : Int32) hf

theorem m_Fa_firstRest (l : Launch) (G : k_G) (w : va_W) (n : Nat) (x0 : Int32) {r : Int32} (hf : f_Fa_firstRest n x0 = some r) : k_CI l G yX2_firstRest cX2_firstRest 3 (some .int) 4 w [.int x0] r w := by
  refine k_startI (lv := [(0, .int x0)]) (by decide +kernel) (Nat.le_of_ble_eq_true rfl) rfl ?_
  intro p e s m args below meth c hA hr
  have hA : k_Amb p s m args meth c cX2_firstRest 3 "TaleShares$Fathers" G _ := hA
  unfold f_Fa_firstRest at hf
  refine k_iconst hA dX2_firstRest_0 kc_i_0 ?_
  refine k_istore_n (i := 1) (lv' := [(1, .int (0 : Int32)), (0, .int x0)]) hA dX2_firstRest_1 rfl rfl (Nat.le_of_ble_eq_true rfl) rfl ?_
  refine k_pick (lv' := [(0, .int x0), (1, .int (0 : Int32))]) [1, 0] rfl ?_
  exact m_Fa_firstRest_2 l G w n hA hr n x0 (0 : Int32) hf

def f_Ch_power_5 (n : Nat) : Nat → Int64 → Int32 → Int64 → Int32 → Option Int64
  | 0, _, _, _, _ => none
  | k + 1, x0, x2, x3, x5 => (if x2 ≤ x5 then some x3 else k_lt (x3 * x0) (fun x3_1 => k_lt (x5 + (1 : Int32)) (fun x5_2 => f_Ch_power_5 n k x0 x2 x3_1 x5_2)))
def f_Ch_power (n : Nat) (x0 : Int64) (x2 : Int32) : Option Int64 := f_Ch_power_5 n n x0 x2 (1 : Int64) (0 : Int32)
theorem m_Ch_power_5 {p : Program} (l : Launch) {e : Env} {s : State} {m : MethodId} {args : Array Value} {below : List Frame} {meth : Method} {c : Code} (G : k_G) (w : va_W) (n : Nat) {w0 : va_W} {r : Int64} (hA : k_Amb p s m args meth c cX0_power 6 "TaleShares$Chance" G (va_A w0 s.heap.size)) (hr : meth.sig.returnType = (some .long)) : ∀ (k : Nat) (x0 : Int64) (x2 : Int32) (x3 : Int64) (x5 : Int32), f_Ch_power_5 n k x0 x2 x3 x5 = some r → k_Go p l e (k_rm 1) s m args below meth c (k_QL G w0 r w args s below) 6 G (va_A w0 s.heap.size) w 5 [(0, .long x0), (2, .int x2), (3, .long x3), (5, .int x5)] [] := by
  intro k
  induction k with
  | zero => intro x0 x2 x3 x5 hf; cases hf
  | succ k ih =>
  intro x0 x2 x3 x5 hf
  rw [f_Ch_power_5] at hf
  refine k_iload hA dX0_power_5 3 rfl ?_
  refine k_iload_n (i := 2) hA dX0_power_7 rfl 1 rfl ?_
  refine k_icmp_ge (tgt := 21) hA dX0_power_8 rfl (fun hc => ?_) (fun hc => ?_)
  · have hf := k_ift hc hf
    obtain rfl := k_r1 hf
    refine k_lload_n (i := 3) hA dX0_power_21 rfl 2 rfl ?_
    exact k_lret hA hr dX0_power_22
  have hf := k_iff hc hf
  obtain ⟨x3_1, ex3_1, hf⟩ := k_lt_e hf
  obtain ⟨x5_2, ex5_2, hf⟩ := k_lt_e hf
  refine k_lload_n (i := 3) hA dX0_power_11 rfl 2 rfl ?_
  refine k_lload_n (i := 0) hA dX0_power_12 rfl 0 rfl ?_
  refine k_lmul hA dX0_power_13 ?_
  refine k_lstore_n (i := 3) (lv' := [(3, .long x3_1), (0, .long x0), (2, .int x2), (5, .int x5)]) hA dX0_power_14 rfl ex3_1 (Nat.le_of_ble_eq_true rfl) rfl ?_
  refine k_iinc (j := 3) (v := x5_2) (lv' := [(5, .int x5_2), (3, .long x3_1), (0, .long x0), (2, .int x2)]) hA dX0_power_15 rfl (k_inc ex5_2 kc_i_1) (Nat.le_of_ble_eq_true rfl) rfl ?_
  refine k_goto (tgt := 5) hA dX0_power_18 rfl ?_
  refine k_pick (lv' := [(0, .long x0), (2, .int x2), (3, .long x3_1), (5, .int x5_2)]) [2, 3, 1, 0] rfl ?_
  exact ih x0 x2 x3_1 x5_2 hf

theorem m_Ch_power (l : Launch) (G : k_G) (w : va_W) (n : Nat) (x0 : Int64) (x2 : Int32) {r : Int64} (hf : f_Ch_power n x0 x2 = some r) : k_CL l G yX0_power cX0_power 6 (some .long) 1 w [.long x0, .int x2] r w := by
  refine k_startL (lv := [(0, .long x0), (2, .int x2)]) (by decide +kernel) (Nat.le_of_ble_eq_true rfl) rfl ?_
  intro p e s m args below meth c hA hr
  have hA : k_Amb p s m args meth c cX0_power 6 "TaleShares$Chance" G _ := hA
  unfold f_Ch_power at hf
  refine k_lconst hA dX0_power_0 kc_l_1 ?_
  refine k_lstore_n (i := 3) (lv' := [(3, .long (1 : Int64)), (0, .long x0), (2, .int x2)]) hA dX0_power_1 rfl rfl (Nat.le_of_ble_eq_true rfl) rfl ?_
  refine k_iconst hA dX0_power_2 kc_i_0 ?_
  refine k_istore (lv' := [(5, .int (0 : Int32)), (3, .long (1 : Int64)), (0, .long x0), (2, .int x2)]) hA dX0_power_3 rfl (Nat.le_of_ble_eq_true rfl) rfl ?_
  refine k_pick (lv' := [(0, .long x0), (2, .int x2), (3, .long (1 : Int64)), (5, .int (0 : Int32))]) [2, 3, 1, 0] rfl ?_
  exact m_Ch_power_5 l G w n hA hr n x0 x2 (1 : Int64) (0 : Int32) hf

def f_Ch_commonOf_9 (n : Nat) : Nat → Int64 → Int64 → Int32 → Option Int64
  | 0, _, _, _ => none
  | k + 1, x4, x6, x8 => (if (100 : Int32) ≤ x8 then some (if (1 : Int64) < x4 then x4 else (1 : Int64)) else (if (lg_cmp x6 (0 : Int64)) = 0 then some (if (1 : Int64) < x4 then x4 else (1 : Int64)) else k_gd (¬ x6 = 0) (k_lt (x4 - x4 / x6 * x6) (fun x9_2 => k_lt (x8 + (1 : Int32)) (fun x8_3 => f_Ch_commonOf_9 n k x6 x9_2 x8_3)))))
def f_Ch_commonOf (n : Nat) (x0 : Int64) (x2 : Int64) : Option Int64 := f_Ch_commonOf_9 n n x0 x2 (0 : Int32)
theorem m_Ch_commonOf_9 {p : Program} (l : Launch) {e : Env} {s : State} {m : MethodId} {args : Array Value} {below : List Frame} {meth : Method} {c : Code} (G : k_G) (w : va_W) (n : Nat) {w0 : va_W} {r : Int64} (hA : k_Amb p s m args meth c cX0_commonOf 11 "TaleShares$Chance" G (va_A w0 s.heap.size)) (hr : meth.sig.returnType = (some .long)) : ∀ (k : Nat) (x4 : Int64) (x6 : Int64) (x8 : Int32), f_Ch_commonOf_9 n k x4 x6 x8 = some r → k_Go p l e (k_rm 1) s m args below meth c (k_QL G w0 r w args s below) 11 G (va_A w0 s.heap.size) w 9 [(4, .long x4), (6, .long x6), (8, .int x8)] [] := by
  intro k
  induction k with
  | zero => intro x4 x6 x8 hf; cases hf
  | succ k ih =>
  intro x4 x6 x8 hf
  rw [f_Ch_commonOf_9] at hf
  refine k_iload hA dX0_commonOf_9 2 rfl ?_
  refine k_bipush hA dX0_commonOf_11 kc_b_100 ?_
  refine k_icmp_ge (tgt := 44) hA dX0_commonOf_13 rfl (fun hc => ?_) (fun hc => ?_)
  · have hf := k_ift hc hf
    obtain rfl := k_r1 hf
    refine k_lload hA dX0_commonOf_44 0 rfl ?_
    refine k_lconst hA dX0_commonOf_46 kc_l_1 ?_
    refine k_mmax_long hA wd_1053 wd_1054 wd_129 wd_1055 (Nat.le_of_ble_eq_true rfl) (Nat.le_of_ble_eq_true rfl) dX0_commonOf_47 ?_
    exact k_lret hA hr dX0_commonOf_50
  have hf := k_iff hc hf
  refine k_lload hA dX0_commonOf_16 1 rfl ?_
  refine k_lconst hA dX0_commonOf_18 kc_l_0 ?_
  refine k_lcmp hA dX0_commonOf_19 ?_
  refine k_if_eq (tgt := 44) hA dX0_commonOf_20 rfl (fun hc => ?_) (fun hc => ?_)
  · have hf := k_ift hc hf
    obtain rfl := k_r1 hf
    refine k_lload hA dX0_commonOf_44 0 rfl ?_
    refine k_lconst hA dX0_commonOf_46 kc_l_1 ?_
    refine k_mmax_long hA wd_1053 wd_1054 wd_129 wd_1055 (Nat.le_of_ble_eq_true rfl) (Nat.le_of_ble_eq_true rfl) dX0_commonOf_47 ?_
    exact k_lret hA hr dX0_commonOf_50
  have hf := k_iff hc hf
  obtain ⟨hn_1, hf⟩ := k_gd_e hf
  obtain ⟨x9_2, ex9_2, hf⟩ := k_lt_e hf
  obtain ⟨x8_3, ex8_3, hf⟩ := k_lt_e hf
  refine k_lload hA dX0_commonOf_23 0 rfl ?_
  refine k_lload hA dX0_commonOf_25 1 rfl ?_
  refine k_lrem hA dX0_commonOf_27 hn_1 ?_
  refine k_lstore (lv' := [(9, .long x9_2), (4, .long x4), (6, .long x6), (8, .int x8)]) hA dX0_commonOf_28 ex9_2 (Nat.le_of_ble_eq_true rfl) rfl ?_
  refine k_lload hA dX0_commonOf_30 2 rfl ?_
  refine k_lstore (lv' := [(4, .long x6), (9, .long x9_2), (6, .long x6), (8, .int x8)]) hA dX0_commonOf_32 rfl (Nat.le_of_ble_eq_true rfl) rfl ?_
  refine k_lload hA dX0_commonOf_34 1 rfl ?_
  refine k_lstore (lv' := [(6, .long x9_2), (4, .long x6), (9, .long x9_2), (8, .int x8)]) hA dX0_commonOf_36 rfl (Nat.le_of_ble_eq_true rfl) rfl ?_
  refine k_iinc (j := 3) (v := x8_3) (lv' := [(8, .int x8_3), (6, .long x9_2), (4, .long x6), (9, .long x9_2)]) hA dX0_commonOf_38 rfl (k_inc ex8_3 kc_i_1) (Nat.le_of_ble_eq_true rfl) rfl ?_
  refine k_goto (tgt := 9) hA dX0_commonOf_41 rfl ?_
  refine k_pick (lv' := [(4, .long x6), (6, .long x9_2), (8, .int x8_3)]) [2, 1, 0] rfl ?_
  exact ih x6 x9_2 x8_3 hf

theorem m_Ch_commonOf (l : Launch) (G : k_G) (w : va_W) (n : Nat) (x0 : Int64) (x2 : Int64) {r : Int64} (hf : f_Ch_commonOf n x0 x2 = some r) : k_CL l G yX0_commonOf cX0_commonOf 11 (some .long) 1 w [.long x0, .long x2] r w := by
  refine k_startL (lv := [(0, .long x0), (2, .long x2)]) (by decide +kernel) (Nat.le_of_ble_eq_true rfl) rfl ?_
  intro p e s m args below meth c hA hr
  have hA : k_Amb p s m args meth c cX0_commonOf 11 "TaleShares$Chance" G _ := hA
  unfold f_Ch_commonOf at hf
  refine k_lload_n (i := 0) hA dX0_commonOf_0 rfl 0 rfl ?_
  refine k_lstore (lv' := [(4, .long x0), (0, .long x0), (2, .long x2)]) hA dX0_commonOf_1 rfl (Nat.le_of_ble_eq_true rfl) rfl ?_
  refine k_lload_n (i := 2) hA dX0_commonOf_3 rfl 2 rfl ?_
  refine k_lstore (lv' := [(6, .long x2), (4, .long x0), (0, .long x0), (2, .long x2)]) hA dX0_commonOf_4 rfl (Nat.le_of_ble_eq_true rfl) rfl ?_
  refine k_iconst hA dX0_commonOf_6 kc_i_0 ?_
  refine k_istore (lv' := [(8, .int (0 : Int32)), (6, .long x2), (4, .long x0), (0, .long x0), (2, .long x2)]) hA dX0_commonOf_7 rfl (Nat.le_of_ble_eq_true rfl) rfl ?_
  refine k_pick (lv' := [(4, .long x0), (6, .long x2), (8, .int (0 : Int32))]) [2, 1, 0] rfl ?_
  exact m_Ch_commonOf_9 l G w n hA hr n x0 x2 (0 : Int32) hf

def f_Ch_inLowest (n : Nat) (x0 : Int64) (x2 : Int64) (x4 : Int32) : Option Int64 := k_cp (f_Ch_commonOf n x0 x2) (fun r_1 => (if x4 = 0 then k_gd (¬ r_1 = 0) (some (x0 / r_1)) else k_gd (¬ r_1 = 0) (some (x2 / r_1))))
theorem m_Ch_inLowest (l : Launch) (G : k_G) (w : va_W) (n : Nat) (x0 : Int64) (x2 : Int64) (x4 : Int32) {r : Int64} (hf : f_Ch_inLowest n x0 x2 x4 = some r) : k_CL l G yX0_inLowest cX0_inLowest 7 (some .long) 2 w [.long x0, .long x2, .int x4] r w := by
  refine k_startL (lv := [(0, .long x0), (2, .long x2), (4, .int x4)]) (by decide +kernel) (Nat.le_of_ble_eq_true rfl) rfl ?_
  intro p e s m args below meth c hA hr
  have hA : k_Amb p s m args meth c cX0_inLowest 7 "TaleShares$Chance" G _ := hA
  unfold f_Ch_inLowest at hf
  obtain ⟨r_1, hr_1, hf⟩ := k_cp_e hf
  refine k_lload_n (i := 0) hA dX0_inLowest_0 rfl 0 rfl ?_
  refine k_lload_n (i := 2) hA dX0_inLowest_1 rfl 1 rfl ?_
  refine k_callSl (As := [.long x0, .long x2]) (rest := []) hA (m_Ch_commonOf l G w n x0 x2 hr_1) cd_X0_commonOf wd_1050 (Nat.le_of_ble_eq_true rfl) rfl rfl (Nat.le_of_ble_eq_true rfl) dX0_inLowest_2 ?_
  refine k_lstore (lv' := [(5, .long r_1), (0, .long x0), (2, .long x2), (4, .int x4)]) hA dX0_inLowest_5 rfl (Nat.le_of_ble_eq_true rfl) rfl ?_
  refine k_iload hA dX0_inLowest_7 3 rfl ?_
  refine k_if_eq (tgt := 16) hA dX0_inLowest_9 rfl (fun hc => ?_) (fun hc => ?_)
  · have hf := k_ift hc hf
    obtain ⟨hn_2, hf⟩ := k_gd_e hf
    obtain rfl := k_r1 hf
    refine k_lload_n (i := 0) hA dX0_inLowest_16 rfl 1 rfl ?_
    refine k_lload hA dX0_inLowest_17 0 rfl ?_
    refine k_ldiv hA dX0_inLowest_19 hn_2 ?_
    exact k_lret hA hr dX0_inLowest_20
  have hf := k_iff hc hf
  obtain ⟨hn_3, hf⟩ := k_gd_e hf
  obtain rfl := k_r1 hf
  refine k_lload_n (i := 2) hA dX0_inLowest_12 rfl 2 rfl ?_
  refine k_goto (tgt := 17) hA dX0_inLowest_13 rfl ?_
  refine k_lload hA dX0_inLowest_17 0 rfl ?_
  refine k_ldiv hA dX0_inLowest_19 hn_3 ?_
  exact k_lret hA hr dX0_inLowest_20

def f_Ch_ofTelling (n : Nat) (x0 : Int32) (x1 : Int32) (x2 : Int32) (x3 : Int32) : Option Int64 := k_cp (f_Ch_power n (((100 : Int32) - x0).toInt64) x2) (fun r_1 => (if x2 < x1 then k_cp (f_Ch_power n (100 : Int64) (x2 + (1 : Int32))) (fun r_2 => k_cp (f_Ch_inLowest n (r_1 * (x0.toInt64)) r_2 x3) (fun r_3 => some r_3)) else k_cp (f_Ch_power n (100 : Int64) x2) (fun r_4 => k_cp (f_Ch_inLowest n r_1 r_4 x3) (fun r_5 => some r_5))))
theorem m_Ch_ofTelling (l : Launch) (G : k_G) (w : va_W) (n : Nat) (x0 : Int32) (x1 : Int32) (x2 : Int32) (x3 : Int32) {r : Int64} (hf : f_Ch_ofTelling n x0 x1 x2 x3 = some r) : k_CL l G yX0_ofTelling cX0_ofTelling 6 (some .long) 3 w [.int x0, .int x1, .int x2, .int x3] r w := by
  refine k_startL (lv := [(0, .int x0), (1, .int x1), (2, .int x2), (3, .int x3)]) (by decide +kernel) (Nat.le_of_ble_eq_true rfl) rfl ?_
  intro p e s m args below meth c hA hr
  have hA : k_Amb p s m args meth c cX0_ofTelling 6 "TaleShares$Chance" G _ := hA
  unfold f_Ch_ofTelling at hf
  obtain ⟨r_1, hr_1, hf⟩ := k_cp_e hf
  refine k_bipush hA dX0_ofTelling_0 kc_b_100 ?_
  refine k_iload_n (i := 0) hA dX0_ofTelling_2 rfl 0 rfl ?_
  refine k_isub hA dX0_ofTelling_3 ?_
  refine k_i2l hA dX0_ofTelling_4 ?_
  refine k_iload_n (i := 2) hA dX0_ofTelling_5 rfl 2 rfl ?_
  refine k_callSl (As := [.long (((100 : Int32) - x0).toInt64), .int x2]) (rest := []) hA (m_Ch_power l G w n (((100 : Int32) - x0).toInt64) x2 hr_1) cd_X0_power wd_1043 (Nat.le_of_ble_eq_true rfl) rfl rfl (Nat.le_of_ble_eq_true rfl) dX0_ofTelling_6 ?_
  refine k_lstore (lv' := [(4, .long r_1), (0, .int x0), (1, .int x1), (2, .int x2), (3, .int x3)]) hA dX0_ofTelling_9 rfl (Nat.le_of_ble_eq_true rfl) rfl ?_
  refine k_iload_n (i := 2) hA dX0_ofTelling_11 rfl 3 rfl ?_
  refine k_iload_n (i := 1) hA dX0_ofTelling_12 rfl 2 rfl ?_
  refine k_icmp_lt (tgt := 30) hA dX0_ofTelling_13 rfl (fun hc => ?_) (fun hc => ?_)
  · have hf := k_ift hc hf
    obtain ⟨r_2, hr_2, hf⟩ := k_cp_e hf
    obtain ⟨r_3, hr_3, hf⟩ := k_cp_e hf
    obtain rfl := k_r1 hf
    refine k_lload hA dX0_ofTelling_30 0 rfl ?_
    refine k_iload_n (i := 0) hA dX0_ofTelling_32 rfl 1 rfl ?_
    refine k_i2l hA dX0_ofTelling_33 ?_
    refine k_lmul hA dX0_ofTelling_34 ?_
    refine k_ldc2 hA wd_1046 dX0_ofTelling_35 ?_
    refine k_iload_n (i := 2) hA dX0_ofTelling_38 rfl 3 rfl ?_
    refine k_iconst hA dX0_ofTelling_39 kc_i_1 ?_
    refine k_iadd hA dX0_ofTelling_40 ?_
    refine k_callSl (As := [.long (100 : Int64), .int (x2 + (1 : Int32))]) (rest := [.long (r_1 * (x0.toInt64))]) hA (m_Ch_power l G w n (100 : Int64) (x2 + (1 : Int32)) hr_2) cd_X0_power wd_1043 (Nat.le_of_ble_eq_true rfl) rfl rfl (Nat.le_of_ble_eq_true rfl) dX0_ofTelling_41 ?_
    refine k_iload_n (i := 3) hA dX0_ofTelling_44 rfl 4 rfl ?_
    refine k_callSl (As := [.long (r_1 * (x0.toInt64)), .long r_2, .int x3]) (rest := []) hA (m_Ch_inLowest l G w n (r_1 * (x0.toInt64)) r_2 x3 hr_3) cd_X0_inLowest wd_1047 (Nat.le_of_ble_eq_true rfl) rfl rfl (Nat.le_of_ble_eq_true rfl) dX0_ofTelling_45 ?_
    exact k_lret hA hr dX0_ofTelling_48
  have hf := k_iff hc hf
  obtain ⟨r_4, hr_4, hf⟩ := k_cp_e hf
  obtain ⟨r_5, hr_5, hf⟩ := k_cp_e hf
  obtain rfl := k_r1 hf
  refine k_lload hA dX0_ofTelling_16 0 rfl ?_
  refine k_ldc2 hA wd_1046 dX0_ofTelling_18 ?_
  refine k_iload_n (i := 2) hA dX0_ofTelling_21 rfl 3 rfl ?_
  refine k_callSl (As := [.long (100 : Int64), .int x2]) (rest := [.long r_1]) hA (m_Ch_power l G w n (100 : Int64) x2 hr_4) cd_X0_power wd_1043 (Nat.le_of_ble_eq_true rfl) rfl rfl (Nat.le_of_ble_eq_true rfl) dX0_ofTelling_22 ?_
  refine k_iload_n (i := 3) hA dX0_ofTelling_25 rfl 4 rfl ?_
  refine k_callSl (As := [.long r_1, .long r_4, .int x3]) (rest := []) hA (m_Ch_inLowest l G w n r_1 r_4 x3 hr_5) cd_X0_inLowest wd_1047 (Nat.le_of_ble_eq_true rfl) rfl rfl (Nat.le_of_ble_eq_true rfl) dX0_ofTelling_26 ?_
  exact k_lret hA hr dX0_ofTelling_29

def f_Ch_ofMean_5 (n : Nat) : Nat → Int32 → Int32 → Int32 → Int64 → Int32 → Option Int64
  | 0, _, _, _, _, _ => none
  | k + 1, x0, x1, x2, x3, x5 => (if x1 < x5 then k_cp (f_Ch_power n (100 : Int64) x1) (fun r_1 => k_cp (f_Ch_inLowest n x3 r_1 x2) (fun r_2 => some r_2)) else k_cp (f_Ch_power n (((100 : Int32) - x0).toInt64) x5) (fun r_3 => k_cp (f_Ch_power n (100 : Int64) (x1 - x5)) (fun r_4 => k_lt (x3 + (r_3 * r_4)) (fun x3_5 => k_lt (x5 + (1 : Int32)) (fun x5_6 => f_Ch_ofMean_5 n k x0 x1 x2 x3_5 x5_6)))))
def f_Ch_ofMean (n : Nat) (x0 : Int32) (x1 : Int32) (x2 : Int32) : Option Int64 := f_Ch_ofMean_5 n n x0 x1 x2 (0 : Int64) (1 : Int32)
theorem m_Ch_ofMean_5 {p : Program} (l : Launch) {e : Env} {s : State} {m : MethodId} {args : Array Value} {below : List Frame} {meth : Method} {c : Code} (G : k_G) (w : va_W) (n : Nat) {w0 : va_W} {r : Int64} (hA : k_Amb p s m args meth c cX0_ofMean 6 "TaleShares$Chance" G (va_A w0 s.heap.size)) (hr : meth.sig.returnType = (some .long)) : ∀ (k : Nat) (x0 : Int32) (x1 : Int32) (x2 : Int32) (x3 : Int64) (x5 : Int32), f_Ch_ofMean_5 n k x0 x1 x2 x3 x5 = some r → k_Go p l e (k_rm 3) s m args below meth c (k_QL G w0 r w args s below) 6 G (va_A w0 s.heap.size) w 5 [(0, .int x0), (1, .int x1), (2, .int x2), (3, .long x3), (5, .int x5)] [] := by
  intro k
  induction k with
  | zero => intro x0 x1 x2 x3 x5 hf; cases hf
  | succ k ih =>
  intro x0 x1 x2 x3 x5 hf
  rw [f_Ch_ofMean_5] at hf
  refine k_iload hA dX0_ofMean_5 4 rfl ?_
  refine k_iload_n (i := 1) hA dX0_ofMean_7 rfl 1 rfl ?_
  refine k_icmp_gt (tgt := 41) hA dX0_ofMean_8 rfl (fun hc => ?_) (fun hc => ?_)
  · have hf := k_ift hc hf
    obtain ⟨r_1, hr_1, hf⟩ := k_cp_e hf
    obtain ⟨r_2, hr_2, hf⟩ := k_cp_e hf
    obtain rfl := k_r1 hf
    refine k_lload_n (i := 3) hA dX0_ofMean_41 rfl 3 rfl ?_
    refine k_ldc2 hA wd_1046 dX0_ofMean_42 ?_
    refine k_iload_n (i := 1) hA dX0_ofMean_45 rfl 1 rfl ?_
    refine k_callSl (As := [.long (100 : Int64), .int x1]) (rest := [.long x3]) hA (m_Ch_power l G w n (100 : Int64) x1 hr_1) cd_X0_power wd_1043 (Nat.le_of_ble_eq_true rfl) rfl rfl (Nat.le_of_ble_eq_true rfl) dX0_ofMean_46 ?_
    refine k_iload_n (i := 2) hA dX0_ofMean_49 rfl 2 rfl ?_
    refine k_callSl (As := [.long x3, .long r_1, .int x2]) (rest := []) hA (m_Ch_inLowest l G w n x3 r_1 x2 hr_2) cd_X0_inLowest wd_1047 (Nat.le_of_ble_eq_true rfl) rfl rfl (Nat.le_of_ble_eq_true rfl) dX0_ofMean_50 ?_
    exact k_lret hA hr dX0_ofMean_53
  have hf := k_iff hc hf
  obtain ⟨r_3, hr_3, hf⟩ := k_cp_e hf
  obtain ⟨r_4, hr_4, hf⟩ := k_cp_e hf
  obtain ⟨x3_5, ex3_5, hf⟩ := k_lt_e hf
  obtain ⟨x5_6, ex5_6, hf⟩ := k_lt_e hf
  refine k_lload_n (i := 3) hA dX0_ofMean_11 rfl 3 rfl ?_
  refine k_bipush hA dX0_ofMean_12 kc_b_100 ?_
  refine k_iload_n (i := 0) hA dX0_ofMean_14 rfl 0 rfl ?_
  refine k_isub hA dX0_ofMean_15 ?_
  refine k_i2l hA dX0_ofMean_16 ?_
  refine k_iload hA dX0_ofMean_17 4 rfl ?_
  refine k_callSl (As := [.long (((100 : Int32) - x0).toInt64), .int x5]) (rest := [.long x3]) hA (m_Ch_power l G w n (((100 : Int32) - x0).toInt64) x5 hr_3) cd_X0_power wd_1043 (Nat.le_of_ble_eq_true rfl) rfl rfl (Nat.le_of_ble_eq_true rfl) dX0_ofMean_19 ?_
  refine k_ldc2 hA wd_1046 dX0_ofMean_22 ?_
  refine k_iload_n (i := 1) hA dX0_ofMean_25 rfl 1 rfl ?_
  refine k_iload hA dX0_ofMean_26 4 rfl ?_
  refine k_isub hA dX0_ofMean_28 ?_
  refine k_callSl (As := [.long (100 : Int64), .int (x1 - x5)]) (rest := [.long r_3, .long x3]) hA (m_Ch_power l G w n (100 : Int64) (x1 - x5) hr_4) cd_X0_power wd_1043 (Nat.le_of_ble_eq_true rfl) rfl rfl (Nat.le_of_ble_eq_true rfl) dX0_ofMean_29 ?_
  refine k_lmul hA dX0_ofMean_32 ?_
  refine k_ladd hA dX0_ofMean_33 ?_
  refine k_lstore_n (i := 3) (lv' := [(3, .long x3_5), (0, .int x0), (1, .int x1), (2, .int x2), (5, .int x5)]) hA dX0_ofMean_34 rfl ex3_5 (Nat.le_of_ble_eq_true rfl) rfl ?_
  refine k_iinc (j := 4) (v := x5_6) (lv' := [(5, .int x5_6), (3, .long x3_5), (0, .int x0), (1, .int x1), (2, .int x2)]) hA dX0_ofMean_35 rfl (k_inc ex5_6 kc_i_1) (Nat.le_of_ble_eq_true rfl) rfl ?_
  refine k_goto (tgt := 5) hA dX0_ofMean_38 rfl ?_
  refine k_pick (lv' := [(0, .int x0), (1, .int x1), (2, .int x2), (3, .long x3_5), (5, .int x5_6)]) [2, 3, 4, 1, 0] rfl ?_
  exact ih x0 x1 x2 x3_5 x5_6 hf

theorem m_Ch_ofMean (l : Launch) (G : k_G) (w : va_W) (n : Nat) (x0 : Int32) (x1 : Int32) (x2 : Int32) {r : Int64} (hf : f_Ch_ofMean n x0 x1 x2 = some r) : k_CL l G yX0_ofMean cX0_ofMean 6 (some .long) 3 w [.int x0, .int x1, .int x2] r w := by
  refine k_startL (lv := [(0, .int x0), (1, .int x1), (2, .int x2)]) (by decide +kernel) (Nat.le_of_ble_eq_true rfl) rfl ?_
  intro p e s m args below meth c hA hr
  have hA : k_Amb p s m args meth c cX0_ofMean 6 "TaleShares$Chance" G _ := hA
  unfold f_Ch_ofMean at hf
  refine k_lconst hA dX0_ofMean_0 kc_l_0 ?_
  refine k_lstore_n (i := 3) (lv' := [(3, .long (0 : Int64)), (0, .int x0), (1, .int x1), (2, .int x2)]) hA dX0_ofMean_1 rfl rfl (Nat.le_of_ble_eq_true rfl) rfl ?_
  refine k_iconst hA dX0_ofMean_2 kc_i_1 ?_
  refine k_istore (lv' := [(5, .int (1 : Int32)), (3, .long (0 : Int64)), (0, .int x0), (1, .int x1), (2, .int x2)]) hA dX0_ofMean_3 rfl (Nat.le_of_ble_eq_true rfl) rfl ?_
  refine k_pick (lv' := [(0, .int x0), (1, .int x1), (2, .int x2), (3, .long (0 : Int64)), (5, .int (1 : Int32))]) [2, 3, 4, 1, 0] rfl ?_
  exact m_Ch_ofMean_5 l G w n hA hr n x0 x1 x2 (0 : Int64) (1 : Int32) hf

