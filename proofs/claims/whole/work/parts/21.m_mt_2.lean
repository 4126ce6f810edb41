theorem dX12_soonest_0 : decode cX12_soonest 0 = .ok (.aload_n 0, 1) := by decide +kernel
theorem dX12_soonest_1 : decode cX12_soonest 1 = .ok (.iconst 0, 1) := by decide +kernel
theorem dX12_soonest_2 : decode cX12_soonest 2 = .ok (.putfield 66, 3) := by decide +kernel
theorem dX12_soonest_5 : decode cX12_soonest 5 = .ok (.aload_n 0, 1) := by decide +kernel
theorem dX12_soonest_6 : decode cX12_soonest 6 = .ok (.getfield 311, 3) := by decide +kernel
theorem dX12_soonest_9 : decode cX12_soonest 9 = .ok (.ifnonnull 11, 3) := by decide +kernel
theorem dX12_soonest_12 : decode cX12_soonest 12 = .ok (.aload_n 0, 1) := by decide +kernel
theorem dX12_soonest_13 : decode cX12_soonest 13 = .ok (.iconst 1, 1) := by decide +kernel
theorem dX12_soonest_14 : decode cX12_soonest 14 = .ok (.invokevirtual 72, 3) := by decide +kernel
theorem dX12_soonest_17 : decode cX12_soonest 17 = .ok (.goto 11, 3) := by decide +kernel
theorem dX12_soonest_20 : decode cX12_soonest 20 = .ok (.aload_n 0, 1) := by decide +kernel
theorem dX12_soonest_21 : decode cX12_soonest 21 = .ok (.aload_n 0, 1) := by decide +kernel
theorem dX12_soonest_22 : decode cX12_soonest 22 = .ok (.invokevirtual 409, 3) := by decide +kernel
theorem dX12_soonest_25 : decode cX12_soonest 25 = .ok (.invokevirtual 76, 3) := by decide +kernel
theorem dX12_soonest_28 : decode cX12_soonest 28 = .ok (.ireturn, 1) := by decide +kernel
theorem dX12_parks_0 : decode cX12_parks 0 = .ok (.aload_n 0, 1) := by decide +kernel
theorem dX12_parks_1 : decode cX12_parks 1 = .ok (.invokevirtual 397, 3) := by decide +kernel
theorem dX12_parks_4 : decode cX12_parks 4 = .ok (.iconst 0, 1) := by decide +kernel
theorem dX12_parks_5 : decode cX12_parks 5 = .ok (.istore_n 1, 1) := by decide +kernel
theorem dX12_parks_6 : decode cX12_parks 6 = .ok (.iload_n 1, 1) := by decide +kernel
theorem dX12_parks_7 : decode cX12_parks 7 = .ok (.iconst 3, 1) := by decide +kernel
theorem dX12_parks_8 : decode cX12_parks 8 = .ok (.if_icmp .gt 52, 3) := by decide +kernel
theorem dX12_parks_11 : decode cX12_parks 11 = .ok (.iconst 0, 1) := by decide +kernel
theorem dX12_parks_12 : decode cX12_parks 12 = .ok (.istore_n 2, 1) := by decide +kernel
theorem dX12_parks_13 : decode cX12_parks 13 = .ok (.iload_n 2, 1) := by decide +kernel
theorem dX12_parks_14 : decode cX12_parks 14 = .ok (.aload_n 0, 1) := by decide +kernel
theorem dX12_parks_15 : decode cX12_parks 15 = .ok (.iload_n 1, 1) := by decide +kernel
theorem dX12_parks_16 : decode cX12_parks 16 = .ok (.invokevirtual 400, 3) := by decide +kernel
theorem dX12_parks_19 : decode cX12_parks 19 = .ok (.if_icmp .ge 35, 3) := by decide +kernel
theorem dX12_parks_22 : decode cX12_parks 22 = .ok (.aload_n 0, 1) := by decide +kernel
theorem dX12_parks_23 : decode cX12_parks 23 = .ok (.iload_n 2, 1) := by decide +kernel
theorem dX12_parks_24 : decode cX12_parks 24 = .ok (.iload_n 1, 1) := by decide +kernel
theorem dX12_parks_25 : decode cX12_parks 25 = .ok (.invokevirtual 403, 3) := by decide +kernel
theorem dX12_parks_28 : decode cX12_parks 28 = .ok (.aload_n 0, 1) := by decide +kernel
theorem dX12_parks_29 : decode cX12_parks 29 = .ok (.getfield 311, 3) := by decide +kernel
theorem dX12_parks_32 : decode cX12_parks 32 = .ok (.getfield 277, 3) := by decide +kernel
theorem dX12_parks_35 : decode cX12_parks 35 = .ok (.if_icmp .ge 6, 3) := by decide +kernel
theorem dX12_parks_38 : decode cX12_parks 38 = .ok (.goto 10, 3) := by decide +kernel
theorem dX12_parks_41 : decode cX12_parks 41 = .ok (.aload_n 0, 1) := by decide +kernel
theorem dX12_parks_42 : decode cX12_parks 42 = .ok (.iload_n 2, 1) := by decide +kernel
theorem dX12_parks_43 : decode cX12_parks 43 = .ok (.putfield 406, 3) := by decide +kernel
theorem dX12_parks_46 : decode cX12_parks 46 = .ok (.iload_n 1, 1) := by decide +kernel
theorem dX12_parks_47 : decode cX12_parks 47 = .ok (.ireturn, 1) := by decide +kernel
theorem dX12_parks_48 : decode cX12_parks 48 = .ok (.iinc 2 1, 3) := by decide +kernel
theorem dX12_parks_51 : decode cX12_parks 51 = .ok (.goto (-38), 3) := by decide +kernel
theorem dX12_parks_54 : decode cX12_parks 54 = .ok (.iinc 1 1, 3) := by decide +kernel
theorem dX12_parks_57 : decode cX12_parks 57 = .ok (.goto (-51), 3) := by decide +kernel
theorem dX12_parks_60 : decode cX12_parks 60 = .ok (.bipush (-2), 2) := by decide +kernel
theorem dX12_parks_62 : decode cX12_parks 62 = .ok (.ireturn, 1) := by decide +kernel
theorem dX12_allKnow_0 : decode cX12_allKnow 0 = .ok (.aload_n 0, 1) := by decide +kernel
theorem dX12_allKnow_1 : decode cX12_allKnow 1 = .ok (.iconst (-1), 1) := by decide +kernel
theorem dX12_allKnow_2 : decode cX12_allKnow 2 = .ok (.invokevirtual 356, 3) := by decide +kernel
theorem dX12_allKnow_5 : decode cX12_allKnow 5 = .ok (.istore_n 3, 1) := by decide +kernel
theorem dX12_allKnow_6 : decode cX12_allKnow 6 = .ok (.iconst 0, 1) := by decide +kernel
theorem dX12_allKnow_7 : decode cX12_allKnow 7 = .ok (.istore 4, 2) := by decide +kernel
theorem dX12_allKnow_9 : decode cX12_allKnow 9 = .ok (.iload 4, 2) := by decide +kernel
theorem dX12_allKnow_11 : decode cX12_allKnow 11 = .ok (.aload_n 0, 1) := by decide +kernel
theorem dX12_allKnow_12 : decode cX12_allKnow 12 = .ok (.getfield 311, 3) := by decide +kernel
theorem dX12_allKnow_15 : decode cX12_allKnow 15 = .ok (.getfield 277, 3) := by decide +kernel
theorem dX12_allKnow_18 : decode cX12_allKnow 18 = .ok (.if_icmp .ge 23, 3) := by decide +kernel
theorem dX12_allKnow_21 : decode cX12_allKnow 21 = .ok (.aload_n 0, 1) := by decide +kernel
theorem dX12_allKnow_22 : decode cX12_allKnow 22 = .ok (.getfield 42, 3) := by decide +kernel
theorem dX12_allKnow_25 : decode cX12_allKnow 25 = .ok (.iload 4, 2) := by decide +kernel
theorem dX12_allKnow_27 : decode cX12_allKnow 27 = .ok (.aload_n 0, 1) := by decide +kernel
theorem dX12_allKnow_28 : decode cX12_allKnow 28 = .ok (.getfield 17, 3) := by decide +kernel
theorem dX12_allKnow_31 : decode cX12_allKnow 31 = .ok (.iload 4, 2) := by decide +kernel
theorem dX12_allKnow_33 : decode cX12_allKnow 33 = .ok (.iaload, 1) := by decide +kernel
theorem dX12_allKnow_34 : decode cX12_allKnow 34 = .ok (.iastore, 1) := by decide +kernel
theorem dX12_allKnow_35 : decode cX12_allKnow 35 = .ok (.iinc 4 1, 3) := by decide +kernel
theorem dX12_allKnow_38 : decode cX12_allKnow 38 = .ok (.goto (-29), 3) := by decide +kernel
theorem dX12_allKnow_41 : decode cX12_allKnow 41 = .ok (.iconst 0, 1) := by decide +kernel
theorem dX12_allKnow_42 : decode cX12_allKnow 42 = .ok (.istore 4, 2) := by decide +kernel
theorem dX12_allKnow_44 : decode cX12_allKnow 44 = .ok (.iload 4, 2) := by decide +kernel
theorem dX12_allKnow_46 : decode cX12_allKnow 46 = .ok (.iload_n 2, 1) := by decide +kernel
theorem dX12_allKnow_47 : decode cX12_allKnow 47 = .ok (.if_icmp .ge 21, 3) := by decide +kernel
theorem dX12_allKnow_50 : decode cX12_allKnow 50 = .ok (.aload_n 0, 1) := by decide +kernel
theorem dX12_allKnow_51 : decode cX12_allKnow 51 = .ok (.aload_n 0, 1) := by decide +kernel
theorem dX12_allKnow_52 : decode cX12_allKnow 52 = .ok (.iload_n 1, 1) := by decide +kernel
theorem dX12_allKnow_53 : decode cX12_allKnow 53 = .ok (.iload_n 2, 1) := by decide +kernel
theorem dX12_allKnow_54 : decode cX12_allKnow 54 = .ok (.iload 4, 2) := by decide +kernel
theorem dX12_allKnow_56 : decode cX12_allKnow 56 = .ok (.invokevirtual 390, 3) := by decide +kernel
theorem dX12_allKnow_59 : decode cX12_allKnow 59 = .ok (.invokevirtual 394, 3) := by decide +kernel
theorem dX12_allKnow_62 : decode cX12_allKnow 62 = .ok (.iinc 4 1, 3) := by decide +kernel
theorem dX12_allKnow_65 : decode cX12_allKnow 65 = .ok (.goto (-21), 3) := by decide +kernel
theorem dX12_allKnow_68 : decode cX12_allKnow 68 = .ok (.iconst 0, 1) := by decide +kernel
theorem dX12_allKnow_69 : decode cX12_allKnow 69 = .ok (.istore 4, 2) := by decide +kernel
theorem dX12_allKnow_71 : decode cX12_allKnow 71 = .ok (.iconst 0, 1) := by decide +kernel
theorem dX12_allKnow_72 : decode cX12_allKnow 72 = .ok (.istore 5, 2) := by decide +kernel
theorem dX12_allKnow_74 : decode cX12_allKnow 74 = .ok (.iload 5, 2) := by decide +kernel
theorem dX12_allKnow_76 : decode cX12_allKnow 76 = .ok (.aload_n 0, 1) := by decide +kernel
theorem dX12_allKnow_77 : decode cX12_allKnow 77 = .ok (.getfield 311, 3) := by decide +kernel
theorem dX12_allKnow_80 : decode cX12_allKnow 80 = .ok (.getfield 277, 3) := by decide +kernel
theorem dX12_allKnow_83 : decode cX12_allKnow 83 = .ok (.if_icmp .ge 30, 3) := by decide +kernel
theorem dX12_allKnow_86 : decode cX12_allKnow 86 = .ok (.iload 4, 2) := by decide +kernel
theorem dX12_allKnow_88 : decode cX12_allKnow 88 = .ok (.aload_n 0, 1) := by decide +kernel
theorem dX12_allKnow_89 : decode cX12_allKnow 89 = .ok (.getfield 42, 3) := by decide +kernel
theorem dX12_allKnow_92 : decode cX12_allKnow 92 = .ok (.iload 5, 2) := by decide +kernel
theorem dX12_allKnow_94 : decode cX12_allKnow 94 = .ok (.iaload, 1) := by decide +kernel
theorem dX12_allKnow_95 : decode cX12_allKnow 95 = .ok (.iload_n 3, 1) := by decide +kernel
theorem dX12_allKnow_96 : decode cX12_allKnow 96 = .ok (.if_icmp .ne 7, 3) := by decide +kernel
theorem dX12_allKnow_99 : decode cX12_allKnow 99 = .ok (.iconst 1, 1) := by decide +kernel
theorem dX12_allKnow_100 : decode cX12_allKnow 100 = .ok (.goto 4, 3) := by decide +kernel
theorem dX12_allKnow_103 : decode cX12_allKnow 103 = .ok (.iconst 0, 1) := by decide +kernel
theorem dX12_allKnow_104 : decode cX12_allKnow 104 = .ok (.iadd, 1) := by decide +kernel
theorem dX12_allKnow_105 : decode cX12_allKnow 105 = .ok (.istore 4, 2) := by decide +kernel
theorem dX12_allKnow_107 : decode cX12_allKnow 107 = .ok (.iinc 5 1, 3) := by decide +kernel
theorem dX12_allKnow_110 : decode cX12_allKnow 110 = .ok (.goto (-36), 3) := by decide +kernel
theorem dX12_allKnow_113 : decode cX12_allKnow 113 = .ok (.iload 4, 2) := by decide +kernel
theorem dX12_allKnow_115 : decode cX12_allKnow 115 = .ok (.ireturn, 1) := by decide +kernel
theorem dX12_meets_0 : decode cX12_meets 0 = .ok (.aload_n 0, 1) := by decide +kernel
theorem dX12_meets_1 : decode cX12_meets 1 = .ok (.iconst 0, 1) := by decide +kernel
theorem dX12_meets_2 : decode cX12_meets 2 = .ok (.putfield 66, 3) := by decide +kernel
theorem dX12_meets_5 : decode cX12_meets 5 = .ok (.aload_n 0, 1) := by decide +kernel
theorem dX12_meets_6 : decode cX12_meets 6 = .ok (.iload_n 2, 1) := by decide +kernel
theorem dX12_meets_7 : decode cX12_meets 7 = .ok (.invokevirtual 350, 3) := by decide +kernel
theorem dX12_meets_10 : decode cX12_meets 10 = .ok (.ifCond .eq 7, 3) := by decide +kernel
theorem dX12_meets_13 : decode cX12_meets 13 = .ok (.iload_n 1, 1) := by decide +kernel
theorem dX12_meets_14 : decode cX12_meets 14 = .ok (.ifCond .ge 9, 3) := by decide +kernel
theorem dX12_meets_17 : decode cX12_meets 17 = .ok (.aload_n 0, 1) := by decide +kernel
theorem dX12_meets_18 : decode cX12_meets 18 = .ok (.iconst 1, 1) := by decide +kernel
theorem dX12_meets_19 : decode cX12_meets 19 = .ok (.invokevirtual 72, 3) := by decide +kernel
theorem dX12_meets_22 : decode cX12_meets 22 = .ok (.ireturn, 1) := by decide +kernel
theorem dX12_meets_23 : decode cX12_meets 23 = .ok (.aload_n 0, 1) := by decide +kernel
theorem dX12_meets_24 : decode cX12_meets 24 = .ok (.invokevirtual 409, 3) := by decide +kernel
theorem dX12_meets_27 : decode cX12_meets 27 = .ok (.istore_n 3, 1) := by decide +kernel
theorem dX12_meets_28 : decode cX12_meets 28 = .ok (.iload_n 1, 1) := by decide +kernel
theorem dX12_meets_29 : decode cX12_meets 29 = .ok (.iload_n 3, 1) := by decide +kernel
theorem dX12_meets_30 : decode cX12_meets 30 = .ok (.if_icmp .lt 9, 3) := by decide +kernel
theorem dX12_meets_33 : decode cX12_meets 33 = .ok (.aload_n 0, 1) := by decide +kernel
theorem dX12_meets_34 : decode cX12_meets 34 = .ok (.iconst 1, 1) := by decide +kernel
theorem dX12_meets_35 : decode cX12_meets 35 = .ok (.invokevirtual 72, 3) := by decide +kernel
theorem dX12_meets_38 : decode cX12_meets 38 = .ok (.ireturn, 1) := by decide +kernel
theorem dX12_meets_39 : decode cX12_meets 39 = .ok (.aload_n 0, 1) := by decide +kernel
theorem dX12_meets_40 : decode cX12_meets 40 = .ok (.getfield 36, 3) := by decide +kernel
theorem dX12_meets_43 : decode cX12_meets 43 = .ok (.iconst 5, 1) := by decide +kernel
theorem dX12_meets_44 : decode cX12_meets 44 = .ok (.aload_n 0, 1) := by decide +kernel
theorem dX12_meets_45 : decode cX12_meets 45 = .ok (.aload_n 0, 1) := by decide +kernel
theorem dX12_meets_46 : decode cX12_meets 46 = .ok (.getfield 406, 3) := by decide +kernel
theorem dX12_meets_49 : decode cX12_meets 49 = .ok (.iload_n 3, 1) := by decide +kernel
theorem dX12_meets_50 : decode cX12_meets 50 = .ok (.iload_n 1, 1) := by decide +kernel
theorem dX12_meets_51 : decode cX12_meets 51 = .ok (.invokevirtual 390, 3) := by decide +kernel
theorem dX12_meets_54 : decode cX12_meets 54 = .ok (.imul, 1) := by decide +kernel
theorem dX12_meets_55 : decode cX12_meets 55 = .ok (.iload_n 2, 1) := by decide +kernel
theorem dX12_meets_56 : decode cX12_meets 56 = .ok (.iadd, 1) := by decide +kernel
theorem dX12_meets_57 : decode cX12_meets 57 = .ok (.iaload, 1) := by decide +kernel
theorem dX12_meets_58 : decode cX12_meets 58 = .ok (.istore 4, 2) := by decide +kernel
theorem dX12_meets_60 : decode cX12_meets 60 = .ok (.aload_n 0, 1) := by decide +kernel
theorem dX12_meets_61 : decode cX12_meets 61 = .ok (.iload 4, 2) := by decide +kernel
theorem dX12_meets_63 : decode cX12_meets 63 = .ok (.aload_n 0, 1) := by decide +kernel
theorem dX12_meets_64 : decode cX12_meets 64 = .ok (.getfield 311, 3) := by decide +kernel
theorem dX12_meets_67 : decode cX12_meets 67 = .ok (.getfield 277, 3) := by decide +kernel
theorem dX12_meets_70 : decode cX12_meets 70 = .ok (.if_icmp .ne 8, 3) := by decide +kernel
theorem dX12_meets_73 : decode cX12_meets 73 = .ok (.bipush (-2), 2) := by decide +kernel
theorem dX12_meets_75 : decode cX12_meets 75 = .ok (.goto 5, 3) := by decide +kernel
theorem dX12_meets_78 : decode cX12_meets 78 = .ok (.iload 4, 2) := by decide +kernel
theorem dX12_meets_80 : decode cX12_meets 80 = .ok (.invokevirtual 76, 3) := by decide +kernel
theorem dX12_meets_83 : decode cX12_meets 83 = .ok (.ireturn, 1) := by decide +kernel
theorem dX12_mostBehind_0 : decode cX12_mostBehind 0 = .ok (.aload_n 0, 1) := by decide +kernel
theorem dX12_mostBehind_1 : decode cX12_mostBehind 1 = .ok (.iconst 0, 1) := by decide +kernel
theorem dX12_mostBehind_2 : decode cX12_mostBehind 2 = .ok (.putfield 66, 3) := by decide +kernel
theorem dX12_mostBehind_5 : decode cX12_mostBehind 5 = .ok (.aload_n 0, 1) := by decide +kernel
theorem dX12_mostBehind_6 : decode cX12_mostBehind 6 = .ok (.getfield 311, 3) := by decide +kernel
theorem dX12_mostBehind_9 : decode cX12_mostBehind 9 = .ok (.ifnonnull 9, 3) := by decide +kernel
theorem dX12_mostBehind_12 : decode cX12_mostBehind 12 = .ok (.aload_n 0, 1) := by decide +kernel
theorem dX12_mostBehind_13 : decode cX12_mostBehind 13 = .ok (.iconst 1, 1) := by decide +kernel
theorem dX12_mostBehind_14 : decode cX12_mostBehind 14 = .ok (.invokevirtual 72, 3) := by decide +kernel
theorem dX12_mostBehind_17 : decode cX12_mostBehind 17 = .ok (.ireturn, 1) := by decide +kernel
theorem dX12_mostBehind_18 : decode cX12_mostBehind 18 = .ok (.iload_n 1, 1) := by decide +kernel
theorem dX12_mostBehind_19 : decode cX12_mostBehind 19 = .ok (.iconst 0, 1) := by decide +kernel
theorem dX12_mostBehind_20 : decode cX12_mostBehind 20 = .ok (.iconst 2, 1) := by decide +kernel
theorem dX12_mostBehind_21 : decode cX12_mostBehind 21 = .ok (.invokestatic 145, 3) := by decide +kernel
theorem dX12_mostBehind_24 : decode cX12_mostBehind 24 = .ok (.ifCond .ne 9, 3) := by decide +kernel
theorem dX12_mostBehind_27 : decode cX12_mostBehind 27 = .ok (.aload_n 0, 1) := by decide +kernel
theorem dX12_mostBehind_28 : decode cX12_mostBehind 28 = .ok (.iconst 2, 1) := by decide +kernel
theorem dX12_mostBehind_29 : decode cX12_mostBehind 29 = .ok (.invokevirtual 72, 3) := by decide +kernel
theorem dX12_mostBehind_32 : decode cX12_mostBehind 32 = .ok (.ireturn, 1) := by decide +kernel
theorem dX12_mostBehind_33 : decode cX12_mostBehind 33 = .ok (.aload_n 0, 1) := by decide +kernel
theorem dX12_mostBehind_34 : decode cX12_mostBehind 34 = .ok (.invokevirtual 397, 3) := by decide +kernel
theorem dX12_mostBehind_37 : decode cX12_mostBehind 37 = .ok (.iconst 0, 1) := by decide +kernel
theorem dX12_mostBehind_38 : decode cX12_mostBehind 38 = .ok (.istore_n 2, 1) := by decide +kernel
theorem dX12_mostBehind_39 : decode cX12_mostBehind 39 = .ok (.iconst 0, 1) := by decide +kernel
theorem dX12_mostBehind_40 : decode cX12_mostBehind 40 = .ok (.istore_n 3, 1) := by decide +kernel
theorem dX12_mostBehind_41 : decode cX12_mostBehind 41 = .ok (.iload_n 3, 1) := by decide +kernel
theorem dX12_mostBehind_42 : decode cX12_mostBehind 42 = .ok (.aload_n 0, 1) := by decide +kernel
theorem dX12_mostBehind_43 : decode cX12_mostBehind 43 = .ok (.iload_n 1, 1) := by decide +kernel
theorem dX12_mostBehind_44 : decode cX12_mostBehind 44 = .ok (.invokevirtual 400, 3) := by decide +kernel
theorem dX12_mostBehind_47 : decode cX12_mostBehind 47 = .ok (.if_icmp .ge 26, 3) := by decide +kernel
theorem dX12_mostBehind_50 : decode cX12_mostBehind 50 = .ok (.aload_n 0, 1) := by decide +kernel
theorem dX12_mostBehind_51 : decode cX12_mostBehind 51 = .ok (.iload_n 3, 1) := by decide +kernel
theorem dX12_mostBehind_52 : decode cX12_mostBehind 52 = .ok (.iload_n 1, 1) := by decide +kernel
theorem dX12_mostBehind_53 : decode cX12_mostBehind 53 = .ok (.invokevirtual 403, 3) := by decide +kernel
theorem dX12_mostBehind_56 : decode cX12_mostBehind 56 = .ok (.iload_n 2, 1) := by decide +kernel
theorem dX12_mostBehind_57 : decode cX12_mostBehind 57 = .ok (.if_icmp .le 10, 3) := by decide +kernel
theorem dX12_mostBehind_60 : decode cX12_mostBehind 60 = .ok (.aload_n 0, 1) := by decide +kernel
theorem dX12_mostBehind_61 : decode cX12_mostBehind 61 = .ok (.iload_n 3, 1) := by decide +kernel
theorem dX12_mostBehind_62 : decode cX12_mostBehind 62 = .ok (.iload_n 1, 1) := by decide +kernel
theorem dX12_mostBehind_63 : decode cX12_mostBehind 63 = .ok (.invokevirtual 403, 3) := by decide +kernel
theorem dX12_mostBehind_66 : decode cX12_mostBehind 66 = .ok (.istore_n 2, 1) := by decide +kernel
theorem dX12_mostBehind_67 : decode cX12_mostBehind 67 = .ok (.iinc 3 1, 3) := by decide +kernel
theorem dX12_mostBehind_70 : decode cX12_mostBehind 70 = .ok (.goto (-29), 3) := by decide +kernel
theorem dX12_mostBehind_73 : decode cX12_mostBehind 73 = .ok (.aload_n 0, 1) := by decide +kernel
theorem dX12_mostBehind_74 : decode cX12_mostBehind 74 = .ok (.iload_n 2, 1) := by decide +kernel
theorem dX12_mostBehind_75 : decode cX12_mostBehind 75 = .ok (.invokevirtual 76, 3) := by decide +kernel
theorem dX12_mostBehind_78 : decode cX12_mostBehind 78 = .ok (.ireturn, 1) := by decide +kernel
theorem dX12_walks_0 : decode cX12_walks 0 = .ok (.aload_n 0, 1) := by decide +kernel
theorem dX12_walks_1 : decode cX12_walks 1 = .ok (.iconst 0, 1) := by decide +kernel
theorem dX12_walks_2 : decode cX12_walks 2 = .ok (.putfield 66, 3) := by decide +kernel
theorem dX12_walks_5 : decode cX12_walks 5 = .ok (.aload_n 0, 1) := by decide +kernel
theorem dX12_walks_6 : decode cX12_walks 6 = .ok (.invokevirtual 424, 3) := by decide +kernel
theorem dX12_walks_9 : decode cX12_walks 9 = .ok (.istore_n 1, 1) := by decide +kernel
theorem dX12_walks_10 : decode cX12_walks 10 = .ok (.iload_n 1, 1) := by decide +kernel
theorem dX12_walks_11 : decode cX12_walks 11 = .ok (.ifCond .le 9, 3) := by decide +kernel
theorem dX12_walks_14 : decode cX12_walks 14 = .ok (.aload_n 0, 1) := by decide +kernel
theorem dX12_walks_15 : decode cX12_walks 15 = .ok (.iload_n 1, 1) := by decide +kernel
theorem dX12_walks_16 : decode cX12_walks 16 = .ok (.invokevirtual 72, 3) := by decide +kernel
theorem dX12_walks_19 : decode cX12_walks 19 = .ok (.ireturn, 1) := by decide +kernel
theorem dX12_walks_20 : decode cX12_walks 20 = .ok (.aload_n 0, 1) := by decide +kernel
theorem dX12_walks_21 : decode cX12_walks 21 = .ok (.invokevirtual 427, 3) := by decide +kernel
theorem dX12_walks_24 : decode cX12_walks 24 = .ok (.istore_n 2, 1) := by decide +kernel
theorem dX12_walks_25 : decode cX12_walks 25 = .ok (.aload_n 0, 1) := by decide +kernel
theorem dX12_walks_26 : decode cX12_walks 26 = .ok (.iload_n 2, 1) := by decide +kernel
theorem dX12_walks_27 : decode cX12_walks 27 = .ok (.sipush 9999, 3) := by decide +kernel
theorem dX12_walks_30 : decode cX12_walks 30 = .ok (.if_icmp .ne 8, 3) := by decide +kernel
theorem dX12_walks_33 : decode cX12_walks 33 = .ok (.bipush (-2), 2) := by decide +kernel
theorem dX12_walks_35 : decode cX12_walks 35 = .ok (.goto 4, 3) := by decide +kernel
theorem dX12_walks_38 : decode cX12_walks 38 = .ok (.iload_n 2, 1) := by decide +kernel
theorem dX12_walks_39 : decode cX12_walks 39 = .ok (.invokevirtual 76, 3) := by decide +kernel
theorem dX12_walks_42 : decode cX12_walks 42 = .ok (.ireturn, 1) := by decide +kernel
theorem dX12_refusesHouses_0 : decode cX12_refusesHouses 0 = .ok (.aload_n 0, 1) := by decide +kernel
theorem dX12_refusesHouses_1 : decode cX12_refusesHouses 1 = .ok (.getfield 311, 3) := by decide +kernel
theorem dX12_refusesHouses_4 : decode cX12_refusesHouses 4 = .ok (.ifnonnull 7, 3) := by decide +kernel
theorem dX12_refusesHouses_7 : decode cX12_refusesHouses 7 = .ok (.iconst 1, 1) := by decide +kernel
theorem dX12_refusesHouses_8 : decode cX12_refusesHouses 8 = .ok (.goto 19, 3) := by decide +kernel
theorem dX12_refusesHouses_11 : decode cX12_refusesHouses 11 = .ok (.aload_n 0, 1) := by decide +kernel
theorem dX12_refusesHouses_12 : decode cX12_refusesHouses 12 = .ok (.getfield 311, 3) := by decide +kernel
theorem dX12_refusesHouses_15 : decode cX12_refusesHouses 15 = .ok (.getfield 277, 3) := by decide +kernel
theorem dX12_refusesHouses_18 : decode cX12_refusesHouses 18 = .ok (.ifCond .ne 8, 3) := by decide +kernel
theorem dX12_refusesHouses_21 : decode cX12_refusesHouses 21 = .ok (.bipush 6, 2) := by decide +kernel
theorem dX12_refusesHouses_23 : decode cX12_refusesHouses 23 = .ok (.goto 4, 3) := by decide +kernel
theorem dX12_refusesHouses_26 : decode cX12_refusesHouses 26 = .ok (.iconst 0, 1) := by decide +kernel
theorem dX12_refusesHouses_27 : decode cX12_refusesHouses 27 = .ok (.ireturn, 1) := by decide +kernel
theorem dX12_timetable_0 : decode cX12_timetable 0 = .ok (.sipush 9999, 3) := by decide +kernel
theorem dX12_timetable_3 : decode cX12_timetable 3 = .ok (.istore_n 1, 1) := by decide +kernel
theorem dX12_timetable_4 : decode cX12_timetable 4 = .ok (.aload_n 0, 1) := by decide +kernel
theorem dX12_timetable_5 : decode cX12_timetable 5 = .ok (.iconst 0, 1) := by decide +kernel
theorem dX12_timetable_6 : decode cX12_timetable 6 = .ok (.putfield 415, 3) := by decide +kernel
theorem dX12_timetable_9 : decode cX12_timetable 9 = .ok (.iconst 0, 1) := by decide +kernel
theorem dX12_timetable_10 : decode cX12_timetable 10 = .ok (.istore_n 2, 1) := by decide +kernel
theorem dX12_timetable_11 : decode cX12_timetable 11 = .ok (.iload_n 2, 1) := by decide +kernel
theorem dX12_timetable_12 : decode cX12_timetable 12 = .ok (.iconst 5, 1) := by decide +kernel
theorem dX12_timetable_13 : decode cX12_timetable 13 = .ok (.if_icmp .ge 16, 3) := by decide +kernel
theorem dX12_timetable_16 : decode cX12_timetable 16 = .ok (.aload_n 0, 1) := by decide +kernel
theorem dX12_timetable_17 : decode cX12_timetable 17 = .ok (.getfield 48, 3) := by decide +kernel
theorem dX12_timetable_20 : decode cX12_timetable 20 = .ok (.iload_n 2, 1) := by decide +kernel
theorem dX12_timetable_21 : decode cX12_timetable 21 = .ok (.iload_n 2, 1) := by decide +kernel
theorem dX12_timetable_22 : decode cX12_timetable 22 = .ok (.iastore, 1) := by decide +kernel
theorem dX12_timetable_23 : decode cX12_timetable 23 = .ok (.iinc 2 1, 3) := by decide +kernel
theorem dX12_timetable_26 : decode cX12_timetable 26 = .ok (.goto (-15), 3) := by decide +kernel
theorem dX12_timetable_29 : decode cX12_timetable 29 = .ok (.iconst 1, 1) := by decide +kernel
theorem dX12_timetable_30 : decode cX12_timetable 30 = .ok (.istore_n 2, 1) := by decide +kernel
theorem dX12_timetable_31 : decode cX12_timetable 31 = .ok (.iload_n 2, 1) := by decide +kernel
theorem dX12_timetable_32 : decode cX12_timetable 32 = .ok (.ifCond .eq 83, 3) := by decide +kernel
theorem dX12_timetable_35 : decode cX12_timetable 35 = .ok (.aload_n 0, 1) := by decide +kernel
theorem dX12_timetable_36 : decode cX12_timetable 36 = .ok (.invokevirtual 418, 3) := by decide +kernel
theorem dX12_timetable_39 : decode cX12_timetable 39 = .ok (.istore_n 3, 1) := by decide +kernel
theorem dX12_timetable_40 : decode cX12_timetable 40 = .ok (.iload_n 3, 1) := by decide +kernel
theorem dX12_timetable_41 : decode cX12_timetable 41 = .ok (.sipush 9999, 3) := by decide +kernel
theorem dX12_timetable_44 : decode cX12_timetable 44 = .ok (.if_icmp .ge 13, 3) := by decide +kernel
theorem dX12_timetable_47 : decode cX12_timetable 47 = .ok (.aload_n 0, 1) := by decide +kernel
theorem dX12_timetable_48 : decode cX12_timetable 48 = .ok (.dup, 1) := by decide +kernel
theorem dX12_timetable_49 : decode cX12_timetable 49 = .ok (.getfield 415, 3) := by decide +kernel
theorem dX12_timetable_52 : decode cX12_timetable 52 = .ok (.iconst 1, 1) := by decide +kernel
theorem dX12_timetable_53 : decode cX12_timetable 53 = .ok (.iadd, 1) := by decide +kernel
theorem dX12_timetable_54 : decode cX12_timetable 54 = .ok (.putfield 415, 3) := by decide +kernel
theorem dX12_timetable_57 : decode cX12_timetable 57 = .ok (.iload_n 3, 1) := by decide +kernel
theorem dX12_timetable_58 : decode cX12_timetable 58 = .ok (.iload_n 1, 1) := by decide +kernel
theorem dX12_timetable_59 : decode cX12_timetable 59 = .ok (.if_icmp .ge 48, 3) := by decide +kernel
theorem dX12_timetable_62 : decode cX12_timetable 62 = .ok (.iload_n 3, 1) := by decide +kernel
theorem dX12_timetable_63 : decode cX12_timetable 63 = .ok (.istore_n 1, 1) := by decide +kernel
theorem dX12_timetable_64 : decode cX12_timetable 64 = .ok (.iconst 0, 1) := by decide +kernel
theorem dX12_timetable_65 : decode cX12_timetable 65 = .ok (.istore 4, 2) := by decide +kernel
theorem dX12_timetable_67 : decode cX12_timetable 67 = .ok (.iload 4, 2) := by decide +kernel
theorem dX12_timetable_69 : decode cX12_timetable 69 = .ok (.iconst 5, 1) := by decide +kernel
theorem dX12_timetable_70 : decode cX12_timetable 70 = .ok (.if_icmp .ge 37, 3) := by decide +kernel
theorem dX12_timetable_73 : decode cX12_timetable 73 = .ok (.aload_n 0, 1) := by decide +kernel
theorem dX12_timetable_74 : decode cX12_timetable 74 = .ok (.getfield 54, 3) := by decide +kernel
theorem dX12_timetable_77 : decode cX12_timetable 77 = .ok (.iload 4, 2) := by decide +kernel
theorem dX12_timetable_79 : decode cX12_timetable 79 = .ok (.aload_n 0, 1) := by decide +kernel
theorem dX12_timetable_80 : decode cX12_timetable 80 = .ok (.getfield 48, 3) := by decide +kernel
theorem dX12_timetable_83 : decode cX12_timetable 83 = .ok (.iload 4, 2) := by decide +kernel
theorem dX12_timetable_85 : decode cX12_timetable 85 = .ok (.iaload, 1) := by decide +kernel
theorem dX12_timetable_86 : decode cX12_timetable 86 = .ok (.iastore, 1) := by decide +kernel
theorem dX12_timetable_87 : decode cX12_timetable 87 = .ok (.aload_n 0, 1) := by decide +kernel
theorem dX12_timetable_88 : decode cX12_timetable 88 = .ok (.getfield 57, 3) := by decide +kernel
theorem dX12_timetable_91 : decode cX12_timetable 91 = .ok (.iload 4, 2) := by decide +kernel
theorem dX12_timetable_93 : decode cX12_timetable 93 = .ok (.aload_n 0, 1) := by decide +kernel
theorem dX12_timetable_94 : decode cX12_timetable 94 = .ok (.getfield 51, 3) := by decide +kernel
theorem dX12_timetable_97 : decode cX12_timetable 97 = .ok (.iload 4, 2) := by decide +kernel
theorem dX12_timetable_99 : decode cX12_timetable 99 = .ok (.iaload, 1) := by decide +kernel
theorem dX12_timetable_100 : decode cX12_timetable 100 = .ok (.iastore, 1) := by decide +kernel
theorem dX12_timetable_101 : decode cX12_timetable 101 = .ok (.iinc 4 1, 3) := by decide +kernel
theorem dX12_timetable_104 : decode cX12_timetable 104 = .ok (.goto (-37), 3) := by decide +kernel
theorem dX12_timetable_107 : decode cX12_timetable 107 = .ok (.aload_n 0, 1) := by decide +kernel
theorem dX12_timetable_108 : decode cX12_timetable 108 = .ok (.invokevirtual 421, 3) := by decide +kernel
theorem dX12_timetable_111 : decode cX12_timetable 111 = .ok (.istore_n 2, 1) := by decide +kernel
theorem dX12_timetable_112 : decode cX12_timetable 112 = .ok (.goto (-81), 3) := by decide +kernel
theorem dX12_timetable_115 : decode cX12_timetable 115 = .ok (.iload_n 1, 1) := by decide +kernel
theorem dX12_timetable_116 : decode cX12_timetable 116 = .ok (.ireturn, 1) := by decide +kernel
theorem dX12_walksBy_0 : decode cX12_walksBy 0 = .ok (.iconst (-1), 1) := by decide +kernel
theorem dX12_walksBy_1 : decode cX12_walksBy 1 = .ok (.istore_n 1, 1) := by decide +kernel
theorem dX12_walksBy_2 : decode cX12_walksBy 2 = .ok (.iconst 0, 1) := by decide +kernel
theorem dX12_walksBy_3 : decode cX12_walksBy 3 = .ok (.istore_n 2, 1) := by decide +kernel
theorem dX12_walksBy_4 : decode cX12_walksBy 4 = .ok (.iconst 0, 1) := by decide +kernel
theorem dX12_walksBy_5 : decode cX12_walksBy 5 = .ok (.istore_n 3, 1) := by decide +kernel
theorem dX12_walksBy_6 : decode cX12_walksBy 6 = .ok (.iload_n 3, 1) := by decide +kernel
theorem dX12_walksBy_7 : decode cX12_walksBy 7 = .ok (.aload_n 0, 1) := by decide +kernel
theorem dX12_walksBy_8 : decode cX12_walksBy 8 = .ok (.getfield 311, 3) := by decide +kernel
theorem dX12_walksBy_11 : decode cX12_walksBy 11 = .ok (.getfield 277, 3) := by decide +kernel
theorem dX12_walksBy_14 : decode cX12_walksBy 14 = .ok (.if_icmp .ge 129, 3) := by decide +kernel
theorem dX12_walksBy_17 : decode cX12_walksBy 17 = .ok (.aload_n 0, 1) := by decide +kernel
theorem dX12_walksBy_18 : decode cX12_walksBy 18 = .ok (.getfield 48, 3) := by decide +kernel
theorem dX12_walksBy_21 : decode cX12_walksBy 21 = .ok (.iload_n 3, 1) := by decide +kernel
theorem dX12_walksBy_22 : decode cX12_walksBy 22 = .ok (.iaload, 1) := by decide +kernel
theorem dX12_walksBy_23 : decode cX12_walksBy 23 = .ok (.istore 4, 2) := by decide +kernel
theorem dX12_walksBy_25 : decode cX12_walksBy 25 = .ok (.iload_n 1, 1) := by decide +kernel
theorem dX12_walksBy_26 : decode cX12_walksBy 26 = .ok (.iconst 1, 1) := by decide +kernel
theorem dX12_walksBy_27 : decode cX12_walksBy 27 = .ok (.iadd, 1) := by decide +kernel
theorem dX12_walksBy_28 : decode cX12_walksBy 28 = .ok (.aload_n 0, 1) := by decide +kernel
theorem dX12_walksBy_29 : decode cX12_walksBy 29 = .ok (.getfield 311, 3) := by decide +kernel
theorem dX12_walksBy_32 : decode cX12_walksBy 32 = .ok (.getfield 288, 3) := by decide +kernel
theorem dX12_walksBy_35 : decode cX12_walksBy 35 = .ok (.iload 4, 2) := by decide +kernel
theorem dX12_walksBy_37 : decode cX12_walksBy 37 = .ok (.iaload, 1) := by decide +kernel
theorem dX12_walksBy_38 : decode cX12_walksBy 38 = .ok (.if_icmp .le 9, 3) := by decide +kernel
theorem dX12_walksBy_41 : decode cX12_walksBy 41 = .ok (.iload_n 1, 1) := by decide +kernel
theorem dX12_walksBy_42 : decode cX12_walksBy 42 = .ok (.iconst 1, 1) := by decide +kernel
theorem dX12_walksBy_43 : decode cX12_walksBy 43 = .ok (.iadd, 1) := by decide +kernel
theorem dX12_walksBy_44 : decode cX12_walksBy 44 = .ok (.goto 13, 3) := by decide +kernel
theorem dX12_walksBy_47 : decode cX12_walksBy 47 = .ok (.aload_n 0, 1) := by decide +kernel
theorem dX12_walksBy_48 : decode cX12_walksBy 48 = .ok (.getfield 311, 3) := by decide +kernel
theorem dX12_walksBy_51 : decode cX12_walksBy 51 = .ok (.getfield 288, 3) := by decide +kernel
theorem dX12_walksBy_54 : decode cX12_walksBy 54 = .ok (.iload 4, 2) := by decide +kernel
theorem dX12_walksBy_56 : decode cX12_walksBy 56 = .ok (.iaload, 1) := by decide +kernel
theorem dX12_walksBy_57 : decode cX12_walksBy 57 = .ok (.istore_n 1, 1) := by decide +kernel
theorem dX12_walksBy_58 : decode cX12_walksBy 58 = .ok (.iload_n 1, 1) := by decide +kernel
theorem dX12_walksBy_59 : decode cX12_walksBy 59 = .ok (.aload_n 0, 1) := by decide +kernel
theorem dX12_walksBy_60 : decode cX12_walksBy 60 = .ok (.getfield 311, 3) := by decide +kernel
theorem dX12_walksBy_63 : decode cX12_walksBy 63 = .ok (.getfield 290, 3) := by decide +kernel
theorem dX12_walksBy_66 : decode cX12_walksBy 66 = .ok (.iload 4, 2) := by decide +kernel
theorem dX12_walksBy_68 : decode cX12_walksBy 68 = .ok (.iaload, 1) := by decide +kernel
theorem dX12_walksBy_69 : decode cX12_walksBy 69 = .ok (.if_icmp .le 7, 3) := by decide +kernel
theorem dX12_walksBy_72 : decode cX12_walksBy 72 = .ok (.sipush 9999, 3) := by decide +kernel
theorem dX12_walksBy_75 : decode cX12_walksBy 75 = .ok (.ireturn, 1) := by decide +kernel
theorem dX12_walksBy_76 : decode cX12_walksBy 76 = .ok (.aload_n 0, 1) := by decide +kernel
theorem dX12_walksBy_77 : decode cX12_walksBy 77 = .ok (.getfield 51, 3) := by decide +kernel
theorem dX12_walksBy_80 : decode cX12_walksBy 80 = .ok (.iload 4, 2) := by decide +kernel
theorem dX12_walksBy_82 : decode cX12_walksBy 82 = .ok (.iload_n 1, 1) := by decide +kernel
theorem dX12_walksBy_83 : decode cX12_walksBy 83 = .ok (.iastore, 1) := by decide +kernel
theorem dX12_walksBy_84 : decode cX12_walksBy 84 = .ok (.iload_n 3, 1) := by decide +kernel
theorem dX12_walksBy_85 : decode cX12_walksBy 85 = .ok (.ifCond .ne 7, 3) := by decide +kernel
theorem dX12_walksBy_88 : decode cX12_walksBy 88 = .ok (.iconst 0, 1) := by decide +kernel
theorem dX12_walksBy_89 : decode cX12_walksBy 89 = .ok (.goto 30, 3) := by decide +kernel
theorem dX12_walksBy_92 : decode cX12_walksBy 92 = .ok (.aload_n 0, 1) := by decide +kernel
theorem dX12_walksBy_93 : decode cX12_walksBy 93 = .ok (.getfield 311, 3) := by decide +kernel
theorem dX12_walksBy_96 : decode cX12_walksBy 96 = .ok (.getfield 286, 3) := by decide +kernel
theorem dX12_walksBy_99 : decode cX12_walksBy 99 = .ok (.iload 4, 2) := by decide +kernel
theorem dX12_walksBy_101 : decode cX12_walksBy 101 = .ok (.iaload, 1) := by decide +kernel
theorem dX12_walksBy_102 : decode cX12_walksBy 102 = .ok (.aload_n 0, 1) := by decide +kernel
theorem dX12_walksBy_103 : decode cX12_walksBy 103 = .ok (.getfield 311, 3) := by decide +kernel
theorem dX12_walksBy_106 : decode cX12_walksBy 106 = .ok (.getfield 286, 3) := by decide +kernel
theorem dX12_walksBy_109 : decode cX12_walksBy 109 = .ok (.aload_n 0, 1) := by decide +kernel
theorem dX12_walksBy_110 : decode cX12_walksBy 110 = .ok (.getfield 48, 3) := by decide +kernel
theorem dX12_walksBy_113 : decode cX12_walksBy 113 = .ok (.iload_n 3, 1) := by decide +kernel
theorem dX12_walksBy_114 : decode cX12_walksBy 114 = .ok (.iconst 1, 1) := by decide +kernel
theorem dX12_walksBy_115 : decode cX12_walksBy 115 = .ok (.isub, 1) := by decide +kernel
theorem dX12_walksBy_116 : decode cX12_walksBy 116 = .ok (.iaload, 1) := by decide +kernel
theorem dX12_walksBy_117 : decode cX12_walksBy 117 = .ok (.iaload, 1) := by decide +kernel
theorem dX12_walksBy_118 : decode cX12_walksBy 118 = .ok (.isub, 1) := by decide +kernel
theorem dX12_walksBy_119 : decode cX12_walksBy 119 = .ok (.istore 5, 2) := by decide +kernel
theorem dX12_walksBy_121 : decode cX12_walksBy 121 = .ok (.iload_n 2, 1) := by decide +kernel
theorem dX12_walksBy_122 : decode cX12_walksBy 122 = .ok (.iload 5, 2) := by decide +kernel
theorem dX12_walksBy_124 : decode cX12_walksBy 124 = .ok (.ifCond .ge 9, 3) := by decide +kernel
theorem dX12_walksBy_127 : decode cX12_walksBy 127 = .ok (.iload 5, 2) := by decide +kernel
theorem dX12_walksBy_129 : decode cX12_walksBy 129 = .ok (.ineg, 1) := by decide +kernel
theorem dX12_walksBy_130 : decode cX12_walksBy 130 = .ok (.goto 5, 3) := by decide +kernel
theorem dX12_walksBy_133 : decode cX12_walksBy 133 = .ok (.iload 5, 2) := by decide +kernel
theorem dX12_walksBy_135 : decode cX12_walksBy 135 = .ok (.iadd, 1) := by decide +kernel
theorem dX12_walksBy_136 : decode cX12_walksBy 136 = .ok (.istore_n 2, 1) := by decide +kernel
theorem dX12_walksBy_137 : decode cX12_walksBy 137 = .ok (.iinc 3 1, 3) := by decide +kernel
theorem dX12_walksBy_140 : decode cX12_walksBy 140 = .ok (.goto (-134), 3) := by decide +kernel
theorem dX12_walksBy_143 : decode cX12_walksBy 143 = .ok (.iload_n 2, 1) := by decide +kernel
theorem dX12_walksBy_144 : decode cX12_walksBy 144 = .ok (.ireturn, 1) := by decide +kernel
theorem dX12_nextOrder_0 : decode cX12_nextOrder 0 = .ok (.aload_n 0, 1) := by decide +kernel
theorem dX12_nextOrder_1 : decode cX12_nextOrder 1 = .ok (.getfield 311, 3) := by decide +kernel
theorem dX12_nextOrder_4 : decode cX12_nextOrder 4 = .ok (.getfield 277, 3) := by decide +kernel
theorem dX12_nextOrder_7 : decode cX12_nextOrder 7 = .ok (.iconst 2, 1) := by decide +kernel
theorem dX12_nextOrder_8 : decode cX12_nextOrder 8 = .ok (.isub, 1) := by decide +kernel
theorem dX12_nextOrder_9 : decode cX12_nextOrder 9 = .ok (.istore_n 1, 1) := by decide +kernel
theorem dX12_nextOrder_10 : decode cX12_nextOrder 10 = .ok (.iload_n 1, 1) := by decide +kernel
theorem dX12_nextOrder_11 : decode cX12_nextOrder 11 = .ok (.ifCond .lt 26, 3) := by decide +kernel
theorem dX12_nextOrder_14 : decode cX12_nextOrder 14 = .ok (.aload_n 0, 1) := by decide +kernel
theorem dX12_nextOrder_15 : decode cX12_nextOrder 15 = .ok (.getfield 48, 3) := by decide +kernel
theorem dX12_nextOrder_18 : decode cX12_nextOrder 18 = .ok (.iload_n 1, 1) := by decide +kernel
theorem dX12_nextOrder_19 : decode cX12_nextOrder 19 = .ok (.iaload, 1) := by decide +kernel
theorem dX12_nextOrder_20 : decode cX12_nextOrder 20 = .ok (.aload_n 0, 1) := by decide +kernel
theorem dX12_nextOrder_21 : decode cX12_nextOrder 21 = .ok (.getfield 48, 3) := by decide +kernel
theorem dX12_nextOrder_24 : decode cX12_nextOrder 24 = .ok (.iload_n 1, 1) := by decide +kernel
theorem dX12_nextOrder_25 : decode cX12_nextOrder 25 = .ok (.iconst 1, 1) := by decide +kernel
theorem dX12_nextOrder_26 : decode cX12_nextOrder 26 = .ok (.iadd, 1) := by decide +kernel
theorem dX12_nextOrder_27 : decode cX12_nextOrder 27 = .ok (.iaload, 1) := by decide +kernel
theorem dX12_nextOrder_28 : decode cX12_nextOrder 28 = .ok (.if_icmp .le 9, 3) := by decide +kernel
theorem dX12_nextOrder_31 : decode cX12_nextOrder 31 = .ok (.iinc 1 (-1), 3) := by decide +kernel
theorem dX12_nextOrder_34 : decode cX12_nextOrder 34 = .ok (.goto (-24), 3) := by decide +kernel
theorem dX12_nextOrder_37 : decode cX12_nextOrder 37 = .ok (.iload_n 1, 1) := by decide +kernel
theorem dX12_nextOrder_38 : decode cX12_nextOrder 38 = .ok (.ifCond .ge 5, 3) := by decide +kernel
theorem dX12_nextOrder_41 : decode cX12_nextOrder 41 = .ok (.iconst 0, 1) := by decide +kernel
theorem dX12_nextOrder_42 : decode cX12_nextOrder 42 = .ok (.ireturn, 1) := by decide +kernel
theorem dX12_nextOrder_43 : decode cX12_nextOrder 43 = .ok (.aload_n 0, 1) := by decide +kernel
theorem dX12_nextOrder_44 : decode cX12_nextOrder 44 = .ok (.getfield 311, 3) := by decide +kernel
theorem dX12_nextOrder_47 : decode cX12_nextOrder 47 = .ok (.getfield 277, 3) := by decide +kernel
theorem dX12_nextOrder_50 : decode cX12_nextOrder 50 = .ok (.iconst 1, 1) := by decide +kernel
theorem dX12_nextOrder_51 : decode cX12_nextOrder 51 = .ok (.isub, 1) := by decide +kernel
theorem dX12_nextOrder_52 : decode cX12_nextOrder 52 = .ok (.istore_n 2, 1) := by decide +kernel
theorem dX12_nextOrder_53 : decode cX12_nextOrder 53 = .ok (.aload_n 0, 1) := by decide +kernel
theorem dX12_nextOrder_54 : decode cX12_nextOrder 54 = .ok (.getfield 48, 3) := by decide +kernel
theorem dX12_nextOrder_57 : decode cX12_nextOrder 57 = .ok (.iload_n 2, 1) := by decide +kernel
theorem dX12_nextOrder_58 : decode cX12_nextOrder 58 = .ok (.iaload, 1) := by decide +kernel
theorem dX12_nextOrder_59 : decode cX12_nextOrder 59 = .ok (.aload_n 0, 1) := by decide +kernel
theorem dX12_nextOrder_60 : decode cX12_nextOrder 60 = .ok (.getfield 48, 3) := by decide +kernel
theorem dX12_nextOrder_63 : decode cX12_nextOrder 63 = .ok (.iload_n 1, 1) := by decide +kernel
theorem dX12_nextOrder_64 : decode cX12_nextOrder 64 = .ok (.iaload, 1) := by decide +kernel
theorem dX12_nextOrder_65 : decode cX12_nextOrder 65 = .ok (.if_icmp .ge 9, 3) := by decide +kernel
theorem dX12_nextOrder_68 : decode cX12_nextOrder 68 = .ok (.iinc 2 (-1), 3) := by decide +kernel
theorem dX12_nextOrder_71 : decode cX12_nextOrder 71 = .ok (.goto (-18), 3) := by decide +kernel
theorem dX12_nextOrder_74 : decode cX12_nextOrder 74 = .ok (.aload_n 0, 1) := by decide +kernel
theorem dX12_nextOrder_75 : decode cX12_nextOrder 75 = .ok (.iload_n 1, 1) := by decide +kernel
theorem dX12_nextOrder_76 : decode cX12_nextOrder 76 = .ok (.iload_n 2, 1) := by decide +kernel
theorem dX12_nextOrder_77 : decode cX12_nextOrder 77 = .ok (.invokevirtual 412, 3) := by decide +kernel
theorem dX12_nextOrder_80 : decode cX12_nextOrder 80 = .ok (.iload_n 1, 1) := by decide +kernel
theorem dX12_nextOrder_81 : decode cX12_nextOrder 81 = .ok (.iconst 1, 1) := by decide +kernel
theorem dX12_nextOrder_82 : decode cX12_nextOrder 82 = .ok (.iadd, 1) := by decide +kernel
theorem dX12_nextOrder_83 : decode cX12_nextOrder 83 = .ok (.istore_n 3, 1) := by decide +kernel
theorem dX12_nextOrder_84 : decode cX12_nextOrder 84 = .ok (.aload_n 0, 1) := by decide +kernel
theorem dX12_nextOrder_85 : decode cX12_nextOrder 85 = .ok (.getfield 311, 3) := by decide +kernel
theorem dX12_nextOrder_88 : decode cX12_nextOrder 88 = .ok (.getfield 277, 3) := by decide +kernel
theorem dX12_nextOrder_91 : decode cX12_nextOrder 91 = .ok (.iconst 1, 1) := by decide +kernel
theorem dX12_nextOrder_92 : decode cX12_nextOrder 92 = .ok (.isub, 1) := by decide +kernel
theorem dX12_nextOrder_93 : decode cX12_nextOrder 93 = .ok (.istore 4, 2) := by decide +kernel
theorem dX12_nextOrder_95 : decode cX12_nextOrder 95 = .ok (.iload_n 3, 1) := by decide +kernel
theorem dX12_nextOrder_96 : decode cX12_nextOrder 96 = .ok (.iload 4, 2) := by decide +kernel
theorem dX12_nextOrder_98 : decode cX12_nextOrder 98 = .ok (.if_icmp .ge 19, 3) := by decide +kernel
theorem dX12_nextOrder_101 : decode cX12_nextOrder 101 = .ok (.aload_n 0, 1) := by decide +kernel
theorem dX12_nextOrder_102 : decode cX12_nextOrder 102 = .ok (.iload_n 3, 1) := by decide +kernel
theorem dX12_nextOrder_103 : decode cX12_nextOrder 103 = .ok (.iload 4, 2) := by decide +kernel
theorem dX12_nextOrder_105 : decode cX12_nextOrder 105 = .ok (.invokevirtual 412, 3) := by decide +kernel
theorem dX12_nextOrder_108 : decode cX12_nextOrder 108 = .ok (.iinc 3 1, 3) := by decide +kernel
theorem dX12_nextOrder_111 : decode cX12_nextOrder 111 = .ok (.iinc 4 (-1), 3) := by decide +kernel
theorem dX12_nextOrder_114 : decode cX12_nextOrder 114 = .ok (.goto (-19), 3) := by decide +kernel
theorem dX12_nextOrder_117 : decode cX12_nextOrder 117 = .ok (.iconst 1, 1) := by decide +kernel
theorem dX12_nextOrder_118 : decode cX12_nextOrder 118 = .ok (.ireturn, 1) := by decide +kernel
theorem dX12_swaps_0 : decode cX12_swaps 0 = .ok (.aload_n 0, 1) := by decide +kernel
theorem dX12_swaps_1 : decode cX12_swaps 1 = .ok (.getfield 48, 3) := by decide +kernel
theorem dX12_swaps_4 : decode cX12_swaps 4 = .ok (.iload_n 1, 1) := by decide +kernel
theorem dX12_swaps_5 : decode cX12_swaps 5 = .ok (.iaload, 1) := by decide +kernel
theorem dX12_swaps_6 : decode cX12_swaps 6 = .ok (.istore_n 3, 1) := by decide +kernel
theorem dX12_swaps_7 : decode cX12_swaps 7 = .ok (.aload_n 0, 1) := by decide +kernel
theorem dX12_swaps_8 : decode cX12_swaps 8 = .ok (.getfield 48, 3) := by decide +kernel
theorem dX12_swaps_11 : decode cX12_swaps 11 = .ok (.iload_n 1, 1) := by decide +kernel
theorem dX12_swaps_12 : decode cX12_swaps 12 = .ok (.aload_n 0, 1) := by decide +kernel
theorem dX12_swaps_13 : decode cX12_swaps 13 = .ok (.getfield 48, 3) := by decide +kernel
theorem dX12_swaps_16 : decode cX12_swaps 16 = .ok (.iload_n 2, 1) := by decide +kernel
theorem dX12_swaps_17 : decode cX12_swaps 17 = .ok (.iaload, 1) := by decide +kernel
theorem dX12_swaps_18 : decode cX12_swaps 18 = .ok (.iastore, 1) := by decide +kernel
theorem dX12_swaps_19 : decode cX12_swaps 19 = .ok (.aload_n 0, 1) := by decide +kernel
theorem dX12_swaps_20 : decode cX12_swaps 20 = .ok (.getfield 48, 3) := by decide +kernel
theorem dX12_swaps_23 : decode cX12_swaps 23 = .ok (.iload_n 2, 1) := by decide +kernel
theorem dX12_swaps_24 : decode cX12_swaps 24 = .ok (.iload_n 3, 1) := by decide +kernel
theorem dX12_swaps_25 : decode cX12_swaps 25 = .ok (.iastore, 1) := by decide +kernel
theorem dX12_swaps_26 : decode cX12_swaps 26 = .ok (.return_, 1) := by decide +kernel
theorem dX12_visit_0 : decode cX12_visit 0 = .ok (.aload_n 0, 1) := by decide +kernel
theorem dX12_visit_1 : decode cX12_visit 1 = .ok (.iconst 0, 1) := by decide +kernel
theorem dX12_visit_2 : decode cX12_visit 2 = .ok (.putfield 66, 3) := by decide +kernel
theorem dX12_visit_5 : decode cX12_visit 5 = .ok (.aload_n 0, 1) := by decide +kernel
theorem dX12_visit_6 : decode cX12_visit 6 = .ok (.iload_n 1, 1) := by decide +kernel
theorem dX12_visit_7 : decode cX12_visit 7 = .ok (.invokevirtual 350, 3) := by decide +kernel
theorem dX12_visit_10 : decode cX12_visit 10 = .ok (.ifCond .eq 13, 3) := by decide +kernel
theorem dX12_visit_13 : decode cX12_visit 13 = .ok (.aload_n 0, 1) := by decide +kernel
theorem dX12_visit_14 : decode cX12_visit 14 = .ok (.invokevirtual 427, 3) := by decide +kernel
theorem dX12_visit_17 : decode cX12_visit 17 = .ok (.sipush 9999, 3) := by decide +kernel
theorem dX12_visit_20 : decode cX12_visit 20 = .ok (.if_icmp .ne 9, 3) := by decide +kernel
theorem dX12_visit_23 : decode cX12_visit 23 = .ok (.aload_n 0, 1) := by decide +kernel
theorem dX12_visit_24 : decode cX12_visit 24 = .ok (.iconst 1, 1) := by decide +kernel
theorem dX12_visit_25 : decode cX12_visit 25 = .ok (.invokevirtual 72, 3) := by decide +kernel
theorem dX12_visit_28 : decode cX12_visit 28 = .ok (.ireturn, 1) := by decide +kernel
theorem dX12_visit_29 : decode cX12_visit 29 = .ok (.aload_n 0, 1) := by decide +kernel
theorem dX12_visit_30 : decode cX12_visit 30 = .ok (.aload_n 0, 1) := by decide +kernel
theorem dX12_visit_31 : decode cX12_visit 31 = .ok (.getfield 54, 3) := by decide +kernel
theorem dX12_visit_34 : decode cX12_visit 34 = .ok (.iload_n 1, 1) := by decide +kernel
theorem dX12_visit_35 : decode cX12_visit 35 = .ok (.iaload, 1) := by decide +kernel
theorem dX12_visit_36 : decode cX12_visit 36 = .ok (.invokevirtual 76, 3) := by decide +kernel
theorem dX12_visit_39 : decode cX12_visit 39 = .ok (.ireturn, 1) := by decide +kernel
theorem dX12_hourOf_0 : decode cX12_hourOf 0 = .ok (.aload_n 0, 1) := by decide +kernel
theorem dX12_hourOf_1 : decode cX12_hourOf 1 = .ok (.iconst 0, 1) := by decide +kernel
theorem dX12_hourOf_2 : decode cX12_hourOf 2 = .ok (.putfield 66, 3) := by decide +kernel
theorem dX12_hourOf_5 : decode cX12_hourOf 5 = .ok (.aload_n 0, 1) := by decide +kernel
theorem dX12_hourOf_6 : decode cX12_hourOf 6 = .ok (.iload_n 1, 1) := by decide +kernel
theorem dX12_hourOf_7 : decode cX12_hourOf 7 = .ok (.invokevirtual 350, 3) := by decide +kernel
theorem dX12_hourOf_10 : decode cX12_hourOf 10 = .ok (.ifCond .ne 9, 3) := by decide +kernel
theorem dX12_hourOf_13 : decode cX12_hourOf 13 = .ok (.aload_n 0, 1) := by decide +kernel
theorem dX12_hourOf_14 : decode cX12_hourOf 14 = .ok (.iconst 1, 1) := by decide +kernel
theorem dX12_hourOf_15 : decode cX12_hourOf 15 = .ok (.invokevirtual 72, 3) := by decide +kernel
theorem dX12_hourOf_18 : decode cX12_hourOf 18 = .ok (.ireturn, 1) := by decide +kernel
theorem dX12_hourOf_19 : decode cX12_hourOf 19 = .ok (.aload_n 0, 1) := by decide +kernel
theorem dX12_hourOf_20 : decode cX12_hourOf 20 = .ok (.aload_n 0, 1) := by decide +kernel
theorem dX12_hourOf_21 : decode cX12_hourOf 21 = .ok (.invokevirtual 427, 3) := by decide +kernel
theorem dX12_hourOf_24 : decode cX12_hourOf 24 = .ok (.sipush 9999, 3) := by decide +kernel
theorem dX12_hourOf_27 : decode cX12_hourOf 27 = .ok (.if_icmp .ne 8, 3) := by decide +kernel
theorem dX12_hourOf_30 : decode cX12_hourOf 30 = .ok (.bipush (-2), 2) := by decide +kernel
theorem dX12_hourOf_32 : decode cX12_hourOf 32 = .ok (.goto 9, 3) := by decide +kernel
theorem dX12_hourOf_35 : decode cX12_hourOf 35 = .ok (.aload_n 0, 1) := by decide +kernel
theorem dX12_hourOf_36 : decode cX12_hourOf 36 = .ok (.getfield 57, 3) := by decide +kernel
theorem dX12_hourOf_39 : decode cX12_hourOf 39 = .ok (.iload_n 1, 1) := by decide +kernel
theorem dX12_hourOf_40 : decode cX12_hourOf 40 = .ok (.iaload, 1) := by decide +kernel
theorem dX12_hourOf_41 : decode cX12_hourOf 41 = .ok (.invokevirtual 76, 3) := by decide +kernel
theorem dX12_hourOf_44 : decode cX12_hourOf 44 = .ok (.ireturn, 1) := by decide +kernel
theorem dX12_orders_0 : decode cX12_orders 0 = .ok (.aload_n 0, 1) := by decide +kernel
theorem dX12_orders_1 : decode cX12_orders 1 = .ok (.iconst 0, 1) := by decide +kernel
theorem dX12_orders_2 : decode cX12_orders 2 = .ok (.putfield 66, 3) := by decide +kernel
theorem dX12_orders_5 : decode cX12_orders 5 = .ok (.aload_n 0, 1) := by decide +kernel
theorem dX12_orders_6 : decode cX12_orders 6 = .ok (.invokevirtual 424, 3) := by decide +kernel
theorem dX12_orders_9 : decode cX12_orders 9 = .ok (.istore_n 1, 1) := by decide +kernel
theorem dX12_orders_10 : decode cX12_orders 10 = .ok (.iload_n 1, 1) := by decide +kernel
theorem dX12_orders_11 : decode cX12_orders 11 = .ok (.ifCond .le 9, 3) := by decide +kernel
theorem dX12_orders_14 : decode cX12_orders 14 = .ok (.aload_n 0, 1) := by decide +kernel
theorem dX12_orders_15 : decode cX12_orders 15 = .ok (.iload_n 1, 1) := by decide +kernel
theorem dX12_orders_16 : decode cX12_orders 16 = .ok (.invokevirtual 72, 3) := by decide +kernel
theorem dX12_orders_19 : decode cX12_orders 19 = .ok (.ireturn, 1) := by decide +kernel
theorem dX12_orders_20 : decode cX12_orders 20 = .ok (.aload_n 0, 1) := by decide +kernel
theorem dX12_orders_21 : decode cX12_orders 21 = .ok (.invokevirtual 427, 3) := by decide +kernel
theorem dX12_orders_24 : decode cX12_orders 24 = .ok (.pop, 1) := by decide +kernel
theorem dX12_orders_25 : decode cX12_orders 25 = .ok (.aload_n 0, 1) := by decide +kernel
theorem dX12_orders_26 : decode cX12_orders 26 = .ok (.aload_n 0, 1) := by decide +kernel
theorem dX12_orders_27 : decode cX12_orders 27 = .ok (.getfield 415, 3) := by decide +kernel
theorem dX12_orders_30 : decode cX12_orders 30 = .ok (.invokevirtual 76, 3) := by decide +kernel
theorem dX12_orders_33 : decode cX12_orders 33 = .ok (.ireturn, 1) := by decide +kernel
theorem dX12_slips_0 : decode cX12_slips 0 = .ok (.aload_n 0, 1) := by decide +kernel
theorem dX12_slips_1 : decode cX12_slips 1 = .ok (.iconst 0, 1) := by decide +kernel
theorem dX12_slips_2 : decode cX12_slips 2 = .ok (.putfield 66, 3) := by decide +kernel
theorem dX12_slips_5 : decode cX12_slips 5 = .ok (.aload_n 0, 1) := by decide +kernel
theorem dX12_slips_6 : decode cX12_slips 6 = .ok (.invokevirtual 444, 3) := by decide +kernel
theorem dX12_slips_9 : decode cX12_slips 9 = .ok (.istore_n 1, 1) := by decide +kernel
theorem dX12_slips_10 : decode cX12_slips 10 = .ok (.iload_n 1, 1) := by decide +kernel
theorem dX12_slips_11 : decode cX12_slips 11 = .ok (.ifCond .le 11, 3) := by decide +kernel
theorem dX12_slips_14 : decode cX12_slips 14 = .ok (.aload_n 0, 1) := by decide +kernel
theorem dX12_slips_15 : decode cX12_slips 15 = .ok (.iload_n 1, 1) := by decide +kernel
theorem dX12_slips_16 : decode cX12_slips 16 = .ok (.invokevirtual 72, 3) := by decide +kernel
theorem dX12_slips_19 : decode cX12_slips 19 = .ok (.goto 11, 3) := by decide +kernel
theorem dX12_slips_22 : decode cX12_slips 22 = .ok (.aload_n 0, 1) := by decide +kernel
theorem dX12_slips_23 : decode cX12_slips 23 = .ok (.aload_n 0, 1) := by decide +kernel
theorem dX12_slips_24 : decode cX12_slips 24 = .ok (.invokevirtual 447, 3) := by decide +kernel
theorem dX12_slips_27 : decode cX12_slips 27 = .ok (.invokevirtual 76, 3) := by decide +kernel
theorem dX12_slips_30 : decode cX12_slips 30 = .ok (.ireturn, 1) := by decide +kernel
theorem dX12_refusesMixed_0 : decode cX12_refusesMixed 0 = .ok (.aload_n 0, 1) := by decide +kernel
theorem dX12_refusesMixed_1 : decode cX12_refusesMixed 1 = .ok (.getfield 311, 3) := by decide +kernel
theorem dX12_refusesMixed_4 : decode cX12_refusesMixed 4 = .ok (.ifnonnull 7, 3) := by decide +kernel
theorem dX12_refusesMixed_7 : decode cX12_refusesMixed 7 = .ok (.iconst 1, 1) := by decide +kernel
theorem dX12_refusesMixed_8 : decode cX12_refusesMixed 8 = .ok (.goto 19, 3) := by decide +kernel
theorem dX12_refusesMixed_11 : decode cX12_refusesMixed 11 = .ok (.aload_n 0, 1) := by decide +kernel
theorem dX12_refusesMixed_12 : decode cX12_refusesMixed 12 = .ok (.getfield 311, 3) := by decide +kernel
theorem dX12_refusesMixed_15 : decode cX12_refusesMixed 15 = .ok (.getfield 299, 3) := by decide +kernel
theorem dX12_refusesMixed_18 : decode cX12_refusesMixed 18 = .ok (.ifCond .ne 8, 3) := by decide +kernel
theorem dX12_refusesMixed_21 : decode cX12_refusesMixed 21 = .ok (.bipush 6, 2) := by decide +kernel
theorem dX12_refusesMixed_23 : decode cX12_refusesMixed 23 = .ok (.goto 4, 3) := by decide +kernel
theorem dX12_refusesMixed_26 : decode cX12_refusesMixed 26 = .ok (.iconst 0, 1) := by decide +kernel
theorem dX12_refusesMixed_27 : decode cX12_refusesMixed 27 = .ok (.ireturn, 1) := by decide +kernel
theorem dX12_slipsAll_0 : decode cX12_slipsAll 0 = .ok (.bipush (-2), 2) := by decide +kernel
theorem dX12_slipsAll_2 : decode cX12_slipsAll 2 = .ok (.istore_n 1, 1) := by decide +kernel
theorem dX12_slipsAll_3 : decode cX12_slipsAll 3 = .ok (.aload_n 0, 1) := by decide +kernel
theorem dX12_slipsAll_4 : decode cX12_slipsAll 4 = .ok (.iconst 0, 1) := by decide +kernel
theorem dX12_slipsAll_5 : decode cX12_slipsAll 5 = .ok (.putfield 435, 3) := by decide +kernel
theorem dX12_slipsAll_8 : decode cX12_slipsAll 8 = .ok (.aload_n 0, 1) := by decide +kernel
theorem dX12_slipsAll_9 : decode cX12_slipsAll 9 = .ok (.iconst 0, 1) := by decide +kernel
theorem dX12_slipsAll_10 : decode cX12_slipsAll 10 = .ok (.putfield 438, 3) := by decide +kernel
theorem dX12_slipsAll_13 : decode cX12_slipsAll 13 = .ok (.aload_n 0, 1) := by decide +kernel
theorem dX12_slipsAll_14 : decode cX12_slipsAll 14 = .ok (.aload_n 0, 1) := by decide +kernel
theorem dX12_slipsAll_15 : decode cX12_slipsAll 15 = .ok (.getfield 311, 3) := by decide +kernel
theorem dX12_slipsAll_18 : decode cX12_slipsAll 18 = .ok (.invokevirtual 359, 3) := by decide +kernel
theorem dX12_slipsAll_21 : decode cX12_slipsAll 21 = .ok (.invokevirtual 341, 3) := by decide +kernel
theorem dX12_slipsAll_24 : decode cX12_slipsAll 24 = .ok (.aload_n 0, 1) := by decide +kernel
theorem dX12_slipsAll_25 : decode cX12_slipsAll 25 = .ok (.invokevirtual 344, 3) := by decide +kernel
theorem dX12_slipsAll_28 : decode cX12_slipsAll 28 = .ok (.ifCond .eq 83, 3) := by decide +kernel
theorem dX12_slipsAll_31 : decode cX12_slipsAll 31 = .ok (.aload_n 0, 1) := by decide +kernel
theorem dX12_slipsAll_32 : decode cX12_slipsAll 32 = .ok (.invokevirtual 441, 3) := by decide +kernel
theorem dX12_slipsAll_35 : decode cX12_slipsAll 35 = .ok (.istore_n 2, 1) := by decide +kernel
theorem dX12_slipsAll_36 : decode cX12_slipsAll 36 = .ok (.iload_n 2, 1) := by decide +kernel
theorem dX12_slipsAll_37 : decode cX12_slipsAll 37 = .ok (.iload_n 1, 1) := by decide +kernel
theorem dX12_slipsAll_38 : decode cX12_slipsAll 38 = .ok (.if_icmp .ne 13, 3) := by decide +kernel
theorem dX12_slipsAll_41 : decode cX12_slipsAll 41 = .ok (.aload_n 0, 1) := by decide +kernel
theorem dX12_slipsAll_42 : decode cX12_slipsAll 42 = .ok (.dup, 1) := by decide +kernel
theorem dX12_slipsAll_43 : decode cX12_slipsAll 43 = .ok (.getfield 435, 3) := by decide +kernel
theorem dX12_slipsAll_46 : decode cX12_slipsAll 46 = .ok (.iconst 1, 1) := by decide +kernel
theorem dX12_slipsAll_47 : decode cX12_slipsAll 47 = .ok (.iadd, 1) := by decide +kernel
theorem dX12_slipsAll_48 : decode cX12_slipsAll 48 = .ok (.putfield 435, 3) := by decide +kernel
theorem dX12_slipsAll_51 : decode cX12_slipsAll 51 = .ok (.iload_n 1, 1) := by decide +kernel
theorem dX12_slipsAll_52 : decode cX12_slipsAll 52 = .ok (.bipush (-2), 2) := by decide +kernel
theorem dX12_slipsAll_54 : decode cX12_slipsAll 54 = .ok (.if_icmp .eq 11, 3) := by decide +kernel
theorem dX12_slipsAll_57 : decode cX12_slipsAll 57 = .ok (.iload_n 2, 1) := by decide +kernel
theorem dX12_slipsAll_58 : decode cX12_slipsAll 58 = .ok (.iload_n 1, 1) := by decide +kernel
theorem dX12_slipsAll_59 : decode cX12_slipsAll 59 = .ok (.if_icmp .lt 6, 3) := by decide +kernel
theorem dX12_slipsAll_62 : decode cX12_slipsAll 62 = .ok (.goto (-38), 3) := by decide +kernel
theorem dX12_slipsAll_65 : decode cX12_slipsAll 65 = .ok (.iload_n 2, 1) := by decide +kernel
theorem dX12_slipsAll_66 : decode cX12_slipsAll 66 = .ok (.istore_n 1, 1) := by decide +kernel
theorem dX12_slipsAll_67 : decode cX12_slipsAll 67 = .ok (.aload_n 0, 1) := by decide +kernel
theorem dX12_slipsAll_68 : decode cX12_slipsAll 68 = .ok (.iconst 1, 1) := by decide +kernel
theorem dX12_slipsAll_69 : decode cX12_slipsAll 69 = .ok (.putfield 435, 3) := by decide +kernel
theorem dX12_slipsAll_72 : decode cX12_slipsAll 72 = .ok (.aload_n 0, 1) := by decide +kernel
theorem dX12_slipsAll_73 : decode cX12_slipsAll 73 = .ok (.aload_n 0, 1) := by decide +kernel
theorem dX12_slipsAll_74 : decode cX12_slipsAll 74 = .ok (.getfield 323, 3) := by decide +kernel
theorem dX12_slipsAll_77 : decode cX12_slipsAll 77 = .ok (.putfield 438, 3) := by decide +kernel
theorem dX12_slipsAll_80 : decode cX12_slipsAll 80 = .ok (.iconst 0, 1) := by decide +kernel
theorem dX12_slipsAll_81 : decode cX12_slipsAll 81 = .ok (.istore_n 3, 1) := by decide +kernel
theorem dX12_slipsAll_82 : decode cX12_slipsAll 82 = .ok (.iload_n 3, 1) := by decide +kernel
theorem dX12_slipsAll_83 : decode cX12_slipsAll 83 = .ok (.aload_n 0, 1) := by decide +kernel
theorem dX12_slipsAll_84 : decode cX12_slipsAll 84 = .ok (.getfield 323, 3) := by decide +kernel
theorem dX12_slipsAll_87 : decode cX12_slipsAll 87 = .ok (.if_icmp .ge 21, 3) := by decide +kernel
theorem dX12_slipsAll_90 : decode cX12_slipsAll 90 = .ok (.aload_n 0, 1) := by decide +kernel
theorem dX12_slipsAll_91 : decode cX12_slipsAll 91 = .ok (.getfield 63, 3) := by decide +kernel
theorem dX12_slipsAll_94 : decode cX12_slipsAll 94 = .ok (.iload_n 3, 1) := by decide +kernel
theorem dX12_slipsAll_95 : decode cX12_slipsAll 95 = .ok (.aload_n 0, 1) := by decide +kernel
theorem dX12_slipsAll_96 : decode cX12_slipsAll 96 = .ok (.getfield 30, 3) := by decide +kernel
theorem dX12_slipsAll_99 : decode cX12_slipsAll 99 = .ok (.iload_n 3, 1) := by decide +kernel
theorem dX12_slipsAll_100 : decode cX12_slipsAll 100 = .ok (.iaload, 1) := by decide +kernel
theorem dX12_slipsAll_101 : decode cX12_slipsAll 101 = .ok (.iastore, 1) := by decide +kernel
theorem dX12_slipsAll_102 : decode cX12_slipsAll 102 = .ok (.iinc 3 1, 3) := by decide +kernel
theorem dX12_slipsAll_105 : decode cX12_slipsAll 105 = .ok (.goto (-23), 3) := by decide +kernel
theorem dX12_slipsAll_108 : decode cX12_slipsAll 108 = .ok (.goto (-84), 3) := by decide +kernel
theorem dX12_slipsAll_111 : decode cX12_slipsAll 111 = .ok (.iload_n 1, 1) := by decide +kernel
theorem dX12_slipsAll_112 : decode cX12_slipsAll 112 = .ok (.ireturn, 1) := by decide +kernel
theorem dX12_slipsNow_0 : decode cX12_slipsNow 0 = .ok (.iconst 0, 1) := by decide +kernel
theorem dX12_slipsNow_1 : decode cX12_slipsNow 1 = .ok (.istore_n 1, 1) := by decide +kernel
theorem dX12_slipsNow_2 : decode cX12_slipsNow 2 = .ok (.iload_n 1, 1) := by decide +kernel
theorem dX12_slipsNow_3 : decode cX12_slipsNow 3 = .ok (.aload_n 0, 1) := by decide +kernel
theorem dX12_slipsNow_4 : decode cX12_slipsNow 4 = .ok (.getfield 311, 3) := by decide +kernel
theorem dX12_slipsNow_7 : decode cX12_slipsNow 7 = .ok (.getfield 299, 3) := by decide +kernel
theorem dX12_slipsNow_10 : decode cX12_slipsNow 10 = .ok (.if_icmp .gt 135, 3) := by decide +kernel
theorem dX12_slipsNow_13 : decode cX12_slipsNow 13 = .ok (.iconst 0, 1) := by decide +kernel
theorem dX12_slipsNow_14 : decode cX12_slipsNow 14 = .ok (.istore_n 2, 1) := by decide +kernel
theorem dX12_slipsNow_15 : decode cX12_slipsNow 15 = .ok (.iload_n 2, 1) := by decide +kernel
theorem dX12_slipsNow_16 : decode cX12_slipsNow 16 = .ok (.aload_n 0, 1) := by decide +kernel
theorem dX12_slipsNow_17 : decode cX12_slipsNow 17 = .ok (.getfield 323, 3) := by decide +kernel
theorem dX12_slipsNow_20 : decode cX12_slipsNow 20 = .ok (.if_icmp .gt 119, 3) := by decide +kernel
theorem dX12_slipsNow_23 : decode cX12_slipsNow 23 = .ok (.iload_n 1, 1) := by decide +kernel
theorem dX12_slipsNow_24 : decode cX12_slipsNow 24 = .ok (.ifCond .eq 7, 3) := by decide +kernel
theorem dX12_slipsNow_27 : decode cX12_slipsNow 27 = .ok (.iload_n 2, 1) := by decide +kernel
theorem dX12_slipsNow_28 : decode cX12_slipsNow 28 = .ok (.ifCond .ne 19, 3) := by decide +kernel
theorem dX12_slipsNow_31 : decode cX12_slipsNow 31 = .ok (.aload_n 0, 1) := by decide +kernel
theorem dX12_slipsNow_32 : decode cX12_slipsNow 32 = .ok (.getfield 60, 3) := by decide +kernel
theorem dX12_slipsNow_35 : decode cX12_slipsNow 35 = .ok (.iload_n 1, 1) := by decide +kernel
theorem dX12_slipsNow_36 : decode cX12_slipsNow 36 = .ok (.iload_n 2, 1) := by decide +kernel
theorem dX12_slipsNow_37 : decode cX12_slipsNow 37 = .ok (.invokestatic 430, 3) := by decide +kernel
theorem dX12_slipsNow_40 : decode cX12_slipsNow 40 = .ok (.iload_n 1, 1) := by decide +kernel
theorem dX12_slipsNow_41 : decode cX12_slipsNow 41 = .ok (.iload_n 2, 1) := by decide +kernel
theorem dX12_slipsNow_42 : decode cX12_slipsNow 42 = .ok (.iadd, 1) := by decide +kernel
theorem dX12_slipsNow_43 : decode cX12_slipsNow 43 = .ok (.iastore, 1) := by decide +kernel
theorem dX12_slipsNow_44 : decode cX12_slipsNow 44 = .ok (.goto 89, 3) := by decide +kernel
theorem dX12_slipsNow_47 : decode cX12_slipsNow 47 = .ok (.aload_n 0, 1) := by decide +kernel
theorem dX12_slipsNow_48 : decode cX12_slipsNow 48 = .ok (.getfield 60, 3) := by decide +kernel
theorem dX12_slipsNow_51 : decode cX12_slipsNow 51 = .ok (.iload_n 1, 1) := by decide +kernel
theorem dX12_slipsNow_52 : decode cX12_slipsNow 52 = .ok (.iconst 1, 1) := by decide +kernel
theorem dX12_slipsNow_53 : decode cX12_slipsNow 53 = .ok (.isub, 1) := by decide +kernel
theorem dX12_slipsNow_54 : decode cX12_slipsNow 54 = .ok (.iload_n 2, 1) := by decide +kernel
theorem dX12_slipsNow_55 : decode cX12_slipsNow 55 = .ok (.iconst 1, 1) := by decide +kernel
theorem dX12_slipsNow_56 : decode cX12_slipsNow 56 = .ok (.isub, 1) := by decide +kernel
theorem dX12_slipsNow_57 : decode cX12_slipsNow 57 = .ok (.invokestatic 430, 3) := by decide +kernel
theorem dX12_slipsNow_60 : decode cX12_slipsNow 60 = .ok (.iaload, 1) := by decide +kernel
theorem dX12_slipsNow_61 : decode cX12_slipsNow 61 = .ok (.aload_n 0, 1) := by decide +kernel
theorem dX12_slipsNow_62 : decode cX12_slipsNow 62 = .ok (.getfield 311, 3) := by decide +kernel
theorem dX12_slipsNow_65 : decode cX12_slipsNow 65 = .ok (.getfield 301, 3) := by decide +kernel
theorem dX12_slipsNow_68 : decode cX12_slipsNow 68 = .ok (.iload_n 1, 1) := by decide +kernel
theorem dX12_slipsNow_69 : decode cX12_slipsNow 69 = .ok (.iconst 1, 1) := by decide +kernel
theorem dX12_slipsNow_70 : decode cX12_slipsNow 70 = .ok (.isub, 1) := by decide +kernel
theorem dX12_slipsNow_71 : decode cX12_slipsNow 71 = .ok (.iaload, 1) := by decide +kernel
theorem dX12_slipsNow_72 : decode cX12_slipsNow 72 = .ok (.aload_n 0, 1) := by decide +kernel
theorem dX12_slipsNow_73 : decode cX12_slipsNow 73 = .ok (.getfield 30, 3) := by decide +kernel
theorem dX12_slipsNow_76 : decode cX12_slipsNow 76 = .ok (.iload_n 2, 1) := by decide +kernel
theorem dX12_slipsNow_77 : decode cX12_slipsNow 77 = .ok (.iconst 1, 1) := by decide +kernel
theorem dX12_slipsNow_78 : decode cX12_slipsNow 78 = .ok (.isub, 1) := by decide +kernel
theorem dX12_slipsNow_79 : decode cX12_slipsNow 79 = .ok (.iaload, 1) := by decide +kernel
theorem dX12_slipsNow_80 : decode cX12_slipsNow 80 = .ok (.if_icmp .ne 7, 3) := by decide +kernel
theorem dX12_slipsNow_83 : decode cX12_slipsNow 83 = .ok (.iconst 0, 1) := by decide +kernel
theorem dX12_slipsNow_84 : decode cX12_slipsNow 84 = .ok (.goto 4, 3) := by decide +kernel
theorem dX12_slipsNow_87 : decode cX12_slipsNow 87 = .ok (.iconst 1, 1) := by decide +kernel
theorem dX12_slipsNow_88 : decode cX12_slipsNow 88 = .ok (.iadd, 1) := by decide +kernel
theorem dX12_slipsNow_89 : decode cX12_slipsNow 89 = .ok (.istore_n 3, 1) := by decide +kernel
theorem dX12_slipsNow_90 : decode cX12_slipsNow 90 = .ok (.aload_n 0, 1) := by decide +kernel
theorem dX12_slipsNow_91 : decode cX12_slipsNow 91 = .ok (.getfield 60, 3) := by decide +kernel
theorem dX12_slipsNow_94 : decode cX12_slipsNow 94 = .ok (.iload_n 1, 1) := by decide +kernel
theorem dX12_slipsNow_95 : decode cX12_slipsNow 95 = .ok (.iload_n 2, 1) := by decide +kernel
theorem dX12_slipsNow_96 : decode cX12_slipsNow 96 = .ok (.invokestatic 430, 3) := by decide +kernel
theorem dX12_slipsNow_99 : decode cX12_slipsNow 99 = .ok (.iload_n 3, 1) := by decide +kernel
theorem dX12_slipsNow_100 : decode cX12_slipsNow 100 = .ok (.iconst 1, 1) := by decide +kernel
theorem dX12_slipsNow_101 : decode cX12_slipsNow 101 = .ok (.aload_n 0, 1) := by decide +kernel
theorem dX12_slipsNow_102 : decode cX12_slipsNow 102 = .ok (.getfield 60, 3) := by decide +kernel
theorem dX12_slipsNow_105 : decode cX12_slipsNow 105 = .ok (.iload_n 1, 1) := by decide +kernel
theorem dX12_slipsNow_106 : decode cX12_slipsNow 106 = .ok (.iconst 1, 1) := by decide +kernel
theorem dX12_slipsNow_107 : decode cX12_slipsNow 107 = .ok (.isub, 1) := by decide +kernel
theorem dX12_slipsNow_108 : decode cX12_slipsNow 108 = .ok (.iload_n 2, 1) := by decide +kernel
theorem dX12_slipsNow_109 : decode cX12_slipsNow 109 = .ok (.invokestatic 430, 3) := by decide +kernel
theorem dX12_slipsNow_112 : decode cX12_slipsNow 112 = .ok (.iaload, 1) := by decide +kernel
theorem dX12_slipsNow_113 : decode cX12_slipsNow 113 = .ok (.aload_n 0, 1) := by decide +kernel
theorem dX12_slipsNow_114 : decode cX12_slipsNow 114 = .ok (.getfield 60, 3) := by decide +kernel
theorem dX12_slipsNow_117 : decode cX12_slipsNow 117 = .ok (.iload_n 1, 1) := by decide +kernel
theorem dX12_slipsNow_118 : decode cX12_slipsNow 118 = .ok (.iload_n 2, 1) := by decide +kernel
theorem dX12_slipsNow_119 : decode cX12_slipsNow 119 = .ok (.iconst 1, 1) := by decide +kernel
theorem dX12_slipsNow_120 : decode cX12_slipsNow 120 = .ok (.isub, 1) := by decide +kernel
theorem dX12_slipsNow_121 : decode cX12_slipsNow 121 = .ok (.invokestatic 430, 3) := by decide +kernel
theorem dX12_slipsNow_124 : decode cX12_slipsNow 124 = .ok (.iaload, 1) := by decide +kernel
theorem dX12_slipsNow_125 : decode cX12_slipsNow 125 = .ok (.invokestatic 432, 3) := by decide +kernel
theorem dX12_slipsNow_128 : decode cX12_slipsNow 128 = .ok (.iadd, 1) := by decide +kernel
theorem dX12_slipsNow_129 : decode cX12_slipsNow 129 = .ok (.invokestatic 432, 3) := by decide +kernel
theorem dX12_slipsNow_132 : decode cX12_slipsNow 132 = .ok (.iastore, 1) := by decide +kernel
theorem dX12_slipsNow_133 : decode cX12_slipsNow 133 = .ok (.iinc 2 1, 3) := by decide +kernel
theorem dX12_slipsNow_136 : decode cX12_slipsNow 136 = .ok (.goto (-121), 3) := by decide +kernel
theorem dX12_slipsNow_139 : decode cX12_slipsNow 139 = .ok (.iinc 1 1, 3) := by decide +kernel
theorem dX12_slipsNow_142 : decode cX12_slipsNow 142 = .ok (.goto (-140), 3) := by decide +kernel
theorem dX12_slipsNow_145 : decode cX12_slipsNow 145 = .ok (.aload_n 0, 1) := by decide +kernel
theorem dX12_slipsNow_146 : decode cX12_slipsNow 146 = .ok (.getfield 60, 3) := by decide +kernel
theorem dX12_slipsNow_149 : decode cX12_slipsNow 149 = .ok (.aload_n 0, 1) := by decide +kernel
theorem dX12_slipsNow_150 : decode cX12_slipsNow 150 = .ok (.getfield 311, 3) := by decide +kernel
theorem dX12_slipsNow_153 : decode cX12_slipsNow 153 = .ok (.getfield 299, 3) := by decide +kernel
theorem dX12_slipsNow_156 : decode cX12_slipsNow 156 = .ok (.aload_n 0, 1) := by decide +kernel
theorem dX12_slipsNow_157 : decode cX12_slipsNow 157 = .ok (.getfield 323, 3) := by decide +kernel
theorem dX12_slipsNow_160 : decode cX12_slipsNow 160 = .ok (.invokestatic 430, 3) := by decide +kernel
theorem dX12_slipsNow_163 : decode cX12_slipsNow 163 = .ok (.iaload, 1) := by decide +kernel
theorem dX12_slipsNow_164 : decode cX12_slipsNow 164 = .ok (.ireturn, 1) := by decide +kernel
theorem dX12_at_0 : decode cX12_at 0 = .ok (.bipush 9, 2) := by decide +kernel
theorem dX12_at_2 : decode cX12_at 2 = .ok (.iload_n 0, 1) := by decide +kernel
theorem dX12_at_3 : decode cX12_at 3 = .ok (.imul, 1) := by decide +kernel
theorem dX12_at_4 : decode cX12_at 4 = .ok (.iload_n 1, 1) := by decide +kernel
theorem dX12_at_5 : decode cX12_at 5 = .ok (.iadd, 1) := by decide +kernel
theorem dX12_at_6 : decode cX12_at 6 = .ok (.ireturn, 1) := by decide +kernel
theorem dX12_less_0 : decode cX12_less 0 = .ok (.iload_n 0, 1) := by decide +kernel
theorem dX12_less_1 : decode cX12_less 1 = .ok (.iload_n 1, 1) := by decide +kernel
theorem dX12_less_2 : decode cX12_less 2 = .ok (.if_icmp .ge 7, 3) := by decide +kernel
theorem dX12_less_5 : decode cX12_less 5 = .ok (.iload_n 0, 1) := by decide +kernel
theorem dX12_less_6 : decode cX12_less 6 = .ok (.goto 4, 3) := by decide +kernel
theorem dX12_less_9 : decode cX12_less 9 = .ok (.iload_n 1, 1) := by decide +kernel
theorem dX12_less_10 : decode cX12_less 10 = .ok (.ireturn, 1) := by decide +kernel
def f_M_allKnow_74 (n : Nat) : Nat → Int32 → Int32 → Int32 → k_St → Option (Int32 × k_St)
  | 0, _, _, _, _ => none
  | k + 1, x3, x4, x5, t => (if (t.1 18 4) ≤ x5 then some (x4, t) else k_gi x5 5 ((if (t.1 10 x5.toNatClampNeg) = x3 then k_lt (x4 + (1 : Int32)) (fun x4_4 => k_lt (x5 + (1 : Int32)) (fun x5_5 => f_M_allKnow_74 n k x3 x4_4 x5_5 t)) else k_lt (x4 + (0 : Int32)) (fun x4_2 => k_lt (x5 + (1 : Int32)) (fun x5_3 => f_M_allKnow_74 n k x3 x4_2 x5_3 t)))))
def f_M_allKnow_44 (n : Nat) : Nat → Int32 → Int32 → Int32 → Int32 → k_St → Option (Int32 × k_St)
  | 0, _, _, _, _, _ => none
  | k + 1, x1, x2, x3, x4, t => (if x2 ≤ x4 then f_M_allKnow_74 n n x3 (0 : Int32) (0 : Int32) t else k_cp (f_M_rowOf n t x1 x2 x4) (fun r_1 => k_cv (f_M_meetsBy n r_1 t) (fun t_2 => k_lt (x4 + (1 : Int32)) (fun x4_3 => f_M_allKnow_44 n k x1 x2 x3 x4_3 t_2))))
def f_M_allKnow_9 (n : Nat) : Nat → Int32 → Int32 → Int32 → Int32 → k_St → Option (Int32 × k_St)
  | 0, _, _, _, _, _ => none
  | k + 1, x1, x2, x3, x4, t => (if (t.1 18 4) ≤ x4 then f_M_allKnow_44 n n x1 x2 x3 (0 : Int32) t else k_gi x4 6 (k_gi x4 5 (k_lt (k_sI t 10 x4.toNatClampNeg (t.1 2 x4.toNatClampNeg)) (fun t_3 => k_lt (x4 + (1 : Int32)) (fun x4_4 => f_M_allKnow_9 n k x1 x2 x3 x4_4 t_3)))))
def f_M_allKnow (n : Nat) (x1 : Int32) (x2 : Int32) (t : k_St) : Option (Int32 × k_St) := k_cp (f_M_knownBut n t (-1 : Int32)) (fun r_1 => f_M_allKnow_9 n n x1 x2 r_1 (0 : Int32) t)
theorem m_M_allKnow_74 {p : Program} (l : Launch) {e : Env} {s : State} {m : MethodId} {args : Array Value} {below : List Frame} {meth : Method} {c : Code} (G : k_G) (a : Nat → Nat) (rv : Value) (n : Nat) {w0 : va_W} {r : Int32} {t' : k_St} (hA : k_Amb p s m args meth c cX12_allKnow 6 "TaleSharesModel" G (va_A w0 s.heap.size)) (hr : meth.sig.returnType = (some .int)) : ∀ (k : Nat) (x3 : Int32) (x4 : Int32) (x5 : Int32) (t : k_St), f_M_allKnow_74 n k x3 x4 x5 t = some (r, t') → k_Go p l e (k_rm 4) s m args below meth c (k_QI G w0 r (k_WT G.2.1 a rv t') args s below) 6 G (va_A w0 s.heap.size) (k_WT G.2.1 a rv t) 74 [(0, .ref (a 0)), (3, .int x3), (4, .int x4), (5, .int x5)] [] := by
  intro k
  induction k with
  | zero => intro x3 x4 x5 t hf; cases hf
  | succ k ih =>
  intro x3 x4 x5 t hf
  rw [f_M_allKnow_74] at hf
  refine k_iload hA dX12_allKnow_74 3 rfl ?_
  refine k_aload_n (i := 0) hA dX12_allKnow_76 rfl 0 rfl ?_
  refine gt_MT_0_3 hA wd_1251 dX12_allKnow_77 ?_
  refine gt_MT_18_4N hA rfl nf_277 dX12_allKnow_80 ?_
  refine k_icmp_ge (tgt := 113) hA dX12_allKnow_83 rfl (fun hc => ?_) (fun hc => ?_)
  · have hf := k_ift hc hf
    obtain ⟨rfl, rfl⟩ := k_r2 hf
    refine k_iload hA dX12_allKnow_113 2 rfl ?_
    exact k_iret hA hr rfl dX12_allKnow_115
  have hf := k_iff hc hf
  obtain ⟨hi_1, hf⟩ := k_gi_e hf
  refine k_iload hA dX12_allKnow_86 2 rfl ?_
  refine k_aload_n (i := 0) hA dX12_allKnow_88 rfl 0 rfl ?_
  refine gt_MT_0_29 hA wd_1277 dX12_allKnow_89 ?_
  refine k_iload hA dX12_allKnow_92 3 rfl ?_
  refine ld_MT_10 hA hi_1 dX12_allKnow_94 ?_
  refine k_iload_n (i := 3) hA dX12_allKnow_95 rfl 1 rfl ?_
  refine k_icmp_ne (tgt := 103) hA dX12_allKnow_96 rfl (fun hc => ?_) (fun hc => ?_)
  · have hf := k_iff hc hf
    obtain ⟨x4_2, ex4_2, hf⟩ := k_lt_e hf
    obtain ⟨x5_3, ex5_3, hf⟩ := k_lt_e hf
    refine k_iconst hA dX12_allKnow_103 kc_i_0 ?_
    refine k_iadd hA dX12_allKnow_104 ?_
    refine k_istore (lv' := [(4, .int x4_2), (0, .ref (a 0)), (3, .int x3), (5, .int x5)]) hA dX12_allKnow_105 ex4_2 (Nat.le_of_ble_eq_true rfl) rfl ?_
    refine k_iinc (j := 3) (v := x5_3) (lv' := [(5, .int x5_3), (4, .int x4_2), (0, .ref (a 0)), (3, .int x3)]) hA dX12_allKnow_107 rfl (k_inc ex5_3 kc_i_1) (Nat.le_of_ble_eq_true rfl) rfl ?_
    refine k_goto (tgt := 74) hA dX12_allKnow_110 rfl ?_
    refine k_pick (lv' := [(0, .ref (a 0)), (3, .int x3), (4, .int x4_2), (5, .int x5_3)]) [2, 3, 1, 0] rfl ?_
    exact ih x3 x4_2 x5_3 t hf
  have hf := k_ift hc hf
  obtain ⟨x4_4, ex4_4, hf⟩ := k_lt_e hf
  obtain ⟨x5_5, ex5_5, hf⟩ := k_lt_e hf
  refine k_iconst hA dX12_allKnow_99 kc_i_1 ?_
  refine k_goto (tgt := 104) hA dX12_allKnow_100 rfl ?_
  refine k_iadd hA dX12_allKnow_104 ?_
  refine k_istore (lv' := [(4, .int x4_4), (0, .ref (a 0)), (3, .int x3), (5, .int x5)]) hA dX12_allKnow_105 ex4_4 (Nat.le_of_ble_eq_true rfl) rfl ?_
  refine k_iinc (j := 3) (v := x5_5) (lv' := [(5, .int x5_5), (4, .int x4_4), (0, .ref (a 0)), (3, .int x3)]) hA dX12_allKnow_107 rfl (k_inc ex5_5 kc_i_1) (Nat.le_of_ble_eq_true rfl) rfl ?_
  refine k_goto (tgt := 74) hA dX12_allKnow_110 rfl ?_
  refine k_pick (lv' := [(0, .ref (a 0)), (3, .int x3), (4, .int x4_4), (5, .int x5_5)]) [2, 3, 1, 0] rfl ?_
  exact ih x3 x4_4 x5_5 t hf

theorem m_M_allKnow_44 {p : Program} (l : Launch) {e : Env} {s : State} {m : MethodId} {args : Array Value} {below : List Frame} {meth : Method} {c : Code} (G : k_G) (a : Nat → Nat) (rv : Value) (n : Nat) {w0 : va_W} {r : Int32} {t' : k_St} (hA : k_Amb p s m args meth c cX12_allKnow 6 "TaleSharesModel" G (va_A w0 s.heap.size)) (hr : meth.sig.returnType = (some .int)) : ∀ (k : Nat) (x1 : Int32) (x2 : Int32) (x3 : Int32) (x4 : Int32) (t : k_St), f_M_allKnow_44 n k x1 x2 x3 x4 t = some (r, t') → k_Go p l e (k_rm 4) s m args below meth c (k_QI G w0 r (k_WT G.2.1 a rv t') args s below) 6 G (va_A w0 s.heap.size) (k_WT G.2.1 a rv t) 44 [(0, .ref (a 0)), (1, .int x1), (2, .int x2), (3, .int x3), (4, .int x4)] [] := by
  intro k
  induction k with
  | zero => intro x1 x2 x3 x4 t hf; cases hf
  | succ k ih =>
  intro x1 x2 x3 x4 t hf
  rw [f_M_allKnow_44] at hf
  refine k_iload hA dX12_allKnow_44 4 rfl ?_
  refine k_iload_n (i := 2) hA dX12_allKnow_46 rfl 2 rfl ?_
  refine k_icmp_ge (tgt := 68) hA dX12_allKnow_47 rfl (fun hc => ?_) (fun hc => ?_)
  · have hf := k_ift hc hf
    refine k_iconst hA dX12_allKnow_68 kc_i_0 ?_
    refine k_istore (lv' := [(4, .int (0 : Int32)), (0, .ref (a 0)), (1, .int x1), (2, .int x2), (3, .int x3)]) hA dX12_allKnow_69 rfl (Nat.le_of_ble_eq_true rfl) rfl ?_
    refine k_iconst hA dX12_allKnow_71 kc_i_0 ?_
    refine k_istore (lv' := [(5, .int (0 : Int32)), (4, .int (0 : Int32)), (0, .ref (a 0)), (1, .int x1), (2, .int x2), (3, .int x3)]) hA dX12_allKnow_72 rfl (Nat.le_of_ble_eq_true rfl) rfl ?_
    refine k_pick (lv' := [(0, .ref (a 0)), (3, .int x3), (4, .int (0 : Int32)), (5, .int (0 : Int32))]) [2, 5, 1, 0] rfl ?_
    exact m_M_allKnow_74 l G a rv n hA hr n x3 (0 : Int32) (0 : Int32) t hf
  have hf := k_iff hc hf
  obtain ⟨r_1, hr_1, hf⟩ := k_cp_e hf
  obtain ⟨t_2, ht_2, hf⟩ := k_cv_e hf
  obtain ⟨x4_3, ex4_3, hf⟩ := k_lt_e hf
  refine k_aload_n (i := 0) hA dX12_allKnow_50 rfl 0 rfl ?_
  refine k_aload_n (i := 0) hA dX12_allKnow_51 rfl 0 rfl ?_
  refine k_iload_n (i := 1) hA dX12_allKnow_52 rfl 1 rfl ?_
  refine k_iload_n (i := 2) hA dX12_allKnow_53 rfl 2 rfl ?_
  refine k_iload hA dX12_allKnow_54 4 rfl ?_
  refine k_callVi (As := [.int x1, .int x2, .int x4]) (rest := [.ref (a 0)]) hA (m_M_rowOf l G a rv n t x1 x2 x4 hr_1) cd_X12_rowOf wd_1776 (hc_MT_0 G.2.1 a rv t) rfl rfl (Nat.le_of_ble_eq_true rfl) rfl rfl (Nat.le_of_ble_eq_true rfl) dX12_allKnow_56 ?_
  refine k_callVv (As := [.int r_1]) (rest := []) hA (m_M_meetsBy l G a rv n r_1 t ht_2) cd_X12_meetsBy wd_1780 (hc_MT_0 G.2.1 a rv t) rfl rfl (Nat.le_of_ble_eq_true rfl) rfl rfl (Nat.le_of_ble_eq_true rfl) dX12_allKnow_59 ?_
  refine k_iinc (j := 4) (v := x4_3) (lv' := [(4, .int x4_3), (0, .ref (a 0)), (1, .int x1), (2, .int x2), (3, .int x3)]) hA dX12_allKnow_62 rfl (k_inc ex4_3 kc_i_1) (Nat.le_of_ble_eq_true rfl) rfl ?_
  refine k_goto (tgt := 44) hA dX12_allKnow_65 rfl ?_
  refine k_pick (lv' := [(0, .ref (a 0)), (1, .int x1), (2, .int x2), (3, .int x3), (4, .int x4_3)]) [1, 2, 3, 4, 0] rfl ?_
  exact ih x1 x2 x3 x4_3 t_2 hf

theorem m_M_allKnow_9 {p : Program} (l : Launch) {e : Env} {s : State} {m : MethodId} {args : Array Value} {below : List Frame} {meth : Method} {c : Code} (G : k_G) (a : Nat → Nat) (rv : Value) (n : Nat) {w0 : va_W} {r : Int32} {t' : k_St} (hA : k_Amb p s m args meth c cX12_allKnow 6 "TaleSharesModel" G (va_A w0 s.heap.size)) (hr : meth.sig.returnType = (some .int)) : ∀ (k : Nat) (x1 : Int32) (x2 : Int32) (x3 : Int32) (x4 : Int32) (t : k_St), f_M_allKnow_9 n k x1 x2 x3 x4 t = some (r, t') → k_Go p l e (k_rm 4) s m args below meth c (k_QI G w0 r (k_WT G.2.1 a rv t') args s below) 6 G (va_A w0 s.heap.size) (k_WT G.2.1 a rv t) 9 [(0, .ref (a 0)), (1, .int x1), (2, .int x2), (3, .int x3), (4, .int x4)] [] := by
  intro k
  induction k with
  | zero => intro x1 x2 x3 x4 t hf; cases hf
  | succ k ih =>
  intro x1 x2 x3 x4 t hf
  rw [f_M_allKnow_9] at hf
  refine k_iload hA dX12_allKnow_9 4 rfl ?_
  refine k_aload_n (i := 0) hA dX12_allKnow_11 rfl 0 rfl ?_
  refine gt_MT_0_3 hA wd_1251 dX12_allKnow_12 ?_
  refine gt_MT_18_4N hA rfl nf_277 dX12_allKnow_15 ?_
  refine k_icmp_ge (tgt := 41) hA dX12_allKnow_18 rfl (fun hc => ?_) (fun hc => ?_)
  · have hf := k_ift hc hf
    refine k_iconst hA dX12_allKnow_41 kc_i_0 ?_
    refine k_istore (lv' := [(4, .int (0 : Int32)), (0, .ref (a 0)), (1, .int x1), (2, .int x2), (3, .int x3)]) hA dX12_allKnow_42 rfl (Nat.le_of_ble_eq_true rfl) rfl ?_
    refine k_pick (lv' := [(0, .ref (a 0)), (1, .int x1), (2, .int x2), (3, .int x3), (4, .int (0 : Int32))]) [1, 2, 3, 4, 0] rfl ?_
    exact m_M_allKnow_44 l G a rv n hA hr n x1 x2 x3 (0 : Int32) t hf
  have hf := k_iff hc hf
  obtain ⟨hi_1, hf⟩ := k_gi_e hf
  obtain ⟨hi_2, hf⟩ := k_gi_e hf
  obtain ⟨t_3, et_3, hf⟩ := k_lt_e hf
  obtain ⟨x4_4, ex4_4, hf⟩ := k_lt_e hf
  refine k_aload_n (i := 0) hA dX12_allKnow_21 rfl 0 rfl ?_
  refine gt_MT_0_29 hA wd_1277 dX12_allKnow_22 ?_
  refine k_iload hA dX12_allKnow_25 4 rfl ?_
  refine k_aload_n (i := 0) hA dX12_allKnow_27 rfl 0 rfl ?_
  refine gt_MT_0_15 hA wd_1263 dX12_allKnow_28 ?_
  refine k_iload hA dX12_allKnow_31 4 rfl ?_
  refine ld_MT_2 hA hi_1 dX12_allKnow_33 ?_
  refine sr_MT_10 hA hi_2 et_3 dX12_allKnow_34 ?_
  refine k_iinc (j := 4) (v := x4_4) (lv' := [(4, .int x4_4), (0, .ref (a 0)), (1, .int x1), (2, .int x2), (3, .int x3)]) hA dX12_allKnow_35 rfl (k_inc ex4_4 kc_i_1) (Nat.le_of_ble_eq_true rfl) rfl ?_
  refine k_goto (tgt := 9) hA dX12_allKnow_38 rfl ?_
  refine k_pick (lv' := [(0, .ref (a 0)), (1, .int x1), (2, .int x2), (3, .int x3), (4, .int x4_4)]) [1, 2, 3, 4, 0] rfl ?_
  exact ih x1 x2 x3 x4_4 t_3 hf

theorem m_M_allKnow (l : Launch) (G : k_G) (a : Nat → Nat) (rv : Value) (n : Nat) (x1 : Int32) (x2 : Int32) (t : k_St) {r : Int32} {t' : k_St} (hf : f_M_allKnow n x1 x2 t = some (r, t')) : k_CI l G yX12_allKnow cX12_allKnow 6 (some .int) 4 (k_WT G.2.1 a rv t) [.ref (a 0), .int x1, .int x2] r (k_WT G.2.1 a rv t') := by
  refine k_startI (lv := [(0, .ref (a 0)), (1, .int x1), (2, .int x2)]) (by decide +kernel) (Nat.le_of_ble_eq_true rfl) rfl ?_
  intro p e s m args below meth c hA hr
  have hA : k_Amb p s m args meth c cX12_allKnow 6 "TaleSharesModel" G _ := hA
  unfold f_M_allKnow at hf
  obtain ⟨r_1, hr_1, hf⟩ := k_cp_e hf
  refine k_aload_n (i := 0) hA dX12_allKnow_0 rfl 0 rfl ?_
  refine k_iconst hA dX12_allKnow_1 kc_i_m1 ?_
  refine k_callVi (As := [.int (-1 : Int32)]) (rest := []) hA (m_M_knownBut l G a rv n t (-1 : Int32) hr_1) cd_X12_knownBut wd_1657 (hc_MT_0 G.2.1 a rv t) rfl rfl (Nat.le_of_ble_eq_true rfl) rfl rfl (Nat.le_of_ble_eq_true rfl) dX12_allKnow_2 ?_
  refine k_istore_n (i := 3) (lv' := [(3, .int r_1), (0, .ref (a 0)), (1, .int x1), (2, .int x2)]) hA dX12_allKnow_5 rfl rfl (Nat.le_of_ble_eq_true rfl) rfl ?_
  refine k_iconst hA dX12_allKnow_6 kc_i_0 ?_
  refine k_istore (lv' := [(4, .int (0 : Int32)), (3, .int r_1), (0, .ref (a 0)), (1, .int x1), (2, .int x2)]) hA dX12_allKnow_7 rfl (Nat.le_of_ble_eq_true rfl) rfl ?_
  refine k_pick (lv' := [(0, .ref (a 0)), (1, .int x1), (2, .int x2), (3, .int r_1), (4, .int (0 : Int32))]) [2, 3, 4, 1, 0] rfl ?_
  exact m_M_allKnow_9 l G a rv n hA hr n x1 x2 r_1 (0 : Int32) t hf

def f_M_parks_13 (n : Nat) (rec6 : Int32 → k_St → Option (Int32 × k_St)) : Nat → Int32 → Int32 → k_St → Option (Int32 × k_St)
  | 0, _, _, _ => none
  | k + 1, x1, x2, t => k_cp (f_M_codesOf n t x1) (fun r_1 => (if r_1 ≤ x2 then k_lt (x1 + (1 : Int32)) (fun x1_2 => rec6 x1_2 t) else k_cl (f_M_allKnow n x2 x1 t) (fun r_4 t_3 => (if (t_3.1 18 4) ≤ r_4 then k_lt (k_sI t_3 0 32 x2) (fun t_5 => some (x1, t_5)) else k_lt (x2 + (1 : Int32)) (fun x2_6 => f_M_parks_13 n rec6 k x1 x2_6 t_3)))))
def f_M_parks_6 (n : Nat) : Nat → Int32 → k_St → Option (Int32 × k_St)
  | 0, _, _ => none
  | k + 1, x1, t => (if (3 : Int32) < x1 then some ((-2 : Int32), t) else f_M_parks_13 n (f_M_parks_6 n k) n x1 (0 : Int32) t)
def f_M_parks (n : Nat) (t : k_St) : Option (Int32 × k_St) := k_cv (f_M_waysAll n t) (fun t_1 => f_M_parks_6 n n (0 : Int32) t_1)
theorem m_M_parks_13 {p : Program} (l : Launch) {e : Env} {s : State} {m : MethodId} {args : Array Value} {below : List Frame} {meth : Method} {c : Code} (G : k_G) (a : Nat → Nat) (rv : Value) (n : Nat) {w0 : va_W} {r : Int32} {t' : k_St} (hA : k_Amb p s m args meth c cX12_parks 3 "TaleSharesModel" G (va_A w0 s.heap.size)) (hr : meth.sig.returnType = (some .int)) (rec6 : Int32 → k_St → Option (Int32 × k_St)) (hrec6 : ∀ (x1 : Int32) (t : k_St), rec6 x1 t = some (r, t') → k_Go p l e (k_rm 5) s m args below meth c (k_QI G w0 r (k_WT G.2.1 a rv t') args s below) 3 G (va_A w0 s.heap.size) (k_WT G.2.1 a rv t) 6 [(0, .ref (a 0)), (1, .int x1)] []) : ∀ (k : Nat) (x1 : Int32) (x2 : Int32) (t : k_St), f_M_parks_13 n rec6 k x1 x2 t = some (r, t') → k_Go p l e (k_rm 5) s m args below meth c (k_QI G w0 r (k_WT G.2.1 a rv t') args s below) 3 G (va_A w0 s.heap.size) (k_WT G.2.1 a rv t) 13 [(0, .ref (a 0)), (1, .int x1), (2, .int x2)] [] := by
  intro k
  induction k with
  | zero => intro x1 x2 t hf; cases hf
  | succ k ih =>
  intro x1 x2 t hf
  rw [f_M_parks_13] at hf
  obtain ⟨r_1, hr_1, hf⟩ := k_cp_e hf
  refine k_iload_n (i := 2) hA dX12_parks_13 rfl 2 rfl ?_
  refine k_aload_n (i := 0) hA dX12_parks_14 rfl 0 rfl ?_
  refine k_iload_n (i := 1) hA dX12_parks_15 rfl 1 rfl ?_
  refine k_callVi (As := [.int x1]) (rest := [.int x2]) hA (m_M_codesOf l G a rv n t x1 hr_1) cd_X12_codesOf wd_1768 (hc_MT_0 G.2.1 a rv t) rfl rfl (Nat.le_of_ble_eq_true rfl) rfl rfl (Nat.le_of_ble_eq_true rfl) dX12_parks_16 ?_
  refine k_icmp_ge (tgt := 54) hA dX12_parks_19 rfl (fun hc => ?_) (fun hc => ?_)
  · have hf := k_ift hc hf
    obtain ⟨x1_2, ex1_2, hf⟩ := k_lt_e hf
    refine k_iinc (j := 1) (v := x1_2) (lv' := [(1, .int x1_2), (0, .ref (a 0)), (2, .int x2)]) hA dX12_parks_54 rfl (k_inc ex1_2 kc_i_1) (Nat.le_of_ble_eq_true rfl) rfl ?_
    refine k_goto (tgt := 6) hA dX12_parks_57 rfl ?_
    refine k_pick (lv' := [(0, .ref (a 0)), (1, .int x1_2)]) [1, 0] rfl ?_
    exact hrec6 x1_2 t hf
  have hf := k_iff hc hf
  obtain ⟨r_4, t_3, ht_3, hf⟩ := k_cl_e hf
  refine k_aload_n (i := 0) hA dX12_parks_22 rfl 0 rfl ?_
  refine k_iload_n (i := 2) hA dX12_parks_23 rfl 2 rfl ?_
  refine k_iload_n (i := 1) hA dX12_parks_24 rfl 1 rfl ?_
  refine k_callVi (As := [.int x2, .int x1]) (rest := []) hA (m_M_allKnow l G a rv n x2 x1 t ht_3) cd_X12_allKnow wd_1772 (hc_MT_0 G.2.1 a rv t) rfl rfl (Nat.le_of_ble_eq_true rfl) rfl rfl (Nat.le_of_ble_eq_true rfl) dX12_parks_25 ?_
  refine k_aload_n (i := 0) hA dX12_parks_28 rfl 0 rfl ?_
  refine gt_MT_0_3 hA wd_1251 dX12_parks_29 ?_
  refine gt_MT_18_4N hA rfl nf_277 dX12_parks_32 ?_
  refine k_icmp_ge (tgt := 41) hA dX12_parks_35 rfl (fun hc => ?_) (fun hc => ?_)
  · have hf := k_ift hc hf
    obtain ⟨t_5, et_5, hf⟩ := k_lt_e hf
    obtain ⟨rfl, rfl⟩ := k_r2 hf
    refine k_aload_n (i := 0) hA dX12_parks_41 rfl 0 rfl ?_
    refine k_iload_n (i := 2) hA dX12_parks_42 rfl 2 rfl ?_
    refine pt_MT_0_32 hA wd_1280 et_5 dX12_parks_43 ?_
    refine k_iload_n (i := 1) hA dX12_parks_46 rfl 1 rfl ?_
    exact k_iret hA hr rfl dX12_parks_47
  have hf := k_iff hc hf
  obtain ⟨x2_6, ex2_6, hf⟩ := k_lt_e hf
  refine k_goto (tgt := 48) hA dX12_parks_38 rfl ?_
  refine k_iinc (j := 2) (v := x2_6) (lv' := [(2, .int x2_6), (0, .ref (a 0)), (1, .int x1)]) hA dX12_parks_48 rfl (k_inc ex2_6 kc_i_1) (Nat.le_of_ble_eq_true rfl) rfl ?_
  refine k_goto (tgt := 13) hA dX12_parks_51 rfl ?_
  refine k_pick (lv' := [(0, .ref (a 0)), (1, .int x1), (2, .int x2_6)]) [1, 2, 0] rfl ?_
  exact ih x1 x2_6 t_3 hf

theorem m_M_parks_6 {p : Program} (l : Launch) {e : Env} {s : State} {m : MethodId} {args : Array Value} {below : List Frame} {meth : Method} {c : Code} (G : k_G) (a : Nat → Nat) (rv : Value) (n : Nat) {w0 : va_W} {r : Int32} {t' : k_St} (hA : k_Amb p s m args meth c cX12_parks 3 "TaleSharesModel" G (va_A w0 s.heap.size)) (hr : meth.sig.returnType = (some .int)) : ∀ (k : Nat) (x1 : Int32) (t : k_St), f_M_parks_6 n k x1 t = some (r, t') → k_Go p l e (k_rm 5) s m args below meth c (k_QI G w0 r (k_WT G.2.1 a rv t') args s below) 3 G (va_A w0 s.heap.size) (k_WT G.2.1 a rv t) 6 [(0, .ref (a 0)), (1, .int x1)] [] := by
  intro k
  induction k with
  | zero => intro x1 t hf; cases hf
  | succ k ih =>
  intro x1 t hf
  rw [f_M_parks_6] at hf
  refine k_iload_n (i := 1) hA dX12_parks_6 rfl 1 rfl ?_
  refine k_iconst hA dX12_parks_7 kc_i_3 ?_
  refine k_icmp_gt (tgt := 60) hA dX12_parks_8 rfl (fun hc => ?_) (fun hc => ?_)
  · have hf := k_ift hc hf
    obtain ⟨rfl, rfl⟩ := k_r2 hf
    refine k_bipush hA dX12_parks_60 kc_b_m2 ?_
    exact k_iret hA hr rfl dX12_parks_62
  have hf := k_iff hc hf
  refine k_iconst hA dX12_parks_11 kc_i_0 ?_
  refine k_istore_n (i := 2) (lv' := [(2, .int (0 : Int32)), (0, .ref (a 0)), (1, .int x1)]) hA dX12_parks_12 rfl rfl (Nat.le_of_ble_eq_true rfl) rfl ?_
  refine k_pick (lv' := [(0, .ref (a 0)), (1, .int x1), (2, .int (0 : Int32))]) [1, 2, 0] rfl ?_
  exact m_M_parks_13 l G a rv n hA hr (f_M_parks_6 n k) ih n x1 (0 : Int32) t hf

theorem m_M_parks (l : Launch) (G : k_G) (a : Nat → Nat) (rv : Value) (n : Nat) (t : k_St) {r : Int32} {t' : k_St} (hf : f_M_parks n t = some (r, t')) : k_CI l G yX12_parks cX12_parks 3 (some .int) 5 (k_WT G.2.1 a rv t) [.ref (a 0)] r (k_WT G.2.1 a rv t') := by
  refine k_startI (lv := [(0, .ref (a 0))]) (by decide +kernel) (Nat.le_of_ble_eq_true rfl) rfl ?_
  intro p e s m args below meth c hA hr
  have hA : k_Amb p s m args meth c cX12_parks 3 "TaleSharesModel" G _ := hA
  unfold f_M_parks at hf
  obtain ⟨t_1, ht_1, hf⟩ := k_cv_e hf
  refine k_aload_n (i := 0) hA dX12_parks_0 rfl 0 rfl ?_
  refine k_callVv (As := []) (rest := []) hA (m_M_waysAll l G a rv n t ht_1) cd_X12_waysAll wd_1760 (hc_MT_0 G.2.1 a rv t) rfl rfl (Nat.le_of_ble_eq_true rfl) rfl rfl (Nat.le_of_ble_eq_true rfl) dX12_parks_1 ?_
  refine k_iconst hA dX12_parks_4 kc_i_0 ?_
  refine k_istore_n (i := 1) (lv' := [(1, .int (0 : Int32)), (0, .ref (a 0))]) hA dX12_parks_5 rfl rfl (Nat.le_of_ble_eq_true rfl) rfl ?_
  refine k_pick (lv' := [(0, .ref (a 0)), (1, .int (0 : Int32))]) [1, 0] rfl ?_
  exact m_M_parks_6 l G a rv n hA hr n (0 : Int32) t_1 hf

def f_M_soonest (n : Nat) (t : k_St) : Option (Int32 × k_St) := k_lt (k_sI t 0 0 (0 : Int32)) (fun t_1 => k_cl (f_M_parks n t_1) (fun r_3 t_2 => k_lt (f_M_good r_3 t_2) (fun q_4 => some (q_4.1, q_4.2))))
theorem m_M_soonest (l : Launch) (G : k_G) (a : Nat → Nat) (rv : Value) (n : Nat) (t : k_St) {r : Int32} {t' : k_St} (hf : f_M_soonest n t = some (r, t')) : k_CI l G yX12_soonest cX12_soonest 1 (some .int) 6 (k_WT G.2.1 a rv t) [.ref (a 0)] r (k_WT G.2.1 a rv t') := by
  refine k_startI (lv := [(0, .ref (a 0))]) (by decide +kernel) (Nat.le_of_ble_eq_true rfl) rfl ?_
  intro p e s m args below meth c hA hr
  have hA : k_Amb p s m args meth c cX12_soonest 1 "TaleSharesModel" G _ := hA
  unfold f_M_soonest at hf
  obtain ⟨t_1, et_1, hf⟩ := k_lt_e hf
  obtain ⟨r_3, t_2, ht_2, hf⟩ := k_cl_e hf
  obtain ⟨⟨rq_4, tq_4⟩, hq_4, hf⟩ := k_lt_e hf
  dsimp only at hf
  obtain ⟨rfl, rfl⟩ := k_r2 hf
  refine k_aload_n (i := 0) hA dX12_soonest_0 rfl 0 rfl ?_
  refine k_iconst hA dX12_soonest_1 kc_i_0 ?_
  refine pt_MT_0_0 hA wd_1248 et_1 dX12_soonest_2 ?_
  refine k_aload_n (i := 0) hA dX12_soonest_5 rfl 0 rfl ?_
  refine gt_MT_0_3 hA wd_1251 dX12_soonest_6 ?_
  refine k_ifnonnull (tgt := 20) hA dX12_soonest_9 rfl ?_
  refine k_aload_n (i := 0) hA dX12_soonest_20 rfl 0 rfl ?_
  refine k_aload_n (i := 0) hA dX12_soonest_21 rfl 0 rfl ?_
  refine k_callVi (As := []) (rest := [.ref (a 0)]) hA (m_M_parks l G a rv n t_1 ht_2) cd_X12_parks wd_1756 (hc_MT_0 G.2.1 a rv t_1) rfl rfl (Nat.le_of_ble_eq_true rfl) rfl rfl (Nat.le_of_ble_eq_true rfl) dX12_soonest_22 ?_
  refine k_callVi (As := [.int r_3]) (rest := []) hA (m_M_good l G a rv r_3 t_2 hq_4.symm) cd_X12_good wd_1601 (hc_MT_0 G.2.1 a rv t_2) rfl rfl (Nat.le_of_ble_eq_true rfl) rfl rfl (Nat.le_of_ble_eq_true rfl) dX12_soonest_25 ?_
  exact k_iret hA hr rfl dX12_soonest_28

def f_M_meets (n : Nat) (x1 : Int32) (x2 : Int32) (t : k_St) : Option (Int32 × k_St) := k_lt (k_sI t 0 0 (0 : Int32)) (fun t_1 => (if (k_b (f_M_isHouse t_1 x2)) = 0 then k_lt (f_M_refused (1 : Int32) t_1) (fun q_2 => some (q_2.1, q_2.2)) else (if 0 ≤ x1 then k_cl (f_M_parks n t_1) (fun r_4 t_3 => (if x1 < r_4 then k_cp (f_M_rowOf n t_3 (t_3.1 0 32) r_4 x1) (fun r_5 => k_gi (((5 : Int32) * r_5) + x2) 130 (k_lt (t_3.1 8 (((5 : Int32) * r_5) + x2).toNatClampNeg) (fun x4_7 => (if x4_7 = (t_3.1 18 4) then k_lt (f_M_good (-2 : Int32) t_3) (fun q_9 => some (q_9.1, q_9.2)) else k_lt (f_M_good x4_7 t_3) (fun q_8 => some (q_8.1, q_8.2)))))) else k_lt (f_M_refused (1 : Int32) t_3) (fun q_10 => some (q_10.1, q_10.2)))) else k_lt (f_M_refused (1 : Int32) t_1) (fun q_11 => some (q_11.1, q_11.2)))))
theorem m_M_meets (l : Launch) (G : k_G) (a : Nat → Nat) (rv : Value) (n : Nat) (x1 : Int32) (x2 : Int32) (t : k_St) {r : Int32} {t' : k_St} (hf : f_M_meets n x1 x2 t = some (r, t')) : k_CI l G yX12_meets cX12_meets 5 (some .int) 6 (k_WT G.2.1 a rv t) [.ref (a 0), .int x1, .int x2] r (k_WT G.2.1 a rv t') := by
  refine k_startI (lv := [(0, .ref (a 0)), (1, .int x1), (2, .int x2)]) (by decide +kernel) (Nat.le_of_ble_eq_true rfl) rfl ?_
  intro p e s m args below meth c hA hr
  have hA : k_Amb p s m args meth c cX12_meets 5 "TaleSharesModel" G _ := hA
  unfold f_M_meets at hf
  obtain ⟨t_1, et_1, hf⟩ := k_lt_e hf
  refine k_aload_n (i := 0) hA dX12_meets_0 rfl 0 rfl ?_
  refine k_iconst hA dX12_meets_1 kc_i_0 ?_
  refine pt_MT_0_0 hA wd_1248 et_1 dX12_meets_2 ?_
  refine k_aload_n (i := 0) hA dX12_meets_5 rfl 0 rfl ?_
  refine k_iload_n (i := 2) hA dX12_meets_6 rfl 2 rfl ?_
  refine k_callVi (As := [.int x2]) (rest := []) hA (m_M_isHouse l G a rv t_1 x2 rfl) cd_X12_isHouse wd_1625 (hc_MT_0 G.2.1 a rv t_1) rfl rfl (Nat.le_of_ble_eq_true rfl) rfl rfl (Nat.le_of_ble_eq_true rfl) dX12_meets_7 ?_
  refine k_if_eq (tgt := 17) hA dX12_meets_10 rfl (fun hc => ?_) (fun hc => ?_)
  · have hf := k_ift hc hf
    obtain ⟨⟨rq_2, tq_2⟩, hq_2, hf⟩ := k_lt_e hf
    dsimp only at hf
    obtain ⟨rfl, rfl⟩ := k_r2 hf
    refine k_aload_n (i := 0) hA dX12_meets_17 rfl 0 rfl ?_
    refine k_iconst hA dX12_meets_18 kc_i_1 ?_
    refine k_callVi (As := [.int (1 : Int32)]) (rest := []) hA (m_M_refused l G a rv (1 : Int32) t_1 hq_2.symm) cd_X12_refused wd_1390 (hc_MT_0 G.2.1 a rv t_1) rfl rfl (Nat.le_of_ble_eq_true rfl) rfl rfl (Nat.le_of_ble_eq_true rfl) dX12_meets_19 ?_
    exact k_iret hA hr rfl dX12_meets_22
  have hf := k_iff hc hf
  refine k_iload_n (i := 1) hA dX12_meets_13 rfl 1 rfl ?_
  refine k_if_ge (tgt := 23) hA dX12_meets_14 rfl (fun hc => ?_) (fun hc => ?_)
  · have hf := k_ift hc hf
    obtain ⟨r_4, t_3, ht_3, hf⟩ := k_cl_e hf
    refine k_aload_n (i := 0) hA dX12_meets_23 rfl 0 rfl ?_
    refine k_callVi (As := []) (rest := []) hA (m_M_parks l G a rv n t_1 ht_3) cd_X12_parks wd_1756 (hc_MT_0 G.2.1 a rv t_1) rfl rfl (Nat.le_of_ble_eq_true rfl) rfl rfl (Nat.le_of_ble_eq_true rfl) dX12_meets_24 ?_
    refine k_istore_n (i := 3) (lv' := [(3, .int r_4), (0, .ref (a 0)), (1, .int x1), (2, .int x2)]) hA dX12_meets_27 rfl rfl (Nat.le_of_ble_eq_true rfl) rfl ?_
    refine k_iload_n (i := 1) hA dX12_meets_28 rfl 2 rfl ?_
    refine k_iload_n (i := 3) hA dX12_meets_29 rfl 0 rfl ?_
    refine k_icmp_lt (tgt := 39) hA dX12_meets_30 rfl (fun hc => ?_) (fun hc => ?_)
    · have hf := k_ift hc hf
      obtain ⟨r_5, hr_5, hf⟩ := k_cp_e hf
      obtain ⟨hi_6, hf⟩ := k_gi_e hf
      obtain ⟨x4_7, ex4_7, hf⟩ := k_lt_e hf
      refine k_aload_n (i := 0) hA dX12_meets_39 rfl 1 rfl ?_
      refine gt_MT_0_27 hA wd_1275 dX12_meets_40 ?_
      refine k_iconst hA dX12_meets_43 kc_i_5 ?_
      refine k_aload_n (i := 0) hA dX12_meets_44 rfl 1 rfl ?_
      refine k_aload_n (i := 0) hA dX12_meets_45 rfl 1 rfl ?_
      refine gt_MT_0_32 hA wd_1280 dX12_meets_46 ?_
      refine k_iload_n (i := 3) hA dX12_meets_49 rfl 0 rfl ?_
      refine k_iload_n (i := 1) hA dX12_meets_50 rfl 2 rfl ?_
      refine k_callVi (As := [.int (t_3.1 0 32), .int r_4, .int x1]) (rest := [.int (5 : Int32), .ref (a 8)]) hA (m_M_rowOf l G a rv n t_3 (t_3.1 0 32) r_4 x1 hr_5) cd_X12_rowOf wd_1776 (hc_MT_0 G.2.1 a rv t_3) rfl rfl (Nat.le_of_ble_eq_true rfl) rfl rfl (Nat.le_of_ble_eq_true rfl) dX12_meets_51 ?_
      refine k_imul hA dX12_meets_54 ?_
      refine k_iload_n (i := 2) hA dX12_meets_55 rfl 3 rfl ?_
      refine k_iadd hA dX12_meets_56 ?_
      refine ld_MT_8 hA hi_6 dX12_meets_57 ?_
      refine k_istore (lv' := [(4, .int x4_7), (3, .int r_4), (0, .ref (a 0)), (1, .int x1), (2, .int x2)]) hA dX12_meets_58 ex4_7 (Nat.le_of_ble_eq_true rfl) rfl ?_
      refine k_aload_n (i := 0) hA dX12_meets_60 rfl 2 rfl ?_
      refine k_iload hA dX12_meets_61 0 rfl ?_
      refine k_aload_n (i := 0) hA dX12_meets_63 rfl 2 rfl ?_
      refine gt_MT_0_3 hA wd_1251 dX12_meets_64 ?_
      refine gt_MT_18_4N hA rfl nf_277 dX12_meets_67 ?_
      refine k_icmp_ne (tgt := 78) hA dX12_meets_70 rfl (fun hc => ?_) (fun hc => ?_)
      · have hf := k_iff hc hf
        obtain ⟨⟨rq_8, tq_8⟩, hq_8, hf⟩ := k_lt_e hf
        dsimp only at hf
        obtain ⟨rfl, rfl⟩ := k_r2 hf
        refine k_iload hA dX12_meets_78 0 rfl ?_
        refine k_callVi (As := [.int x4_7]) (rest := []) hA (m_M_good l G a rv x4_7 t_3 hq_8.symm) cd_X12_good wd_1601 (hc_MT_0 G.2.1 a rv t_3) rfl rfl (Nat.le_of_ble_eq_true rfl) rfl rfl (Nat.le_of_ble_eq_true rfl) dX12_meets_80 ?_
        exact k_iret hA hr rfl dX12_meets_83
      have hf := k_ift hc hf
      obtain ⟨⟨rq_9, tq_9⟩, hq_9, hf⟩ := k_lt_e hf
      dsimp only at hf
      obtain ⟨rfl, rfl⟩ := k_r2 hf
      refine k_bipush hA dX12_meets_73 kc_b_m2 ?_
      refine k_goto (tgt := 80) hA dX12_meets_75 rfl ?_
      refine k_callVi (As := [.int (-2 : Int32)]) (rest := []) hA (m_M_good l G a rv (-2 : Int32) t_3 hq_9.symm) cd_X12_good wd_1601 (hc_MT_0 G.2.1 a rv t_3) rfl rfl (Nat.le_of_ble_eq_true rfl) rfl rfl (Nat.le_of_ble_eq_true rfl) dX12_meets_80 ?_
      exact k_iret hA hr rfl dX12_meets_83
    have hf := k_iff hc hf
    obtain ⟨⟨rq_10, tq_10⟩, hq_10, hf⟩ := k_lt_e hf
    dsimp only at hf
    obtain ⟨rfl, rfl⟩ := k_r2 hf
    refine k_aload_n (i := 0) hA dX12_meets_33 rfl 1 rfl ?_
    refine k_iconst hA dX12_meets_34 kc_i_1 ?_
    refine k_callVi (As := [.int (1 : Int32)]) (rest := []) hA (m_M_refused l G a rv (1 : Int32) t_3 hq_10.symm) cd_X12_refused wd_1390 (hc_MT_0 G.2.1 a rv t_3) rfl rfl (Nat.le_of_ble_eq_true rfl) rfl rfl (Nat.le_of_ble_eq_true rfl) dX12_meets_35 ?_
    exact k_iret hA hr rfl dX12_meets_38
  have hf := k_iff hc hf
  obtain ⟨⟨rq_11, tq_11⟩, hq_11, hf⟩ := k_lt_e hf
  dsimp only at hf
  obtain ⟨rfl, rfl⟩ := k_r2 hf
  refine k_aload_n (i := 0) hA dX12_meets_17 rfl 0 rfl ?_
  refine k_iconst hA dX12_meets_18 kc_i_1 ?_
  refine k_callVi (As := [.int (1 : Int32)]) (rest := []) hA (m_M_refused l G a rv (1 : Int32) t_1 hq_11.symm) cd_X12_refused wd_1390 (hc_MT_0 G.2.1 a rv t_1) rfl rfl (Nat.le_of_ble_eq_true rfl) rfl rfl (Nat.le_of_ble_eq_true rfl) dX12_meets_19 ?_
  exact k_iret hA hr rfl dX12_meets_22

def f_M_mostBehind_41 (n : Nat) : Nat → Int32 → Int32 → Int32 → k_St → Option (Int32 × k_St)
  | 0, _, _, _, _ => none
  | k + 1, x1, x2, x3, t => k_cp (f_M_codesOf n t x1) (fun r_1 => (if r_1 ≤ x3 then k_lt (f_M_good x2 t) (fun q_2 => some (q_2.1, q_2.2)) else k_cl (f_M_allKnow n x3 x1 t) (fun r_4 t_3 => (if r_4 ≤ x2 then k_lt (x3 + (1 : Int32)) (fun x3_5 => f_M_mostBehind_41 n k x1 x2 x3_5 t_3) else k_cl (f_M_allKnow n x3 x1 t_3) (fun r_7 t_6 => k_lt (x3 + (1 : Int32)) (fun x3_8 => f_M_mostBehind_41 n k x1 r_7 x3_8 t_6))))))
def f_M_mostBehind (n : Nat) (x1 : Int32) (t : k_St) : Option (Int32 × k_St) := k_lt (k_sI t 0 0 (0 : Int32)) (fun t_1 => (if (k_b (f_M_in x1 (0 : Int32) (2 : Int32))) = 0 then k_lt (f_M_refused (2 : Int32) t_1) (fun q_3 => some (q_3.1, q_3.2)) else k_cv (f_M_waysAll n t_1) (fun t_2 => f_M_mostBehind_41 n n x1 (0 : Int32) (0 : Int32) t_2)))
theorem m_M_mostBehind_41 {p : Program} (l : Launch) {e : Env} {s : State} {m : MethodId} {args : Array Value} {below : List Frame} {meth : Method} {c : Code} (G : k_G) (a : Nat → Nat) (rv : Value) (n : Nat) {w0 : va_W} {r : Int32} {t' : k_St} (hA : k_Amb p s m args meth c cX12_mostBehind 4 "TaleSharesModel" G (va_A w0 s.heap.size)) (hr : meth.sig.returnType = (some .int)) : ∀ (k : Nat) (x1 : Int32) (x2 : Int32) (x3 : Int32) (t : k_St), f_M_mostBehind_41 n k x1 x2 x3 t = some (r, t') → k_Go p l e (k_rm 5) s m args below meth c (k_QI G w0 r (k_WT G.2.1 a rv t') args s below) 4 G (va_A w0 s.heap.size) (k_WT G.2.1 a rv t) 41 [(0, .ref (a 0)), (1, .int x1), (2, .int x2), (3, .int x3)] [] := by
  intro k
  induction k with
  | zero => intro x1 x2 x3 t hf; cases hf
  | succ k ih =>
  intro x1 x2 x3 t hf
  rw [f_M_mostBehind_41] at hf
  obtain ⟨r_1, hr_1, hf⟩ := k_cp_e hf
  refine k_iload_n (i := 3) hA dX12_mostBehind_41 rfl 3 rfl ?_
  refine k_aload_n (i := 0) hA dX12_mostBehind_42 rfl 0 rfl ?_
  refine k_iload_n (i := 1) hA dX12_mostBehind_43 rfl 1 rfl ?_
  refine k_callVi (As := [.int x1]) (rest := [.int x3]) hA (m_M_codesOf l G a rv n t x1 hr_1) cd_X12_codesOf wd_1768 (hc_MT_0 G.2.1 a rv t) rfl rfl (Nat.le_of_ble_eq_true rfl) rfl rfl (Nat.le_of_ble_eq_true rfl) dX12_mostBehind_44 ?_
  refine k_icmp_ge (tgt := 73) hA dX12_mostBehind_47 rfl (fun hc => ?_) (fun hc => ?_)
  · have hf := k_ift hc hf
    obtain ⟨⟨rq_2, tq_2⟩, hq_2, hf⟩ := k_lt_e hf
    dsimp only at hf
    obtain ⟨rfl, rfl⟩ := k_r2 hf
    refine k_aload_n (i := 0) hA dX12_mostBehind_73 rfl 0 rfl ?_
    refine k_iload_n (i := 2) hA dX12_mostBehind_74 rfl 2 rfl ?_
    refine k_callVi (As := [.int x2]) (rest := []) hA (m_M_good l G a rv x2 t hq_2.symm) cd_X12_good wd_1601 (hc_MT_0 G.2.1 a rv t) rfl rfl (Nat.le_of_ble_eq_true rfl) rfl rfl (Nat.le_of_ble_eq_true rfl) dX12_mostBehind_75 ?_
    exact k_iret hA hr rfl dX12_mostBehind_78
  have hf := k_iff hc hf
  obtain ⟨r_4, t_3, ht_3, hf⟩ := k_cl_e hf
  refine k_aload_n (i := 0) hA dX12_mostBehind_50 rfl 0 rfl ?_
  refine k_iload_n (i := 3) hA dX12_mostBehind_51 rfl 3 rfl ?_
  refine k_iload_n (i := 1) hA dX12_mostBehind_52 rfl 1 rfl ?_
  refine k_callVi (As := [.int x3, .int x1]) (rest := []) hA (m_M_allKnow l G a rv n x3 x1 t ht_3) cd_X12_allKnow wd_1772 (hc_MT_0 G.2.1 a rv t) rfl rfl (Nat.le_of_ble_eq_true rfl) rfl rfl (Nat.le_of_ble_eq_true rfl) dX12_mostBehind_53 ?_
  refine k_iload_n (i := 2) hA dX12_mostBehind_56 rfl 2 rfl ?_
  refine k_icmp_le (tgt := 67) hA dX12_mostBehind_57 rfl (fun hc => ?_) (fun hc => ?_)
  · have hf := k_ift hc hf
    obtain ⟨x3_5, ex3_5, hf⟩ := k_lt_e hf
    refine k_iinc (j := 3) (v := x3_5) (lv' := [(3, .int x3_5), (0, .ref (a 0)), (1, .int x1), (2, .int x2)]) hA dX12_mostBehind_67 rfl (k_inc ex3_5 kc_i_1) (Nat.le_of_ble_eq_true rfl) rfl ?_
    refine k_goto (tgt := 41) hA dX12_mostBehind_70 rfl ?_
    refine k_pick (lv' := [(0, .ref (a 0)), (1, .int x1), (2, .int x2), (3, .int x3_5)]) [1, 2, 3, 0] rfl ?_
    exact ih x1 x2 x3_5 t_3 hf
  have hf := k_iff hc hf
  obtain ⟨r_7, t_6, ht_6, hf⟩ := k_cl_e hf
  obtain ⟨x3_8, ex3_8, hf⟩ := k_lt_e hf
  refine k_aload_n (i := 0) hA dX12_mostBehind_60 rfl 0 rfl ?_
  refine k_iload_n (i := 3) hA dX12_mostBehind_61 rfl 3 rfl ?_
  refine k_iload_n (i := 1) hA dX12_mostBehind_62 rfl 1 rfl ?_
  refine k_callVi (As := [.int x3, .int x1]) (rest := []) hA (m_M_allKnow l G a rv n x3 x1 t_3 ht_6) cd_X12_allKnow wd_1772 (hc_MT_0 G.2.1 a rv t_3) rfl rfl (Nat.le_of_ble_eq_true rfl) rfl rfl (Nat.le_of_ble_eq_true rfl) dX12_mostBehind_63 ?_
  refine k_istore_n (i := 2) (lv' := [(2, .int r_7), (0, .ref (a 0)), (1, .int x1), (3, .int x3)]) hA dX12_mostBehind_66 rfl rfl (Nat.le_of_ble_eq_true rfl) rfl ?_
  refine k_iinc (j := 3) (v := x3_8) (lv' := [(3, .int x3_8), (2, .int r_7), (0, .ref (a 0)), (1, .int x1)]) hA dX12_mostBehind_67 rfl (k_inc ex3_8 kc_i_1) (Nat.le_of_ble_eq_true rfl) rfl ?_
  refine k_goto (tgt := 41) hA dX12_mostBehind_70 rfl ?_
  refine k_pick (lv' := [(0, .ref (a 0)), (1, .int x1), (2, .int r_7), (3, .int x3_8)]) [2, 3, 1, 0] rfl ?_
  exact ih x1 r_7 x3_8 t_6 hf

theorem m_M_mostBehind (l : Launch) (G : k_G) (a : Nat → Nat) (rv : Value) (n : Nat) (x1 : Int32) (t : k_St) {r : Int32} {t' : k_St} (hf : f_M_mostBehind n x1 t = some (r, t')) : k_CI l G yX12_mostBehind cX12_mostBehind 4 (some .int) 5 (k_WT G.2.1 a rv t) [.ref (a 0), .int x1] r (k_WT G.2.1 a rv t') := by
  refine k_startI (lv := [(0, .ref (a 0)), (1, .int x1)]) (by decide +kernel) (Nat.le_of_ble_eq_true rfl) rfl ?_
  intro p e s m args below meth c hA hr
  have hA : k_Amb p s m args meth c cX12_mostBehind 4 "TaleSharesModel" G _ := hA
  unfold f_M_mostBehind at hf
  obtain ⟨t_1, et_1, hf⟩ := k_lt_e hf
  refine k_aload_n (i := 0) hA dX12_mostBehind_0 rfl 0 rfl ?_
  refine k_iconst hA dX12_mostBehind_1 kc_i_0 ?_
  refine pt_MT_0_0 hA wd_1248 et_1 dX12_mostBehind_2 ?_
  refine k_aload_n (i := 0) hA dX12_mostBehind_5 rfl 0 rfl ?_
  refine gt_MT_0_3 hA wd_1251 dX12_mostBehind_6 ?_
  refine k_ifnonnull (tgt := 18) hA dX12_mostBehind_9 rfl ?_
  refine k_iload_n (i := 1) hA dX12_mostBehind_18 rfl 1 rfl ?_
  refine k_iconst hA dX12_mostBehind_19 kc_i_0 ?_
  refine k_iconst hA dX12_mostBehind_20 kc_i_2 ?_
  refine k_callSi (As := [.int x1, .int (0 : Int32), .int (2 : Int32)]) (rest := []) hA (m_M_in l G (k_WT G.2.1 a rv t_1) x1 (0 : Int32) (2 : Int32) rfl) cd_X12_in wd_1525 (Nat.le_of_ble_eq_true rfl) rfl rfl (Nat.le_of_ble_eq_true rfl) dX12_mostBehind_21 ?_
  refine k_if_ne (tgt := 33) hA dX12_mostBehind_24 rfl (fun hc => ?_) (fun hc => ?_)
  · have hf := k_iff hc hf
    obtain ⟨t_2, ht_2, hf⟩ := k_cv_e hf
    refine k_aload_n (i := 0) hA dX12_mostBehind_33 rfl 0 rfl ?_
    refine k_callVv (As := []) (rest := []) hA (m_M_waysAll l G a rv n t_1 ht_2) cd_X12_waysAll wd_1760 (hc_MT_0 G.2.1 a rv t_1) rfl rfl (Nat.le_of_ble_eq_true rfl) rfl rfl (Nat.le_of_ble_eq_true rfl) dX12_mostBehind_34 ?_
    refine k_iconst hA dX12_mostBehind_37 kc_i_0 ?_
    refine k_istore_n (i := 2) (lv' := [(2, .int (0 : Int32)), (0, .ref (a 0)), (1, .int x1)]) hA dX12_mostBehind_38 rfl rfl (Nat.le_of_ble_eq_true rfl) rfl ?_
    refine k_iconst hA dX12_mostBehind_39 kc_i_0 ?_
    refine k_istore_n (i := 3) (lv' := [(3, .int (0 : Int32)), (2, .int (0 : Int32)), (0, .ref (a 0)), (1, .int x1)]) hA dX12_mostBehind_40 rfl rfl (Nat.le_of_ble_eq_true rfl) rfl ?_
    refine k_pick (lv' := [(0, .ref (a 0)), (1, .int x1), (2, .int (0 : Int32)), (3, .int (0 : Int32))]) [2, 3, 1, 0] rfl ?_
    exact m_M_mostBehind_41 l G a rv n hA hr n x1 (0 : Int32) (0 : Int32) t_2 hf
  have hf := k_ift hc hf
  obtain ⟨⟨rq_3, tq_3⟩, hq_3, hf⟩ := k_lt_e hf
  dsimp only at hf
  obtain ⟨rfl, rfl⟩ := k_r2 hf
  refine k_aload_n (i := 0) hA dX12_mostBehind_27 rfl 0 rfl ?_
  refine k_iconst hA dX12_mostBehind_28 kc_i_2 ?_
  refine k_callVi (As := [.int (2 : Int32)]) (rest := []) hA (m_M_refused l G a rv (2 : Int32) t_1 hq_3.symm) cd_X12_refused wd_1390 (hc_MT_0 G.2.1 a rv t_1) rfl rfl (Nat.le_of_ble_eq_true rfl) rfl rfl (Nat.le_of_ble_eq_true rfl) dX12_mostBehind_29 ?_
  exact k_iret hA hr rfl dX12_mostBehind_32

def f_M_refusesHouses (t : k_St) : Int32 := (if (t.1 18 4) = 0 then (6 : Int32) else (0 : Int32))
theorem m_M_refusesHouses (l : Launch) (G : k_G) (a : Nat → Nat) (rv : Value) (t : k_St) {r : Int32} (hf : f_M_refusesHouses t = r) : k_CI l G yX12_refusesHouses cX12_refusesHouses 1 (some .int) 1 (k_WT G.2.1 a rv t) [.ref (a 0)] r (k_WT G.2.1 a rv t) := by
  refine k_startI (lv := [(0, .ref (a 0))]) (by decide +kernel) (Nat.le_of_ble_eq_true rfl) rfl ?_
  intro p e s m args below meth c hA hr
  have hA : k_Amb p s m args meth c cX12_refusesHouses 1 "TaleSharesModel" G _ := hA
  unfold f_M_refusesHouses at hf
  refine k_aload_n (i := 0) hA dX12_refusesHouses_0 rfl 0 rfl ?_
  refine gt_MT_0_3 hA wd_1251 dX12_refusesHouses_1 ?_
  refine k_ifnonnull (tgt := 11) hA dX12_refusesHouses_4 rfl ?_
  refine k_aload_n (i := 0) hA dX12_refusesHouses_11 rfl 0 rfl ?_
  refine gt_MT_0_3 hA wd_1251 dX12_refusesHouses_12 ?_
  refine gt_MT_18_4N hA rfl nf_277 dX12_refusesHouses_15 ?_
  refine k_if_ne (tgt := 26) hA dX12_refusesHouses_18 rfl (fun hc => ?_) (fun hc => ?_)
  · have hf := k_iff hc hf
    subst hf
    refine k_iconst hA dX12_refusesHouses_26 kc_i_0 ?_
    exact k_iret hA hr rfl dX12_refusesHouses_27
  have hf := k_ift hc hf
  subst hf
  refine k_bipush hA dX12_refusesHouses_21 kc_b_6 ?_
  refine k_goto (tgt := 27) hA dX12_refusesHouses_23 rfl ?_
  exact k_iret hA hr rfl dX12_refusesHouses_27

def f_M_walksBy_57 (n : Nat) (rec6 : Int32 → Int32 → Int32 → k_St → Option (Int32 × k_St)) (x2 : Int32) (x3 : Int32) (x4 : Int32) (s0 : Int32) (t : k_St) : Option (Int32 × k_St) := k_gi x4 5 ((if s0 ≤ (t.1 23 x4.toNatClampNeg) then k_gi x4 5 (k_lt (k_sI t 13 x4.toNatClampNeg s0) (fun t_3 => (if x3 = 0 then (if 0 ≤ (0 : Int32) then k_lt (x2 + (0 : Int32)) (fun x2_12 => k_lt (x3 + (1 : Int32)) (fun x3_13 => rec6 s0 x2_12 x3_13 t_3)) else k_lt (x2 + (0 - (0 : Int32))) (fun x2_14 => k_lt (x3 + (1 : Int32)) (fun x3_15 => rec6 s0 x2_14 x3_15 t_3))) else k_gi x4 5 (k_gi (x3 - (1 : Int32)) 5 (k_gi (t_3.1 12 (x3 - (1 : Int32)).toNatClampNeg) 5 (k_lt ((t_3.1 21 x4.toNatClampNeg) - (t_3.1 21 (t_3.1 12 (x3 - (1 : Int32)).toNatClampNeg).toNatClampNeg)) (fun x5_7 => (if 0 ≤ x5_7 then k_lt (x2 + x5_7) (fun x2_8 => k_lt (x3 + (1 : Int32)) (fun x3_9 => rec6 s0 x2_8 x3_9 t_3)) else k_lt (x2 + (0 - x5_7)) (fun x2_10 => k_lt (x3 + (1 : Int32)) (fun x3_11 => rec6 s0 x2_10 x3_11 t_3)))))))))) else some ((9999 : Int32), t)))
def f_M_walksBy_6 (n : Nat) : Nat → Int32 → Int32 → Int32 → k_St → Option (Int32 × k_St)
  | 0, _, _, _, _ => none
  | k + 1, x1, x2, x3, t => (if (t.1 18 4) ≤ x3 then some (x2, t) else k_gi x3 5 (k_lt (t.1 12 x3.toNatClampNeg) (fun x4_2 => k_gi x4_2 5 ((if (x1 + (1 : Int32)) ≤ (t.1 22 x4_2.toNatClampNeg) then k_gi x4_2 5 (f_M_walksBy_57 n (f_M_walksBy_6 n k) x2 x3 x4_2 (t.1 22 x4_2.toNatClampNeg) t) else f_M_walksBy_57 n (f_M_walksBy_6 n k) x2 x3 x4_2 (x1 + (1 : Int32)) t)))))
def f_M_walksBy (n : Nat) (t : k_St) : Option (Int32 × k_St) := f_M_walksBy_6 n n (-1 : Int32) (0 : Int32) (0 : Int32) t
theorem m_M_walksBy_57 {p : Program} (l : Launch) {e : Env} {s : State} {m : MethodId} {args : Array Value} {below : List Frame} {meth : Method} {c : Code} (G : k_G) (a : Nat → Nat) (rv : Value) (n : Nat) {w0 : va_W} {r : Int32} {t' : k_St} (hA : k_Amb p s m args meth c cX12_walksBy 6 "TaleSharesModel" G (va_A w0 s.heap.size)) (hr : meth.sig.returnType = (some .int)) (rec6 : Int32 → Int32 → Int32 → k_St → Option (Int32 × k_St)) (hrec6 : ∀ (x1 : Int32) (x2 : Int32) (x3 : Int32) (t : k_St), rec6 x1 x2 x3 t = some (r, t') → k_Go p l e (k_rm 1) s m args below meth c (k_QI G w0 r (k_WT G.2.1 a rv t') args s below) 6 G (va_A w0 s.heap.size) (k_WT G.2.1 a rv t) 6 [(0, .ref (a 0)), (1, .int x1), (2, .int x2), (3, .int x3)] []) : ∀ (x2 : Int32) (x3 : Int32) (x4 : Int32) (s0 : Int32) (t : k_St), f_M_walksBy_57 n rec6 x2 x3 x4 s0 t = some (r, t') → k_Go p l e (k_rm 1) s m args below meth c (k_QI G w0 r (k_WT G.2.1 a rv t') args s below) 6 G (va_A w0 s.heap.size) (k_WT G.2.1 a rv t) 57 [(0, .ref (a 0)), (2, .int x2), (3, .int x3), (4, .int x4)] [.int s0] := by
  intro x2 x3 x4 s0 t hf
  unfold f_M_walksBy_57 at hf
  obtain ⟨hi_1, hf⟩ := k_gi_e hf
  refine k_istore_n (i := 1) (lv' := [(1, .int s0), (0, .ref (a 0)), (2, .int x2), (3, .int x3), (4, .int x4)]) hA dX12_walksBy_57 rfl rfl (Nat.le_of_ble_eq_true rfl) rfl ?_
  refine k_iload_n (i := 1) hA dX12_walksBy_58 rfl 0 rfl ?_
  refine k_aload_n (i := 0) hA dX12_walksBy_59 rfl 1 rfl ?_
  refine gt_MT_0_3 hA wd_1251 dX12_walksBy_60 ?_
  refine gt_MT_18_13N hA rfl nf_290 dX12_walksBy_63 ?_
  refine k_iload hA dX12_walksBy_66 4 rfl ?_
  refine ld_MT_23 hA hi_1 dX12_walksBy_68 ?_
  refine k_icmp_le (tgt := 76) hA dX12_walksBy_69 rfl (fun hc => ?_) (fun hc => ?_)
  · have hf := k_ift hc hf
    obtain ⟨hi_2, hf⟩ := k_gi_e hf
    obtain ⟨t_3, et_3, hf⟩ := k_lt_e hf
    refine k_aload_n (i := 0) hA dX12_walksBy_76 rfl 1 rfl ?_
    refine gt_MT_0_34 hA wd_1282 dX12_walksBy_77 ?_
    refine k_iload hA dX12_walksBy_80 4 rfl ?_
    refine k_iload_n (i := 1) hA dX12_walksBy_82 rfl 0 rfl ?_
    refine sr_MT_13 hA hi_2 et_3 dX12_walksBy_83 ?_
    refine k_iload_n (i := 3) hA dX12_walksBy_84 rfl 3 rfl ?_
    refine k_if_ne (tgt := 92) hA dX12_walksBy_85 rfl (fun hc => ?_) (fun hc => ?_)
    · have hf := k_iff hc hf
      obtain ⟨hi_4, hf⟩ := k_gi_e hf
      obtain ⟨hi_5, hf⟩ := k_gi_e hf
      obtain ⟨hi_6, hf⟩ := k_gi_e hf
      obtain ⟨x5_7, ex5_7, hf⟩ := k_lt_e hf
      refine k_aload_n (i := 0) hA dX12_walksBy_92 rfl 1 rfl ?_
      refine gt_MT_0_3 hA wd_1251 dX12_walksBy_93 ?_
      refine gt_MT_18_11N hA rfl nf_286 dX12_walksBy_96 ?_
      refine k_iload hA dX12_walksBy_99 4 rfl ?_
      refine ld_MT_21 hA hi_4 dX12_walksBy_101 ?_
      refine k_aload_n (i := 0) hA dX12_walksBy_102 rfl 1 rfl ?_
      refine gt_MT_0_3 hA wd_1251 dX12_walksBy_103 ?_
      refine gt_MT_18_11N hA rfl nf_286 dX12_walksBy_106 ?_
      refine k_aload_n (i := 0) hA dX12_walksBy_109 rfl 1 rfl ?_
      refine gt_MT_0_33 hA wd_1281 dX12_walksBy_110 ?_
      refine k_iload_n (i := 3) hA dX12_walksBy_113 rfl 3 rfl ?_
      refine k_iconst hA dX12_walksBy_114 kc_i_1 ?_
      refine k_isub hA dX12_walksBy_115 ?_
      refine ld_MT_12 hA hi_5 dX12_walksBy_116 ?_
      refine ld_MT_21 hA hi_6 dX12_walksBy_117 ?_
      refine k_isub hA dX12_walksBy_118 ?_
      refine k_istore (lv' := [(5, .int x5_7), (1, .int s0), (0, .ref (a 0)), (2, .int x2), (3, .int x3), (4, .int x4)]) hA dX12_walksBy_119 ex5_7 (Nat.le_of_ble_eq_true rfl) rfl ?_
      refine k_iload_n (i := 2) hA dX12_walksBy_121 rfl 3 rfl ?_
      refine k_iload hA dX12_walksBy_122 0 rfl ?_
      refine k_if_ge (tgt := 133) hA dX12_walksBy_124 rfl (fun hc => ?_) (fun hc => ?_)
      · have hf := k_ift hc hf
        obtain ⟨x2_8, ex2_8, hf⟩ := k_lt_e hf
        obtain ⟨x3_9, ex3_9, hf⟩ := k_lt_e hf
        refine k_iload hA dX12_walksBy_133 0 rfl ?_
        refine k_iadd hA dX12_walksBy_135 ?_
        refine k_istore_n (i := 2) (lv' := [(2, .int x2_8), (5, .int x5_7), (1, .int s0), (0, .ref (a 0)), (3, .int x3), (4, .int x4)]) hA dX12_walksBy_136 rfl ex2_8 (Nat.le_of_ble_eq_true rfl) rfl ?_
        refine k_iinc (j := 4) (v := x3_9) (lv' := [(3, .int x3_9), (2, .int x2_8), (5, .int x5_7), (1, .int s0), (0, .ref (a 0)), (4, .int x4)]) hA dX12_walksBy_137 rfl (k_inc ex3_9 kc_i_1) (Nat.le_of_ble_eq_true rfl) rfl ?_
        refine k_goto (tgt := 6) hA dX12_walksBy_140 rfl ?_
        refine k_pick (lv' := [(0, .ref (a 0)), (1, .int s0), (2, .int x2_8), (3, .int x3_9)]) [4, 3, 1, 0] rfl ?_
        exact hrec6 s0 x2_8 x3_9 t_3 hf
      have hf := k_iff hc hf
      obtain ⟨x2_10, ex2_10, hf⟩ := k_lt_e hf
      obtain ⟨x3_11, ex3_11, hf⟩ := k_lt_e hf
      refine k_iload hA dX12_walksBy_127 0 rfl ?_
      refine k_ineg hA dX12_walksBy_129 ?_
      refine k_goto (tgt := 135) hA dX12_walksBy_130 rfl ?_
      refine k_iadd hA dX12_walksBy_135 ?_
      refine k_istore_n (i := 2) (lv' := [(2, .int x2_10), (5, .int x5_7), (1, .int s0), (0, .ref (a 0)), (3, .int x3), (4, .int x4)]) hA dX12_walksBy_136 rfl ex2_10 (Nat.le_of_ble_eq_true rfl) rfl ?_
      refine k_iinc (j := 4) (v := x3_11) (lv' := [(3, .int x3_11), (2, .int x2_10), (5, .int x5_7), (1, .int s0), (0, .ref (a 0)), (4, .int x4)]) hA dX12_walksBy_137 rfl (k_inc ex3_11 kc_i_1) (Nat.le_of_ble_eq_true rfl) rfl ?_
      refine k_goto (tgt := 6) hA dX12_walksBy_140 rfl ?_
      refine k_pick (lv' := [(0, .ref (a 0)), (1, .int s0), (2, .int x2_10), (3, .int x3_11)]) [4, 3, 1, 0] rfl ?_
      exact hrec6 s0 x2_10 x3_11 t_3 hf
    have hf := k_ift hc hf
    refine k_iconst hA dX12_walksBy_88 kc_i_0 ?_
    refine k_goto (tgt := 119) hA dX12_walksBy_89 rfl ?_
    refine k_istore (lv' := [(5, .int (0 : Int32)), (1, .int s0), (0, .ref (a 0)), (2, .int x2), (3, .int x3), (4, .int x4)]) hA dX12_walksBy_119 rfl (Nat.le_of_ble_eq_true rfl) rfl ?_
    refine k_iload_n (i := 2) hA dX12_walksBy_121 rfl 3 rfl ?_
    refine k_iload hA dX12_walksBy_122 0 rfl ?_
    refine k_if_ge (tgt := 133) hA dX12_walksBy_124 rfl (fun hc => ?_) (fun hc => ?_)
    · have hf := k_ift hc hf
      obtain ⟨x2_12, ex2_12, hf⟩ := k_lt_e hf
      obtain ⟨x3_13, ex3_13, hf⟩ := k_lt_e hf
      refine k_iload hA dX12_walksBy_133 0 rfl ?_
      refine k_iadd hA dX12_walksBy_135 ?_
      refine k_istore_n (i := 2) (lv' := [(2, .int x2_12), (5, .int (0 : Int32)), (1, .int s0), (0, .ref (a 0)), (3, .int x3), (4, .int x4)]) hA dX12_walksBy_136 rfl ex2_12 (Nat.le_of_ble_eq_true rfl) rfl ?_
      refine k_iinc (j := 4) (v := x3_13) (lv' := [(3, .int x3_13), (2, .int x2_12), (5, .int (0 : Int32)), (1, .int s0), (0, .ref (a 0)), (4, .int x4)]) hA dX12_walksBy_137 rfl (k_inc ex3_13 kc_i_1) (Nat.le_of_ble_eq_true rfl) rfl ?_
      refine k_goto (tgt := 6) hA dX12_walksBy_140 rfl ?_
      refine k_pick (lv' := [(0, .ref (a 0)), (1, .int s0), (2, .int x2_12), (3, .int x3_13)]) [4, 3, 1, 0] rfl ?_
      exact hrec6 s0 x2_12 x3_13 t_3 hf
    have hf := k_iff hc hf
    obtain ⟨x2_14, ex2_14, hf⟩ := k_lt_e hf
    obtain ⟨x3_15, ex3_15, hf⟩ := k_lt_e hf
    refine k_iload hA dX12_walksBy_127 0 rfl ?_
    refine k_ineg hA dX12_walksBy_129 ?_
    refine k_goto (tgt := 135) hA dX12_walksBy_130 rfl ?_
    refine k_iadd hA dX12_walksBy_135 ?_
    refine k_istore_n (i := 2) (lv' := [(2, .int x2_14), (5, .int (0 : Int32)), (1, .int s0), (0, .ref (a 0)), (3, .int x3), (4, .int x4)]) hA dX12_walksBy_136 rfl ex2_14 (Nat.le_of_ble_eq_true rfl) rfl ?_
    refine k_iinc (j := 4) (v := x3_15) (lv' := [(3, .int x3_15), (2, .int x2_14), (5, .int (0 : Int32)), (1, .int s0), (0, .ref (a 0)), (4, .int x4)]) hA dX12_walksBy_137 rfl (k_inc ex3_15 kc_i_1) (Nat.le_of_ble_eq_true rfl) rfl ?_
    refine k_goto (tgt := 6) hA dX12_walksBy_140 rfl ?_
    refine k_pick (lv' := [(0, .ref (a 0)), (1, .int s0), (2, .int x2_14), (3, .int x3_15)]) [4, 3, 1, 0] rfl ?_
    exact hrec6 s0 x2_14 x3_15 t_3 hf
  have hf := k_iff hc hf
  obtain ⟨rfl, rfl⟩ := k_r2 hf
  refine k_sipush hA dX12_walksBy_72 kc_s_9999 ?_
  exact k_iret hA hr rfl dX12_walksBy_75

theorem m_M_walksBy_6 {p : Program} (l : Launch) {e : Env} {s : State} {m : MethodId} {args : Array Value} {below : List Frame} {meth : Method} {c : Code} (G : k_G) (a : Nat → Nat) (rv : Value) (n : Nat) {w0 : va_W} {r : Int32} {t' : k_St} (hA : k_Amb p s m args meth c cX12_walksBy 6 "TaleSharesModel" G (va_A w0 s.heap.size)) (hr : meth.sig.returnType = (some .int)) : ∀ (k : Nat) (x1 : Int32) (x2 : Int32) (x3 : Int32) (t : k_St), f_M_walksBy_6 n k x1 x2 x3 t = some (r, t') → k_Go p l e (k_rm 1) s m args below meth c (k_QI G w0 r (k_WT G.2.1 a rv t') args s below) 6 G (va_A w0 s.heap.size) (k_WT G.2.1 a rv t) 6 [(0, .ref (a 0)), (1, .int x1), (2, .int x2), (3, .int x3)] [] := by
  intro k
  induction k with
  | zero => intro x1 x2 x3 t hf; cases hf
  | succ k ih =>
  intro x1 x2 x3 t hf
  rw [f_M_walksBy_6] at hf
  refine k_iload_n (i := 3) hA dX12_walksBy_6 rfl 3 rfl ?_
  refine k_aload_n (i := 0) hA dX12_walksBy_7 rfl 0 rfl ?_
  refine gt_MT_0_3 hA wd_1251 dX12_walksBy_8 ?_
  refine gt_MT_18_4N hA rfl nf_277 dX12_walksBy_11 ?_
  refine k_icmp_ge (tgt := 143) hA dX12_walksBy_14 rfl (fun hc => ?_) (fun hc => ?_)
  · have hf := k_ift hc hf
    obtain ⟨rfl, rfl⟩ := k_r2 hf
    refine k_iload_n (i := 2) hA dX12_walksBy_143 rfl 2 rfl ?_
    exact k_iret hA hr rfl dX12_walksBy_144
  have hf := k_iff hc hf
  obtain ⟨hi_1, hf⟩ := k_gi_e hf
  obtain ⟨x4_2, ex4_2, hf⟩ := k_lt_e hf
  obtain ⟨hi_3, hf⟩ := k_gi_e hf
  refine k_aload_n (i := 0) hA dX12_walksBy_17 rfl 0 rfl ?_
  refine gt_MT_0_33 hA wd_1281 dX12_walksBy_18 ?_
  refine k_iload_n (i := 3) hA dX12_walksBy_21 rfl 3 rfl ?_
  refine ld_MT_12 hA hi_1 dX12_walksBy_22 ?_
  refine k_istore (lv' := [(4, .int x4_2), (0, .ref (a 0)), (1, .int x1), (2, .int x2), (3, .int x3)]) hA dX12_walksBy_23 ex4_2 (Nat.le_of_ble_eq_true rfl) rfl ?_
  refine k_iload_n (i := 1) hA dX12_walksBy_25 rfl 2 rfl ?_
  refine k_iconst hA dX12_walksBy_26 kc_i_1 ?_
  refine k_iadd hA dX12_walksBy_27 ?_
  refine k_aload_n (i := 0) hA dX12_walksBy_28 rfl 1 rfl ?_
  refine gt_MT_0_3 hA wd_1251 dX12_walksBy_29 ?_
  refine gt_MT_18_12N hA rfl nf_288 dX12_walksBy_32 ?_
  refine k_iload hA dX12_walksBy_35 0 rfl ?_
  refine ld_MT_22 hA hi_3 dX12_walksBy_37 ?_
  refine k_icmp_le (tgt := 47) hA dX12_walksBy_38 rfl (fun hc => ?_) (fun hc => ?_)
  · have hf := k_ift hc hf
    obtain ⟨hi_4, hf⟩ := k_gi_e hf
    refine k_aload_n (i := 0) hA dX12_walksBy_47 rfl 1 rfl ?_
    refine gt_MT_0_3 hA wd_1251 dX12_walksBy_48 ?_
    refine gt_MT_18_12N hA rfl nf_288 dX12_walksBy_51 ?_
    refine k_iload hA dX12_walksBy_54 0 rfl ?_
    refine ld_MT_22 hA hi_4 dX12_walksBy_56 ?_
    refine k_pick (lv' := [(0, .ref (a 0)), (2, .int x2), (3, .int x3), (4, .int x4_2)]) [1, 3, 4, 0] rfl ?_
    exact m_M_walksBy_57 l G a rv n hA hr (f_M_walksBy_6 n k) ih x2 x3 x4_2 (t.1 22 x4_2.toNatClampNeg) t hf
  have hf := k_iff hc hf
  refine k_iload_n (i := 1) hA dX12_walksBy_41 rfl 2 rfl ?_
  refine k_iconst hA dX12_walksBy_42 kc_i_1 ?_
  refine k_iadd hA dX12_walksBy_43 ?_
  refine k_goto (tgt := 57) hA dX12_walksBy_44 rfl ?_
  refine k_pick (lv' := [(0, .ref (a 0)), (2, .int x2), (3, .int x3), (4, .int x4_2)]) [1, 3, 4, 0] rfl ?_
  exact m_M_walksBy_57 l G a rv n hA hr (f_M_walksBy_6 n k) ih x2 x3 x4_2 (x1 + (1 : Int32)) t hf

theorem m_M_walksBy (l : Launch) (G : k_G) (a : Nat → Nat) (rv : Value) (n : Nat) (t : k_St) {r : Int32} {t' : k_St} (hf : f_M_walksBy n t = some (r, t')) : k_CI l G yX12_walksBy cX12_walksBy 6 (some .int) 1 (k_WT G.2.1 a rv t) [.ref (a 0)] r (k_WT G.2.1 a rv t') := by
  refine k_startI (lv := [(0, .ref (a 0))]) (by decide +kernel) (Nat.le_of_ble_eq_true rfl) rfl ?_
  intro p e s m args below meth c hA hr
  have hA : k_Amb p s m args meth c cX12_walksBy 6 "TaleSharesModel" G _ := hA
  unfold f_M_walksBy at hf
  refine k_iconst hA dX12_walksBy_0 kc_i_m1 ?_
  refine k_istore_n (i := 1) (lv' := [(1, .int (-1 : Int32)), (0, .ref (a 0))]) hA dX12_walksBy_1 rfl rfl (Nat.le_of_ble_eq_true rfl) rfl ?_
  refine k_iconst hA dX12_walksBy_2 kc_i_0 ?_
  refine k_istore_n (i := 2) (lv' := [(2, .int (0 : Int32)), (1, .int (-1 : Int32)), (0, .ref (a 0))]) hA dX12_walksBy_3 rfl rfl (Nat.le_of_ble_eq_true rfl) rfl ?_
  refine k_iconst hA dX12_walksBy_4 kc_i_0 ?_
  refine k_istore_n (i := 3) (lv' := [(3, .int (0 : Int32)), (2, .int (0 : Int32)), (1, .int (-1 : Int32)), (0, .ref (a 0))]) hA dX12_walksBy_5 rfl rfl (Nat.le_of_ble_eq_true rfl) rfl ?_
  refine k_pick (lv' := [(0, .ref (a 0)), (1, .int (-1 : Int32)), (2, .int (0 : Int32)), (3, .int (0 : Int32))]) [3, 2, 1, 0] rfl ?_
  exact m_M_walksBy_6 l G a rv n hA hr n (-1 : Int32) (0 : Int32) (0 : Int32) t hf

def f_M_swaps (x1 : Int32) (x2 : Int32) (t : k_St) : Option k_St := k_gi x1 5 (k_lt (t.1 12 x1.toNatClampNeg) (fun x3_2 => k_gi x2 5 (k_gi x1 5 (k_lt (k_sI t 12 x1.toNatClampNeg (t.1 12 x2.toNatClampNeg)) (fun t_5 => k_gi x2 5 (k_lt (k_sI t_5 12 x2.toNatClampNeg x3_2) (fun t_7 => some t_7)))))))
theorem m_M_swaps (l : Launch) (G : k_G) (a : Nat → Nat) (rv : Value) (x1 : Int32) (x2 : Int32) (t : k_St) {t' : k_St} (hf : f_M_swaps x1 x2 t = some t') : k_CV l G yX12_swaps cX12_swaps 4 none 1 (k_WT G.2.1 a rv t) [.ref (a 0), .int x1, .int x2] (k_WT G.2.1 a rv t') := by
  refine k_startV (lv := [(0, .ref (a 0)), (1, .int x1), (2, .int x2)]) (by decide +kernel) (Nat.le_of_ble_eq_true rfl) rfl ?_
  intro p e s m args below meth c hA hr
  have hA : k_Amb p s m args meth c cX12_swaps 4 "TaleSharesModel" G _ := hA
  unfold f_M_swaps at hf
  obtain ⟨hi_1, hf⟩ := k_gi_e hf
  obtain ⟨x3_2, ex3_2, hf⟩ := k_lt_e hf
  obtain ⟨hi_3, hf⟩ := k_gi_e hf
  obtain ⟨hi_4, hf⟩ := k_gi_e hf
  obtain ⟨t_5, et_5, hf⟩ := k_lt_e hf
  obtain ⟨hi_6, hf⟩ := k_gi_e hf
  obtain ⟨t_7, et_7, hf⟩ := k_lt_e hf
  obtain rfl := k_r1 hf
  refine k_aload_n (i := 0) hA dX12_swaps_0 rfl 0 rfl ?_
  refine gt_MT_0_33 hA wd_1281 dX12_swaps_1 ?_
  refine k_iload_n (i := 1) hA dX12_swaps_4 rfl 1 rfl ?_
  refine ld_MT_12 hA hi_1 dX12_swaps_5 ?_
  refine k_istore_n (i := 3) (lv' := [(3, .int x3_2), (0, .ref (a 0)), (1, .int x1), (2, .int x2)]) hA dX12_swaps_6 rfl ex3_2 (Nat.le_of_ble_eq_true rfl) rfl ?_
  refine k_aload_n (i := 0) hA dX12_swaps_7 rfl 1 rfl ?_
  refine gt_MT_0_33 hA wd_1281 dX12_swaps_8 ?_
  refine k_iload_n (i := 1) hA dX12_swaps_11 rfl 2 rfl ?_
  refine k_aload_n (i := 0) hA dX12_swaps_12 rfl 1 rfl ?_
  refine gt_MT_0_33 hA wd_1281 dX12_swaps_13 ?_
  refine k_iload_n (i := 2) hA dX12_swaps_16 rfl 3 rfl ?_
  refine ld_MT_12 hA hi_3 dX12_swaps_17 ?_
  refine sr_MT_12 hA hi_4 et_5 dX12_swaps_18 ?_
  refine k_aload_n (i := 0) hA dX12_swaps_19 rfl 1 rfl ?_
  refine gt_MT_0_33 hA wd_1281 dX12_swaps_20 ?_
  refine k_iload_n (i := 2) hA dX12_swaps_23 rfl 3 rfl ?_
  refine k_iload_n (i := 3) hA dX12_swaps_24 rfl 0 rfl ?_
  refine sr_MT_12 hA hi_6 et_7 dX12_swaps_25 ?_
  exact k_vret hA hr dX12_swaps_26

def f_M_nextOrder_95 (n : Nat) : Nat → Int32 → Int32 → k_St → Option (Bool × k_St)
  | 0, _, _, _ => none
  | k + 1, x3, x4, t => (if x4 ≤ x3 then some (true, t) else k_cv (f_M_swaps x3 x4 t) (fun t_1 => k_lt (x3 + (1 : Int32)) (fun x3_2 => k_lt (x4 + (-1 : Int32)) (fun x4_3 => f_M_nextOrder_95 n k x3_2 x4_3 t_1))))
def f_M_nextOrder_53 (n : Nat) : Nat → Int32 → Int32 → k_St → Option (Bool × k_St)
  | 0, _, _, _ => none
  | k + 1, x1, x2, t => k_gi x2 5 (k_gi x1 5 ((if (t.1 12 x1.toNatClampNeg) ≤ (t.1 12 x2.toNatClampNeg) then k_cv (f_M_swaps x1 x2 t) (fun t_3 => k_lt (x1 + (1 : Int32)) (fun x3_4 => k_lt ((t_3.1 18 4) - (1 : Int32)) (fun x4_5 => f_M_nextOrder_95 n n x3_4 x4_5 t_3))) else k_lt (x2 + (-1 : Int32)) (fun x2_6 => f_M_nextOrder_53 n k x1 x2_6 t))))
def f_M_nextOrder_10 (n : Nat) : Nat → Int32 → k_St → Option (Bool × k_St)
  | 0, _, _ => none
  | k + 1, x1, t => (if x1 < 0 then (if 0 ≤ x1 then k_lt ((t.1 18 4) - (1 : Int32)) (fun x2_1 => f_M_nextOrder_53 n n x1 x2_1 t) else some (false, t)) else k_gi x1 5 (k_gi (x1 + (1 : Int32)) 5 ((if (t.1 12 x1.toNatClampNeg) ≤ (t.1 12 (x1 + (1 : Int32)).toNatClampNeg) then (if 0 ≤ x1 then k_lt ((t.1 18 4) - (1 : Int32)) (fun x2_4 => f_M_nextOrder_53 n n x1 x2_4 t) else some (false, t)) else k_lt (x1 + (-1 : Int32)) (fun x1_5 => f_M_nextOrder_10 n k x1_5 t)))))
def f_M_nextOrder (n : Nat) (t : k_St) : Option (Bool × k_St) := k_lt ((t.1 18 4) - (2 : Int32)) (fun x1_1 => f_M_nextOrder_10 n n x1_1 t)
theorem m_M_nextOrder_95 {p : Program} (l : Launch) {e : Env} {s : State} {m : MethodId} {args : Array Value} {below : List Frame} {meth : Method} {c : Code} (G : k_G) (a : Nat → Nat) (rv : Value) (n : Nat) {w0 : va_W} {r : Bool} {t' : k_St} (hA : k_Amb p s m args meth c cX12_nextOrder 5 "TaleSharesModel" G (va_A w0 s.heap.size)) (hr : meth.sig.returnType = (some .boolean)) : ∀ (k : Nat) (x3 : Int32) (x4 : Int32) (t : k_St), f_M_nextOrder_95 n k x3 x4 t = some (r, t') → k_Go p l e (k_rm 2) s m args below meth c (k_QI G w0 (k_b r) (k_WT G.2.1 a rv t') args s below) 5 G (va_A w0 s.heap.size) (k_WT G.2.1 a rv t) 95 [(0, .ref (a 0)), (3, .int x3), (4, .int x4)] [] := by
  intro k
  induction k with
  | zero => intro x3 x4 t hf; cases hf
  | succ k ih =>
  intro x3 x4 t hf
  rw [f_M_nextOrder_95] at hf
  refine k_iload_n (i := 3) hA dX12_nextOrder_95 rfl 1 rfl ?_
  refine k_iload hA dX12_nextOrder_96 2 rfl ?_
  refine k_icmp_ge (tgt := 117) hA dX12_nextOrder_98 rfl (fun hc => ?_) (fun hc => ?_)
  · have hf := k_ift hc hf
    obtain ⟨rfl, rfl⟩ := k_r2 hf
    refine k_iconst hA dX12_nextOrder_117 kc_i_1 ?_
    exact k_iret hA hr (k_narB (k_b01 _)) dX12_nextOrder_118
  have hf := k_iff hc hf
  obtain ⟨t_1, ht_1, hf⟩ := k_cv_e hf
  obtain ⟨x3_2, ex3_2, hf⟩ := k_lt_e hf
  obtain ⟨x4_3, ex4_3, hf⟩ := k_lt_e hf
  refine k_aload_n (i := 0) hA dX12_nextOrder_101 rfl 0 rfl ?_
  refine k_iload_n (i := 3) hA dX12_nextOrder_102 rfl 1 rfl ?_
  refine k_iload hA dX12_nextOrder_103 2 rfl ?_
  refine k_callVv (As := [.int x3, .int x4]) (rest := []) hA (m_M_swaps l G a rv x3 x4 t ht_1) cd_X12_swaps wd_1812 (hc_MT_0 G.2.1 a rv t) rfl rfl (Nat.le_of_ble_eq_true rfl) rfl rfl (Nat.le_of_ble_eq_true rfl) dX12_nextOrder_105 ?_
  refine k_iinc (j := 1) (v := x3_2) (lv' := [(3, .int x3_2), (0, .ref (a 0)), (4, .int x4)]) hA dX12_nextOrder_108 rfl (k_inc ex3_2 kc_i_1) (Nat.le_of_ble_eq_true rfl) rfl ?_
  refine k_iinc (j := 2) (v := x4_3) (lv' := [(4, .int x4_3), (3, .int x3_2), (0, .ref (a 0))]) hA dX12_nextOrder_111 rfl (k_inc ex4_3 kc_i_m1) (Nat.le_of_ble_eq_true rfl) rfl ?_
  refine k_goto (tgt := 95) hA dX12_nextOrder_114 rfl ?_
  refine k_pick (lv' := [(0, .ref (a 0)), (3, .int x3_2), (4, .int x4_3)]) [2, 1, 0] rfl ?_
  exact ih x3_2 x4_3 t_1 hf

theorem m_M_nextOrder_53 {p : Program} (l : Launch) {e : Env} {s : State} {m : MethodId} {args : Array Value} {below : List Frame} {meth : Method} {c : Code} (G : k_G) (a : Nat → Nat) (rv : Value) (n : Nat) {w0 : va_W} {r : Bool} {t' : k_St} (hA : k_Amb p s m args meth c cX12_nextOrder 5 "TaleSharesModel" G (va_A w0 s.heap.size)) (hr : meth.sig.returnType = (some .boolean)) : ∀ (k : Nat) (x1 : Int32) (x2 : Int32) (t : k_St), f_M_nextOrder_53 n k x1 x2 t = some (r, t') → k_Go p l e (k_rm 2) s m args below meth c (k_QI G w0 (k_b r) (k_WT G.2.1 a rv t') args s below) 5 G (va_A w0 s.heap.size) (k_WT G.2.1 a rv t) 53 [(0, .ref (a 0)), (1, .int x1), (2, .int x2)] [] := by
  intro k
  induction k with
  | zero => intro x1 x2 t hf; cases hf
  | succ k ih =>
  intro x1 x2 t hf
  rw [f_M_nextOrder_53] at hf
  obtain ⟨hi_1, hf⟩ := k_gi_e hf
  obtain ⟨hi_2, hf⟩ := k_gi_e hf
  refine k_aload_n (i := 0) hA dX12_nextOrder_53 rfl 0 rfl ?_
  refine gt_MT_0_33 hA wd_1281 dX12_nextOrder_54 ?_
  refine k_iload_n (i := 2) hA dX12_nextOrder_57 rfl 2 rfl ?_
  refine ld_MT_12 hA hi_1 dX12_nextOrder_58 ?_
  refine k_aload_n (i := 0) hA dX12_nextOrder_59 rfl 0 rfl ?_
  refine gt_MT_0_33 hA wd_1281 dX12_nextOrder_60 ?_
  refine k_iload_n (i := 1) hA dX12_nextOrder_63 rfl 1 rfl ?_
  refine ld_MT_12 hA hi_2 dX12_nextOrder_64 ?_
  refine k_icmp_ge (tgt := 74) hA dX12_nextOrder_65 rfl (fun hc => ?_) (fun hc => ?_)
  · have hf := k_ift hc hf
    obtain ⟨t_3, ht_3, hf⟩ := k_cv_e hf
    obtain ⟨x3_4, ex3_4, hf⟩ := k_lt_e hf
    obtain ⟨x4_5, ex4_5, hf⟩ := k_lt_e hf
    refine k_aload_n (i := 0) hA dX12_nextOrder_74 rfl 0 rfl ?_
    refine k_iload_n (i := 1) hA dX12_nextOrder_75 rfl 1 rfl ?_
    refine k_iload_n (i := 2) hA dX12_nextOrder_76 rfl 2 rfl ?_
    refine k_callVv (As := [.int x1, .int x2]) (rest := []) hA (m_M_swaps l G a rv x1 x2 t ht_3) cd_X12_swaps wd_1812 (hc_MT_0 G.2.1 a rv t) rfl rfl (Nat.le_of_ble_eq_true rfl) rfl rfl (Nat.le_of_ble_eq_true rfl) dX12_nextOrder_77 ?_
    refine k_iload_n (i := 1) hA dX12_nextOrder_80 rfl 1 rfl ?_
    refine k_iconst hA dX12_nextOrder_81 kc_i_1 ?_
    refine k_iadd hA dX12_nextOrder_82 ?_
    refine k_istore_n (i := 3) (lv' := [(3, .int x3_4), (0, .ref (a 0)), (1, .int x1), (2, .int x2)]) hA dX12_nextOrder_83 rfl ex3_4 (Nat.le_of_ble_eq_true rfl) rfl ?_
    refine k_aload_n (i := 0) hA dX12_nextOrder_84 rfl 1 rfl ?_
    refine gt_MT_0_3 hA wd_1251 dX12_nextOrder_85 ?_
    refine gt_MT_18_4N hA rfl nf_277 dX12_nextOrder_88 ?_
    refine k_iconst hA dX12_nextOrder_91 kc_i_1 ?_
    refine k_isub hA dX12_nextOrder_92 ?_
    refine k_istore (lv' := [(4, .int x4_5), (3, .int x3_4), (0, .ref (a 0)), (1, .int x1), (2, .int x2)]) hA dX12_nextOrder_93 ex4_5 (Nat.le_of_ble_eq_true rfl) rfl ?_
    refine k_pick (lv' := [(0, .ref (a 0)), (3, .int x3_4), (4, .int x4_5)]) [2, 1, 0] rfl ?_
    exact m_M_nextOrder_95 l G a rv n hA hr n x3_4 x4_5 t_3 hf
  have hf := k_iff hc hf
  obtain ⟨x2_6, ex2_6, hf⟩ := k_lt_e hf
  refine k_iinc (j := 2) (v := x2_6) (lv' := [(2, .int x2_6), (0, .ref (a 0)), (1, .int x1)]) hA dX12_nextOrder_68 rfl (k_inc ex2_6 kc_i_m1) (Nat.le_of_ble_eq_true rfl) rfl ?_
  refine k_goto (tgt := 53) hA dX12_nextOrder_71 rfl ?_
  refine k_pick (lv' := [(0, .ref (a 0)), (1, .int x1), (2, .int x2_6)]) [1, 2, 0] rfl ?_
  exact ih x1 x2_6 t hf

theorem m_M_nextOrder_10 {p : Program} (l : Launch) {e : Env} {s : State} {m : MethodId} {args : Array Value} {below : List Frame} {meth : Method} {c : Code} (G : k_G) (a : Nat → Nat) (rv : Value) (n : Nat) {w0 : va_W} {r : Bool} {t' : k_St} (hA : k_Amb p s m args meth c cX12_nextOrder 5 "TaleSharesModel" G (va_A w0 s.heap.size)) (hr : meth.sig.returnType = (some .boolean)) : ∀ (k : Nat) (x1 : Int32) (t : k_St), f_M_nextOrder_10 n k x1 t = some (r, t') → k_Go p l e (k_rm 2) s m args below meth c (k_QI G w0 (k_b r) (k_WT G.2.1 a rv t') args s below) 5 G (va_A w0 s.heap.size) (k_WT G.2.1 a rv t) 10 [(0, .ref (a 0)), (1, .int x1)] [] := by
  intro k
  induction k with
  | zero => intro x1 t hf; cases hf
  | succ k ih =>
  intro x1 t hf
  rw [f_M_nextOrder_10] at hf
  refine k_iload_n (i := 1) hA dX12_nextOrder_10 rfl 1 rfl ?_
  refine k_if_lt (tgt := 37) hA dX12_nextOrder_11 rfl (fun hc => ?_) (fun hc => ?_)
  · have hf := k_ift hc hf
    refine k_iload_n (i := 1) hA dX12_nextOrder_37 rfl 1 rfl ?_
    refine k_if_ge (tgt := 43) hA dX12_nextOrder_38 rfl (fun hc => ?_) (fun hc => ?_)
    · have hf := k_ift hc hf
      obtain ⟨x2_1, ex2_1, hf⟩ := k_lt_e hf
      refine k_aload_n (i := 0) hA dX12_nextOrder_43 rfl 0 rfl ?_
      refine gt_MT_0_3 hA wd_1251 dX12_nextOrder_44 ?_
      refine gt_MT_18_4N hA rfl nf_277 dX12_nextOrder_47 ?_
      refine k_iconst hA dX12_nextOrder_50 kc_i_1 ?_
      refine k_isub hA dX12_nextOrder_51 ?_
      refine k_istore_n (i := 2) (lv' := [(2, .int x2_1), (0, .ref (a 0)), (1, .int x1)]) hA dX12_nextOrder_52 rfl ex2_1 (Nat.le_of_ble_eq_true rfl) rfl ?_
      refine k_pick (lv' := [(0, .ref (a 0)), (1, .int x1), (2, .int x2_1)]) [1, 2, 0] rfl ?_
      exact m_M_nextOrder_53 l G a rv n hA hr n x1 x2_1 t hf
    have hf := k_iff hc hf
    obtain ⟨rfl, rfl⟩ := k_r2 hf
    refine k_iconst hA dX12_nextOrder_41 kc_i_0 ?_
    exact k_iret hA hr (k_narB (k_b01 _)) dX12_nextOrder_42
  have hf := k_iff hc hf
  obtain ⟨hi_2, hf⟩ := k_gi_e hf
  obtain ⟨hi_3, hf⟩ := k_gi_e hf
  refine k_aload_n (i := 0) hA dX12_nextOrder_14 rfl 0 rfl ?_
  refine gt_MT_0_33 hA wd_1281 dX12_nextOrder_15 ?_
  refine k_iload_n (i := 1) hA dX12_nextOrder_18 rfl 1 rfl ?_
  refine ld_MT_12 hA hi_2 dX12_nextOrder_19 ?_
  refine k_aload_n (i := 0) hA dX12_nextOrder_20 rfl 0 rfl ?_
  refine gt_MT_0_33 hA wd_1281 dX12_nextOrder_21 ?_
  refine k_iload_n (i := 1) hA dX12_nextOrder_24 rfl 1 rfl ?_
  refine k_iconst hA dX12_nextOrder_25 kc_i_1 ?_
  refine k_iadd hA dX12_nextOrder_26 ?_
  refine ld_MT_12 hA hi_3 dX12_nextOrder_27 ?_
  refine k_icmp_le (tgt := 37) hA dX12_nextOrder_28 rfl (fun hc => ?_) (fun hc => ?_)
  · have hf := k_ift hc hf
    refine k_iload_n (i := 1) hA dX12_nextOrder_37 rfl 1 rfl ?_
    refine k_if_ge (tgt := 43) hA dX12_nextOrder_38 rfl (fun hc => ?_) (fun hc => ?_)
    · have hf := k_ift hc hf
      obtain ⟨x2_4, ex2_4, hf⟩ := k_lt_e hf
      refine k_aload_n (i := 0) hA dX12_nextOrder_43 rfl 0 rfl ?_
      refine gt_MT_0_3 hA wd_1251 dX12_nextOrder_44 ?_
      refine gt_MT_18_4N hA rfl nf_277 dX12_nextOrder_47 ?_
      refine k_iconst hA dX12_nextOrder_50 kc_i_1 ?_
      refine k_isub hA dX12_nextOrder_51 ?_
      refine k_istore_n (i := 2) (lv' := [(2, .int x2_4), (0, .ref (a 0)), (1, .int x1)]) hA dX12_nextOrder_52 rfl ex2_4 (Nat.le_of_ble_eq_true rfl) rfl ?_
      refine k_pick (lv' := [(0, .ref (a 0)), (1, .int x1), (2, .int x2_4)]) [1, 2, 0] rfl ?_
      exact m_M_nextOrder_53 l G a rv n hA hr n x1 x2_4 t hf
    have hf := k_iff hc hf
    obtain ⟨rfl, rfl⟩ := k_r2 hf
    refine k_iconst hA dX12_nextOrder_41 kc_i_0 ?_
    exact k_iret hA hr (k_narB (k_b01 _)) dX12_nextOrder_42
  have hf := k_iff hc hf
  obtain ⟨x1_5, ex1_5, hf⟩ := k_lt_e hf
  refine k_iinc (j := 1) (v := x1_5) (lv' := [(1, .int x1_5), (0, .ref (a 0))]) hA dX12_nextOrder_31 rfl (k_inc ex1_5 kc_i_m1) (Nat.le_of_ble_eq_true rfl) rfl ?_
  refine k_goto (tgt := 10) hA dX12_nextOrder_34 rfl ?_
  refine k_pick (lv' := [(0, .ref (a 0)), (1, .int x1_5)]) [1, 0] rfl ?_
  exact ih x1_5 t hf

theorem m_M_nextOrder (l : Launch) (G : k_G) (a : Nat → Nat) (rv : Value) (n : Nat) (t : k_St) {r : Bool} {t' : k_St} (hf : f_M_nextOrder n t = some (r, t')) : k_CI l G yX12_nextOrder cX12_nextOrder 5 (some .boolean) 2 (k_WT G.2.1 a rv t) [.ref (a 0)] (k_b r) (k_WT G.2.1 a rv t') := by
  refine k_startI (lv := [(0, .ref (a 0))]) (by decide +kernel) (Nat.le_of_ble_eq_true rfl) rfl ?_
  intro p e s m args below meth c hA hr
  have hA : k_Amb p s m args meth c cX12_nextOrder 5 "TaleSharesModel" G _ := hA
  unfold f_M_nextOrder at hf
  obtain ⟨x1_1, ex1_1, hf⟩ := k_lt_e hf
  refine k_aload_n (i := 0) hA dX12_nextOrder_0 rfl 0 rfl ?_
  refine gt_MT_0_3 hA wd_1251 dX12_nextOrder_1 ?_
  refine gt_MT_18_4N hA rfl nf_277 dX12_nextOrder_4 ?_
  refine k_iconst hA dX12_nextOrder_7 kc_i_2 ?_
  refine k_isub hA dX12_nextOrder_8 ?_
  refine k_istore_n (i := 1) (lv' := [(1, .int x1_1), (0, .ref (a 0))]) hA dX12_nextOrder_9 rfl ex1_1 (Nat.le_of_ble_eq_true rfl) rfl ?_
  refine k_pick (lv' := [(0, .ref (a 0)), (1, .int x1_1)]) [1, 0] rfl ?_
  exact m_M_nextOrder_10 l G a rv n hA hr n x1_1 t hf

def f_M_timetable_67 (n : Nat) (rec31 : Int32 → Int32 → k_St → Option (Int32 × k_St)) : Nat → Int32 → Int32 → k_St → Option (Int32 × k_St)
  | 0, _, _, _ => none
  | k + 1, x1, x4, t => (if (5 : Int32) ≤ x4 then k_cl (f_M_nextOrder n t) (fun r_2 t_1 => k_lt (k_b r_2) (fun x2_3 => rec31 x1 x2_3 t_1)) else k_gi x4 5 (k_gi x4 5 (k_lt (k_sI t 14 x4.toNatClampNeg (t.1 12 x4.toNatClampNeg)) (fun t_6 => k_gi x4 5 (k_gi x4 5 (k_lt (k_sI t_6 15 x4.toNatClampNeg (t_6.1 13 x4.toNatClampNeg)) (fun t_9 => k_lt (x4 + (1 : Int32)) (fun x4_10 => f_M_timetable_67 n rec31 k x1 x4_10 t_9))))))))
def f_M_timetable_57 (n : Nat) (rec31 : Int32 → Int32 → k_St → Option (Int32 × k_St)) (x1 : Int32) (x3 : Int32) (t : k_St) : Option (Int32 × k_St) := (if x1 ≤ x3 then k_cl (f_M_nextOrder n t) (fun r_2 t_1 => k_lt (k_b r_2) (fun x2_3 => rec31 x1 x2_3 t_1)) else f_M_timetable_67 n rec31 n x3 (0 : Int32) t)
def f_M_timetable_31 (n : Nat) : Nat → Int32 → Int32 → k_St → Option (Int32 × k_St)
  | 0, _, _, _ => none
  | k + 1, x1, x2, t => (if x2 = 0 then some (x1, t) else k_cl (f_M_walksBy n t) (fun r_2 t_1 => (if (9999 : Int32) ≤ r_2 then f_M_timetable_57 n (f_M_timetable_31 n k) x1 r_2 t_1 else k_lt (k_sI t_1 0 37 ((t_1.1 0 37) + (1 : Int32))) (fun t_3 => f_M_timetable_57 n (f_M_timetable_31 n k) x1 r_2 t_3))))
def f_M_timetable_11 (n : Nat) : Nat → Int32 → Int32 → k_St → Option (Int32 × k_St)
  | 0, _, _, _ => none
  | k + 1, x1, x2, t => (if (5 : Int32) ≤ x2 then f_M_timetable_31 n n x1 (1 : Int32) t else k_gi x2 5 (k_lt (k_sI t 12 x2.toNatClampNeg x2) (fun t_2 => k_lt (x2 + (1 : Int32)) (fun x2_3 => f_M_timetable_11 n k x1 x2_3 t_2))))
def f_M_timetable (n : Nat) (t : k_St) : Option (Int32 × k_St) := k_lt (k_sI t 0 37 (0 : Int32)) (fun t_1 => f_M_timetable_11 n n (9999 : Int32) (0 : Int32) t_1)
theorem m_M_timetable_67 {p : Program} (l : Launch) {e : Env} {s : State} {m : MethodId} {args : Array Value} {below : List Frame} {meth : Method} {c : Code} (G : k_G) (a : Nat → Nat) (rv : Value) (n : Nat) {w0 : va_W} {r : Int32} {t' : k_St} (hA : k_Amb p s m args meth c cX12_timetable 5 "TaleSharesModel" G (va_A w0 s.heap.size)) (hr : meth.sig.returnType = (some .int)) (rec31 : Int32 → Int32 → k_St → Option (Int32 × k_St)) (hrec31 : ∀ (x1 : Int32) (x2 : Int32) (t : k_St), rec31 x1 x2 t = some (r, t') → k_Go p l e (k_rm 3) s m args below meth c (k_QI G w0 r (k_WT G.2.1 a rv t') args s below) 5 G (va_A w0 s.heap.size) (k_WT G.2.1 a rv t) 31 [(0, .ref (a 0)), (1, .int x1), (2, .int x2)] []) : ∀ (k : Nat) (x1 : Int32) (x4 : Int32) (t : k_St), f_M_timetable_67 n rec31 k x1 x4 t = some (r, t') → k_Go p l e (k_rm 3) s m args below meth c (k_QI G w0 r (k_WT G.2.1 a rv t') args s below) 5 G (va_A w0 s.heap.size) (k_WT G.2.1 a rv t) 67 [(0, .ref (a 0)), (1, .int x1), (4, .int x4)] [] := by
  intro k
  induction k with
  | zero => intro x1 x4 t hf; cases hf
  | succ k ih =>
  intro x1 x4 t hf
  rw [f_M_timetable_67] at hf
  refine k_iload hA dX12_timetable_67 2 rfl ?_
  refine k_iconst hA dX12_timetable_69 kc_i_5 ?_
  refine k_icmp_ge (tgt := 107) hA dX12_timetable_70 rfl (fun hc => ?_) (fun hc => ?_)
  · have hf := k_ift hc hf
    obtain ⟨r_2, t_1, ht_1, hf⟩ := k_cl_e hf
    obtain ⟨x2_3, ex2_3, hf⟩ := k_lt_e hf
    refine k_aload_n (i := 0) hA dX12_timetable_107 rfl 0 rfl ?_
    refine k_callVi (As := []) (rest := []) hA (m_M_nextOrder l G a rv n t ht_1) cd_X12_nextOrder wd_1808 (hc_MT_0 G.2.1 a rv t) rfl rfl (Nat.le_of_ble_eq_true rfl) rfl rfl (Nat.le_of_ble_eq_true rfl) dX12_timetable_108 ?_
    refine k_istore_n (i := 2) (lv' := [(2, .int x2_3), (0, .ref (a 0)), (1, .int x1), (4, .int x4)]) hA dX12_timetable_111 rfl ex2_3 (Nat.le_of_ble_eq_true rfl) rfl ?_
    refine k_goto (tgt := 31) hA dX12_timetable_112 rfl ?_
    refine k_pick (lv' := [(0, .ref (a 0)), (1, .int x1), (2, .int x2_3)]) [1, 2, 0] rfl ?_
    exact hrec31 x1 x2_3 t_1 hf
  have hf := k_iff hc hf
  obtain ⟨hi_4, hf⟩ := k_gi_e hf
  obtain ⟨hi_5, hf⟩ := k_gi_e hf
  obtain ⟨t_6, et_6, hf⟩ := k_lt_e hf
  obtain ⟨hi_7, hf⟩ := k_gi_e hf
  obtain ⟨hi_8, hf⟩ := k_gi_e hf
  obtain ⟨t_9, et_9, hf⟩ := k_lt_e hf
  obtain ⟨x4_10, ex4_10, hf⟩ := k_lt_e hf
  refine k_aload_n (i := 0) hA dX12_timetable_73 rfl 0 rfl ?_
  refine gt_MT_0_35 hA wd_1283 dX12_timetable_74 ?_
  refine k_iload hA dX12_timetable_77 2 rfl ?_
  refine k_aload_n (i := 0) hA dX12_timetable_79 rfl 0 rfl ?_
  refine gt_MT_0_33 hA wd_1281 dX12_timetable_80 ?_
  refine k_iload hA dX12_timetable_83 2 rfl ?_
  refine ld_MT_12 hA hi_4 dX12_timetable_85 ?_
  refine sr_MT_14 hA hi_5 et_6 dX12_timetable_86 ?_
  refine k_aload_n (i := 0) hA dX12_timetable_87 rfl 0 rfl ?_
  refine gt_MT_0_36 hA wd_1284 dX12_timetable_88 ?_
  refine k_iload hA dX12_timetable_91 2 rfl ?_
  refine k_aload_n (i := 0) hA dX12_timetable_93 rfl 0 rfl ?_
  refine gt_MT_0_34 hA wd_1282 dX12_timetable_94 ?_
  refine k_iload hA dX12_timetable_97 2 rfl ?_
  refine ld_MT_13 hA hi_7 dX12_timetable_99 ?_
  refine sr_MT_15 hA hi_8 et_9 dX12_timetable_100 ?_
  refine k_iinc (j := 2) (v := x4_10) (lv' := [(4, .int x4_10), (0, .ref (a 0)), (1, .int x1)]) hA dX12_timetable_101 rfl (k_inc ex4_10 kc_i_1) (Nat.le_of_ble_eq_true rfl) rfl ?_
  refine k_goto (tgt := 67) hA dX12_timetable_104 rfl ?_
  refine k_pick (lv' := [(0, .ref (a 0)), (1, .int x1), (4, .int x4_10)]) [1, 2, 0] rfl ?_
  exact ih x1 x4_10 t_9 hf

theorem m_M_timetable_57 {p : Program} (l : Launch) {e : Env} {s : State} {m : MethodId} {args : Array Value} {below : List Frame} {meth : Method} {c : Code} (G : k_G) (a : Nat → Nat) (rv : Value) (n : Nat) {w0 : va_W} {r : Int32} {t' : k_St} (hA : k_Amb p s m args meth c cX12_timetable 5 "TaleSharesModel" G (va_A w0 s.heap.size)) (hr : meth.sig.returnType = (some .int)) (rec31 : Int32 → Int32 → k_St → Option (Int32 × k_St)) (hrec31 : ∀ (x1 : Int32) (x2 : Int32) (t : k_St), rec31 x1 x2 t = some (r, t') → k_Go p l e (k_rm 3) s m args below meth c (k_QI G w0 r (k_WT G.2.1 a rv t') args s below) 5 G (va_A w0 s.heap.size) (k_WT G.2.1 a rv t) 31 [(0, .ref (a 0)), (1, .int x1), (2, .int x2)] []) : ∀ (x1 : Int32) (x3 : Int32) (t : k_St), f_M_timetable_57 n rec31 x1 x3 t = some (r, t') → k_Go p l e (k_rm 3) s m args below meth c (k_QI G w0 r (k_WT G.2.1 a rv t') args s below) 5 G (va_A w0 s.heap.size) (k_WT G.2.1 a rv t) 57 [(0, .ref (a 0)), (1, .int x1), (3, .int x3)] [] := by
  intro x1 x3 t hf
  unfold f_M_timetable_57 at hf
  refine k_iload_n (i := 3) hA dX12_timetable_57 rfl 2 rfl ?_
  refine k_iload_n (i := 1) hA dX12_timetable_58 rfl 1 rfl ?_
  refine k_icmp_ge (tgt := 107) hA dX12_timetable_59 rfl (fun hc => ?_) (fun hc => ?_)
  · have hf := k_ift hc hf
    obtain ⟨r_2, t_1, ht_1, hf⟩ := k_cl_e hf
    obtain ⟨x2_3, ex2_3, hf⟩ := k_lt_e hf
    refine k_aload_n (i := 0) hA dX12_timetable_107 rfl 0 rfl ?_
    refine k_callVi (As := []) (rest := []) hA (m_M_nextOrder l G a rv n t ht_1) cd_X12_nextOrder wd_1808 (hc_MT_0 G.2.1 a rv t) rfl rfl (Nat.le_of_ble_eq_true rfl) rfl rfl (Nat.le_of_ble_eq_true rfl) dX12_timetable_108 ?_
    refine k_istore_n (i := 2) (lv' := [(2, .int x2_3), (0, .ref (a 0)), (1, .int x1), (3, .int x3)]) hA dX12_timetable_111 rfl ex2_3 (Nat.le_of_ble_eq_true rfl) rfl ?_
    refine k_goto (tgt := 31) hA dX12_timetable_112 rfl ?_
    refine k_pick (lv' := [(0, .ref (a 0)), (1, .int x1), (2, .int x2_3)]) [1, 2, 0] rfl ?_
    exact hrec31 x1 x2_3 t_1 hf
  have hf := k_iff hc hf
  refine k_iload_n (i := 3) hA dX12_timetable_62 rfl 2 rfl ?_
  refine k_istore_n (i := 1) (lv' := [(1, .int x3), (0, .ref (a 0)), (3, .int x3)]) hA dX12_timetable_63 rfl rfl (Nat.le_of_ble_eq_true rfl) rfl ?_
  refine k_iconst hA dX12_timetable_64 kc_i_0 ?_
  refine k_istore (lv' := [(4, .int (0 : Int32)), (1, .int x3), (0, .ref (a 0)), (3, .int x3)]) hA dX12_timetable_65 rfl (Nat.le_of_ble_eq_true rfl) rfl ?_
  refine k_pick (lv' := [(0, .ref (a 0)), (1, .int x3), (4, .int (0 : Int32))]) [2, 1, 0] rfl ?_
  exact m_M_timetable_67 l G a rv n hA hr rec31 hrec31 n x3 (0 : Int32) t hf

theorem m_M_timetable_31 {p : Program} (l : Launch) {e : Env} {s : State} {m : MethodId} {args : Array Value} {below : List Frame} {meth : Method} {c : Code} (G : k_G) (a : Nat → Nat) (rv : Value) (n : Nat) {w0 : va_W} {r : Int32} {t' : k_St} (hA : k_Amb p s m args meth c cX12_timetable 5 "TaleSharesModel" G (va_A w0 s.heap.size)) (hr : meth.sig.returnType = (some .int)) : ∀ (k : Nat) (x1 : Int32) (x2 : Int32) (t : k_St), f_M_timetable_31 n k x1 x2 t = some (r, t') → k_Go p l e (k_rm 3) s m args below meth c (k_QI G w0 r (k_WT G.2.1 a rv t') args s below) 5 G (va_A w0 s.heap.size) (k_WT G.2.1 a rv t) 31 [(0, .ref (a 0)), (1, .int x1), (2, .int x2)] [] := by
  intro k
  induction k with
  | zero => intro x1 x2 t hf; cases hf
  | succ k ih =>
  intro x1 x2 t hf
  rw [f_M_timetable_31] at hf
  refine k_iload_n (i := 2) hA dX12_timetable_31 rfl 2 rfl ?_
  refine k_if_eq (tgt := 115) hA dX12_timetable_32 rfl (fun hc => ?_) (fun hc => ?_)
  · have hf := k_ift hc hf
    obtain ⟨rfl, rfl⟩ := k_r2 hf
    refine k_iload_n (i := 1) hA dX12_timetable_115 rfl 1 rfl ?_
    exact k_iret hA hr rfl dX12_timetable_116
  have hf := k_iff hc hf
  obtain ⟨r_2, t_1, ht_1, hf⟩ := k_cl_e hf
  refine k_aload_n (i := 0) hA dX12_timetable_35 rfl 0 rfl ?_
  refine k_callVi (As := []) (rest := []) hA (m_M_walksBy l G a rv n t ht_1) cd_X12_walksBy wd_1804 (hc_MT_0 G.2.1 a rv t) rfl rfl (Nat.le_of_ble_eq_true rfl) rfl rfl (Nat.le_of_ble_eq_true rfl) dX12_timetable_36 ?_
  refine k_istore_n (i := 3) (lv' := [(3, .int r_2), (0, .ref (a 0)), (1, .int x1), (2, .int x2)]) hA dX12_timetable_39 rfl rfl (Nat.le_of_ble_eq_true rfl) rfl ?_
  refine k_iload_n (i := 3) hA dX12_timetable_40 rfl 0 rfl ?_
  refine k_sipush hA dX12_timetable_41 kc_s_9999 ?_
  refine k_icmp_ge (tgt := 57) hA dX12_timetable_44 rfl (fun hc => ?_) (fun hc => ?_)
  · have hf := k_ift hc hf
    refine k_pick (lv' := [(0, .ref (a 0)), (1, .int x1), (3, .int r_2)]) [1, 2, 0] rfl ?_
    exact m_M_timetable_57 l G a rv n hA hr (f_M_timetable_31 n k) ih x1 r_2 t_1 hf
  have hf := k_iff hc hf
  obtain ⟨t_3, et_3, hf⟩ := k_lt_e hf
  refine k_aload_n (i := 0) hA dX12_timetable_47 rfl 1 rfl ?_
  refine k_dup hA dX12_timetable_48 rfl ?_
  refine gt_MT_0_37 hA wd_1285 dX12_timetable_49 ?_
  refine k_iconst hA dX12_timetable_52 kc_i_1 ?_
  refine k_iadd hA dX12_timetable_53 ?_
  refine pt_MT_0_37 hA wd_1285 et_3 dX12_timetable_54 ?_
  refine k_pick (lv' := [(0, .ref (a 0)), (1, .int x1), (3, .int r_2)]) [1, 2, 0] rfl ?_
  exact m_M_timetable_57 l G a rv n hA hr (f_M_timetable_31 n k) ih x1 r_2 t_3 hf

theorem m_M_timetable_11 {p : Program} (l : Launch) {e : Env} {s : State} {m : MethodId} {args : Array Value} {below : List Frame} {meth : Method} {c : Code} (G : k_G) (a : Nat → Nat) (rv : Value) (n : Nat) {w0 : va_W} {r : Int32} {t' : k_St} (hA : k_Amb p s m args meth c cX12_timetable 5 "TaleSharesModel" G (va_A w0 s.heap.size)) (hr : meth.sig.returnType = (some .int)) : ∀ (k : Nat) (x1 : Int32) (x2 : Int32) (t : k_St), f_M_timetable_11 n k x1 x2 t = some (r, t') → k_Go p l e (k_rm 3) s m args below meth c (k_QI G w0 r (k_WT G.2.1 a rv t') args s below) 5 G (va_A w0 s.heap.size) (k_WT G.2.1 a rv t) 11 [(0, .ref (a 0)), (1, .int x1), (2, .int x2)] [] := by
  intro k
  induction k with
  | zero => intro x1 x2 t hf; cases hf
  | succ k ih =>
  intro x1 x2 t hf
  rw [f_M_timetable_11] at hf
  refine k_iload_n (i := 2) hA dX12_timetable_11 rfl 2 rfl ?_
  refine k_iconst hA dX12_timetable_12 kc_i_5 ?_
  refine k_icmp_ge (tgt := 29) hA dX12_timetable_13 rfl (fun hc => ?_) (fun hc => ?_)
  · have hf := k_ift hc hf
    refine k_iconst hA dX12_timetable_29 kc_i_1 ?_
    refine k_istore_n (i := 2) (lv' := [(2, .int (1 : Int32)), (0, .ref (a 0)), (1, .int x1)]) hA dX12_timetable_30 rfl rfl (Nat.le_of_ble_eq_true rfl) rfl ?_
    refine k_pick (lv' := [(0, .ref (a 0)), (1, .int x1), (2, .int (1 : Int32))]) [1, 2, 0] rfl ?_
    exact m_M_timetable_31 l G a rv n hA hr n x1 (1 : Int32) t hf
  have hf := k_iff hc hf
  obtain ⟨hi_1, hf⟩ := k_gi_e hf
  obtain ⟨t_2, et_2, hf⟩ := k_lt_e hf
  obtain ⟨x2_3, ex2_3, hf⟩ := k_lt_e hf
  refine k_aload_n (i := 0) hA dX12_timetable_16 rfl 0 rfl ?_
  refine gt_MT_0_33 hA wd_1281 dX12_timetable_17 ?_
  refine k_iload_n (i := 2) hA dX12_timetable_20 rfl 2 rfl ?_
  refine k_iload_n (i := 2) hA dX12_timetable_21 rfl 2 rfl ?_
  refine sr_MT_12 hA hi_1 et_2 dX12_timetable_22 ?_
  refine k_iinc (j := 2) (v := x2_3) (lv' := [(2, .int x2_3), (0, .ref (a 0)), (1, .int x1)]) hA dX12_timetable_23 rfl (k_inc ex2_3 kc_i_1) (Nat.le_of_ble_eq_true rfl) rfl ?_
  refine k_goto (tgt := 11) hA dX12_timetable_26 rfl ?_
  refine k_pick (lv' := [(0, .ref (a 0)), (1, .int x1), (2, .int x2_3)]) [1, 2, 0] rfl ?_
  exact ih x1 x2_3 t_2 hf

theorem m_M_timetable (l : Launch) (G : k_G) (a : Nat → Nat) (rv : Value) (n : Nat) (t : k_St) {r : Int32} {t' : k_St} (hf : f_M_timetable n t = some (r, t')) : k_CI l G yX12_timetable cX12_timetable 5 (some .int) 3 (k_WT G.2.1 a rv t) [.ref (a 0)] r (k_WT G.2.1 a rv t') := by
  refine k_startI (lv := [(0, .ref (a 0))]) (by decide +kernel) (Nat.le_of_ble_eq_true rfl) rfl ?_
  intro p e s m args below meth c hA hr
  have hA : k_Amb p s m args meth c cX12_timetable 5 "TaleSharesModel" G _ := hA
  unfold f_M_timetable at hf
  obtain ⟨t_1, et_1, hf⟩ := k_lt_e hf
  refine k_sipush hA dX12_timetable_0 kc_s_9999 ?_
  refine k_istore_n (i := 1) (lv' := [(1, .int (9999 : Int32)), (0, .ref (a 0))]) hA dX12_timetable_3 rfl rfl (Nat.le_of_ble_eq_true rfl) rfl ?_
  refine k_aload_n (i := 0) hA dX12_timetable_4 rfl 1 rfl ?_
  refine k_iconst hA dX12_timetable_5 kc_i_0 ?_
  refine pt_MT_0_37 hA wd_1285 et_1 dX12_timetable_6 ?_
  refine k_iconst hA dX12_timetable_9 kc_i_0 ?_
  refine k_istore_n (i := 2) (lv' := [(2, .int (0 : Int32)), (1, .int (9999 : Int32)), (0, .ref (a 0))]) hA dX12_timetable_10 rfl rfl (Nat.le_of_ble_eq_true rfl) rfl ?_
  refine k_pick (lv' := [(0, .ref (a 0)), (1, .int (9999 : Int32)), (2, .int (0 : Int32))]) [2, 1, 0] rfl ?_
  exact m_M_timetable_11 l G a rv n hA hr n (9999 : Int32) (0 : Int32) t_1 hf

def f_M_walks (n : Nat) (t : k_St) : Option (Int32 × k_St) := k_lt (k_sI t 0 0 (0 : Int32)) (fun t_1 => k_lt (f_M_refusesHouses t_1) (fun x1_2 => (if x1_2 ≤ 0 then k_cl (f_M_timetable n t_1) (fun r_4 t_3 => (if r_4 = (9999 : Int32) then k_lt (f_M_good (-2 : Int32) t_3) (fun q_6 => some (q_6.1, q_6.2)) else k_lt (f_M_good r_4 t_3) (fun q_5 => some (q_5.1, q_5.2)))) else k_lt (f_M_refused x1_2 t_1) (fun q_7 => some (q_7.1, q_7.2)))))
theorem m_M_walks (l : Launch) (G : k_G) (a : Nat → Nat) (rv : Value) (n : Nat) (t : k_St) {r : Int32} {t' : k_St} (hf : f_M_walks n t = some (r, t')) : k_CI l G yX12_walks cX12_walks 3 (some .int) 4 (k_WT G.2.1 a rv t) [.ref (a 0)] r (k_WT G.2.1 a rv t') := by
  refine k_startI (lv := [(0, .ref (a 0))]) (by decide +kernel) (Nat.le_of_ble_eq_true rfl) rfl ?_
  intro p e s m args below meth c hA hr
  have hA : k_Amb p s m args meth c cX12_walks 3 "TaleSharesModel" G _ := hA
  unfold f_M_walks at hf
  obtain ⟨t_1, et_1, hf⟩ := k_lt_e hf
  obtain ⟨x1_2, ex1_2, hf⟩ := k_lt_e hf
  refine k_aload_n (i := 0) hA dX12_walks_0 rfl 0 rfl ?_
  refine k_iconst hA dX12_walks_1 kc_i_0 ?_
  refine pt_MT_0_0 hA wd_1248 et_1 dX12_walks_2 ?_
  refine k_aload_n (i := 0) hA dX12_walks_5 rfl 0 rfl ?_
  refine k_callVi (As := []) (rest := []) hA (m_M_refusesHouses l G a rv t_1 rfl) cd_X12_refusesHouses wd_1796 (hc_MT_0 G.2.1 a rv t_1) rfl rfl (Nat.le_of_ble_eq_true rfl) rfl rfl (Nat.le_of_ble_eq_true rfl) dX12_walks_6 ?_
  refine k_istore_n (i := 1) (lv' := [(1, .int x1_2), (0, .ref (a 0))]) hA dX12_walks_9 rfl ex1_2 (Nat.le_of_ble_eq_true rfl) rfl ?_
  refine k_iload_n (i := 1) hA dX12_walks_10 rfl 0 rfl ?_
  refine k_if_le (tgt := 20) hA dX12_walks_11 rfl (fun hc => ?_) (fun hc => ?_)
  · have hf := k_ift hc hf
    obtain ⟨r_4, t_3, ht_3, hf⟩ := k_cl_e hf
    refine k_aload_n (i := 0) hA dX12_walks_20 rfl 1 rfl ?_
    refine k_callVi (As := []) (rest := []) hA (m_M_timetable l G a rv n t_1 ht_3) cd_X12_timetable wd_1800 (hc_MT_0 G.2.1 a rv t_1) rfl rfl (Nat.le_of_ble_eq_true rfl) rfl rfl (Nat.le_of_ble_eq_true rfl) dX12_walks_21 ?_
    refine k_istore_n (i := 2) (lv' := [(2, .int r_4), (1, .int x1_2), (0, .ref (a 0))]) hA dX12_walks_24 rfl rfl (Nat.le_of_ble_eq_true rfl) rfl ?_
    refine k_aload_n (i := 0) hA dX12_walks_25 rfl 2 rfl ?_
    refine k_iload_n (i := 2) hA dX12_walks_26 rfl 0 rfl ?_
    refine k_sipush hA dX12_walks_27 kc_s_9999 ?_
    refine k_icmp_ne (tgt := 38) hA dX12_walks_30 rfl (fun hc => ?_) (fun hc => ?_)
    · have hf := k_iff hc hf
      obtain ⟨⟨rq_5, tq_5⟩, hq_5, hf⟩ := k_lt_e hf
      dsimp only at hf
      obtain ⟨rfl, rfl⟩ := k_r2 hf
      refine k_iload_n (i := 2) hA dX12_walks_38 rfl 0 rfl ?_
      refine k_callVi (As := [.int r_4]) (rest := []) hA (m_M_good l G a rv r_4 t_3 hq_5.symm) cd_X12_good wd_1601 (hc_MT_0 G.2.1 a rv t_3) rfl rfl (Nat.le_of_ble_eq_true rfl) rfl rfl (Nat.le_of_ble_eq_true rfl) dX12_walks_39 ?_
      exact k_iret hA hr rfl dX12_walks_42
    have hf := k_ift hc hf
    obtain ⟨⟨rq_6, tq_6⟩, hq_6, hf⟩ := k_lt_e hf
    dsimp only at hf
    obtain ⟨rfl, rfl⟩ := k_r2 hf
    refine k_bipush hA dX12_walks_33 kc_b_m2 ?_
    refine k_goto (tgt := 39) hA dX12_walks_35 rfl ?_
    refine k_callVi (As := [.int (-2 : Int32)]) (rest := []) hA (m_M_good l G a rv (-2 : Int32) t_3 hq_6.symm) cd_X12_good wd_1601 (hc_MT_0 G.2.1 a rv t_3) rfl rfl (Nat.le_of_ble_eq_true rfl) rfl rfl (Nat.le_of_ble_eq_true rfl) dX12_walks_39 ?_
    exact k_iret hA hr rfl dX12_walks_42
  have hf := k_iff hc hf
  obtain ⟨⟨rq_7, tq_7⟩, hq_7, hf⟩ := k_lt_e hf
  dsimp only at hf
  obtain ⟨rfl, rfl⟩ := k_r2 hf
  refine k_aload_n (i := 0) hA dX12_walks_14 rfl 1 rfl ?_
  refine k_iload_n (i := 1) hA dX12_walks_15 rfl 0 rfl ?_
  refine k_callVi (As := [.int x1_2]) (rest := []) hA (m_M_refused l G a rv x1_2 t_1 hq_7.symm) cd_X12_refused wd_1390 (hc_MT_0 G.2.1 a rv t_1) rfl rfl (Nat.le_of_ble_eq_true rfl) rfl rfl (Nat.le_of_ble_eq_true rfl) dX12_walks_16 ?_
  exact k_iret hA hr rfl dX12_walks_19

def f_M_visit (n : Nat) (x1 : Int32) (t : k_St) : Option (Int32 × k_St) := k_lt (k_sI t 0 0 (0 : Int32)) (fun t_1 => (if (k_b (f_M_isHouse t_1 x1)) = 0 then k_lt (f_M_refused (1 : Int32) t_1) (fun q_2 => some (q_2.1, q_2.2)) else k_cl (f_M_timetable n t_1) (fun r_4 t_3 => (if r_4 = (9999 : Int32) then k_lt (f_M_refused (1 : Int32) t_3) (fun q_7 => some (q_7.1, q_7.2)) else k_gi x1 5 (k_lt (f_M_good (t_3.1 14 x1.toNatClampNeg) t_3) (fun q_6 => some (q_6.1, q_6.2)))))))
theorem m_M_visit (l : Launch) (G : k_G) (a : Nat → Nat) (rv : Value) (n : Nat) (x1 : Int32) (t : k_St) {r : Int32} {t' : k_St} (hf : f_M_visit n x1 t = some (r, t')) : k_CI l G yX12_visit cX12_visit 2 (some .int) 4 (k_WT G.2.1 a rv t) [.ref (a 0), .int x1] r (k_WT G.2.1 a rv t') := by
  refine k_startI (lv := [(0, .ref (a 0)), (1, .int x1)]) (by decide +kernel) (Nat.le_of_ble_eq_true rfl) rfl ?_
  intro p e s m args below meth c hA hr
  have hA : k_Amb p s m args meth c cX12_visit 2 "TaleSharesModel" G _ := hA
  unfold f_M_visit at hf
  obtain ⟨t_1, et_1, hf⟩ := k_lt_e hf
  refine k_aload_n (i := 0) hA dX12_visit_0 rfl 0 rfl ?_
  refine k_iconst hA dX12_visit_1 kc_i_0 ?_
  refine pt_MT_0_0 hA wd_1248 et_1 dX12_visit_2 ?_
  refine k_aload_n (i := 0) hA dX12_visit_5 rfl 0 rfl ?_
  refine k_iload_n (i := 1) hA dX12_visit_6 rfl 1 rfl ?_
  refine k_callVi (As := [.int x1]) (rest := []) hA (m_M_isHouse l G a rv t_1 x1 rfl) cd_X12_isHouse wd_1625 (hc_MT_0 G.2.1 a rv t_1) rfl rfl (Nat.le_of_ble_eq_true rfl) rfl rfl (Nat.le_of_ble_eq_true rfl) dX12_visit_7 ?_
  refine k_if_eq (tgt := 23) hA dX12_visit_10 rfl (fun hc => ?_) (fun hc => ?_)
  · have hf := k_ift hc hf
    obtain ⟨⟨rq_2, tq_2⟩, hq_2, hf⟩ := k_lt_e hf
    dsimp only at hf
    obtain ⟨rfl, rfl⟩ := k_r2 hf
    refine k_aload_n (i := 0) hA dX12_visit_23 rfl 0 rfl ?_
    refine k_iconst hA dX12_visit_24 kc_i_1 ?_
    refine k_callVi (As := [.int (1 : Int32)]) (rest := []) hA (m_M_refused l G a rv (1 : Int32) t_1 hq_2.symm) cd_X12_refused wd_1390 (hc_MT_0 G.2.1 a rv t_1) rfl rfl (Nat.le_of_ble_eq_true rfl) rfl rfl (Nat.le_of_ble_eq_true rfl) dX12_visit_25 ?_
    exact k_iret hA hr rfl dX12_visit_28
  have hf := k_iff hc hf
  obtain ⟨r_4, t_3, ht_3, hf⟩ := k_cl_e hf
  refine k_aload_n (i := 0) hA dX12_visit_13 rfl 0 rfl ?_
  refine k_callVi (As := []) (rest := []) hA (m_M_timetable l G a rv n t_1 ht_3) cd_X12_timetable wd_1800 (hc_MT_0 G.2.1 a rv t_1) rfl rfl (Nat.le_of_ble_eq_true rfl) rfl rfl (Nat.le_of_ble_eq_true rfl) dX12_visit_14 ?_
  refine k_sipush hA dX12_visit_17 kc_s_9999 ?_
  refine k_icmp_ne (tgt := 29) hA dX12_visit_20 rfl (fun hc => ?_) (fun hc => ?_)
  · have hf := k_iff hc hf
    obtain ⟨hi_5, hf⟩ := k_gi_e hf
    obtain ⟨⟨rq_6, tq_6⟩, hq_6, hf⟩ := k_lt_e hf
    dsimp only at hf
    obtain ⟨rfl, rfl⟩ := k_r2 hf
    refine k_aload_n (i := 0) hA dX12_visit_29 rfl 0 rfl ?_
    refine k_aload_n (i := 0) hA dX12_visit_30 rfl 0 rfl ?_
    refine gt_MT_0_35 hA wd_1283 dX12_visit_31 ?_
    refine k_iload_n (i := 1) hA dX12_visit_34 rfl 1 rfl ?_
    refine ld_MT_14 hA hi_5 dX12_visit_35 ?_
    refine k_callVi (As := [.int (t_3.1 14 x1.toNatClampNeg)]) (rest := []) hA (m_M_good l G a rv (t_3.1 14 x1.toNatClampNeg) t_3 hq_6.symm) cd_X12_good wd_1601 (hc_MT_0 G.2.1 a rv t_3) rfl rfl (Nat.le_of_ble_eq_true rfl) rfl rfl (Nat.le_of_ble_eq_true rfl) dX12_visit_36 ?_
    exact k_iret hA hr rfl dX12_visit_39
  have hf := k_ift hc hf
  obtain ⟨⟨rq_7, tq_7⟩, hq_7, hf⟩ := k_lt_e hf
  dsimp only at hf
  obtain ⟨rfl, rfl⟩ := k_r2 hf
  refine k_aload_n (i := 0) hA dX12_visit_23 rfl 0 rfl ?_
  refine k_iconst hA dX12_visit_24 kc_i_1 ?_
  refine k_callVi (As := [.int (1 : Int32)]) (rest := []) hA (m_M_refused l G a rv (1 : Int32) t_3 hq_7.symm) cd_X12_refused wd_1390 (hc_MT_0 G.2.1 a rv t_3) rfl rfl (Nat.le_of_ble_eq_true rfl) rfl rfl (Nat.le_of_ble_eq_true rfl) dX12_visit_25 ?_
  exact k_iret hA hr rfl dX12_visit_28

def f_M_hourOf (n : Nat) (x1 : Int32) (t : k_St) : Option (Int32 × k_St) := k_lt (k_sI t 0 0 (0 : Int32)) (fun t_1 => (if (k_b (f_M_isHouse t_1 x1)) = 0 then k_lt (f_M_refused (1 : Int32) t_1) (fun q_7 => some (q_7.1, q_7.2)) else k_cl (f_M_timetable n t_1) (fun r_3 t_2 => (if r_3 = (9999 : Int32) then k_lt (f_M_good (-2 : Int32) t_2) (fun q_6 => some (q_6.1, q_6.2)) else k_gi x1 5 (k_lt (f_M_good (t_2.1 15 x1.toNatClampNeg) t_2) (fun q_5 => some (q_5.1, q_5.2)))))))
theorem m_M_hourOf (l : Launch) (G : k_G) (a : Nat → Nat) (rv : Value) (n : Nat) (x1 : Int32) (t : k_St) {r : Int32} {t' : k_St} (hf : f_M_hourOf n x1 t = some (r, t')) : k_CI l G yX12_hourOf cX12_hourOf 2 (some .int) 4 (k_WT G.2.1 a rv t) [.ref (a 0), .int x1] r (k_WT G.2.1 a rv t') := by
  refine k_startI (lv := [(0, .ref (a 0)), (1, .int x1)]) (by decide +kernel) (Nat.le_of_ble_eq_true rfl) rfl ?_
  intro p e s m args below meth c hA hr
  have hA : k_Amb p s m args meth c cX12_hourOf 2 "TaleSharesModel" G _ := hA
  unfold f_M_hourOf at hf
  obtain ⟨t_1, et_1, hf⟩ := k_lt_e hf
  refine k_aload_n (i := 0) hA dX12_hourOf_0 rfl 0 rfl ?_
  refine k_iconst hA dX12_hourOf_1 kc_i_0 ?_
  refine pt_MT_0_0 hA wd_1248 et_1 dX12_hourOf_2 ?_
  refine k_aload_n (i := 0) hA dX12_hourOf_5 rfl 0 rfl ?_
  refine k_iload_n (i := 1) hA dX12_hourOf_6 rfl 1 rfl ?_
  refine k_callVi (As := [.int x1]) (rest := []) hA (m_M_isHouse l G a rv t_1 x1 rfl) cd_X12_isHouse wd_1625 (hc_MT_0 G.2.1 a rv t_1) rfl rfl (Nat.le_of_ble_eq_true rfl) rfl rfl (Nat.le_of_ble_eq_true rfl) dX12_hourOf_7 ?_
  refine k_if_ne (tgt := 19) hA dX12_hourOf_10 rfl (fun hc => ?_) (fun hc => ?_)
  · have hf := k_iff hc hf
    obtain ⟨r_3, t_2, ht_2, hf⟩ := k_cl_e hf
    refine k_aload_n (i := 0) hA dX12_hourOf_19 rfl 0 rfl ?_
    refine k_aload_n (i := 0) hA dX12_hourOf_20 rfl 0 rfl ?_
    refine k_callVi (As := []) (rest := [.ref (a 0)]) hA (m_M_timetable l G a rv n t_1 ht_2) cd_X12_timetable wd_1800 (hc_MT_0 G.2.1 a rv t_1) rfl rfl (Nat.le_of_ble_eq_true rfl) rfl rfl (Nat.le_of_ble_eq_true rfl) dX12_hourOf_21 ?_
    refine k_sipush hA dX12_hourOf_24 kc_s_9999 ?_
    refine k_icmp_ne (tgt := 35) hA dX12_hourOf_27 rfl (fun hc => ?_) (fun hc => ?_)
    · have hf := k_iff hc hf
      obtain ⟨hi_4, hf⟩ := k_gi_e hf
      obtain ⟨⟨rq_5, tq_5⟩, hq_5, hf⟩ := k_lt_e hf
      dsimp only at hf
      obtain ⟨rfl, rfl⟩ := k_r2 hf
      refine k_aload_n (i := 0) hA dX12_hourOf_35 rfl 0 rfl ?_
      refine gt_MT_0_36 hA wd_1284 dX12_hourOf_36 ?_
      refine k_iload_n (i := 1) hA dX12_hourOf_39 rfl 1 rfl ?_
      refine ld_MT_15 hA hi_4 dX12_hourOf_40 ?_
      refine k_callVi (As := [.int (t_2.1 15 x1.toNatClampNeg)]) (rest := []) hA (m_M_good l G a rv (t_2.1 15 x1.toNatClampNeg) t_2 hq_5.symm) cd_X12_good wd_1601 (hc_MT_0 G.2.1 a rv t_2) rfl rfl (Nat.le_of_ble_eq_true rfl) rfl rfl (Nat.le_of_ble_eq_true rfl) dX12_hourOf_41 ?_
      exact k_iret hA hr rfl dX12_hourOf_44
    have hf := k_ift hc hf
    obtain ⟨⟨rq_6, tq_6⟩, hq_6, hf⟩ := k_lt_e hf
    dsimp only at hf
    obtain ⟨rfl, rfl⟩ := k_r2 hf
    refine k_bipush hA dX12_hourOf_30 kc_b_m2 ?_
    refine k_goto (tgt := 41) hA dX12_hourOf_32 rfl ?_
    refine k_callVi (As := [.int (-2 : Int32)]) (rest := []) hA (m_M_good l G a rv (-2 : Int32) t_2 hq_6.symm) cd_X12_good wd_1601 (hc_MT_0 G.2.1 a rv t_2) rfl rfl (Nat.le_of_ble_eq_true rfl) rfl rfl (Nat.le_of_ble_eq_true rfl) dX12_hourOf_41 ?_
    exact k_iret hA hr rfl dX12_hourOf_44
  have hf := k_ift hc hf
  obtain ⟨⟨rq_7, tq_7⟩, hq_7, hf⟩ := k_lt_e hf
  dsimp only at hf
  obtain ⟨rfl, rfl⟩ := k_r2 hf
  refine k_aload_n (i := 0) hA dX12_hourOf_13 rfl 0 rfl ?_
  refine k_iconst hA dX12_hourOf_14 kc_i_1 ?_
  refine k_callVi (As := [.int (1 : Int32)]) (rest := []) hA (m_M_refused l G a rv (1 : Int32) t_1 hq_7.symm) cd_X12_refused wd_1390 (hc_MT_0 G.2.1 a rv t_1) rfl rfl (Nat.le_of_ble_eq_true rfl) rfl rfl (Nat.le_of_ble_eq_true rfl) dX12_hourOf_15 ?_
  exact k_iret hA hr rfl dX12_hourOf_18

def f_M_orders (n : Nat) (t : k_St) : Option (Int32 × k_St) := k_lt (k_sI t 0 0 (0 : Int32)) (fun t_1 => k_lt (f_M_refusesHouses t_1) (fun x1_2 => (if x1_2 ≤ 0 then k_cl (f_M_timetable n t_1) (fun r_4 t_3 => k_lt (f_M_good (t_3.1 0 37) t_3) (fun q_5 => some (q_5.1, q_5.2))) else k_lt (f_M_refused x1_2 t_1) (fun q_6 => some (q_6.1, q_6.2)))))
theorem m_M_orders (l : Launch) (G : k_G) (a : Nat → Nat) (rv : Value) (n : Nat) (t : k_St) {r : Int32} {t' : k_St} (hf : f_M_orders n t = some (r, t')) : k_CI l G yX12_orders cX12_orders 2 (some .int) 4 (k_WT G.2.1 a rv t) [.ref (a 0)] r (k_WT G.2.1 a rv t') := by
  refine k_startI (lv := [(0, .ref (a 0))]) (by decide +kernel) (Nat.le_of_ble_eq_true rfl) rfl ?_
  intro p e s m args below meth c hA hr
  have hA : k_Amb p s m args meth c cX12_orders 2 "TaleSharesModel" G _ := hA
  unfold f_M_orders at hf
  obtain ⟨t_1, et_1, hf⟩ := k_lt_e hf
  obtain ⟨x1_2, ex1_2, hf⟩ := k_lt_e hf
  refine k_aload_n (i := 0) hA dX12_orders_0 rfl 0 rfl ?_
  refine k_iconst hA dX12_orders_1 kc_i_0 ?_
  refine pt_MT_0_0 hA wd_1248 et_1 dX12_orders_2 ?_
  refine k_aload_n (i := 0) hA dX12_orders_5 rfl 0 rfl ?_
  refine k_callVi (As := []) (rest := []) hA (m_M_refusesHouses l G a rv t_1 rfl) cd_X12_refusesHouses wd_1796 (hc_MT_0 G.2.1 a rv t_1) rfl rfl (Nat.le_of_ble_eq_true rfl) rfl rfl (Nat.le_of_ble_eq_true rfl) dX12_orders_6 ?_
  refine k_istore_n (i := 1) (lv' := [(1, .int x1_2), (0, .ref (a 0))]) hA dX12_orders_9 rfl ex1_2 (Nat.le_of_ble_eq_true rfl) rfl ?_
  refine k_iload_n (i := 1) hA dX12_orders_10 rfl 0 rfl ?_
  refine k_if_le (tgt := 20) hA dX12_orders_11 rfl (fun hc => ?_) (fun hc => ?_)
  · have hf := k_ift hc hf
    obtain ⟨r_4, t_3, ht_3, hf⟩ := k_cl_e hf
    obtain ⟨⟨rq_5, tq_5⟩, hq_5, hf⟩ := k_lt_e hf
    dsimp only at hf
    obtain ⟨rfl, rfl⟩ := k_r2 hf
    refine k_aload_n (i := 0) hA dX12_orders_20 rfl 1 rfl ?_
    refine k_callVi (As := []) (rest := []) hA (m_M_timetable l G a rv n t_1 ht_3) cd_X12_timetable wd_1800 (hc_MT_0 G.2.1 a rv t_1) rfl rfl (Nat.le_of_ble_eq_true rfl) rfl rfl (Nat.le_of_ble_eq_true rfl) dX12_orders_21 ?_
    refine k_pop hA dX12_orders_24 rfl ?_
    refine k_aload_n (i := 0) hA dX12_orders_25 rfl 1 rfl ?_
    refine k_aload_n (i := 0) hA dX12_orders_26 rfl 1 rfl ?_
    refine gt_MT_0_37 hA wd_1285 dX12_orders_27 ?_
    refine k_callVi (As := [.int (t_3.1 0 37)]) (rest := []) hA (m_M_good l G a rv (t_3.1 0 37) t_3 hq_5.symm) cd_X12_good wd_1601 (hc_MT_0 G.2.1 a rv t_3) rfl rfl (Nat.le_of_ble_eq_true rfl) rfl rfl (Nat.le_of_ble_eq_true rfl) dX12_orders_30 ?_
    exact k_iret hA hr rfl dX12_orders_33
  have hf := k_iff hc hf
  obtain ⟨⟨rq_6, tq_6⟩, hq_6, hf⟩ := k_lt_e hf
  dsimp only at hf
  obtain ⟨rfl, rfl⟩ := k_r2 hf
  refine k_aload_n (i := 0) hA dX12_orders_14 rfl 1 rfl ?_
  refine k_iload_n (i := 1) hA dX12_orders_15 rfl 0 rfl ?_
  refine k_callVi (As := [.int x1_2]) (rest := []) hA (m_M_refused l G a rv x1_2 t_1 hq_6.symm) cd_X12_refused wd_1390 (hc_MT_0 G.2.1 a rv t_1) rfl rfl (Nat.le_of_ble_eq_true rfl) rfl rfl (Nat.le_of_ble_eq_true rfl) dX12_orders_16 ?_
  exact k_iret hA hr rfl dX12_orders_19

def f_M_refusesMixed (t : k_St) : Int32 := (if (t.1 18 7) = 0 then (6 : Int32) else (0 : Int32))
theorem m_M_refusesMixed (l : Launch) (G : k_G) (a : Nat → Nat) (rv : Value) (t : k_St) {r : Int32} (hf : f_M_refusesMixed t = r) : k_CI l G yX12_refusesMixed cX12_refusesMixed 1 (some .int) 1 (k_WT G.2.1 a rv t) [.ref (a 0)] r (k_WT G.2.1 a rv t) := by
  refine k_startI (lv := [(0, .ref (a 0))]) (by decide +kernel) (Nat.le_of_ble_eq_true rfl) rfl ?_
  intro p e s m args below meth c hA hr
  have hA : k_Amb p s m args meth c cX12_refusesMixed 1 "TaleSharesModel" G _ := hA
  unfold f_M_refusesMixed at hf
  refine k_aload_n (i := 0) hA dX12_refusesMixed_0 rfl 0 rfl ?_
  refine gt_MT_0_3 hA wd_1251 dX12_refusesMixed_1 ?_
  refine k_ifnonnull (tgt := 11) hA dX12_refusesMixed_4 rfl ?_
  refine k_aload_n (i := 0) hA dX12_refusesMixed_11 rfl 0 rfl ?_
  refine gt_MT_0_3 hA wd_1251 dX12_refusesMixed_12 ?_
  refine gt_MT_18_7N hA rfl nf_299 dX12_refusesMixed_15 ?_
  refine k_if_ne (tgt := 26) hA dX12_refusesMixed_18 rfl (fun hc => ?_) (fun hc => ?_)
  · have hf := k_iff hc hf
    subst hf
    refine k_iconst hA dX12_refusesMixed_26 kc_i_0 ?_
    exact k_iret hA hr rfl dX12_refusesMixed_27
  have hf := k_ift hc hf
  subst hf
  refine k_bipush hA dX12_refusesMixed_21 kc_b_6 ?_
  refine k_goto (tgt := 27) hA dX12_refusesMixed_23 rfl ?_
  exact k_iret hA hr rfl dX12_refusesMixed_27

def f_M_at (x0 : Int32) (x1 : Int32) : Int32 := (((9 : Int32) * x0) + x1)
theorem m_M_at (l : Launch) (G : k_G) (w : va_W) (x0 : Int32) (x1 : Int32) {r : Int32} (hf : f_M_at x0 x1 = r) : k_CI l G yX12_at cX12_at 2 (some .int) 1 w [.int x0, .int x1] r w := by
  refine k_startI (lv := [(0, .int x0), (1, .int x1)]) (by decide +kernel) (Nat.le_of_ble_eq_true rfl) rfl ?_
  intro p e s m args below meth c hA hr
  have hA : k_Amb p s m args meth c cX12_at 2 "TaleSharesModel" G _ := hA
  unfold f_M_at at hf
  subst hf
  refine k_bipush hA dX12_at_0 kc_b_9 ?_
  refine k_iload_n (i := 0) hA dX12_at_2 rfl 0 rfl ?_
  refine k_imul hA dX12_at_3 ?_
  refine k_iload_n (i := 1) hA dX12_at_4 rfl 1 rfl ?_
  refine k_iadd hA dX12_at_5 ?_
  exact k_iret hA hr rfl dX12_at_6

def f_M_less (x0 : Int32) (x1 : Int32) : Int32 := (if x1 ≤ x0 then x1 else x0)
theorem m_M_less (l : Launch) (G : k_G) (w : va_W) (x0 : Int32) (x1 : Int32) {r : Int32} (hf : f_M_less x0 x1 = r) : k_CI l G yX12_less cX12_less 2 (some .int) 1 w [.int x0, .int x1] r w := by
  refine k_startI (lv := [(0, .int x0), (1, .int x1)]) (by decide +kernel) (Nat.le_of_ble_eq_true rfl) rfl ?_
  intro p e s m args below meth c hA hr
  have hA : k_Amb p s m args meth c cX12_less 2 "TaleSharesModel" G _ := hA
  unfold f_M_less at hf
  refine k_iload_n (i := 0) hA dX12_less_0 rfl 0 rfl ?_
  refine k_iload_n (i := 1) hA dX12_less_1 rfl 1 rfl ?_
  refine k_icmp_ge (tgt := 9) hA dX12_less_2 rfl (fun hc => ?_) (fun hc => ?_)
  · have hf := k_ift hc hf
    subst hf
    refine k_iload_n (i := 1) hA dX12_less_9 rfl 1 rfl ?_
    exact k_iret hA hr rfl dX12_less_10
  have hf := k_iff hc hf
  subst hf
  refine k_iload_n (i := 0) hA dX12_less_5 rfl 0 rfl ?_
  refine k_goto (tgt := 10) hA dX12_less_6 rfl ?_
  exact k_iret hA hr rfl dX12_less_10

def f_M_slipsNow_31 (n : Nat) (rec2 : Int32 → k_St → Option (Int32 × k_St)) (rec15 : Int32 → Int32 → k_St → Option (Int32 × k_St)) (x1 : Int32) (x2 : Int32) (t : k_St) : Option (Int32 × k_St) := k_gi (f_M_at x1 x2) 63 (k_lt (k_sI t 16 (f_M_at x1 x2).toNatClampNeg (x1 + x2)) (fun t_2 => k_lt (x2 + (1 : Int32)) (fun x2_3 => rec15 x1 x2_3 t_2)))
def f_M_slipsNow_88 (n : Nat) (rec2 : Int32 → k_St → Option (Int32 × k_St)) (rec15 : Int32 → Int32 → k_St → Option (Int32 × k_St)) (x1 : Int32) (x2 : Int32) (s0 : Int32) (s1 : Int32) (t : k_St) : Option (Int32 × k_St) := k_lt (s0 + s1) (fun x3_1 => k_gi (f_M_at (x1 - (1 : Int32)) x2) 63 (k_gi (f_M_at x1 (x2 - (1 : Int32))) 63 (k_gi (f_M_at x1 x2) 63 (k_lt (k_sI t 16 (f_M_at x1 x2).toNatClampNeg (f_M_less x3_1 ((1 : Int32) + (f_M_less (t.1 16 (f_M_at (x1 - (1 : Int32)) x2).toNatClampNeg) (t.1 16 (f_M_at x1 (x2 - (1 : Int32))).toNatClampNeg))))) (fun t_5 => k_lt (x2 + (1 : Int32)) (fun x2_6 => rec15 x1 x2_6 t_5))))))
def f_M_slipsNow_15 (n : Nat) (rec2 : Int32 → k_St → Option (Int32 × k_St)) : Nat → Int32 → Int32 → k_St → Option (Int32 × k_St)
  | 0, _, _, _ => none
  | k + 1, x1, x2, t => (if (t.1 0 22) < x2 then k_lt (x1 + (1 : Int32)) (fun x1_1 => rec2 x1_1 t) else (if x1 = 0 then f_M_slipsNow_31 n rec2 (f_M_slipsNow_15 n rec2 k) x1 x2 t else (if x2 = 0 then f_M_slipsNow_31 n rec2 (f_M_slipsNow_15 n rec2 k) x1 x2 t else k_gi (f_M_at (x1 - (1 : Int32)) (x2 - (1 : Int32))) 63 (k_gi (x1 - (1 : Int32)) 6 (k_gi (x2 - (1 : Int32)) 9 ((if (t.1 25 (x1 - (1 : Int32)).toNatClampNeg) = (t.1 6 (x2 - (1 : Int32)).toNatClampNeg) then f_M_slipsNow_88 n rec2 (f_M_slipsNow_15 n rec2 k) x1 x2 (t.1 16 (f_M_at (x1 - (1 : Int32)) (x2 - (1 : Int32))).toNatClampNeg) (0 : Int32) t else f_M_slipsNow_88 n rec2 (f_M_slipsNow_15 n rec2 k) x1 x2 (t.1 16 (f_M_at (x1 - (1 : Int32)) (x2 - (1 : Int32))).toNatClampNeg) (1 : Int32) t)))))))
def f_M_slipsNow_2 (n : Nat) : Nat → Int32 → k_St → Option (Int32 × k_St)
  | 0, _, _ => none
  | k + 1, x1, t => (if (t.1 18 7) < x1 then k_gi (f_M_at (t.1 18 7) (t.1 0 22)) 63 (some ((t.1 16 (f_M_at (t.1 18 7) (t.1 0 22)).toNatClampNeg), t)) else f_M_slipsNow_15 n (f_M_slipsNow_2 n k) n x1 (0 : Int32) t)
def f_M_slipsNow (n : Nat) (t : k_St) : Option (Int32 × k_St) := f_M_slipsNow_2 n n (0 : Int32) t
theorem m_M_slipsNow_31 {p : Program} (l : Launch) {e : Env} {s : State} {m : MethodId} {args : Array Value} {below : List Frame} {meth : Method} {c : Code} (G : k_G) (a : Nat → Nat) (rv : Value) (n : Nat) {w0 : va_W} {r : Int32} {t' : k_St} (hA : k_Amb p s m args meth c cX12_slipsNow 4 "TaleSharesModel" G (va_A w0 s.heap.size)) (hr : meth.sig.returnType = (some .int)) (rec2 : Int32 → k_St → Option (Int32 × k_St)) (hrec2 : ∀ (x1 : Int32) (t : k_St), rec2 x1 t = some (r, t') → k_Go p l e (k_rm 2) s m args below meth c (k_QI G w0 r (k_WT G.2.1 a rv t') args s below) 4 G (va_A w0 s.heap.size) (k_WT G.2.1 a rv t) 2 [(0, .ref (a 0)), (1, .int x1)] []) (rec15 : Int32 → Int32 → k_St → Option (Int32 × k_St)) (hrec15 : ∀ (x1 : Int32) (x2 : Int32) (t : k_St), rec15 x1 x2 t = some (r, t') → k_Go p l e (k_rm 2) s m args below meth c (k_QI G w0 r (k_WT G.2.1 a rv t') args s below) 4 G (va_A w0 s.heap.size) (k_WT G.2.1 a rv t) 15 [(0, .ref (a 0)), (1, .int x1), (2, .int x2)] []) : ∀ (x1 : Int32) (x2 : Int32) (t : k_St), f_M_slipsNow_31 n rec2 rec15 x1 x2 t = some (r, t') → k_Go p l e (k_rm 2) s m args below meth c (k_QI G w0 r (k_WT G.2.1 a rv t') args s below) 4 G (va_A w0 s.heap.size) (k_WT G.2.1 a rv t) 31 [(0, .ref (a 0)), (1, .int x1), (2, .int x2)] [] := by
  intro x1 x2 t hf
  unfold f_M_slipsNow_31 at hf
  obtain ⟨hi_1, hf⟩ := k_gi_e hf
  obtain ⟨t_2, et_2, hf⟩ := k_lt_e hf
  obtain ⟨x2_3, ex2_3, hf⟩ := k_lt_e hf
  refine k_aload_n (i := 0) hA dX12_slipsNow_31 rfl 0 rfl ?_
  refine gt_MT_0_38 hA wd_1286 dX12_slipsNow_32 ?_
  refine k_iload_n (i := 1) hA dX12_slipsNow_35 rfl 1 rfl ?_
  refine k_iload_n (i := 2) hA dX12_slipsNow_36 rfl 2 rfl ?_
  refine k_callSi (As := [.int x1, .int x2]) (rest := [.ref (a 16)]) hA (m_M_at l G (k_WT G.2.1 a rv t) x1 x2 rfl) cd_X12_at wd_1844 (Nat.le_of_ble_eq_true rfl) rfl rfl (Nat.le_of_ble_eq_true rfl) dX12_slipsNow_37 ?_
  refine k_iload_n (i := 1) hA dX12_slipsNow_40 rfl 1 rfl ?_
  refine k_iload_n (i := 2) hA dX12_slipsNow_41 rfl 2 rfl ?_
  refine k_iadd hA dX12_slipsNow_42 ?_
  refine sr_MT_16 hA hi_1 et_2 dX12_slipsNow_43 ?_
  refine k_goto (tgt := 133) hA dX12_slipsNow_44 rfl ?_
  refine k_iinc (j := 2) (v := x2_3) (lv' := [(2, .int x2_3), (0, .ref (a 0)), (1, .int x1)]) hA dX12_slipsNow_133 rfl (k_inc ex2_3 kc_i_1) (Nat.le_of_ble_eq_true rfl) rfl ?_
  refine k_goto (tgt := 15) hA dX12_slipsNow_136 rfl ?_
  refine k_pick (lv' := [(0, .ref (a 0)), (1, .int x1), (2, .int x2_3)]) [1, 2, 0] rfl ?_
  exact hrec15 x1 x2_3 t_2 hf

theorem m_M_slipsNow_88 {p : Program} (l : Launch) {e : Env} {s : State} {m : MethodId} {args : Array Value} {below : List Frame} {meth : Method} {c : Code} (G : k_G) (a : Nat → Nat) (rv : Value) (n : Nat) {w0 : va_W} {r : Int32} {t' : k_St} (hA : k_Amb p s m args meth c cX12_slipsNow 4 "TaleSharesModel" G (va_A w0 s.heap.size)) (hr : meth.sig.returnType = (some .int)) (rec2 : Int32 → k_St → Option (Int32 × k_St)) (hrec2 : ∀ (x1 : Int32) (t : k_St), rec2 x1 t = some (r, t') → k_Go p l e (k_rm 2) s m args below meth c (k_QI G w0 r (k_WT G.2.1 a rv t') args s below) 4 G (va_A w0 s.heap.size) (k_WT G.2.1 a rv t) 2 [(0, .ref (a 0)), (1, .int x1)] []) (rec15 : Int32 → Int32 → k_St → Option (Int32 × k_St)) (hrec15 : ∀ (x1 : Int32) (x2 : Int32) (t : k_St), rec15 x1 x2 t = some (r, t') → k_Go p l e (k_rm 2) s m args below meth c (k_QI G w0 r (k_WT G.2.1 a rv t') args s below) 4 G (va_A w0 s.heap.size) (k_WT G.2.1 a rv t) 15 [(0, .ref (a 0)), (1, .int x1), (2, .int x2)] []) : ∀ (x1 : Int32) (x2 : Int32) (s0 : Int32) (s1 : Int32) (t : k_St), f_M_slipsNow_88 n rec2 rec15 x1 x2 s0 s1 t = some (r, t') → k_Go p l e (k_rm 2) s m args below meth c (k_QI G w0 r (k_WT G.2.1 a rv t') args s below) 4 G (va_A w0 s.heap.size) (k_WT G.2.1 a rv t) 88 [(0, .ref (a 0)), (1, .int x1), (2, .int x2)] [.int s1, .int s0] := by
  intro x1 x2 s0 s1 t hf
  unfold f_M_slipsNow_88 at hf
  obtain ⟨x3_1, ex3_1, hf⟩ := k_lt_e hf
  obtain ⟨hi_2, hf⟩ := k_gi_e hf
  obtain ⟨hi_3, hf⟩ := k_gi_e hf
  obtain ⟨hi_4, hf⟩ := k_gi_e hf
  obtain ⟨t_5, et_5, hf⟩ := k_lt_e hf
  obtain ⟨x2_6, ex2_6, hf⟩ := k_lt_e hf
  refine k_iadd hA dX12_slipsNow_88 ?_
  refine k_istore_n (i := 3) (lv' := [(3, .int x3_1), (0, .ref (a 0)), (1, .int x1), (2, .int x2)]) hA dX12_slipsNow_89 rfl ex3_1 (Nat.le_of_ble_eq_true rfl) rfl ?_
  refine k_aload_n (i := 0) hA dX12_slipsNow_90 rfl 1 rfl ?_
  refine gt_MT_0_38 hA wd_1286 dX12_slipsNow_91 ?_
  refine k_iload_n (i := 1) hA dX12_slipsNow_94 rfl 2 rfl ?_
  refine k_iload_n (i := 2) hA dX12_slipsNow_95 rfl 3 rfl ?_
  refine k_callSi (As := [.int x1, .int x2]) (rest := [.ref (a 16)]) hA (m_M_at l G (k_WT G.2.1 a rv t) x1 x2 rfl) cd_X12_at wd_1844 (Nat.le_of_ble_eq_true rfl) rfl rfl (Nat.le_of_ble_eq_true rfl) dX12_slipsNow_96 ?_
  refine k_iload_n (i := 3) hA dX12_slipsNow_99 rfl 0 rfl ?_
  refine k_iconst hA dX12_slipsNow_100 kc_i_1 ?_
  refine k_aload_n (i := 0) hA dX12_slipsNow_101 rfl 1 rfl ?_
  refine gt_MT_0_38 hA wd_1286 dX12_slipsNow_102 ?_
  refine k_iload_n (i := 1) hA dX12_slipsNow_105 rfl 2 rfl ?_
  refine k_iconst hA dX12_slipsNow_106 kc_i_1 ?_
  refine k_isub hA dX12_slipsNow_107 ?_
  refine k_iload_n (i := 2) hA dX12_slipsNow_108 rfl 3 rfl ?_
  refine k_callSi (As := [.int (x1 - (1 : Int32)), .int x2]) (rest := [.ref (a 16), .int (1 : Int32), .int x3_1, .int (f_M_at x1 x2), .ref (a 16)]) hA (m_M_at l G (k_WT G.2.1 a rv t) (x1 - (1 : Int32)) x2 rfl) cd_X12_at wd_1844 (Nat.le_of_ble_eq_true rfl) rfl rfl (Nat.le_of_ble_eq_true rfl) dX12_slipsNow_109 ?_
  refine ld_MT_16 hA hi_2 dX12_slipsNow_112 ?_
  refine k_aload_n (i := 0) hA dX12_slipsNow_113 rfl 1 rfl ?_
  refine gt_MT_0_38 hA wd_1286 dX12_slipsNow_114 ?_
  refine k_iload_n (i := 1) hA dX12_slipsNow_117 rfl 2 rfl ?_
  refine k_iload_n (i := 2) hA dX12_slipsNow_118 rfl 3 rfl ?_
  refine k_iconst hA dX12_slipsNow_119 kc_i_1 ?_
  refine k_isub hA dX12_slipsNow_120 ?_
  refine k_callSi (As := [.int x1, .int (x2 - (1 : Int32))]) (rest := [.ref (a 16), .int (t.1 16 (f_M_at (x1 - (1 : Int32)) x2).toNatClampNeg), .int (1 : Int32), .int x3_1, .int (f_M_at x1 x2), .ref (a 16)]) hA (m_M_at l G (k_WT G.2.1 a rv t) x1 (x2 - (1 : Int32)) rfl) cd_X12_at wd_1844 (Nat.le_of_ble_eq_true rfl) rfl rfl (Nat.le_of_ble_eq_true rfl) dX12_slipsNow_121 ?_
  refine ld_MT_16 hA hi_3 dX12_slipsNow_124 ?_
  refine k_callSi (As := [.int (t.1 16 (f_M_at (x1 - (1 : Int32)) x2).toNatClampNeg), .int (t.1 16 (f_M_at x1 (x2 - (1 : Int32))).toNatClampNeg)]) (rest := [.int (1 : Int32), .int x3_1, .int (f_M_at x1 x2), .ref (a 16)]) hA (m_M_less l G (k_WT G.2.1 a rv t) (t.1 16 (f_M_at (x1 - (1 : Int32)) x2).toNatClampNeg) (t.1 16 (f_M_at x1 (x2 - (1 : Int32))).toNatClampNeg) rfl) cd_X12_less wd_1847 (Nat.le_of_ble_eq_true rfl) rfl rfl (Nat.le_of_ble_eq_true rfl) dX12_slipsNow_125 ?_
  refine k_iadd hA dX12_slipsNow_128 ?_
  refine k_callSi (As := [.int x3_1, .int ((1 : Int32) + (f_M_less (t.1 16 (f_M_at (x1 - (1 : Int32)) x2).toNatClampNeg) (t.1 16 (f_M_at x1 (x2 - (1 : Int32))).toNatClampNeg)))]) (rest := [.int (f_M_at x1 x2), .ref (a 16)]) hA (m_M_less l G (k_WT G.2.1 a rv t) x3_1 ((1 : Int32) + (f_M_less (t.1 16 (f_M_at (x1 - (1 : Int32)) x2).toNatClampNeg) (t.1 16 (f_M_at x1 (x2 - (1 : Int32))).toNatClampNeg))) rfl) cd_X12_less wd_1847 (Nat.le_of_ble_eq_true rfl) rfl rfl (Nat.le_of_ble_eq_true rfl) dX12_slipsNow_129 ?_
  refine sr_MT_16 hA hi_4 et_5 dX12_slipsNow_132 ?_
  refine k_iinc (j := 3) (v := x2_6) (lv' := [(2, .int x2_6), (3, .int x3_1), (0, .ref (a 0)), (1, .int x1)]) hA dX12_slipsNow_133 rfl (k_inc ex2_6 kc_i_1) (Nat.le_of_ble_eq_true rfl) rfl ?_
  refine k_goto (tgt := 15) hA dX12_slipsNow_136 rfl ?_
  refine k_pick (lv' := [(0, .ref (a 0)), (1, .int x1), (2, .int x2_6)]) [2, 3, 0] rfl ?_
  exact hrec15 x1 x2_6 t_5 hf

theorem m_M_slipsNow_15 {p : Program} (l : Launch) {e : Env} {s : State} {m : MethodId} {args : Array Value} {below : List Frame} {meth : Method} {c : Code} (G : k_G) (a : Nat → Nat) (rv : Value) (n : Nat) {w0 : va_W} {r : Int32} {t' : k_St} (hA : k_Amb p s m args meth c cX12_slipsNow 4 "TaleSharesModel" G (va_A w0 s.heap.size)) (hr : meth.sig.returnType = (some .int)) (rec2 : Int32 → k_St → Option (Int32 × k_St)) (hrec2 : ∀ (x1 : Int32) (t : k_St), rec2 x1 t = some (r, t') → k_Go p l e (k_rm 2) s m args below meth c (k_QI G w0 r (k_WT G.2.1 a rv t') args s below) 4 G (va_A w0 s.heap.size) (k_WT G.2.1 a rv t) 2 [(0, .ref (a 0)), (1, .int x1)] []) : ∀ (k : Nat) (x1 : Int32) (x2 : Int32) (t : k_St), f_M_slipsNow_15 n rec2 k x1 x2 t = some (r, t') → k_Go p l e (k_rm 2) s m args below meth c (k_QI G w0 r (k_WT G.2.1 a rv t') args s below) 4 G (va_A w0 s.heap.size) (k_WT G.2.1 a rv t) 15 [(0, .ref (a 0)), (1, .int x1), (2, .int x2)] [] := by
  intro k
  induction k with
  | zero => intro x1 x2 t hf; cases hf
  | succ k ih =>
  intro x1 x2 t hf
  rw [f_M_slipsNow_15] at hf
  refine k_iload_n (i := 2) hA dX12_slipsNow_15 rfl 2 rfl ?_
  refine k_aload_n (i := 0) hA dX12_slipsNow_16 rfl 0 rfl ?_
  refine gt_MT_0_22 hA wd_1270 dX12_slipsNow_17 ?_
  refine k_icmp_gt (tgt := 139) hA dX12_slipsNow_20 rfl (fun hc => ?_) (fun hc => ?_)
  · have hf := k_ift hc hf
    obtain ⟨x1_1, ex1_1, hf⟩ := k_lt_e hf
    refine k_iinc (j := 1) (v := x1_1) (lv' := [(1, .int x1_1), (0, .ref (a 0)), (2, .int x2)]) hA dX12_slipsNow_139 rfl (k_inc ex1_1 kc_i_1) (Nat.le_of_ble_eq_true rfl) rfl ?_
    refine k_goto (tgt := 2) hA dX12_slipsNow_142 rfl ?_
    refine k_pick (lv' := [(0, .ref (a 0)), (1, .int x1_1)]) [1, 0] rfl ?_
    exact hrec2 x1_1 t hf
  have hf := k_iff hc hf
  refine k_iload_n (i := 1) hA dX12_slipsNow_23 rfl 1 rfl ?_
  refine k_if_eq (tgt := 31) hA dX12_slipsNow_24 rfl (fun hc => ?_) (fun hc => ?_)
  · have hf := k_ift hc hf
    exact m_M_slipsNow_31 l G a rv n hA hr rec2 hrec2 (f_M_slipsNow_15 n rec2 k) ih x1 x2 t hf
  have hf := k_iff hc hf
  refine k_iload_n (i := 2) hA dX12_slipsNow_27 rfl 2 rfl ?_
  refine k_if_ne (tgt := 47) hA dX12_slipsNow_28 rfl (fun hc => ?_) (fun hc => ?_)
  · have hf := k_iff hc hf
    obtain ⟨hi_2, hf⟩ := k_gi_e hf
    obtain ⟨hi_3, hf⟩ := k_gi_e hf
    obtain ⟨hi_4, hf⟩ := k_gi_e hf
    refine k_aload_n (i := 0) hA dX12_slipsNow_47 rfl 0 rfl ?_
    refine gt_MT_0_38 hA wd_1286 dX12_slipsNow_48 ?_
    refine k_iload_n (i := 1) hA dX12_slipsNow_51 rfl 1 rfl ?_
    refine k_iconst hA dX12_slipsNow_52 kc_i_1 ?_
    refine k_isub hA dX12_slipsNow_53 ?_
    refine k_iload_n (i := 2) hA dX12_slipsNow_54 rfl 2 rfl ?_
    refine k_iconst hA dX12_slipsNow_55 kc_i_1 ?_
    refine k_isub hA dX12_slipsNow_56 ?_
    refine k_callSi (As := [.int (x1 - (1 : Int32)), .int (x2 - (1 : Int32))]) (rest := [.ref (a 16)]) hA (m_M_at l G (k_WT G.2.1 a rv t) (x1 - (1 : Int32)) (x2 - (1 : Int32)) rfl) cd_X12_at wd_1844 (Nat.le_of_ble_eq_true rfl) rfl rfl (Nat.le_of_ble_eq_true rfl) dX12_slipsNow_57 ?_
    refine ld_MT_16 hA hi_2 dX12_slipsNow_60 ?_
    refine k_aload_n (i := 0) hA dX12_slipsNow_61 rfl 0 rfl ?_
    refine gt_MT_0_3 hA wd_1251 dX12_slipsNow_62 ?_
    refine gt_MT_18_15N hA rfl nf_301 dX12_slipsNow_65 ?_
    refine k_iload_n (i := 1) hA dX12_slipsNow_68 rfl 1 rfl ?_
    refine k_iconst hA dX12_slipsNow_69 kc_i_1 ?_
    refine k_isub hA dX12_slipsNow_70 ?_
    refine ld_MT_25 hA hi_3 dX12_slipsNow_71 ?_
    refine k_aload_n (i := 0) hA dX12_slipsNow_72 rfl 0 rfl ?_
    refine gt_MT_0_21 hA wd_1269 dX12_slipsNow_73 ?_
    refine k_iload_n (i := 2) hA dX12_slipsNow_76 rfl 2 rfl ?_
    refine k_iconst hA dX12_slipsNow_77 kc_i_1 ?_
    refine k_isub hA dX12_slipsNow_78 ?_
    refine ld_MT_6 hA hi_4 dX12_slipsNow_79 ?_
    refine k_icmp_ne (tgt := 87) hA dX12_slipsNow_80 rfl (fun hc => ?_) (fun hc => ?_)
    · have hf := k_iff hc hf
      refine k_iconst hA dX12_slipsNow_87 kc_i_1 ?_
      exact m_M_slipsNow_88 l G a rv n hA hr rec2 hrec2 (f_M_slipsNow_15 n rec2 k) ih x1 x2 (t.1 16 (f_M_at (x1 - (1 : Int32)) (x2 - (1 : Int32))).toNatClampNeg) (1 : Int32) t hf
    have hf := k_ift hc hf
    refine k_iconst hA dX12_slipsNow_83 kc_i_0 ?_
    refine k_goto (tgt := 88) hA dX12_slipsNow_84 rfl ?_
    exact m_M_slipsNow_88 l G a rv n hA hr rec2 hrec2 (f_M_slipsNow_15 n rec2 k) ih x1 x2 (t.1 16 (f_M_at (x1 - (1 : Int32)) (x2 - (1 : Int32))).toNatClampNeg) (0 : Int32) t hf
  have hf := k_ift hc hf
  exact m_M_slipsNow_31 l G a rv n hA hr rec2 hrec2 (f_M_slipsNow_15 n rec2 k) ih x1 x2 t hf

theorem m_M_slipsNow_2 {p : Program} (l : Launch) {e : Env} {s : State} {m : MethodId} {args : Array Value} {below : List Frame} {meth : Method} {c : Code} (G : k_G) (a : Nat → Nat) (rv : Value) (n : Nat) {w0 : va_W} {r : Int32} {t' : k_St} (hA : k_Amb p s m args meth c cX12_slipsNow 4 "TaleSharesModel" G (va_A w0 s.heap.size)) (hr : meth.sig.returnType = (some .int)) : ∀ (k : Nat) (x1 : Int32) (t : k_St), f_M_slipsNow_2 n k x1 t = some (r, t') → k_Go p l e (k_rm 2) s m args below meth c (k_QI G w0 r (k_WT G.2.1 a rv t') args s below) 4 G (va_A w0 s.heap.size) (k_WT G.2.1 a rv t) 2 [(0, .ref (a 0)), (1, .int x1)] [] := by
  intro k
  induction k with
  | zero => intro x1 t hf; cases hf
  | succ k ih =>
  intro x1 t hf
  rw [f_M_slipsNow_2] at hf
  refine k_iload_n (i := 1) hA dX12_slipsNow_2 rfl 1 rfl ?_
  refine k_aload_n (i := 0) hA dX12_slipsNow_3 rfl 0 rfl ?_
  refine gt_MT_0_3 hA wd_1251 dX12_slipsNow_4 ?_
  refine gt_MT_18_7N hA rfl nf_299 dX12_slipsNow_7 ?_
  refine k_icmp_gt (tgt := 145) hA dX12_slipsNow_10 rfl (fun hc => ?_) (fun hc => ?_)
  · have hf := k_ift hc hf
    obtain ⟨hi_1, hf⟩ := k_gi_e hf
    obtain ⟨rfl, rfl⟩ := k_r2 hf
    refine k_aload_n (i := 0) hA dX12_slipsNow_145 rfl 0 rfl ?_
    refine gt_MT_0_38 hA wd_1286 dX12_slipsNow_146 ?_
    refine k_aload_n (i := 0) hA dX12_slipsNow_149 rfl 0 rfl ?_
    refine gt_MT_0_3 hA wd_1251 dX12_slipsNow_150 ?_
    refine gt_MT_18_7N hA rfl nf_299 dX12_slipsNow_153 ?_
    refine k_aload_n (i := 0) hA dX12_slipsNow_156 rfl 0 rfl ?_
    refine gt_MT_0_22 hA wd_1270 dX12_slipsNow_157 ?_
    refine k_callSi (As := [.int (t.1 18 7), .int (t.1 0 22)]) (rest := [.ref (a 16)]) hA (m_M_at l G (k_WT G.2.1 a rv t) (t.1 18 7) (t.1 0 22) rfl) cd_X12_at wd_1844 (Nat.le_of_ble_eq_true rfl) rfl rfl (Nat.le_of_ble_eq_true rfl) dX12_slipsNow_160 ?_
    refine ld_MT_16 hA hi_1 dX12_slipsNow_163 ?_
    exact k_iret hA hr rfl dX12_slipsNow_164
  have hf := k_iff hc hf
  refine k_iconst hA dX12_slipsNow_13 kc_i_0 ?_
  refine k_istore_n (i := 2) (lv' := [(2, .int (0 : Int32)), (0, .ref (a 0)), (1, .int x1)]) hA dX12_slipsNow_14 rfl rfl (Nat.le_of_ble_eq_true rfl) rfl ?_
  refine k_pick (lv' := [(0, .ref (a 0)), (1, .int x1), (2, .int (0 : Int32))]) [1, 2, 0] rfl ?_
  exact m_M_slipsNow_15 l G a rv n hA hr (f_M_slipsNow_2 n k) ih n x1 (0 : Int32) t hf

theorem m_M_slipsNow (l : Launch) (G : k_G) (a : Nat → Nat) (rv : Value) (n : Nat) (t : k_St) {r : Int32} {t' : k_St} (hf : f_M_slipsNow n t = some (r, t')) : k_CI l G yX12_slipsNow cX12_slipsNow 4 (some .int) 2 (k_WT G.2.1 a rv t) [.ref (a 0)] r (k_WT G.2.1 a rv t') := by
  refine k_startI (lv := [(0, .ref (a 0))]) (by decide +kernel) (Nat.le_of_ble_eq_true rfl) rfl ?_
  intro p e s m args below meth c hA hr
  have hA : k_Amb p s m args meth c cX12_slipsNow 4 "TaleSharesModel" G _ := hA
  unfold f_M_slipsNow at hf
  refine k_iconst hA dX12_slipsNow_0 kc_i_0 ?_
  refine k_istore_n (i := 1) (lv' := [(1, .int (0 : Int32)), (0, .ref (a 0))]) hA dX12_slipsNow_1 rfl rfl (Nat.le_of_ble_eq_true rfl) rfl ?_
  refine k_pick (lv' := [(0, .ref (a 0)), (1, .int (0 : Int32))]) [1, 0] rfl ?_
  exact m_M_slipsNow_2 l G a rv n hA hr n (0 : Int32) t hf

def f_M_slipsAll_82 (n : Nat) (rec24 : Int32 → k_St → Option (Int32 × k_St)) : Nat → Int32 → Int32 → k_St → Option (Int32 × k_St)
  | 0, _, _, _ => none
  | k + 1, x1, x3, t => (if (t.1 0 22) ≤ x3 then rec24 x1 t else k_gi x3 9 (k_gi x3 8 (k_lt (k_sI t 17 x3.toNatClampNeg (t.1 6 x3.toNatClampNeg)) (fun t_3 => k_lt (x3 + (1 : Int32)) (fun x3_4 => f_M_slipsAll_82 n rec24 k x1 x3_4 t_3)))))
def f_M_slipsAll_51 (n : Nat) (rec24 : Int32 → k_St → Option (Int32 × k_St)) (x1 : Int32) (x2 : Int32) (t : k_St) : Option (Int32 × k_St) := (if x1 = (-2 : Int32) then k_lt (k_sI t 0 41 (1 : Int32)) (fun t_1 => k_lt (k_sI t_1 0 40 (t_1.1 0 22)) (fun t_2 => f_M_slipsAll_82 n rec24 n x2 (0 : Int32) t_2)) else (if x2 < x1 then k_lt (k_sI t 0 41 (1 : Int32)) (fun t_3 => k_lt (k_sI t_3 0 40 (t_3.1 0 22)) (fun t_4 => f_M_slipsAll_82 n rec24 n x2 (0 : Int32) t_4)) else rec24 x1 t))
def f_M_slipsAll_24 (n : Nat) : Nat → Int32 → k_St → Option (Int32 × k_St)
  | 0, _, _ => none
  | k + 1, x1, t => k_cl (f_M_nextTale n t) (fun r_2 t_1 => (if (k_b r_2) = 0 then some (x1, t_1) else k_cl (f_M_slipsNow n t_1) (fun r_4 t_3 => (if r_4 = x1 then k_lt (k_sI t_3 0 41 ((t_3.1 0 41) + (1 : Int32))) (fun t_5 => f_M_slipsAll_51 n (f_M_slipsAll_24 n k) x1 r_4 t_5) else f_M_slipsAll_51 n (f_M_slipsAll_24 n k) x1 r_4 t_3))))
def f_M_slipsAll (n : Nat) (t : k_St) : Option (Int32 × k_St) := k_lt (k_sI t 0 41 (0 : Int32)) (fun t_1 => k_lt (k_sI t_1 0 40 (0 : Int32)) (fun t_2 => k_cv (f_M_startsTales (f_Mt_all t_2) t_2) (fun t_3 => f_M_slipsAll_24 n n (-2 : Int32) t_3)))
theorem m_M_slipsAll_82 {p : Program} (l : Launch) {e : Env} {s : State} {m : MethodId} {args : Array Value} {below : List Frame} {meth : Method} {c : Code} (G : k_G) (a : Nat → Nat) (rv : Value) (n : Nat) {w0 : va_W} {r : Int32} {t' : k_St} (hA : k_Amb p s m args meth c cX12_slipsAll 4 "TaleSharesModel" G (va_A w0 s.heap.size)) (hr : meth.sig.returnType = (some .int)) (rec24 : Int32 → k_St → Option (Int32 × k_St)) (hrec24 : ∀ (x1 : Int32) (t : k_St), rec24 x1 t = some (r, t') → k_Go p l e (k_rm 4) s m args below meth c (k_QI G w0 r (k_WT G.2.1 a rv t') args s below) 4 G (va_A w0 s.heap.size) (k_WT G.2.1 a rv t) 24 [(0, .ref (a 0)), (1, .int x1)] []) : ∀ (k : Nat) (x1 : Int32) (x3 : Int32) (t : k_St), f_M_slipsAll_82 n rec24 k x1 x3 t = some (r, t') → k_Go p l e (k_rm 4) s m args below meth c (k_QI G w0 r (k_WT G.2.1 a rv t') args s below) 4 G (va_A w0 s.heap.size) (k_WT G.2.1 a rv t) 82 [(0, .ref (a 0)), (1, .int x1), (3, .int x3)] [] := by
  intro k
  induction k with
  | zero => intro x1 x3 t hf; cases hf
  | succ k ih =>
  intro x1 x3 t hf
  rw [f_M_slipsAll_82] at hf
  refine k_iload_n (i := 3) hA dX12_slipsAll_82 rfl 2 rfl ?_
  refine k_aload_n (i := 0) hA dX12_slipsAll_83 rfl 0 rfl ?_
  refine gt_MT_0_22 hA wd_1270 dX12_slipsAll_84 ?_
  refine k_icmp_ge (tgt := 108) hA dX12_slipsAll_87 rfl (fun hc => ?_) (fun hc => ?_)
  · have hf := k_ift hc hf
    refine k_goto (tgt := 24) hA dX12_slipsAll_108 rfl ?_
    refine k_pick (lv' := [(0, .ref (a 0)), (1, .int x1)]) [0, 1] rfl ?_
    exact hrec24 x1 t hf
  have hf := k_iff hc hf
  obtain ⟨hi_1, hf⟩ := k_gi_e hf
  obtain ⟨hi_2, hf⟩ := k_gi_e hf
  obtain ⟨t_3, et_3, hf⟩ := k_lt_e hf
  obtain ⟨x3_4, ex3_4, hf⟩ := k_lt_e hf
  refine k_aload_n (i := 0) hA dX12_slipsAll_90 rfl 0 rfl ?_
  refine gt_MT_0_39 hA wd_1287 dX12_slipsAll_91 ?_
  refine k_iload_n (i := 3) hA dX12_slipsAll_94 rfl 2 rfl ?_
  refine k_aload_n (i := 0) hA dX12_slipsAll_95 rfl 0 rfl ?_
  refine gt_MT_0_21 hA wd_1269 dX12_slipsAll_96 ?_
  refine k_iload_n (i := 3) hA dX12_slipsAll_99 rfl 2 rfl ?_
  refine ld_MT_6 hA hi_1 dX12_slipsAll_100 ?_
  refine sr_MT_17 hA hi_2 et_3 dX12_slipsAll_101 ?_
  refine k_iinc (j := 2) (v := x3_4) (lv' := [(3, .int x3_4), (0, .ref (a 0)), (1, .int x1)]) hA dX12_slipsAll_102 rfl (k_inc ex3_4 kc_i_1) (Nat.le_of_ble_eq_true rfl) rfl ?_
  refine k_goto (tgt := 82) hA dX12_slipsAll_105 rfl ?_
  refine k_pick (lv' := [(0, .ref (a 0)), (1, .int x1), (3, .int x3_4)]) [1, 2, 0] rfl ?_
  exact ih x1 x3_4 t_3 hf

theorem m_M_slipsAll_51 {p : Program} (l : Launch) {e : Env} {s : State} {m : MethodId} {args : Array Value} {below : List Frame} {meth : Method} {c : Code} (G : k_G) (a : Nat → Nat) (rv : Value) (n : Nat) {w0 : va_W} {r : Int32} {t' : k_St} (hA : k_Amb p s m args meth c cX12_slipsAll 4 "TaleSharesModel" G (va_A w0 s.heap.size)) (hr : meth.sig.returnType = (some .int)) (rec24 : Int32 → k_St → Option (Int32 × k_St)) (hrec24 : ∀ (x1 : Int32) (t : k_St), rec24 x1 t = some (r, t') → k_Go p l e (k_rm 4) s m args below meth c (k_QI G w0 r (k_WT G.2.1 a rv t') args s below) 4 G (va_A w0 s.heap.size) (k_WT G.2.1 a rv t) 24 [(0, .ref (a 0)), (1, .int x1)] []) : ∀ (x1 : Int32) (x2 : Int32) (t : k_St), f_M_slipsAll_51 n rec24 x1 x2 t = some (r, t') → k_Go p l e (k_rm 4) s m args below meth c (k_QI G w0 r (k_WT G.2.1 a rv t') args s below) 4 G (va_A w0 s.heap.size) (k_WT G.2.1 a rv t) 51 [(0, .ref (a 0)), (1, .int x1), (2, .int x2)] [] := by
  intro x1 x2 t hf
  unfold f_M_slipsAll_51 at hf
  refine k_iload_n (i := 1) hA dX12_slipsAll_51 rfl 1 rfl ?_
  refine k_bipush hA dX12_slipsAll_52 kc_b_m2 ?_
  refine k_icmp_eq (tgt := 65) hA dX12_slipsAll_54 rfl (fun hc => ?_) (fun hc => ?_)
  · have hf := k_ift hc hf
    obtain ⟨t_1, et_1, hf⟩ := k_lt_e hf
    obtain ⟨t_2, et_2, hf⟩ := k_lt_e hf
    refine k_iload_n (i := 2) hA dX12_slipsAll_65 rfl 2 rfl ?_
    refine k_istore_n (i := 1) (lv' := [(1, .int x2), (0, .ref (a 0)), (2, .int x2)]) hA dX12_slipsAll_66 rfl rfl (Nat.le_of_ble_eq_true rfl) rfl ?_
    refine k_aload_n (i := 0) hA dX12_slipsAll_67 rfl 1 rfl ?_
    refine k_iconst hA dX12_slipsAll_68 kc_i_1 ?_
    refine pt_MT_0_41 hA wd_1289 et_1 dX12_slipsAll_69 ?_
    refine k_aload_n (i := 0) hA dX12_slipsAll_72 rfl 1 rfl ?_
    refine k_aload_n (i := 0) hA dX12_slipsAll_73 rfl 1 rfl ?_
    refine gt_MT_0_22 hA wd_1270 dX12_slipsAll_74 ?_
    refine pt_MT_0_40 hA wd_1288 et_2 dX12_slipsAll_77 ?_
    refine k_iconst hA dX12_slipsAll_80 kc_i_0 ?_
    refine k_istore_n (i := 3) (lv' := [(3, .int (0 : Int32)), (1, .int x2), (0, .ref (a 0)), (2, .int x2)]) hA dX12_slipsAll_81 rfl rfl (Nat.le_of_ble_eq_true rfl) rfl ?_
    refine k_pick (lv' := [(0, .ref (a 0)), (1, .int x2), (3, .int (0 : Int32))]) [2, 1, 0] rfl ?_
    exact m_M_slipsAll_82 l G a rv n hA hr rec24 hrec24 n x2 (0 : Int32) t_2 hf
  have hf := k_iff hc hf
  refine k_iload_n (i := 2) hA dX12_slipsAll_57 rfl 2 rfl ?_
  refine k_iload_n (i := 1) hA dX12_slipsAll_58 rfl 1 rfl ?_
  refine k_icmp_lt (tgt := 65) hA dX12_slipsAll_59 rfl (fun hc => ?_) (fun hc => ?_)
  · have hf := k_ift hc hf
    obtain ⟨t_3, et_3, hf⟩ := k_lt_e hf
    obtain ⟨t_4, et_4, hf⟩ := k_lt_e hf
    refine k_iload_n (i := 2) hA dX12_slipsAll_65 rfl 2 rfl ?_
    refine k_istore_n (i := 1) (lv' := [(1, .int x2), (0, .ref (a 0)), (2, .int x2)]) hA dX12_slipsAll_66 rfl rfl (Nat.le_of_ble_eq_true rfl) rfl ?_
    refine k_aload_n (i := 0) hA dX12_slipsAll_67 rfl 1 rfl ?_
    refine k_iconst hA dX12_slipsAll_68 kc_i_1 ?_
    refine pt_MT_0_41 hA wd_1289 et_3 dX12_slipsAll_69 ?_
    refine k_aload_n (i := 0) hA dX12_slipsAll_72 rfl 1 rfl ?_
    refine k_aload_n (i := 0) hA dX12_slipsAll_73 rfl 1 rfl ?_
    refine gt_MT_0_22 hA wd_1270 dX12_slipsAll_74 ?_
    refine pt_MT_0_40 hA wd_1288 et_4 dX12_slipsAll_77 ?_
    refine k_iconst hA dX12_slipsAll_80 kc_i_0 ?_
    refine k_istore_n (i := 3) (lv' := [(3, .int (0 : Int32)), (1, .int x2), (0, .ref (a 0)), (2, .int x2)]) hA dX12_slipsAll_81 rfl rfl (Nat.le_of_ble_eq_true rfl) rfl ?_
    refine k_pick (lv' := [(0, .ref (a 0)), (1, .int x2), (3, .int (0 : Int32))]) [2, 1, 0] rfl ?_
    exact m_M_slipsAll_82 l G a rv n hA hr rec24 hrec24 n x2 (0 : Int32) t_4 hf
  have hf := k_iff hc hf
  refine k_goto (tgt := 24) hA dX12_slipsAll_62 rfl ?_
  refine k_pick (lv' := [(0, .ref (a 0)), (1, .int x1)]) [0, 1] rfl ?_
  exact hrec24 x1 t hf

theorem m_M_slipsAll_24 {p : Program} (l : Launch) {e : Env} {s : State} {m : MethodId} {args : Array Value} {below : List Frame} {meth : Method} {c : Code} (G : k_G) (a : Nat → Nat) (rv : Value) (n : Nat) {w0 : va_W} {r : Int32} {t' : k_St} (hA : k_Amb p s m args meth c cX12_slipsAll 4 "TaleSharesModel" G (va_A w0 s.heap.size)) (hr : meth.sig.returnType = (some .int)) : ∀ (k : Nat) (x1 : Int32) (t : k_St), f_M_slipsAll_24 n k x1 t = some (r, t') → k_Go p l e (k_rm 4) s m args below meth c (k_QI G w0 r (k_WT G.2.1 a rv t') args s below) 4 G (va_A w0 s.heap.size) (k_WT G.2.1 a rv t) 24 [(0, .ref (a 0)), (1, .int x1)] [] := by
  intro k
  induction k with
  | zero => intro x1 t hf; cases hf
  | succ k ih =>
  intro x1 t hf
  rw [f_M_slipsAll_24] at hf
  obtain ⟨r_2, t_1, ht_1, hf⟩ := k_cl_e hf
  refine k_aload_n (i := 0) hA dX12_slipsAll_24 rfl 0 rfl ?_
  refine k_callVi (As := []) (rest := []) hA (m_M_nextTale l G a rv n t ht_1) cd_X12_nextTale wd_1637 (hc_MT_0 G.2.1 a rv t) rfl rfl (Nat.le_of_ble_eq_true rfl) rfl rfl (Nat.le_of_ble_eq_true rfl) dX12_slipsAll_25 ?_
  refine k_if_eq (tgt := 111) hA dX12_slipsAll_28 rfl (fun hc => ?_) (fun hc => ?_)
  · have hf := k_ift hc hf
    obtain ⟨rfl, rfl⟩ := k_r2 hf
    refine k_iload_n (i := 1) hA dX12_slipsAll_111 rfl 1 rfl ?_
    exact k_iret hA hr rfl dX12_slipsAll_112
  have hf := k_iff hc hf
  obtain ⟨r_4, t_3, ht_3, hf⟩ := k_cl_e hf
  refine k_aload_n (i := 0) hA dX12_slipsAll_31 rfl 0 rfl ?_
  refine k_callVi (As := []) (rest := []) hA (m_M_slipsNow l G a rv n t_1 ht_3) cd_X12_slipsNow wd_1840 (hc_MT_0 G.2.1 a rv t_1) rfl rfl (Nat.le_of_ble_eq_true rfl) rfl rfl (Nat.le_of_ble_eq_true rfl) dX12_slipsAll_32 ?_
  refine k_istore_n (i := 2) (lv' := [(2, .int r_4), (0, .ref (a 0)), (1, .int x1)]) hA dX12_slipsAll_35 rfl rfl (Nat.le_of_ble_eq_true rfl) rfl ?_
  refine k_iload_n (i := 2) hA dX12_slipsAll_36 rfl 0 rfl ?_
  refine k_iload_n (i := 1) hA dX12_slipsAll_37 rfl 2 rfl ?_
  refine k_icmp_ne (tgt := 51) hA dX12_slipsAll_38 rfl (fun hc => ?_) (fun hc => ?_)
  · have hf := k_iff hc hf
    refine k_pick (lv' := [(0, .ref (a 0)), (1, .int x1), (2, .int r_4)]) [1, 2, 0] rfl ?_
    exact m_M_slipsAll_51 l G a rv n hA hr (f_M_slipsAll_24 n k) ih x1 r_4 t_3 hf
  have hf := k_ift hc hf
  obtain ⟨t_5, et_5, hf⟩ := k_lt_e hf
  refine k_aload_n (i := 0) hA dX12_slipsAll_41 rfl 1 rfl ?_
  refine k_dup hA dX12_slipsAll_42 rfl ?_
  refine gt_MT_0_41 hA wd_1289 dX12_slipsAll_43 ?_
  refine k_iconst hA dX12_slipsAll_46 kc_i_1 ?_
  refine k_iadd hA dX12_slipsAll_47 ?_
  refine pt_MT_0_41 hA wd_1289 et_5 dX12_slipsAll_48 ?_
  refine k_pick (lv' := [(0, .ref (a 0)), (1, .int x1), (2, .int r_4)]) [1, 2, 0] rfl ?_
  exact m_M_slipsAll_51 l G a rv n hA hr (f_M_slipsAll_24 n k) ih x1 r_4 t_5 hf

theorem m_M_slipsAll (l : Launch) (G : k_G) (a : Nat → Nat) (rv : Value) (n : Nat) (t : k_St) {r : Int32} {t' : k_St} (hf : f_M_slipsAll n t = some (r, t')) : k_CI l G yX12_slipsAll cX12_slipsAll 4 (some .int) 4 (k_WT G.2.1 a rv t) [.ref (a 0)] r (k_WT G.2.1 a rv t') := by
  refine k_startI (lv := [(0, .ref (a 0))]) (by decide +kernel) (Nat.le_of_ble_eq_true rfl) rfl ?_
  intro p e s m args below meth c hA hr
  have hA : k_Amb p s m args meth c cX12_slipsAll 4 "TaleSharesModel" G _ := hA
  unfold f_M_slipsAll at hf
  obtain ⟨t_1, et_1, hf⟩ := k_lt_e hf
  obtain ⟨t_2, et_2, hf⟩ := k_lt_e hf
  obtain ⟨t_3, ht_3, hf⟩ := k_cv_e hf
  refine k_bipush hA dX12_slipsAll_0 kc_b_m2 ?_
  refine k_istore_n (i := 1) (lv' := [(1, .int (-2 : Int32)), (0, .ref (a 0))]) hA dX12_slipsAll_2 rfl rfl (Nat.le_of_ble_eq_true rfl) rfl ?_
  refine k_aload_n (i := 0) hA dX12_slipsAll_3 rfl 1 rfl ?_
  refine k_iconst hA dX12_slipsAll_4 kc_i_0 ?_
  refine pt_MT_0_41 hA wd_1289 et_1 dX12_slipsAll_5 ?_
  refine k_aload_n (i := 0) hA dX12_slipsAll_8 rfl 1 rfl ?_
  refine k_iconst hA dX12_slipsAll_9 kc_i_0 ?_
  refine pt_MT_0_40 hA wd_1288 et_2 dX12_slipsAll_10 ?_
  refine k_aload_n (i := 0) hA dX12_slipsAll_13 rfl 1 rfl ?_
  refine k_aload_n (i := 0) hA dX12_slipsAll_14 rfl 1 rfl ?_
  refine gt_MT_0_3 hA wd_1251 dX12_slipsAll_15 ?_
  refine k_callVi (As := []) (rest := [.ref (a 0)]) hA (m_Mt_all l G a rv t_2 rfl) cd_X11_all wd_1673 (hc_MT_18 G.2.1 a rv t_2) rfl rfl (Nat.le_of_ble_eq_true rfl) rfl rfl (Nat.le_of_ble_eq_true rfl) dX12_slipsAll_18 ?_
  refine k_callVv (As := [.int (f_Mt_all t_2)]) (rest := []) hA (m_M_startsTales l G a rv (f_Mt_all t_2) t_2 ht_3) cd_X12_startsTales wd_1633 (hc_MT_0 G.2.1 a rv t_2) rfl rfl (Nat.le_of_ble_eq_true rfl) rfl rfl (Nat.le_of_ble_eq_true rfl) dX12_slipsAll_21 ?_
  refine k_pick (lv' := [(0, .ref (a 0)), (1, .int (-2 : Int32))]) [1, 0] rfl ?_
  exact m_M_slipsAll_24 l G a rv n hA hr n (-2 : Int32) t_3 hf

def f_M_slips (n : Nat) (t : k_St) : Option (Int32 × k_St) := k_lt (k_sI t 0 0 (0 : Int32)) (fun t_1 => k_lt (f_M_refusesMixed t_1) (fun x1_2 => (if x1_2 ≤ 0 then k_cl (f_M_slipsAll n t_1) (fun r_4 t_3 => k_lt (f_M_good r_4 t_3) (fun q_5 => some (q_5.1, q_5.2))) else k_lt (f_M_refused x1_2 t_1) (fun q_6 => some (q_6.1, q_6.2)))))
theorem m_M_slips (l : Launch) (G : k_G) (a : Nat → Nat) (rv : Value) (n : Nat) (t : k_St) {r : Int32} {t' : k_St} (hf : f_M_slips n t = some (r, t')) : k_CI l G yX12_slips cX12_slips 2 (some .int) 5 (k_WT G.2.1 a rv t) [.ref (a 0)] r (k_WT G.2.1 a rv t') := by
  refine k_startI (lv := [(0, .ref (a 0))]) (by decide +kernel) (Nat.le_of_ble_eq_true rfl) rfl ?_
  intro p e s m args below meth c hA hr
  have hA : k_Amb p s m args meth c cX12_slips 2 "TaleSharesModel" G _ := hA
  unfold f_M_slips at hf
  obtain ⟨t_1, et_1, hf⟩ := k_lt_e hf
  obtain ⟨x1_2, ex1_2, hf⟩ := k_lt_e hf
  refine k_aload_n (i := 0) hA dX12_slips_0 rfl 0 rfl ?_
  refine k_iconst hA dX12_slips_1 kc_i_0 ?_
  refine pt_MT_0_0 hA wd_1248 et_1 dX12_slips_2 ?_
  refine k_aload_n (i := 0) hA dX12_slips_5 rfl 0 rfl ?_
  refine k_callVi (As := []) (rest := []) hA (m_M_refusesMixed l G a rv t_1 rfl) cd_X12_refusesMixed wd_1832 (hc_MT_0 G.2.1 a rv t_1) rfl rfl (Nat.le_of_ble_eq_true rfl) rfl rfl (Nat.le_of_ble_eq_true rfl) dX12_slips_6 ?_
  refine k_istore_n (i := 1) (lv' := [(1, .int x1_2), (0, .ref (a 0))]) hA dX12_slips_9 rfl ex1_2 (Nat.le_of_ble_eq_true rfl) rfl ?_
  refine k_iload_n (i := 1) hA dX12_slips_10 rfl 0 rfl ?_
  refine k_if_le (tgt := 22) hA dX12_slips_11 rfl (fun hc => ?_) (fun hc => ?_)
  · have hf := k_ift hc hf
    obtain ⟨r_4, t_3, ht_3, hf⟩ := k_cl_e hf
    obtain ⟨⟨rq_5, tq_5⟩, hq_5, hf⟩ := k_lt_e hf
    dsimp only at hf
    obtain ⟨rfl, rfl⟩ := k_r2 hf
    refine k_aload_n (i := 0) hA dX12_slips_22 rfl 1 rfl ?_
    refine k_aload_n (i := 0) hA dX12_slips_23 rfl 1 rfl ?_
    refine k_callVi (As := []) (rest := [.ref (a 0)]) hA (m_M_slipsAll l G a rv n t_1 ht_3) cd_X12_slipsAll wd_1836 (hc_MT_0 G.2.1 a rv t_1) rfl rfl (Nat.le_of_ble_eq_true rfl) rfl rfl (Nat.le_of_ble_eq_true rfl) dX12_slips_24 ?_
    refine k_callVi (As := [.int r_4]) (rest := []) hA (m_M_good l G a rv r_4 t_3 hq_5.symm) cd_X12_good wd_1601 (hc_MT_0 G.2.1 a rv t_3) rfl rfl (Nat.le_of_ble_eq_true rfl) rfl rfl (Nat.le_of_ble_eq_true rfl) dX12_slips_27 ?_
    exact k_iret hA hr rfl dX12_slips_30
  have hf := k_iff hc hf
  obtain ⟨⟨rq_6, tq_6⟩, hq_6, hf⟩ := k_lt_e hf
  dsimp only at hf
  obtain ⟨rfl, rfl⟩ := k_r2 hf
  refine k_aload_n (i := 0) hA dX12_slips_14 rfl 1 rfl ?_
  refine k_iload_n (i := 1) hA dX12_slips_15 rfl 0 rfl ?_
  refine k_callVi (As := [.int x1_2]) (rest := []) hA (m_M_refused l G a rv x1_2 t_1 hq_6.symm) cd_X12_refused wd_1390 (hc_MT_0 G.2.1 a rv t_1) rfl rfl (Nat.le_of_ble_eq_true rfl) rfl rfl (Nat.le_of_ble_eq_true rfl) dX12_slips_16 ?_
  refine k_goto (tgt := 30) hA dX12_slips_19 rfl ?_
  exact k_iret hA hr rfl dX12_slips_30

