theorem dX7_gather_0 : decode cX7_gather 0 = .ok (.aload_n 0, 1) := by decide +kernel
theorem dX7_gather_1 : decode cX7_gather 1 = .ok (.iconst 0, 1) := by decide +kernel
theorem dX7_gather_2 : decode cX7_gather 2 = .ok (.putfield 18, 3) := by decide +kernel
theorem dX7_gather_5 : decode cX7_gather 5 = .ok (.iconst 0, 1) := by decide +kernel
theorem dX7_gather_6 : decode cX7_gather 6 = .ok (.istore_n 2, 1) := by decide +kernel
theorem dX7_gather_7 : decode cX7_gather 7 = .ok (.iload_n 2, 1) := by decide +kernel
theorem dX7_gather_8 : decode cX7_gather 8 = .ok (.aload_n 1, 1) := by decide +kernel
theorem dX7_gather_9 : decode cX7_gather 9 = .ok (.getfield 22, 3) := by decide +kernel
theorem dX7_gather_12 : decode cX7_gather 12 = .ok (.if_icmp .ge 34, 3) := by decide +kernel
theorem dX7_gather_15 : decode cX7_gather 15 = .ok (.aload_n 1, 1) := by decide +kernel
theorem dX7_gather_16 : decode cX7_gather 16 = .ok (.getfield 27, 3) := by decide +kernel
theorem dX7_gather_19 : decode cX7_gather 19 = .ok (.iload_n 2, 1) := by decide +kernel
theorem dX7_gather_20 : decode cX7_gather 20 = .ok (.iaload, 1) := by decide +kernel
theorem dX7_gather_21 : decode cX7_gather 21 = .ok (.ifCond .ne 19, 3) := by decide +kernel
theorem dX7_gather_24 : decode cX7_gather 24 = .ok (.aload_n 0, 1) := by decide +kernel
theorem dX7_gather_25 : decode cX7_gather 25 = .ok (.aload_n 1, 1) := by decide +kernel
theorem dX7_gather_26 : decode cX7_gather 26 = .ok (.iload_n 2, 1) := by decide +kernel
theorem dX7_gather_27 : decode cX7_gather 27 = .ok (.iconst 1, 1) := by decide +kernel
theorem dX7_gather_28 : decode cX7_gather 28 = .ok (.iload_n 2, 1) := by decide +kernel
theorem dX7_gather_29 : decode cX7_gather 29 = .ok (.ishl, 1) := by decide +kernel
theorem dX7_gather_30 : decode cX7_gather 30 = .ok (.iload_n 2, 1) := by decide +kernel
theorem dX7_gather_31 : decode cX7_gather 31 = .ok (.iconst 1, 1) := by decide +kernel
theorem dX7_gather_32 : decode cX7_gather 32 = .ok (.iadd, 1) := by decide +kernel
theorem dX7_gather_33 : decode cX7_gather 33 = .ok (.aload_n 1, 1) := by decide +kernel
theorem dX7_gather_34 : decode cX7_gather 34 = .ok (.getfield 30, 3) := by decide +kernel
theorem dX7_gather_37 : decode cX7_gather 37 = .ok (.invokevirtual 33, 3) := by decide +kernel
theorem dX7_gather_40 : decode cX7_gather 40 = .ok (.iinc 2 1, 3) := by decide +kernel
theorem dX7_gather_43 : decode cX7_gather 43 = .ok (.goto (-36), 3) := by decide +kernel
theorem dX7_gather_46 : decode cX7_gather 46 = .ok (.return_, 1) := by decide +kernel
theorem dX7_goOn_0 : decode cX7_goOn 0 = .ok (.iload_n 3, 1) := by decide +kernel
theorem dX7_goOn_1 : decode cX7_goOn 1 = .ok (.invokestatic 37, 3) := by decide +kernel
theorem dX7_goOn_4 : decode cX7_goOn 4 = .ok (.bipush 8, 2) := by decide +kernel
theorem dX7_goOn_6 : decode cX7_goOn 6 = .ok (.if_icmp .lt 4, 3) := by decide +kernel
theorem dX7_goOn_9 : decode cX7_goOn 9 = .ok (.return_, 1) := by decide +kernel
theorem dX7_goOn_10 : decode cX7_goOn 10 = .ok (.iconst 0, 1) := by decide +kernel
theorem dX7_goOn_11 : decode cX7_goOn 11 = .ok (.istore 6, 2) := by decide +kernel
theorem dX7_goOn_13 : decode cX7_goOn 13 = .ok (.iload 6, 2) := by decide +kernel
theorem dX7_goOn_15 : decode cX7_goOn 15 = .ok (.aload_n 1, 1) := by decide +kernel
theorem dX7_goOn_16 : decode cX7_goOn 16 = .ok (.getfield 22, 3) := by decide +kernel
theorem dX7_goOn_19 : decode cX7_goOn 19 = .ok (.if_icmp .ge 141, 3) := by decide +kernel
theorem dX7_goOn_22 : decode cX7_goOn 22 = .ok (.aload_n 1, 1) := by decide +kernel
theorem dX7_goOn_23 : decode cX7_goOn 23 = .ok (.iload_n 2, 1) := by decide +kernel
theorem dX7_goOn_24 : decode cX7_goOn 24 = .ok (.iload 6, 2) := by decide +kernel
theorem dX7_goOn_26 : decode cX7_goOn 26 = .ok (.invokevirtual 43, 3) := by decide +kernel
theorem dX7_goOn_29 : decode cX7_goOn 29 = .ok (.ifCond .eq 125, 3) := by decide +kernel
theorem dX7_goOn_32 : decode cX7_goOn 32 = .ok (.iload_n 3, 1) := by decide +kernel
theorem dX7_goOn_33 : decode cX7_goOn 33 = .ok (.iload 6, 2) := by decide +kernel
theorem dX7_goOn_35 : decode cX7_goOn 35 = .ok (.ishr, 1) := by decide +kernel
theorem dX7_goOn_36 : decode cX7_goOn 36 = .ok (.iconst 1, 1) := by decide +kernel
theorem dX7_goOn_37 : decode cX7_goOn 37 = .ok (.iand, 1) := by decide +kernel
theorem dX7_goOn_38 : decode cX7_goOn 38 = .ok (.ifCond .eq 6, 3) := by decide +kernel
theorem dX7_goOn_41 : decode cX7_goOn 41 = .ok (.goto 113, 3) := by decide +kernel
theorem dX7_goOn_44 : decode cX7_goOn 44 = .ok (.aload_n 1, 1) := by decide +kernel
theorem dX7_goOn_45 : decode cX7_goOn 45 = .ok (.getfield 27, 3) := by decide +kernel
theorem dX7_goOn_48 : decode cX7_goOn 48 = .ok (.iload 6, 2) := by decide +kernel
theorem dX7_goOn_50 : decode cX7_goOn 50 = .ok (.iaload, 1) := by decide +kernel
theorem dX7_goOn_51 : decode cX7_goOn 51 = .ok (.istore 7, 2) := by decide +kernel
theorem dX7_goOn_53 : decode cX7_goOn 53 = .ok (.iload 7, 2) := by decide +kernel
theorem dX7_goOn_55 : decode cX7_goOn 55 = .ok (.iconst 3, 1) := by decide +kernel
theorem dX7_goOn_56 : decode cX7_goOn 56 = .ok (.if_icmp .ne 26, 3) := by decide +kernel
theorem dX7_goOn_59 : decode cX7_goOn 59 = .ok (.aload_n 0, 1) := by decide +kernel
theorem dX7_goOn_60 : decode cX7_goOn 60 = .ok (.iload 4, 2) := by decide +kernel
theorem dX7_goOn_62 : decode cX7_goOn 62 = .ok (.bipush 10, 2) := by decide +kernel
theorem dX7_goOn_64 : decode cX7_goOn 64 = .ok (.imul, 1) := by decide +kernel
theorem dX7_goOn_65 : decode cX7_goOn 65 = .ok (.iload 6, 2) := by decide +kernel
theorem dX7_goOn_67 : decode cX7_goOn 67 = .ok (.iadd, 1) := by decide +kernel
theorem dX7_goOn_68 : decode cX7_goOn 68 = .ok (.iconst 1, 1) := by decide +kernel
theorem dX7_goOn_69 : decode cX7_goOn 69 = .ok (.iadd, 1) := by decide +kernel
theorem dX7_goOn_70 : decode cX7_goOn 70 = .ok (.iload_n 3, 1) := by decide +kernel
theorem dX7_goOn_71 : decode cX7_goOn 71 = .ok (.iconst 1, 1) := by decide +kernel
theorem dX7_goOn_72 : decode cX7_goOn 72 = .ok (.iload 6, 2) := by decide +kernel
theorem dX7_goOn_74 : decode cX7_goOn 74 = .ok (.ishl, 1) := by decide +kernel
theorem dX7_goOn_75 : decode cX7_goOn 75 = .ok (.ior, 1) := by decide +kernel
theorem dX7_goOn_76 : decode cX7_goOn 76 = .ok (.invokevirtual 47, 3) := by decide +kernel
theorem dX7_goOn_79 : decode cX7_goOn 79 = .ok (.goto 75, 3) := by decide +kernel
theorem dX7_goOn_82 : decode cX7_goOn 82 = .ok (.iload 7, 2) := by decide +kernel
theorem dX7_goOn_84 : decode cX7_goOn 84 = .ok (.iconst 1, 1) := by decide +kernel
theorem dX7_goOn_85 : decode cX7_goOn 85 = .ok (.if_icmp .ne 31, 3) := by decide +kernel
theorem dX7_goOn_88 : decode cX7_goOn 88 = .ok (.aload_n 0, 1) := by decide +kernel
theorem dX7_goOn_89 : decode cX7_goOn 89 = .ok (.aload_n 1, 1) := by decide +kernel
theorem dX7_goOn_90 : decode cX7_goOn 90 = .ok (.iload 6, 2) := by decide +kernel
theorem dX7_goOn_92 : decode cX7_goOn 92 = .ok (.iload_n 3, 1) := by decide +kernel
theorem dX7_goOn_93 : decode cX7_goOn 93 = .ok (.iconst 1, 1) := by decide +kernel
theorem dX7_goOn_94 : decode cX7_goOn 94 = .ok (.iload 6, 2) := by decide +kernel
theorem dX7_goOn_96 : decode cX7_goOn 96 = .ok (.ishl, 1) := by decide +kernel
theorem dX7_goOn_97 : decode cX7_goOn 97 = .ok (.ior, 1) := by decide +kernel
theorem dX7_goOn_98 : decode cX7_goOn 98 = .ok (.iload 4, 2) := by decide +kernel
theorem dX7_goOn_100 : decode cX7_goOn 100 = .ok (.bipush 10, 2) := by decide +kernel
theorem dX7_goOn_102 : decode cX7_goOn 102 = .ok (.imul, 1) := by decide +kernel
theorem dX7_goOn_103 : decode cX7_goOn 103 = .ok (.iload 6, 2) := by decide +kernel
theorem dX7_goOn_105 : decode cX7_goOn 105 = .ok (.iadd, 1) := by decide +kernel
theorem dX7_goOn_106 : decode cX7_goOn 106 = .ok (.iconst 1, 1) := by decide +kernel
theorem dX7_goOn_107 : decode cX7_goOn 107 = .ok (.iadd, 1) := by decide +kernel
theorem dX7_goOn_108 : decode cX7_goOn 108 = .ok (.iload 5, 2) := by decide +kernel
theorem dX7_goOn_110 : decode cX7_goOn 110 = .ok (.invokevirtual 33, 3) := by decide +kernel
theorem dX7_goOn_113 : decode cX7_goOn 113 = .ok (.goto 41, 3) := by decide +kernel
theorem dX7_goOn_116 : decode cX7_goOn 116 = .ok (.iload 7, 2) := by decide +kernel
theorem dX7_goOn_118 : decode cX7_goOn 118 = .ok (.iconst 2, 1) := by decide +kernel
theorem dX7_goOn_119 : decode cX7_goOn 119 = .ok (.if_icmp .ne 35, 3) := by decide +kernel
theorem dX7_goOn_122 : decode cX7_goOn 122 = .ok (.iload 5, 2) := by decide +kernel
theorem dX7_goOn_124 : decode cX7_goOn 124 = .ok (.ifCond .le 30, 3) := by decide +kernel
theorem dX7_goOn_127 : decode cX7_goOn 127 = .ok (.aload_n 0, 1) := by decide +kernel
theorem dX7_goOn_128 : decode cX7_goOn 128 = .ok (.aload_n 1, 1) := by decide +kernel
theorem dX7_goOn_129 : decode cX7_goOn 129 = .ok (.iload 6, 2) := by decide +kernel
theorem dX7_goOn_131 : decode cX7_goOn 131 = .ok (.iload_n 3, 1) := by decide +kernel
theorem dX7_goOn_132 : decode cX7_goOn 132 = .ok (.iconst 1, 1) := by decide +kernel
theorem dX7_goOn_133 : decode cX7_goOn 133 = .ok (.iload 6, 2) := by decide +kernel
theorem dX7_goOn_135 : decode cX7_goOn 135 = .ok (.ishl, 1) := by decide +kernel
theorem dX7_goOn_136 : decode cX7_goOn 136 = .ok (.ior, 1) := by decide +kernel
theorem dX7_goOn_137 : decode cX7_goOn 137 = .ok (.iload 4, 2) := by decide +kernel
theorem dX7_goOn_139 : decode cX7_goOn 139 = .ok (.bipush 10, 2) := by decide +kernel
theorem dX7_goOn_141 : decode cX7_goOn 141 = .ok (.imul, 1) := by decide +kernel
theorem dX7_goOn_142 : decode cX7_goOn 142 = .ok (.iload 6, 2) := by decide +kernel
theorem dX7_goOn_144 : decode cX7_goOn 144 = .ok (.iadd, 1) := by decide +kernel
theorem dX7_goOn_145 : decode cX7_goOn 145 = .ok (.iconst 1, 1) := by decide +kernel
theorem dX7_goOn_146 : decode cX7_goOn 146 = .ok (.iadd, 1) := by decide +kernel
theorem dX7_goOn_147 : decode cX7_goOn 147 = .ok (.iload 5, 2) := by decide +kernel
theorem dX7_goOn_149 : decode cX7_goOn 149 = .ok (.iconst 1, 1) := by decide +kernel
theorem dX7_goOn_150 : decode cX7_goOn 150 = .ok (.isub, 1) := by decide +kernel
theorem dX7_goOn_151 : decode cX7_goOn 151 = .ok (.invokevirtual 33, 3) := by decide +kernel
theorem dX7_goOn_154 : decode cX7_goOn 154 = .ok (.iinc 6 1, 3) := by decide +kernel
theorem dX7_goOn_157 : decode cX7_goOn 157 = .ok (.goto (-144), 3) := by decide +kernel
theorem dX7_goOn_160 : decode cX7_goOn 160 = .ok (.return_, 1) := by decide +kernel
theorem dJ6_bitCount_0f7a4_0 : decode cJ6_bitCount_0f7a4 0 = .ok (.iload_n 0, 1) := by decide +kernel
theorem dJ6_bitCount_0f7a4_1 : decode cJ6_bitCount_0f7a4 1 = .ok (.iload_n 0, 1) := by decide +kernel
theorem dJ6_bitCount_0f7a4_2 : decode cJ6_bitCount_0f7a4 2 = .ok (.iconst 1, 1) := by decide +kernel
theorem dJ6_bitCount_0f7a4_3 : decode cJ6_bitCount_0f7a4 3 = .ok (.iushr, 1) := by decide +kernel
theorem dJ6_bitCount_0f7a4_4 : decode cJ6_bitCount_0f7a4 4 = .ok (.ldc_w 265, 3) := by decide +kernel
theorem dJ6_bitCount_0f7a4_7 : decode cJ6_bitCount_0f7a4 7 = .ok (.iand, 1) := by decide +kernel
theorem dJ6_bitCount_0f7a4_8 : decode cJ6_bitCount_0f7a4 8 = .ok (.isub, 1) := by decide +kernel
theorem dJ6_bitCount_0f7a4_9 : decode cJ6_bitCount_0f7a4 9 = .ok (.istore_n 0, 1) := by decide +kernel
theorem dJ6_bitCount_0f7a4_10 : decode cJ6_bitCount_0f7a4 10 = .ok (.iload_n 0, 1) := by decide +kernel
theorem dJ6_bitCount_0f7a4_11 : decode cJ6_bitCount_0f7a4 11 = .ok (.ldc_w 266, 3) := by decide +kernel
theorem dJ6_bitCount_0f7a4_14 : decode cJ6_bitCount_0f7a4 14 = .ok (.iand, 1) := by decide +kernel
theorem dJ6_bitCount_0f7a4_15 : decode cJ6_bitCount_0f7a4 15 = .ok (.iload_n 0, 1) := by decide +kernel
theorem dJ6_bitCount_0f7a4_16 : decode cJ6_bitCount_0f7a4 16 = .ok (.iconst 2, 1) := by decide +kernel
theorem dJ6_bitCount_0f7a4_17 : decode cJ6_bitCount_0f7a4 17 = .ok (.iushr, 1) := by decide +kernel
theorem dJ6_bitCount_0f7a4_18 : decode cJ6_bitCount_0f7a4 18 = .ok (.ldc_w 266, 3) := by decide +kernel
theorem dJ6_bitCount_0f7a4_21 : decode cJ6_bitCount_0f7a4 21 = .ok (.iand, 1) := by decide +kernel
theorem dJ6_bitCount_0f7a4_22 : decode cJ6_bitCount_0f7a4 22 = .ok (.iadd, 1) := by decide +kernel
theorem dJ6_bitCount_0f7a4_23 : decode cJ6_bitCount_0f7a4 23 = .ok (.istore_n 0, 1) := by decide +kernel
theorem dJ6_bitCount_0f7a4_24 : decode cJ6_bitCount_0f7a4 24 = .ok (.iload_n 0, 1) := by decide +kernel
theorem dJ6_bitCount_0f7a4_25 : decode cJ6_bitCount_0f7a4 25 = .ok (.iload_n 0, 1) := by decide +kernel
theorem dJ6_bitCount_0f7a4_26 : decode cJ6_bitCount_0f7a4 26 = .ok (.iconst 4, 1) := by decide +kernel
theorem dJ6_bitCount_0f7a4_27 : decode cJ6_bitCount_0f7a4 27 = .ok (.iushr, 1) := by decide +kernel
theorem dJ6_bitCount_0f7a4_28 : decode cJ6_bitCount_0f7a4 28 = .ok (.iadd, 1) := by decide +kernel
theorem dJ6_bitCount_0f7a4_29 : decode cJ6_bitCount_0f7a4 29 = .ok (.ldc_w 267, 3) := by decide +kernel
theorem dJ6_bitCount_0f7a4_32 : decode cJ6_bitCount_0f7a4 32 = .ok (.iand, 1) := by decide +kernel
theorem dJ6_bitCount_0f7a4_33 : decode cJ6_bitCount_0f7a4 33 = .ok (.istore_n 0, 1) := by decide +kernel
theorem dJ6_bitCount_0f7a4_34 : decode cJ6_bitCount_0f7a4 34 = .ok (.iload_n 0, 1) := by decide +kernel
theorem dJ6_bitCount_0f7a4_35 : decode cJ6_bitCount_0f7a4 35 = .ok (.iload_n 0, 1) := by decide +kernel
theorem dJ6_bitCount_0f7a4_36 : decode cJ6_bitCount_0f7a4 36 = .ok (.bipush 8, 2) := by decide +kernel
theorem dJ6_bitCount_0f7a4_38 : decode cJ6_bitCount_0f7a4 38 = .ok (.iushr, 1) := by decide +kernel
theorem dJ6_bitCount_0f7a4_39 : decode cJ6_bitCount_0f7a4 39 = .ok (.iadd, 1) := by decide +kernel
theorem dJ6_bitCount_0f7a4_40 : decode cJ6_bitCount_0f7a4 40 = .ok (.istore_n 0, 1) := by decide +kernel
theorem dJ6_bitCount_0f7a4_41 : decode cJ6_bitCount_0f7a4 41 = .ok (.iload_n 0, 1) := by decide +kernel
theorem dJ6_bitCount_0f7a4_42 : decode cJ6_bitCount_0f7a4 42 = .ok (.iload_n 0, 1) := by decide +kernel
theorem dJ6_bitCount_0f7a4_43 : decode cJ6_bitCount_0f7a4 43 = .ok (.bipush 16, 2) := by decide +kernel
theorem dJ6_bitCount_0f7a4_45 : decode cJ6_bitCount_0f7a4 45 = .ok (.iushr, 1) := by decide +kernel
theorem dJ6_bitCount_0f7a4_46 : decode cJ6_bitCount_0f7a4 46 = .ok (.iadd, 1) := by decide +kernel
theorem dJ6_bitCount_0f7a4_47 : decode cJ6_bitCount_0f7a4 47 = .ok (.istore_n 0, 1) := by decide +kernel
theorem dJ6_bitCount_0f7a4_48 : decode cJ6_bitCount_0f7a4 48 = .ok (.iload_n 0, 1) := by decide +kernel
theorem dJ6_bitCount_0f7a4_49 : decode cJ6_bitCount_0f7a4 49 = .ok (.bipush 63, 2) := by decide +kernel
theorem dJ6_bitCount_0f7a4_51 : decode cJ6_bitCount_0f7a4 51 = .ok (.iand, 1) := by decide +kernel
theorem dJ6_bitCount_0f7a4_52 : decode cJ6_bitCount_0f7a4 52 = .ok (.ireturn, 1) := by decide +kernel
theorem dX7_add_0 : decode cX7_add 0 = .ok (.aload_n 0, 1) := by decide +kernel
theorem dX7_add_1 : decode cX7_add 1 = .ok (.getfield 18, 3) := by decide +kernel
theorem dX7_add_4 : decode cX7_add 4 = .ok (.sipush 162, 3) := by decide +kernel
theorem dX7_add_7 : decode cX7_add 7 = .ok (.if_icmp .ge 33, 3) := by decide +kernel
theorem dX7_add_10 : decode cX7_add 10 = .ok (.aload_n 0, 1) := by decide +kernel
theorem dX7_add_11 : decode cX7_add 11 = .ok (.getfield 11, 3) := by decide +kernel
theorem dX7_add_14 : decode cX7_add 14 = .ok (.aload_n 0, 1) := by decide +kernel
theorem dX7_add_15 : decode cX7_add 15 = .ok (.getfield 18, 3) := by decide +kernel
theorem dX7_add_18 : decode cX7_add 18 = .ok (.iload_n 1, 1) := by decide +kernel
theorem dX7_add_19 : decode cX7_add 19 = .ok (.iastore, 1) := by decide +kernel
theorem dX7_add_20 : decode cX7_add 20 = .ok (.aload_n 0, 1) := by decide +kernel
theorem dX7_add_21 : decode cX7_add 21 = .ok (.getfield 15, 3) := by decide +kernel
theorem dX7_add_24 : decode cX7_add 24 = .ok (.aload_n 0, 1) := by decide +kernel
theorem dX7_add_25 : decode cX7_add 25 = .ok (.getfield 18, 3) := by decide +kernel
theorem dX7_add_28 : decode cX7_add 28 = .ok (.iload_n 2, 1) := by decide +kernel
theorem dX7_add_29 : decode cX7_add 29 = .ok (.iastore, 1) := by decide +kernel
theorem dX7_add_30 : decode cX7_add 30 = .ok (.aload_n 0, 1) := by decide +kernel
theorem dX7_add_31 : decode cX7_add 31 = .ok (.dup, 1) := by decide +kernel
theorem dX7_add_32 : decode cX7_add 32 = .ok (.getfield 18, 3) := by decide +kernel
theorem dX7_add_35 : decode cX7_add 35 = .ok (.iconst 1, 1) := by decide +kernel
theorem dX7_add_36 : decode cX7_add 36 = .ok (.iadd, 1) := by decide +kernel
theorem dX7_add_37 : decode cX7_add 37 = .ok (.putfield 18, 3) := by decide +kernel
theorem dX7_add_40 : decode cX7_add 40 = .ok (.return_, 1) := by decide +kernel
theorem dX4_open_0 : decode cX4_open 0 = .ok (.aload_n 0, 1) := by decide +kernel
theorem dX4_open_1 : decode cX4_open 1 = .ok (.aload_n 1, 1) := by decide +kernel
theorem dX4_open_2 : decode cX4_open 2 = .ok (.getfield 18, 3) := by decide +kernel
theorem dX4_open_5 : decode cX4_open 5 = .ok (.putfield 24, 3) := by decide +kernel
theorem dX4_open_8 : decode cX4_open 8 = .ok (.aload_n 0, 1) := by decide +kernel
theorem dX4_open_9 : decode cX4_open 9 = .ok (.aload_n 1, 1) := by decide +kernel
theorem dX4_open_10 : decode cX4_open 10 = .ok (.getfield 25, 3) := by decide +kernel
theorem dX4_open_13 : decode cX4_open 13 = .ok (.putfield 28, 3) := by decide +kernel
theorem dX4_open_16 : decode cX4_open 16 = .ok (.aload_n 0, 1) := by decide +kernel
theorem dX4_open_17 : decode cX4_open 17 = .ok (.iconst 0, 1) := by decide +kernel
theorem dX4_open_18 : decode cX4_open 18 = .ok (.putfield 29, 3) := by decide +kernel
theorem dX4_open_21 : decode cX4_open 21 = .ok (.aload_n 0, 1) := by decide +kernel
theorem dX4_open_22 : decode cX4_open 22 = .ok (.iconst 0, 1) := by decide +kernel
theorem dX4_open_23 : decode cX4_open 23 = .ok (.iconst 0, 1) := by decide +kernel
theorem dX4_open_24 : decode cX4_open 24 = .ok (.iconst 0, 1) := by decide +kernel
theorem dX4_open_25 : decode cX4_open 25 = .ok (.invokevirtual 32, 3) := by decide +kernel
theorem dX4_open_28 : decode cX4_open 28 = .ok (.return_, 1) := by decide +kernel
theorem dX4_pairFrom_0 : decode cX4_pairFrom 0 = .ok (.iload_n 1, 1) := by decide +kernel
theorem dX4_pairFrom_1 : decode cX4_pairFrom 1 = .ok (.aload_n 0, 1) := by decide +kernel
theorem dX4_pairFrom_2 : decode cX4_pairFrom 2 = .ok (.getfield 24, 3) := by decide +kernel
theorem dX4_pairFrom_5 : decode cX4_pairFrom 5 = .ok (.if_icmp .lt 33, 3) := by decide +kernel
theorem dX4_pairFrom_8 : decode cX4_pairFrom 8 = .ok (.aload_n 0, 1) := by decide +kernel
theorem dX4_pairFrom_9 : decode cX4_pairFrom 9 = .ok (.getfield 29, 3) := by decide +kernel
theorem dX4_pairFrom_12 : decode cX4_pairFrom 12 = .ok (.bipush 26, 2) := by decide +kernel
theorem dX4_pairFrom_14 : decode cX4_pairFrom 14 = .ok (.if_icmp .ge 23, 3) := by decide +kernel
theorem dX4_pairFrom_17 : decode cX4_pairFrom 17 = .ok (.aload_n 0, 1) := by decide +kernel
theorem dX4_pairFrom_18 : decode cX4_pairFrom 18 = .ok (.getfield 11, 3) := by decide +kernel
theorem dX4_pairFrom_21 : decode cX4_pairFrom 21 = .ok (.aload_n 0, 1) := by decide +kernel
theorem dX4_pairFrom_22 : decode cX4_pairFrom 22 = .ok (.getfield 29, 3) := by decide +kernel
theorem dX4_pairFrom_25 : decode cX4_pairFrom 25 = .ok (.iload_n 3, 1) := by decide +kernel
theorem dX4_pairFrom_26 : decode cX4_pairFrom 26 = .ok (.iastore, 1) := by decide +kernel
theorem dX4_pairFrom_27 : decode cX4_pairFrom 27 = .ok (.aload_n 0, 1) := by decide +kernel
theorem dX4_pairFrom_28 : decode cX4_pairFrom 28 = .ok (.dup, 1) := by decide +kernel
theorem dX4_pairFrom_29 : decode cX4_pairFrom 29 = .ok (.getfield 29, 3) := by decide +kernel
theorem dX4_pairFrom_32 : decode cX4_pairFrom 32 = .ok (.iconst 1, 1) := by decide +kernel
theorem dX4_pairFrom_33 : decode cX4_pairFrom 33 = .ok (.iadd, 1) := by decide +kernel
theorem dX4_pairFrom_34 : decode cX4_pairFrom 34 = .ok (.putfield 29, 3) := by decide +kernel
theorem dX4_pairFrom_37 : decode cX4_pairFrom 37 = .ok (.return_, 1) := by decide +kernel
theorem dX4_pairFrom_38 : decode cX4_pairFrom 38 = .ok (.iload_n 2, 1) := by decide +kernel
theorem dX4_pairFrom_39 : decode cX4_pairFrom 39 = .ok (.iload_n 1, 1) := by decide +kernel
theorem dX4_pairFrom_40 : decode cX4_pairFrom 40 = .ok (.ishr, 1) := by decide +kernel
theorem dX4_pairFrom_41 : decode cX4_pairFrom 41 = .ok (.iconst 1, 1) := by decide +kernel
theorem dX4_pairFrom_42 : decode cX4_pairFrom 42 = .ok (.iand, 1) := by decide +kernel
theorem dX4_pairFrom_43 : decode cX4_pairFrom 43 = .ok (.ifCond .eq 13, 3) := by decide +kernel
theorem dX4_pairFrom_46 : decode cX4_pairFrom 46 = .ok (.aload_n 0, 1) := by decide +kernel
theorem dX4_pairFrom_47 : decode cX4_pairFrom 47 = .ok (.iload_n 1, 1) := by decide +kernel
theorem dX4_pairFrom_48 : decode cX4_pairFrom 48 = .ok (.iconst 1, 1) := by decide +kernel
theorem dX4_pairFrom_49 : decode cX4_pairFrom 49 = .ok (.iadd, 1) := by decide +kernel
theorem dX4_pairFrom_50 : decode cX4_pairFrom 50 = .ok (.iload_n 2, 1) := by decide +kernel
theorem dX4_pairFrom_51 : decode cX4_pairFrom 51 = .ok (.iload_n 3, 1) := by decide +kernel
theorem dX4_pairFrom_52 : decode cX4_pairFrom 52 = .ok (.invokevirtual 32, 3) := by decide +kernel
theorem dX4_pairFrom_55 : decode cX4_pairFrom 55 = .ok (.return_, 1) := by decide +kernel
theorem dX4_pairFrom_56 : decode cX4_pairFrom 56 = .ok (.iload_n 1, 1) := by decide +kernel
theorem dX4_pairFrom_57 : decode cX4_pairFrom 57 = .ok (.iconst 1, 1) := by decide +kernel
theorem dX4_pairFrom_58 : decode cX4_pairFrom 58 = .ok (.iadd, 1) := by decide +kernel
theorem dX4_pairFrom_59 : decode cX4_pairFrom 59 = .ok (.istore 4, 2) := by decide +kernel
theorem dX4_pairFrom_61 : decode cX4_pairFrom 61 = .ok (.iload 4, 2) := by decide +kernel
theorem dX4_pairFrom_63 : decode cX4_pairFrom 63 = .ok (.aload_n 0, 1) := by decide +kernel
theorem dX4_pairFrom_64 : decode cX4_pairFrom 64 = .ok (.getfield 24, 3) := by decide +kernel
theorem dX4_pairFrom_67 : decode cX4_pairFrom 67 = .ok (.if_icmp .ge 46, 3) := by decide +kernel
theorem dX4_pairFrom_70 : decode cX4_pairFrom 70 = .ok (.iload_n 2, 1) := by decide +kernel
theorem dX4_pairFrom_71 : decode cX4_pairFrom 71 = .ok (.iload 4, 2) := by decide +kernel
theorem dX4_pairFrom_73 : decode cX4_pairFrom 73 = .ok (.ishr, 1) := by decide +kernel
theorem dX4_pairFrom_74 : decode cX4_pairFrom 74 = .ok (.iconst 1, 1) := by decide +kernel
theorem dX4_pairFrom_75 : decode cX4_pairFrom 75 = .ok (.iand, 1) := by decide +kernel
theorem dX4_pairFrom_76 : decode cX4_pairFrom 76 = .ok (.ifCond .ne 31, 3) := by decide +kernel
theorem dX4_pairFrom_79 : decode cX4_pairFrom 79 = .ok (.aload_n 0, 1) := by decide +kernel
theorem dX4_pairFrom_80 : decode cX4_pairFrom 80 = .ok (.iload_n 1, 1) := by decide +kernel
theorem dX4_pairFrom_81 : decode cX4_pairFrom 81 = .ok (.iconst 1, 1) := by decide +kernel
theorem dX4_pairFrom_82 : decode cX4_pairFrom 82 = .ok (.iadd, 1) := by decide +kernel
theorem dX4_pairFrom_83 : decode cX4_pairFrom 83 = .ok (.iload_n 2, 1) := by decide +kernel
theorem dX4_pairFrom_84 : decode cX4_pairFrom 84 = .ok (.iconst 1, 1) := by decide +kernel
theorem dX4_pairFrom_85 : decode cX4_pairFrom 85 = .ok (.iload 4, 2) := by decide +kernel
theorem dX4_pairFrom_87 : decode cX4_pairFrom 87 = .ok (.ishl, 1) := by decide +kernel
theorem dX4_pairFrom_88 : decode cX4_pairFrom 88 = .ok (.ior, 1) := by decide +kernel
theorem dX4_pairFrom_89 : decode cX4_pairFrom 89 = .ok (.iload_n 3, 1) := by decide +kernel
theorem dX4_pairFrom_90 : decode cX4_pairFrom 90 = .ok (.iload 4, 2) := by decide +kernel
theorem dX4_pairFrom_92 : decode cX4_pairFrom 92 = .ok (.iconst 4, 1) := by decide +kernel
theorem dX4_pairFrom_93 : decode cX4_pairFrom 93 = .ok (.iload_n 1, 1) := by decide +kernel
theorem dX4_pairFrom_94 : decode cX4_pairFrom 94 = .ok (.imul, 1) := by decide +kernel
theorem dX4_pairFrom_95 : decode cX4_pairFrom 95 = .ok (.ishl, 1) := by decide +kernel
theorem dX4_pairFrom_96 : decode cX4_pairFrom 96 = .ok (.ior, 1) := by decide +kernel
theorem dX4_pairFrom_97 : decode cX4_pairFrom 97 = .ok (.iload_n 1, 1) := by decide +kernel
theorem dX4_pairFrom_98 : decode cX4_pairFrom 98 = .ok (.iconst 4, 1) := by decide +kernel
theorem dX4_pairFrom_99 : decode cX4_pairFrom 99 = .ok (.iload 4, 2) := by decide +kernel
theorem dX4_pairFrom_101 : decode cX4_pairFrom 101 = .ok (.imul, 1) := by decide +kernel
theorem dX4_pairFrom_102 : decode cX4_pairFrom 102 = .ok (.ishl, 1) := by decide +kernel
theorem dX4_pairFrom_103 : decode cX4_pairFrom 103 = .ok (.ior, 1) := by decide +kernel
theorem dX4_pairFrom_104 : decode cX4_pairFrom 104 = .ok (.invokevirtual 32, 3) := by decide +kernel
theorem dX4_pairFrom_107 : decode cX4_pairFrom 107 = .ok (.iinc 4 1, 3) := by decide +kernel
theorem dX4_pairFrom_110 : decode cX4_pairFrom 110 = .ok (.goto (-49), 3) := by decide +kernel
theorem dX4_pairFrom_113 : decode cX4_pairFrom 113 = .ok (.aload_n 0, 1) := by decide +kernel
theorem dX4_pairFrom_114 : decode cX4_pairFrom 114 = .ok (.iload_n 1, 1) := by decide +kernel
theorem dX4_pairFrom_115 : decode cX4_pairFrom 115 = .ok (.iconst 1, 1) := by decide +kernel
theorem dX4_pairFrom_116 : decode cX4_pairFrom 116 = .ok (.iadd, 1) := by decide +kernel
theorem dX4_pairFrom_117 : decode cX4_pairFrom 117 = .ok (.iload_n 2, 1) := by decide +kernel
theorem dX4_pairFrom_118 : decode cX4_pairFrom 118 = .ok (.iload_n 3, 1) := by decide +kernel
theorem dX4_pairFrom_119 : decode cX4_pairFrom 119 = .ok (.bipush 15, 2) := by decide +kernel
theorem dX4_pairFrom_121 : decode cX4_pairFrom 121 = .ok (.iconst 4, 1) := by decide +kernel
theorem dX4_pairFrom_122 : decode cX4_pairFrom 122 = .ok (.iload_n 1, 1) := by decide +kernel
theorem dX4_pairFrom_123 : decode cX4_pairFrom 123 = .ok (.imul, 1) := by decide +kernel
theorem dX4_pairFrom_124 : decode cX4_pairFrom 124 = .ok (.ishl, 1) := by decide +kernel
theorem dX4_pairFrom_125 : decode cX4_pairFrom 125 = .ok (.ior, 1) := by decide +kernel
theorem dX4_pairFrom_126 : decode cX4_pairFrom 126 = .ok (.invokevirtual 32, 3) := by decide +kernel
theorem dX4_pairFrom_129 : decode cX4_pairFrom 129 = .ok (.return_, 1) := by decide +kernel
theorem dX9_make_0 : decode cX9_make 0 = .ok (.aload_n 0, 1) := by decide +kernel
theorem dX9_make_1 : decode cX9_make 1 = .ok (.bipush (-2), 2) := by decide +kernel
theorem dX9_make_3 : decode cX9_make 3 = .ok (.putfield 21, 3) := by decide +kernel
theorem dX9_make_6 : decode cX9_make 6 = .ok (.aload_n 0, 1) := by decide +kernel
theorem dX9_make_7 : decode cX9_make 7 = .ok (.iconst 0, 1) := by decide +kernel
theorem dX9_make_8 : decode cX9_make 8 = .ok (.putfield 25, 3) := by decide +kernel
theorem dX9_make_11 : decode cX9_make 11 = .ok (.aload_n 0, 1) := by decide +kernel
theorem dX9_make_12 : decode cX9_make 12 = .ok (.aload_n 1, 1) := by decide +kernel
theorem dX9_make_13 : decode cX9_make 13 = .ok (.iconst 0, 1) := by decide +kernel
theorem dX9_make_14 : decode cX9_make 14 = .ok (.iconst 0, 1) := by decide +kernel
theorem dX9_make_15 : decode cX9_make 15 = .ok (.iconst (-1), 1) := by decide +kernel
theorem dX9_make_16 : decode cX9_make 16 = .ok (.iconst 0, 1) := by decide +kernel
theorem dX9_make_17 : decode cX9_make 17 = .ok (.invokevirtual 28, 3) := by decide +kernel
theorem dX9_make_20 : decode cX9_make 20 = .ok (.iconst (-1), 1) := by decide +kernel
theorem dX9_make_21 : decode cX9_make 21 = .ok (.istore_n 2, 1) := by decide +kernel
theorem dX9_make_22 : decode cX9_make 22 = .ok (.iconst 0, 1) := by decide +kernel
theorem dX9_make_23 : decode cX9_make 23 = .ok (.istore_n 3, 1) := by decide +kernel
theorem dX9_make_24 : decode cX9_make 24 = .ok (.iload_n 3, 1) := by decide +kernel
theorem dX9_make_25 : decode cX9_make 25 = .ok (.aload_n 1, 1) := by decide +kernel
theorem dX9_make_26 : decode cX9_make 26 = .ok (.getfield 32, 3) := by decide +kernel
theorem dX9_make_29 : decode cX9_make 29 = .ok (.if_icmp .ge 46, 3) := by decide +kernel
theorem dX9_make_32 : decode cX9_make 32 = .ok (.aload_n 0, 1) := by decide +kernel
theorem dX9_make_33 : decode cX9_make 33 = .ok (.getfield 25, 3) := by decide +kernel
theorem dX9_make_36 : decode cX9_make 36 = .ok (.ifCond .le 39, 3) := by decide +kernel
theorem dX9_make_39 : decode cX9_make 39 = .ok (.iload_n 2, 1) := by decide +kernel
theorem dX9_make_40 : decode cX9_make 40 = .ok (.iconst 1, 1) := by decide +kernel
theorem dX9_make_41 : decode cX9_make 41 = .ok (.iadd, 1) := by decide +kernel
theorem dX9_make_42 : decode cX9_make 42 = .ok (.aload_n 1, 1) := by decide +kernel
theorem dX9_make_43 : decode cX9_make 43 = .ok (.getfield 37, 3) := by decide +kernel
theorem dX9_make_46 : decode cX9_make 46 = .ok (.aload_n 0, 1) := by decide +kernel
theorem dX9_make_47 : decode cX9_make 47 = .ok (.getfield 9, 3) := by decide +kernel
theorem dX9_make_50 : decode cX9_make 50 = .ok (.iload_n 3, 1) := by decide +kernel
theorem dX9_make_51 : decode cX9_make 51 = .ok (.iaload, 1) := by decide +kernel
theorem dX9_make_52 : decode cX9_make 52 = .ok (.iaload, 1) := by decide +kernel
theorem dX9_make_53 : decode cX9_make 53 = .ok (.invokestatic 40, 3) := by decide +kernel
theorem dX9_make_56 : decode cX9_make 56 = .ok (.istore_n 2, 1) := by decide +kernel
theorem dX9_make_57 : decode cX9_make 57 = .ok (.aload_n 0, 1) := by decide +kernel
theorem dX9_make_58 : decode cX9_make 58 = .ok (.getfield 15, 3) := by decide +kernel
theorem dX9_make_61 : decode cX9_make 61 = .ok (.aload_n 0, 1) := by decide +kernel
theorem dX9_make_62 : decode cX9_make 62 = .ok (.getfield 9, 3) := by decide +kernel
theorem dX9_make_65 : decode cX9_make 65 = .ok (.iload_n 3, 1) := by decide +kernel
theorem dX9_make_66 : decode cX9_make 66 = .ok (.iaload, 1) := by decide +kernel
theorem dX9_make_67 : decode cX9_make 67 = .ok (.iload_n 2, 1) := by decide +kernel
theorem dX9_make_68 : decode cX9_make 68 = .ok (.iastore, 1) := by decide +kernel
theorem dX9_make_69 : decode cX9_make 69 = .ok (.iinc 3 1, 3) := by decide +kernel
theorem dX9_make_72 : decode cX9_make 72 = .ok (.goto (-48), 3) := by decide +kernel
theorem dX9_make_75 : decode cX9_make 75 = .ok (.return_, 1) := by decide +kernel
theorem dX9_visitFrom_0 : decode cX9_visitFrom 0 = .ok (.iload_n 2, 1) := by decide +kernel
theorem dX9_visitFrom_1 : decode cX9_visitFrom 1 = .ok (.aload_n 1, 1) := by decide +kernel
theorem dX9_visitFrom_2 : decode cX9_visitFrom 2 = .ok (.getfield 32, 3) := by decide +kernel
theorem dX9_visitFrom_5 : decode cX9_visitFrom 5 = .ok (.if_icmp .lt 14, 3) := by decide +kernel
theorem dX9_visitFrom_8 : decode cX9_visitFrom 8 = .ok (.aload_n 0, 1) := by decide +kernel
theorem dX9_visitFrom_9 : decode cX9_visitFrom 9 = .ok (.aload_n 1, 1) := by decide +kernel
theorem dX9_visitFrom_10 : decode cX9_visitFrom 10 = .ok (.getfield 32, 3) := by decide +kernel
theorem dX9_visitFrom_13 : decode cX9_visitFrom 13 = .ok (.iload 5, 2) := by decide +kernel
theorem dX9_visitFrom_15 : decode cX9_visitFrom 15 = .ok (.invokevirtual 46, 3) := by decide +kernel
theorem dX9_visitFrom_18 : decode cX9_visitFrom 18 = .ok (.return_, 1) := by decide +kernel
theorem dX9_visitFrom_19 : decode cX9_visitFrom 19 = .ok (.iconst 0, 1) := by decide +kernel
theorem dX9_visitFrom_20 : decode cX9_visitFrom 20 = .ok (.istore 6, 2) := by decide +kernel
theorem dX9_visitFrom_22 : decode cX9_visitFrom 22 = .ok (.iload 6, 2) := by decide +kernel
theorem dX9_visitFrom_24 : decode cX9_visitFrom 24 = .ok (.aload_n 1, 1) := by decide +kernel
theorem dX9_visitFrom_25 : decode cX9_visitFrom 25 = .ok (.getfield 32, 3) := by decide +kernel
theorem dX9_visitFrom_28 : decode cX9_visitFrom 28 = .ok (.if_icmp .ge 109, 3) := by decide +kernel
theorem dX9_visitFrom_31 : decode cX9_visitFrom 31 = .ok (.iload 4, 2) := by decide +kernel
theorem dX9_visitFrom_33 : decode cX9_visitFrom 33 = .ok (.iconst 1, 1) := by decide +kernel
theorem dX9_visitFrom_34 : decode cX9_visitFrom 34 = .ok (.iadd, 1) := by decide +kernel
theorem dX9_visitFrom_35 : decode cX9_visitFrom 35 = .ok (.aload_n 1, 1) := by decide +kernel
theorem dX9_visitFrom_36 : decode cX9_visitFrom 36 = .ok (.getfield 37, 3) := by decide +kernel
theorem dX9_visitFrom_39 : decode cX9_visitFrom 39 = .ok (.iload 6, 2) := by decide +kernel
theorem dX9_visitFrom_41 : decode cX9_visitFrom 41 = .ok (.iaload, 1) := by decide +kernel
theorem dX9_visitFrom_42 : decode cX9_visitFrom 42 = .ok (.invokestatic 40, 3) := by decide +kernel
theorem dX9_visitFrom_45 : decode cX9_visitFrom 45 = .ok (.istore 7, 2) := by decide +kernel
theorem dX9_visitFrom_47 : decode cX9_visitFrom 47 = .ok (.iload_n 3, 1) := by decide +kernel
theorem dX9_visitFrom_48 : decode cX9_visitFrom 48 = .ok (.iload 6, 2) := by decide +kernel
theorem dX9_visitFrom_50 : decode cX9_visitFrom 50 = .ok (.ishr, 1) := by decide +kernel
theorem dX9_visitFrom_51 : decode cX9_visitFrom 51 = .ok (.iconst 1, 1) := by decide +kernel
theorem dX9_visitFrom_52 : decode cX9_visitFrom 52 = .ok (.iand, 1) := by decide +kernel
theorem dX9_visitFrom_53 : decode cX9_visitFrom 53 = .ok (.ifCond .ne 78, 3) := by decide +kernel
theorem dX9_visitFrom_56 : decode cX9_visitFrom 56 = .ok (.iload 7, 2) := by decide +kernel
theorem dX9_visitFrom_58 : decode cX9_visitFrom 58 = .ok (.aload_n 1, 1) := by decide +kernel
theorem dX9_visitFrom_59 : decode cX9_visitFrom 59 = .ok (.getfield 50, 3) := by decide +kernel
theorem dX9_visitFrom_62 : decode cX9_visitFrom 62 = .ok (.iload 6, 2) := by decide +kernel
theorem dX9_visitFrom_64 : decode cX9_visitFrom 64 = .ok (.iaload, 1) := by decide +kernel
theorem dX9_visitFrom_65 : decode cX9_visitFrom 65 = .ok (.if_icmp .gt 66, 3) := by decide +kernel
theorem dX9_visitFrom_68 : decode cX9_visitFrom 68 = .ok (.iload_n 2, 1) := by decide +kernel
theorem dX9_visitFrom_69 : decode cX9_visitFrom 69 = .ok (.ifCond .ne 7, 3) := by decide +kernel
theorem dX9_visitFrom_72 : decode cX9_visitFrom 72 = .ok (.iconst 0, 1) := by decide +kernel
theorem dX9_visitFrom_73 : decode cX9_visitFrom 73 = .ok (.goto 27, 3) := by decide +kernel
theorem dX9_visitFrom_76 : decode cX9_visitFrom 76 = .ok (.aload_n 1, 1) := by decide +kernel
theorem dX9_visitFrom_77 : decode cX9_visitFrom 77 = .ok (.getfield 53, 3) := by decide +kernel
theorem dX9_visitFrom_80 : decode cX9_visitFrom 80 = .ok (.iload 6, 2) := by decide +kernel
theorem dX9_visitFrom_82 : decode cX9_visitFrom 82 = .ok (.iaload, 1) := by decide +kernel
theorem dX9_visitFrom_83 : decode cX9_visitFrom 83 = .ok (.aload_n 1, 1) := by decide +kernel
theorem dX9_visitFrom_84 : decode cX9_visitFrom 84 = .ok (.getfield 53, 3) := by decide +kernel
theorem dX9_visitFrom_87 : decode cX9_visitFrom 87 = .ok (.aload_n 0, 1) := by decide +kernel
theorem dX9_visitFrom_88 : decode cX9_visitFrom 88 = .ok (.getfield 18, 3) := by decide +kernel
theorem dX9_visitFrom_91 : decode cX9_visitFrom 91 = .ok (.iload_n 2, 1) := by decide +kernel
theorem dX9_visitFrom_92 : decode cX9_visitFrom 92 = .ok (.iconst 1, 1) := by decide +kernel
theorem dX9_visitFrom_93 : decode cX9_visitFrom 93 = .ok (.isub, 1) := by decide +kernel
theorem dX9_visitFrom_94 : decode cX9_visitFrom 94 = .ok (.iaload, 1) := by decide +kernel
theorem dX9_visitFrom_95 : decode cX9_visitFrom 95 = .ok (.iaload, 1) := by decide +kernel
theorem dX9_visitFrom_96 : decode cX9_visitFrom 96 = .ok (.isub, 1) := by decide +kernel
theorem dX9_visitFrom_97 : decode cX9_visitFrom 97 = .ok (.invokestatic 56, 3) := by decide +kernel
theorem dX9_visitFrom_100 : decode cX9_visitFrom 100 = .ok (.istore 8, 2) := by decide +kernel
theorem dX9_visitFrom_102 : decode cX9_visitFrom 102 = .ok (.aload_n 0, 1) := by decide +kernel
theorem dX9_visitFrom_103 : decode cX9_visitFrom 103 = .ok (.getfield 18, 3) := by decide +kernel
theorem dX9_visitFrom_106 : decode cX9_visitFrom 106 = .ok (.iload_n 2, 1) := by decide +kernel
theorem dX9_visitFrom_107 : decode cX9_visitFrom 107 = .ok (.iload 6, 2) := by decide +kernel
theorem dX9_visitFrom_109 : decode cX9_visitFrom 109 = .ok (.iastore, 1) := by decide +kernel
theorem dX9_visitFrom_110 : decode cX9_visitFrom 110 = .ok (.aload_n 0, 1) := by decide +kernel
theorem dX9_visitFrom_111 : decode cX9_visitFrom 111 = .ok (.aload_n 1, 1) := by decide +kernel
theorem dX9_visitFrom_112 : decode cX9_visitFrom 112 = .ok (.iload_n 2, 1) := by decide +kernel
theorem dX9_visitFrom_113 : decode cX9_visitFrom 113 = .ok (.iconst 1, 1) := by decide +kernel
theorem dX9_visitFrom_114 : decode cX9_visitFrom 114 = .ok (.iadd, 1) := by decide +kernel
theorem dX9_visitFrom_115 : decode cX9_visitFrom 115 = .ok (.iload_n 3, 1) := by decide +kernel
theorem dX9_visitFrom_116 : decode cX9_visitFrom 116 = .ok (.iconst 1, 1) := by decide +kernel
theorem dX9_visitFrom_117 : decode cX9_visitFrom 117 = .ok (.iload 6, 2) := by decide +kernel
theorem dX9_visitFrom_119 : decode cX9_visitFrom 119 = .ok (.ishl, 1) := by decide +kernel
theorem dX9_visitFrom_120 : decode cX9_visitFrom 120 = .ok (.ior, 1) := by decide +kernel
theorem dX9_visitFrom_121 : decode cX9_visitFrom 121 = .ok (.iload 7, 2) := by decide +kernel
theorem dX9_visitFrom_123 : decode cX9_visitFrom 123 = .ok (.iload 5, 2) := by decide +kernel
theorem dX9_visitFrom_125 : decode cX9_visitFrom 125 = .ok (.iload 8, 2) := by decide +kernel
theorem dX9_visitFrom_127 : decode cX9_visitFrom 127 = .ok (.iadd, 1) := by decide +kernel
theorem dX9_visitFrom_128 : decode cX9_visitFrom 128 = .ok (.invokevirtual 28, 3) := by decide +kernel
theorem dX9_visitFrom_131 : decode cX9_visitFrom 131 = .ok (.iinc 6 1, 3) := by decide +kernel
theorem dX9_visitFrom_134 : decode cX9_visitFrom 134 = .ok (.goto (-112), 3) := by decide +kernel
theorem dX9_visitFrom_137 : decode cX9_visitFrom 137 = .ok (.return_, 1) := by decide +kernel
theorem dX9_keepOrder_0 : decode cX9_keepOrder 0 = .ok (.aload_n 0, 1) := by decide +kernel
theorem dX9_keepOrder_1 : decode cX9_keepOrder 1 = .ok (.getfield 25, 3) := by decide +kernel
theorem dX9_keepOrder_4 : decode cX9_keepOrder 4 = .ok (.ifCond .eq 11, 3) := by decide +kernel
theorem dX9_keepOrder_7 : decode cX9_keepOrder 7 = .ok (.iload_n 2, 1) := by decide +kernel
theorem dX9_keepOrder_8 : decode cX9_keepOrder 8 = .ok (.aload_n 0, 1) := by decide +kernel
theorem dX9_keepOrder_9 : decode cX9_keepOrder 9 = .ok (.getfield 21, 3) := by decide +kernel
theorem dX9_keepOrder_12 : decode cX9_keepOrder 12 = .ok (.if_icmp .ge 33, 3) := by decide +kernel
theorem dX9_keepOrder_15 : decode cX9_keepOrder 15 = .ok (.aload_n 0, 1) := by decide +kernel
theorem dX9_keepOrder_16 : decode cX9_keepOrder 16 = .ok (.iload_n 2, 1) := by decide +kernel
theorem dX9_keepOrder_17 : decode cX9_keepOrder 17 = .ok (.putfield 21, 3) := by decide +kernel
theorem dX9_keepOrder_20 : decode cX9_keepOrder 20 = .ok (.iconst 0, 1) := by decide +kernel
theorem dX9_keepOrder_21 : decode cX9_keepOrder 21 = .ok (.istore_n 3, 1) := by decide +kernel
theorem dX9_keepOrder_22 : decode cX9_keepOrder 22 = .ok (.iload_n 3, 1) := by decide +kernel
theorem dX9_keepOrder_23 : decode cX9_keepOrder 23 = .ok (.iload_n 1, 1) := by decide +kernel
theorem dX9_keepOrder_24 : decode cX9_keepOrder 24 = .ok (.if_icmp .ge 21, 3) := by decide +kernel
theorem dX9_keepOrder_27 : decode cX9_keepOrder 27 = .ok (.aload_n 0, 1) := by decide +kernel
theorem dX9_keepOrder_28 : decode cX9_keepOrder 28 = .ok (.getfield 9, 3) := by decide +kernel
theorem dX9_keepOrder_31 : decode cX9_keepOrder 31 = .ok (.iload_n 3, 1) := by decide +kernel
theorem dX9_keepOrder_32 : decode cX9_keepOrder 32 = .ok (.aload_n 0, 1) := by decide +kernel
theorem dX9_keepOrder_33 : decode cX9_keepOrder 33 = .ok (.getfield 18, 3) := by decide +kernel
theorem dX9_keepOrder_36 : decode cX9_keepOrder 36 = .ok (.iload_n 3, 1) := by decide +kernel
theorem dX9_keepOrder_37 : decode cX9_keepOrder 37 = .ok (.iaload, 1) := by decide +kernel
theorem dX9_keepOrder_38 : decode cX9_keepOrder 38 = .ok (.iastore, 1) := by decide +kernel
theorem dX9_keepOrder_39 : decode cX9_keepOrder 39 = .ok (.iinc 3 1, 3) := by decide +kernel
theorem dX9_keepOrder_42 : decode cX9_keepOrder 42 = .ok (.goto (-20), 3) := by decide +kernel
theorem dX9_keepOrder_45 : decode cX9_keepOrder 45 = .ok (.aload_n 0, 1) := by decide +kernel
theorem dX9_keepOrder_46 : decode cX9_keepOrder 46 = .ok (.dup, 1) := by decide +kernel
theorem dX9_keepOrder_47 : decode cX9_keepOrder 47 = .ok (.getfield 25, 3) := by decide +kernel
theorem dX9_keepOrder_50 : decode cX9_keepOrder 50 = .ok (.iconst 1, 1) := by decide +kernel
theorem dX9_keepOrder_51 : decode cX9_keepOrder 51 = .ok (.iadd, 1) := by decide +kernel
theorem dX9_keepOrder_52 : decode cX9_keepOrder 52 = .ok (.putfield 25, 3) := by decide +kernel
theorem dX9_keepOrder_55 : decode cX9_keepOrder 55 = .ok (.return_, 1) := by decide +kernel
theorem dX6_compare_0 : decode cX6_compare 0 = .ok (.aload_n 0, 1) := by decide +kernel
theorem dX6_compare_1 : decode cX6_compare 1 = .ok (.bipush (-2), 2) := by decide +kernel
theorem dX6_compare_3 : decode cX6_compare 3 = .ok (.putfield 15, 3) := by decide +kernel
theorem dX6_compare_6 : decode cX6_compare 6 = .ok (.aload_n 0, 1) := by decide +kernel
theorem dX6_compare_7 : decode cX6_compare 7 = .ok (.iconst (-1), 1) := by decide +kernel
theorem dX6_compare_8 : decode cX6_compare 8 = .ok (.putfield 19, 3) := by decide +kernel
theorem dX6_compare_11 : decode cX6_compare 11 = .ok (.aload_n 0, 1) := by decide +kernel
theorem dX6_compare_12 : decode cX6_compare 12 = .ok (.iconst 0, 1) := by decide +kernel
theorem dX6_compare_13 : decode cX6_compare 13 = .ok (.putfield 22, 3) := by decide +kernel
theorem dX6_compare_16 : decode cX6_compare 16 = .ok (.iconst 0, 1) := by decide +kernel
theorem dX6_compare_17 : decode cX6_compare 17 = .ok (.istore_n 3, 1) := by decide +kernel
theorem dX6_compare_18 : decode cX6_compare 18 = .ok (.iload_n 3, 1) := by decide +kernel
theorem dX6_compare_19 : decode cX6_compare 19 = .ok (.aload_n 2, 1) := by decide +kernel
theorem dX6_compare_20 : decode cX6_compare 20 = .ok (.getfield 25, 3) := by decide +kernel
theorem dX6_compare_23 : decode cX6_compare 23 = .ok (.if_icmp .ge 77, 3) := by decide +kernel
theorem dX6_compare_26 : decode cX6_compare 26 = .ok (.aload_n 1, 1) := by decide +kernel
theorem dX6_compare_27 : decode cX6_compare 27 = .ok (.getfield 30, 3) := by decide +kernel
theorem dX6_compare_30 : decode cX6_compare 30 = .ok (.ifCond .le 70, 3) := by decide +kernel
theorem dX6_compare_33 : decode cX6_compare 33 = .ok (.aload_n 0, 1) := by decide +kernel
theorem dX6_compare_34 : decode cX6_compare 34 = .ok (.aload_n 1, 1) := by decide +kernel
theorem dX6_compare_35 : decode cX6_compare 35 = .ok (.aload_n 2, 1) := by decide +kernel
theorem dX6_compare_36 : decode cX6_compare 36 = .ok (.iload_n 3, 1) := by decide +kernel
theorem dX6_compare_37 : decode cX6_compare 37 = .ok (.invokevirtual 35, 3) := by decide +kernel
theorem dX6_compare_40 : decode cX6_compare 40 = .ok (.istore 4, 2) := by decide +kernel
theorem dX6_compare_42 : decode cX6_compare 42 = .ok (.aload_n 0, 1) := by decide +kernel
theorem dX6_compare_43 : decode cX6_compare 43 = .ok (.getfield 19, 3) := by decide +kernel
theorem dX6_compare_46 : decode cX6_compare 46 = .ok (.iconst (-1), 1) := by decide +kernel
theorem dX6_compare_47 : decode cX6_compare 47 = .ok (.if_icmp .eq 12, 3) := by decide +kernel
theorem dX6_compare_50 : decode cX6_compare 50 = .ok (.iload 4, 2) := by decide +kernel
theorem dX6_compare_52 : decode cX6_compare 52 = .ok (.aload_n 0, 1) := by decide +kernel
theorem dX6_compare_53 : decode cX6_compare 53 = .ok (.getfield 15, 3) := by decide +kernel
theorem dX6_compare_56 : decode cX6_compare 56 = .ok (.if_icmp .ge 19, 3) := by decide +kernel
theorem dX6_compare_59 : decode cX6_compare 59 = .ok (.aload_n 0, 1) := by decide +kernel
theorem dX6_compare_60 : decode cX6_compare 60 = .ok (.iload 4, 2) := by decide +kernel
theorem dX6_compare_62 : decode cX6_compare 62 = .ok (.putfield 15, 3) := by decide +kernel
theorem dX6_compare_65 : decode cX6_compare 65 = .ok (.aload_n 0, 1) := by decide +kernel
theorem dX6_compare_66 : decode cX6_compare 66 = .ok (.iload_n 3, 1) := by decide +kernel
theorem dX6_compare_67 : decode cX6_compare 67 = .ok (.putfield 19, 3) := by decide +kernel
theorem dX6_compare_70 : decode cX6_compare 70 = .ok (.aload_n 0, 1) := by decide +kernel
theorem dX6_compare_71 : decode cX6_compare 71 = .ok (.iconst 0, 1) := by decide +kernel
theorem dX6_compare_72 : decode cX6_compare 72 = .ok (.putfield 22, 3) := by decide +kernel
theorem dX6_compare_75 : decode cX6_compare 75 = .ok (.iload 4, 2) := by decide +kernel
theorem dX6_compare_77 : decode cX6_compare 77 = .ok (.aload_n 0, 1) := by decide +kernel
theorem dX6_compare_78 : decode cX6_compare 78 = .ok (.getfield 15, 3) := by decide +kernel
theorem dX6_compare_81 : decode cX6_compare 81 = .ok (.if_icmp .ne 13, 3) := by decide +kernel
theorem dX6_compare_84 : decode cX6_compare 84 = .ok (.aload_n 0, 1) := by decide +kernel
theorem dX6_compare_85 : decode cX6_compare 85 = .ok (.dup, 1) := by decide +kernel
theorem dX6_compare_86 : decode cX6_compare 86 = .ok (.getfield 22, 3) := by decide +kernel
theorem dX6_compare_89 : decode cX6_compare 89 = .ok (.iconst 1, 1) := by decide +kernel
theorem dX6_compare_90 : decode cX6_compare 90 = .ok (.iadd, 1) := by decide +kernel
theorem dX6_compare_91 : decode cX6_compare 91 = .ok (.putfield 22, 3) := by decide +kernel
theorem dX6_compare_94 : decode cX6_compare 94 = .ok (.iinc 3 1, 3) := by decide +kernel
theorem dX6_compare_97 : decode cX6_compare 97 = .ok (.goto (-79), 3) := by decide +kernel
theorem dX6_compare_100 : decode cX6_compare 100 = .ok (.return_, 1) := by decide +kernel
theorem dX6_between_0 : decode cX6_between 0 = .ok (.aload_n 2, 1) := by decide +kernel
theorem dX6_between_1 : decode cX6_between 1 = .ok (.iload_n 3, 1) := by decide +kernel
theorem dX6_between_2 : decode cX6_between 2 = .ok (.invokevirtual 39, 3) := by decide +kernel
theorem dX6_between_5 : decode cX6_between 5 = .ok (.bipush 8, 2) := by decide +kernel
theorem dX6_between_7 : decode cX6_between 7 = .ok (.invokestatic 43, 3) := by decide +kernel
theorem dX6_between_10 : decode cX6_between 10 = .ok (.istore 4, 2) := by decide +kernel
theorem dX6_between_12 : decode cX6_between 12 = .ok (.iconst 0, 1) := by decide +kernel
theorem dX6_between_13 : decode cX6_between 13 = .ok (.istore 5, 2) := by decide +kernel
theorem dX6_between_15 : decode cX6_between 15 = .ok (.iload 5, 2) := by decide +kernel
theorem dX6_between_17 : decode cX6_between 17 = .ok (.iload 4, 2) := by decide +kernel
theorem dX6_between_19 : decode cX6_between 19 = .ok (.if_icmp .gt 18, 3) := by decide +kernel
theorem dX6_between_22 : decode cX6_between 22 = .ok (.aload_n 0, 1) := by decide +kernel
theorem dX6_between_23 : decode cX6_between 23 = .ok (.getfield 9, 3) := by decide +kernel
theorem dX6_between_26 : decode cX6_between 26 = .ok (.iload 5, 2) := by decide +kernel
theorem dX6_between_28 : decode cX6_between 28 = .ok (.iload 5, 2) := by decide +kernel
theorem dX6_between_30 : decode cX6_between 30 = .ok (.iastore, 1) := by decide +kernel
theorem dX6_between_31 : decode cX6_between 31 = .ok (.iinc 5 1, 3) := by decide +kernel
theorem dX6_between_34 : decode cX6_between 34 = .ok (.goto (-19), 3) := by decide +kernel
theorem dX6_between_37 : decode cX6_between 37 = .ok (.iconst 0, 1) := by decide +kernel
theorem dX6_between_38 : decode cX6_between 38 = .ok (.istore 5, 2) := by decide +kernel
theorem dX6_between_40 : decode cX6_between 40 = .ok (.iload 5, 2) := by decide +kernel
theorem dX6_between_42 : decode cX6_between 42 = .ok (.aload_n 1, 1) := by decide +kernel
theorem dX6_between_43 : decode cX6_between 43 = .ok (.getfield 30, 3) := by decide +kernel
theorem dX6_between_46 : decode cX6_between 46 = .ok (.if_icmp .ge 117, 3) := by decide +kernel
theorem dX6_between_49 : decode cX6_between 49 = .ok (.aload_n 0, 1) := by decide +kernel
theorem dX6_between_50 : decode cX6_between 50 = .ok (.getfield 9, 3) := by decide +kernel
theorem dX6_between_53 : decode cX6_between 53 = .ok (.iconst 0, 1) := by decide +kernel
theorem dX6_between_54 : decode cX6_between 54 = .ok (.iaload, 1) := by decide +kernel
theorem dX6_between_55 : decode cX6_between 55 = .ok (.istore 6, 2) := by decide +kernel
theorem dX6_between_57 : decode cX6_between 57 = .ok (.aload_n 0, 1) := by decide +kernel
theorem dX6_between_58 : decode cX6_between 58 = .ok (.getfield 9, 3) := by decide +kernel
theorem dX6_between_61 : decode cX6_between 61 = .ok (.iconst 0, 1) := by decide +kernel
theorem dX6_between_62 : decode cX6_between 62 = .ok (.iload 5, 2) := by decide +kernel
theorem dX6_between_64 : decode cX6_between 64 = .ok (.iconst 1, 1) := by decide +kernel
theorem dX6_between_65 : decode cX6_between 65 = .ok (.iadd, 1) := by decide +kernel
theorem dX6_between_66 : decode cX6_between 66 = .ok (.iastore, 1) := by decide +kernel
theorem dX6_between_67 : decode cX6_between 67 = .ok (.iconst 1, 1) := by decide +kernel
theorem dX6_between_68 : decode cX6_between 68 = .ok (.istore 7, 2) := by decide +kernel
theorem dX6_between_70 : decode cX6_between 70 = .ok (.iload 7, 2) := by decide +kernel
theorem dX6_between_72 : decode cX6_between 72 = .ok (.iload 4, 2) := by decide +kernel
theorem dX6_between_74 : decode cX6_between 74 = .ok (.if_icmp .gt 83, 3) := by decide +kernel
theorem dX6_between_77 : decode cX6_between 77 = .ok (.aload_n 0, 1) := by decide +kernel
theorem dX6_between_78 : decode cX6_between 78 = .ok (.getfield 9, 3) := by decide +kernel
theorem dX6_between_81 : decode cX6_between 81 = .ok (.iload 7, 2) := by decide +kernel
theorem dX6_between_83 : decode cX6_between 83 = .ok (.iaload, 1) := by decide +kernel
theorem dX6_between_84 : decode cX6_between 84 = .ok (.istore 8, 2) := by decide +kernel
theorem dX6_between_86 : decode cX6_between 86 = .ok (.aload_n 1, 1) := by decide +kernel
theorem dX6_between_87 : decode cX6_between 87 = .ok (.getfield 49, 3) := by decide +kernel
theorem dX6_between_90 : decode cX6_between 90 = .ok (.iload 5, 2) := by decide +kernel
theorem dX6_between_92 : decode cX6_between 92 = .ok (.iaload, 1) := by decide +kernel
theorem dX6_between_93 : decode cX6_between 93 = .ok (.aload_n 2, 1) := by decide +kernel
theorem dX6_between_94 : decode cX6_between 94 = .ok (.iload_n 3, 1) := by decide +kernel
theorem dX6_between_95 : decode cX6_between 95 = .ok (.iload 7, 2) := by decide +kernel
theorem dX6_between_97 : decode cX6_between 97 = .ok (.iconst 1, 1) := by decide +kernel
theorem dX6_between_98 : decode cX6_between 98 = .ok (.isub, 1) := by decide +kernel
theorem dX6_between_99 : decode cX6_between 99 = .ok (.invokevirtual 52, 3) := by decide +kernel
theorem dX6_between_102 : decode cX6_between 102 = .ok (.if_icmp .ne 7, 3) := by decide +kernel
theorem dX6_between_105 : decode cX6_between 105 = .ok (.iconst 0, 1) := by decide +kernel
theorem dX6_between_106 : decode cX6_between 106 = .ok (.goto 4, 3) := by decide +kernel
theorem dX6_between_109 : decode cX6_between 109 = .ok (.iconst 1, 1) := by decide +kernel
theorem dX6_between_110 : decode cX6_between 110 = .ok (.istore 9, 2) := by decide +kernel
theorem dX6_between_112 : decode cX6_between 112 = .ok (.iconst 1, 1) := by decide +kernel
theorem dX6_between_113 : decode cX6_between 113 = .ok (.iload 8, 2) := by decide +kernel
theorem dX6_between_115 : decode cX6_between 115 = .ok (.aload_n 0, 1) := by decide +kernel
theorem dX6_between_116 : decode cX6_between 116 = .ok (.getfield 9, 3) := by decide +kernel
theorem dX6_between_119 : decode cX6_between 119 = .ok (.iload 7, 2) := by decide +kernel
theorem dX6_between_121 : decode cX6_between 121 = .ok (.iconst 1, 1) := by decide +kernel
theorem dX6_between_122 : decode cX6_between 122 = .ok (.isub, 1) := by decide +kernel
theorem dX6_between_123 : decode cX6_between 123 = .ok (.iaload, 1) := by decide +kernel
theorem dX6_between_124 : decode cX6_between 124 = .ok (.invokestatic 43, 3) := by decide +kernel
theorem dX6_between_127 : decode cX6_between 127 = .ok (.iadd, 1) := by decide +kernel
theorem dX6_between_128 : decode cX6_between 128 = .ok (.istore 10, 2) := by decide +kernel
theorem dX6_between_130 : decode cX6_between 130 = .ok (.aload_n 0, 1) := by decide +kernel
theorem dX6_between_131 : decode cX6_between 131 = .ok (.getfield 9, 3) := by decide +kernel
theorem dX6_between_134 : decode cX6_between 134 = .ok (.iload 7, 2) := by decide +kernel
theorem dX6_between_136 : decode cX6_between 136 = .ok (.iload 6, 2) := by decide +kernel
theorem dX6_between_138 : decode cX6_between 138 = .ok (.iload 9, 2) := by decide +kernel
theorem dX6_between_140 : decode cX6_between 140 = .ok (.iadd, 1) := by decide +kernel
theorem dX6_between_141 : decode cX6_between 141 = .ok (.iload 10, 2) := by decide +kernel
theorem dX6_between_143 : decode cX6_between 143 = .ok (.invokestatic 43, 3) := by decide +kernel
theorem dX6_between_146 : decode cX6_between 146 = .ok (.iastore, 1) := by decide +kernel
theorem dX6_between_147 : decode cX6_between 147 = .ok (.iload 8, 2) := by decide +kernel
theorem dX6_between_149 : decode cX6_between 149 = .ok (.istore 6, 2) := by decide +kernel
theorem dX6_between_151 : decode cX6_between 151 = .ok (.iinc 7 1, 3) := by decide +kernel
theorem dX6_between_154 : decode cX6_between 154 = .ok (.goto (-84), 3) := by decide +kernel
theorem dX6_between_157 : decode cX6_between 157 = .ok (.iinc 5 1, 3) := by decide +kernel
theorem dX6_between_160 : decode cX6_between 160 = .ok (.goto (-120), 3) := by decide +kernel
theorem dX6_between_163 : decode cX6_between 163 = .ok (.aload_n 0, 1) := by decide +kernel
theorem dX6_between_164 : decode cX6_between 164 = .ok (.getfield 9, 3) := by decide +kernel
theorem dX6_between_167 : decode cX6_between 167 = .ok (.iload 4, 2) := by decide +kernel
theorem dX6_between_169 : decode cX6_between 169 = .ok (.iaload, 1) := by decide +kernel
theorem dX6_between_170 : decode cX6_between 170 = .ok (.ireturn, 1) := by decide +kernel
theorem dX7_lengthOf_0 : decode cX7_lengthOf 0 = .ok (.aload_n 0, 1) := by decide +kernel
theorem dX7_lengthOf_1 : decode cX7_lengthOf 1 = .ok (.getfield 15, 3) := by decide +kernel
theorem dX7_lengthOf_4 : decode cX7_lengthOf 4 = .ok (.iload_n 1, 1) := by decide +kernel
theorem dX7_lengthOf_5 : decode cX7_lengthOf 5 = .ok (.iaload, 1) := by decide +kernel
theorem dX7_lengthOf_6 : decode cX7_lengthOf 6 = .ok (.invokestatic 37, 3) := by decide +kernel
theorem dX7_lengthOf_9 : decode cX7_lengthOf 9 = .ok (.ireturn, 1) := by decide +kernel
theorem dX7_pieceAt_0 : decode cX7_pieceAt 0 = .ok (.aload_n 0, 1) := by decide +kernel
theorem dX7_pieceAt_1 : decode cX7_pieceAt 1 = .ok (.getfield 11, 3) := by decide +kernel
theorem dX7_pieceAt_4 : decode cX7_pieceAt 4 = .ok (.iload_n 1, 1) := by decide +kernel
theorem dX7_pieceAt_5 : decode cX7_pieceAt 5 = .ok (.iaload, 1) := by decide +kernel
theorem dX7_pieceAt_6 : decode cX7_pieceAt 6 = .ok (.istore_n 3, 1) := by decide +kernel
theorem dX7_pieceAt_7 : decode cX7_pieceAt 7 = .ok (.aload_n 0, 1) := by decide +kernel
theorem dX7_pieceAt_8 : decode cX7_pieceAt 8 = .ok (.iload_n 1, 1) := by decide +kernel
theorem dX7_pieceAt_9 : decode cX7_pieceAt 9 = .ok (.invokevirtual 51, 3) := by decide +kernel
theorem dX7_pieceAt_12 : decode cX7_pieceAt 12 = .ok (.iconst 1, 1) := by decide +kernel
theorem dX7_pieceAt_13 : decode cX7_pieceAt 13 = .ok (.isub, 1) := by decide +kernel
theorem dX7_pieceAt_14 : decode cX7_pieceAt 14 = .ok (.istore 4, 2) := by decide +kernel
theorem dX7_pieceAt_16 : decode cX7_pieceAt 16 = .ok (.iload 4, 2) := by decide +kernel
theorem dX7_pieceAt_18 : decode cX7_pieceAt 18 = .ok (.iload_n 2, 1) := by decide +kernel
theorem dX7_pieceAt_19 : decode cX7_pieceAt 19 = .ok (.if_icmp .le 14, 3) := by decide +kernel
theorem dX7_pieceAt_22 : decode cX7_pieceAt 22 = .ok (.iload_n 3, 1) := by decide +kernel
theorem dX7_pieceAt_23 : decode cX7_pieceAt 23 = .ok (.bipush 10, 2) := by decide +kernel
theorem dX7_pieceAt_25 : decode cX7_pieceAt 25 = .ok (.idiv, 1) := by decide +kernel
theorem dX7_pieceAt_26 : decode cX7_pieceAt 26 = .ok (.istore_n 3, 1) := by decide +kernel
theorem dX7_pieceAt_27 : decode cX7_pieceAt 27 = .ok (.iinc 4 (-1), 3) := by decide +kernel
theorem dX7_pieceAt_30 : decode cX7_pieceAt 30 = .ok (.goto (-14), 3) := by decide +kernel
theorem dX7_pieceAt_33 : decode cX7_pieceAt 33 = .ok (.iload_n 3, 1) := by decide +kernel
theorem dX7_pieceAt_34 : decode cX7_pieceAt 34 = .ok (.bipush 10, 2) := by decide +kernel
theorem dX7_pieceAt_36 : decode cX7_pieceAt 36 = .ok (.irem, 1) := by decide +kernel
theorem dX7_pieceAt_37 : decode cX7_pieceAt 37 = .ok (.iconst 1, 1) := by decide +kernel
theorem dX7_pieceAt_38 : decode cX7_pieceAt 38 = .ok (.isub, 1) := by decide +kernel
theorem dX7_pieceAt_39 : decode cX7_pieceAt 39 = .ok (.ireturn, 1) := by decide +kernel
theorem dX3_begin_0 : decode cX3_begin 0 = .ok (.aload_n 0, 1) := by decide +kernel
theorem dX3_begin_1 : decode cX3_begin 1 = .ok (.aload_n 1, 1) := by decide +kernel
theorem dX3_begin_2 : decode cX3_begin 2 = .ok (.getfield 18, 3) := by decide +kernel
theorem dX3_begin_5 : decode cX3_begin 5 = .ok (.putfield 24, 3) := by decide +kernel
theorem dX3_begin_8 : decode cX3_begin 8 = .ok (.aload_n 0, 1) := by decide +kernel
theorem dX3_begin_9 : decode cX3_begin 9 = .ok (.lconst 0, 1) := by decide +kernel
theorem dX3_begin_10 : decode cX3_begin 10 = .ok (.putfield 25, 3) := by decide +kernel
theorem dX3_begin_13 : decode cX3_begin 13 = .ok (.iconst 0, 1) := by decide +kernel
theorem dX3_begin_14 : decode cX3_begin 14 = .ok (.istore_n 2, 1) := by decide +kernel
theorem dX3_begin_15 : decode cX3_begin 15 = .ok (.iload_n 2, 1) := by decide +kernel
theorem dX3_begin_16 : decode cX3_begin 16 = .ok (.aload_n 0, 1) := by decide +kernel
theorem dX3_begin_17 : decode cX3_begin 17 = .ok (.getfield 24, 3) := by decide +kernel
theorem dX3_begin_20 : decode cX3_begin 20 = .ok (.if_icmp .ge 27, 3) := by decide +kernel
theorem dX3_begin_23 : decode cX3_begin 23 = .ok (.aload_n 0, 1) := by decide +kernel
theorem dX3_begin_24 : decode cX3_begin 24 = .ok (.aload_n 0, 1) := by decide +kernel
theorem dX3_begin_25 : decode cX3_begin 25 = .ok (.getfield 25, 3) := by decide +kernel
theorem dX3_begin_28 : decode cX3_begin 28 = .ok (.iload_n 2, 1) := by decide +kernel
theorem dX3_begin_29 : decode cX3_begin 29 = .ok (.aload_n 1, 1) := by decide +kernel
theorem dX3_begin_30 : decode cX3_begin 30 = .ok (.getfield 29, 3) := by decide +kernel
theorem dX3_begin_33 : decode cX3_begin 33 = .ok (.iload_n 2, 1) := by decide +kernel
theorem dX3_begin_34 : decode cX3_begin 34 = .ok (.iaload, 1) := by decide +kernel
theorem dX3_begin_35 : decode cX3_begin 35 = .ok (.invokestatic 33, 3) := by decide +kernel
theorem dX3_begin_38 : decode cX3_begin 38 = .ok (.putfield 25, 3) := by decide +kernel
theorem dX3_begin_41 : decode cX3_begin 41 = .ok (.iinc 2 1, 3) := by decide +kernel
theorem dX3_begin_44 : decode cX3_begin 44 = .ok (.goto (-29), 3) := by decide +kernel
theorem dX3_begin_47 : decode cX3_begin 47 = .ok (.aload_n 0, 1) := by decide +kernel
theorem dX3_begin_48 : decode cX3_begin 48 = .ok (.iconst 0, 1) := by decide +kernel
theorem dX3_begin_49 : decode cX3_begin 49 = .ok (.putfield 37, 3) := by decide +kernel
theorem dX3_begin_52 : decode cX3_begin 52 = .ok (.aload_n 0, 1) := by decide +kernel
theorem dX3_begin_53 : decode cX3_begin 53 = .ok (.iconst 0, 1) := by decide +kernel
theorem dX3_begin_54 : decode cX3_begin 54 = .ok (.putfield 40, 3) := by decide +kernel
theorem dX3_begin_57 : decode cX3_begin 57 = .ok (.aload_n 0, 1) := by decide +kernel
theorem dX3_begin_58 : decode cX3_begin 58 = .ok (.iconst 0, 1) := by decide +kernel
theorem dX3_begin_59 : decode cX3_begin 59 = .ok (.putfield 43, 3) := by decide +kernel
theorem dX3_begin_62 : decode cX3_begin 62 = .ok (.return_, 1) := by decide +kernel
theorem dX10_withMore_0 : decode cX10_withMore 0 = .ok (.lload_n 0, 1) := by decide +kernel
theorem dX10_withMore_1 : decode cX10_withMore 1 = .ok (.iload_n 3, 1) := by decide +kernel
theorem dX10_withMore_2 : decode cX10_withMore 2 = .ok (.i2l, 1) := by decide +kernel
theorem dX10_withMore_3 : decode cX10_withMore 3 = .ok (.bipush 8, 2) := by decide +kernel
theorem dX10_withMore_5 : decode cX10_withMore 5 = .ok (.iload_n 2, 1) := by decide +kernel
theorem dX10_withMore_6 : decode cX10_withMore 6 = .ok (.imul, 1) := by decide +kernel
theorem dX10_withMore_7 : decode cX10_withMore 7 = .ok (.lshl, 1) := by decide +kernel
theorem dX10_withMore_8 : decode cX10_withMore 8 = .ok (.lor, 1) := by decide +kernel
theorem dX10_withMore_9 : decode cX10_withMore 9 = .ok (.lreturn, 1) := by decide +kernel
def f_In_bitCount_0f7a4 (x0 : Int32) : Int32 := k_lt (x0 - (((x0.toUInt32 >>> ((1 : Int32).toUInt32 &&& Int32.toUInt32 31)).toInt32) &&& (1431655765 : Int32))) (fun x0_1 => k_lt ((x0_1 &&& (858993459 : Int32)) + (((x0_1.toUInt32 >>> ((2 : Int32).toUInt32 &&& Int32.toUInt32 31)).toInt32) &&& (858993459 : Int32))) (fun x0_2 => k_lt ((x0_2 + ((x0_2.toUInt32 >>> ((4 : Int32).toUInt32 &&& Int32.toUInt32 31)).toInt32)) &&& (252645135 : Int32)) (fun x0_3 => k_lt (x0_3 + ((x0_3.toUInt32 >>> ((8 : Int32).toUInt32 &&& Int32.toUInt32 31)).toInt32)) (fun x0_4 => k_lt (x0_4 + ((x0_4.toUInt32 >>> ((16 : Int32).toUInt32 &&& Int32.toUInt32 31)).toInt32)) (fun x0_5 => (x0_5 &&& (63 : Int32)))))))
theorem m_In_bitCount_0f7a4 (l : Launch) (G : k_G) (w : va_W) (x0 : Int32) {r : Int32} (hf : f_In_bitCount_0f7a4 x0 = r) : k_CI l G yJ6_bitCount_0f7a4 cJ6_bitCount_0f7a4 1 (some .int) 1 w [.int x0] r w := by
  refine k_startI (lv := [(0, .int x0)]) (by decide +kernel) (Nat.le_of_ble_eq_true rfl) rfl ?_
  intro p e s m args below meth c hA hr
  have hA : k_Amb p s m args meth c cJ6_bitCount_0f7a4 1 "java/lang/Integer" G _ := hA
  unfold f_In_bitCount_0f7a4 at hf
  obtain ⟨x0_1, ex0_1, hf⟩ := k_lt_e hf
  obtain ⟨x0_2, ex0_2, hf⟩ := k_lt_e hf
  obtain ⟨x0_3, ex0_3, hf⟩ := k_lt_e hf
  obtain ⟨x0_4, ex0_4, hf⟩ := k_lt_e hf
  obtain ⟨x0_5, ex0_5, hf⟩ := k_lt_e hf
  subst hf
  refine k_iload_n (i := 0) hA dJ6_bitCount_0f7a4_0 rfl 0 rfl ?_
  refine k_iload_n (i := 0) hA dJ6_bitCount_0f7a4_1 rfl 0 rfl ?_
  refine k_iconst hA dJ6_bitCount_0f7a4_2 kc_i_1 ?_
  refine k_iushr hA dJ6_bitCount_0f7a4_3 ?_
  refine k_ldcw hA wd_673 dJ6_bitCount_0f7a4_4 ?_
  refine k_iand hA dJ6_bitCount_0f7a4_7 ?_
  refine k_isub hA dJ6_bitCount_0f7a4_8 ?_
  refine k_istore_n (i := 0) (lv' := [(0, .int x0_1)]) hA dJ6_bitCount_0f7a4_9 rfl ex0_1 (Nat.le_of_ble_eq_true rfl) rfl ?_
  refine k_iload_n (i := 0) hA dJ6_bitCount_0f7a4_10 rfl 0 rfl ?_
  refine k_ldcw hA wd_674 dJ6_bitCount_0f7a4_11 ?_
  refine k_iand hA dJ6_bitCount_0f7a4_14 ?_
  refine k_iload_n (i := 0) hA dJ6_bitCount_0f7a4_15 rfl 0 rfl ?_
  refine k_iconst hA dJ6_bitCount_0f7a4_16 kc_i_2 ?_
  refine k_iushr hA dJ6_bitCount_0f7a4_17 ?_
  refine k_ldcw hA wd_674 dJ6_bitCount_0f7a4_18 ?_
  refine k_iand hA dJ6_bitCount_0f7a4_21 ?_
  refine k_iadd hA dJ6_bitCount_0f7a4_22 ?_
  refine k_istore_n (i := 0) (lv' := [(0, .int x0_2)]) hA dJ6_bitCount_0f7a4_23 rfl ex0_2 (Nat.le_of_ble_eq_true rfl) rfl ?_
  refine k_iload_n (i := 0) hA dJ6_bitCount_0f7a4_24 rfl 0 rfl ?_
  refine k_iload_n (i := 0) hA dJ6_bitCount_0f7a4_25 rfl 0 rfl ?_
  refine k_iconst hA dJ6_bitCount_0f7a4_26 kc_i_4 ?_
  refine k_iushr hA dJ6_bitCount_0f7a4_27 ?_
  refine k_iadd hA dJ6_bitCount_0f7a4_28 ?_
  refine k_ldcw hA wd_675 dJ6_bitCount_0f7a4_29 ?_
  refine k_iand hA dJ6_bitCount_0f7a4_32 ?_
  refine k_istore_n (i := 0) (lv' := [(0, .int x0_3)]) hA dJ6_bitCount_0f7a4_33 rfl ex0_3 (Nat.le_of_ble_eq_true rfl) rfl ?_
  refine k_iload_n (i := 0) hA dJ6_bitCount_0f7a4_34 rfl 0 rfl ?_
  refine k_iload_n (i := 0) hA dJ6_bitCount_0f7a4_35 rfl 0 rfl ?_
  refine k_bipush hA dJ6_bitCount_0f7a4_36 kc_b_8 ?_
  refine k_iushr hA dJ6_bitCount_0f7a4_38 ?_
  refine k_iadd hA dJ6_bitCount_0f7a4_39 ?_
  refine k_istore_n (i := 0) (lv' := [(0, .int x0_4)]) hA dJ6_bitCount_0f7a4_40 rfl ex0_4 (Nat.le_of_ble_eq_true rfl) rfl ?_
  refine k_iload_n (i := 0) hA dJ6_bitCount_0f7a4_41 rfl 0 rfl ?_
  refine k_iload_n (i := 0) hA dJ6_bitCount_0f7a4_42 rfl 0 rfl ?_
  refine k_bipush hA dJ6_bitCount_0f7a4_43 kc_b_16 ?_
  refine k_iushr hA dJ6_bitCount_0f7a4_45 ?_
  refine k_iadd hA dJ6_bitCount_0f7a4_46 ?_
  refine k_istore_n (i := 0) (lv' := [(0, .int x0_5)]) hA dJ6_bitCount_0f7a4_47 rfl ex0_5 (Nat.le_of_ble_eq_true rfl) rfl ?_
  refine k_iload_n (i := 0) hA dJ6_bitCount_0f7a4_48 rfl 0 rfl ?_
  refine k_bipush hA dJ6_bitCount_0f7a4_49 kc_b_63 ?_
  refine k_iand hA dJ6_bitCount_0f7a4_51 ?_
  exact k_iret hA hr rfl dJ6_bitCount_0f7a4_52

def f_Te_mayFollow (t : k_St) (x1 : Int32) (x2 : Int32) : Option Bool := k_gi x1 8 ((if (((t.1 4 x1.toNatClampNeg) >>> (x2 &&& 31)) &&& (1 : Int32)) = 0 then some false else some true))
theorem m_Te_mayFollow (l : Launch) (G : k_G) (a : Nat → Nat) (tl : Value) (t : k_St) (x1 : Int32) (x2 : Int32) {r : Bool} (hf : f_Te_mayFollow t x1 x2 = some r) : k_CI l G yX8_mayFollow cX8_mayFollow 3 (some .boolean) 1 (k_WX G.2.1 a tl t) [.ref (a 2), .int x1, .int x2] (k_b r) (k_WX G.2.1 a tl t) := by
  refine k_startI (lv := [(0, .ref (a 2)), (1, .int x1), (2, .int x2)]) (by decide +kernel) (Nat.le_of_ble_eq_true rfl) rfl ?_
  intro p e s m args below meth c hA hr
  have hA : k_Amb p s m args meth c cX8_mayFollow 3 "TaleShares$Terrace" G _ := hA
  unfold f_Te_mayFollow at hf
  obtain ⟨hi_1, hf⟩ := k_gi_e hf
  refine k_aload_n (i := 0) hA dX8_mayFollow_0 rfl 0 rfl ?_
  refine gt_X_2_9 hA wd_193 dX8_mayFollow_1 ?_
  refine k_iload_n (i := 1) hA dX8_mayFollow_4 rfl 1 rfl ?_
  refine ld_X_4 hA hi_1 dX8_mayFollow_5 ?_
  refine k_iload_n (i := 2) hA dX8_mayFollow_6 rfl 2 rfl ?_
  refine k_ishr hA dX8_mayFollow_7 ?_
  refine k_iconst hA dX8_mayFollow_8 kc_i_1 ?_
  refine k_iand hA dX8_mayFollow_9 ?_
  refine k_if_eq (tgt := 17) hA dX8_mayFollow_10 rfl (fun hc => ?_) (fun hc => ?_)
  · have hf := k_ift hc hf
    obtain rfl := k_r1 hf
    refine k_iconst hA dX8_mayFollow_17 kc_i_0 ?_
    exact k_iret hA hr (k_narB (k_b01 _)) dX8_mayFollow_18
  have hf := k_iff hc hf
  obtain rfl := k_r1 hf
  refine k_iconst hA dX8_mayFollow_13 kc_i_1 ?_
  refine k_goto (tgt := 18) hA dX8_mayFollow_14 rfl ?_
  exact k_iret hA hr (k_narB (k_b01 _)) dX8_mayFollow_18

def f_Ta_add (x1 : Int32) (x2 : Int32) (t : k_St) : Option k_St := (if (162 : Int32) ≤ (t.1 21 0) then some t else k_gi (t.1 21 0) 162 (k_lt (k_sI t 22 (t.1 21 0).toNatClampNeg x1) (fun t_2 => k_gi (t_2.1 21 0) 162 (k_lt (k_sI t_2 23 (t_2.1 21 0).toNatClampNeg x2) (fun t_4 => k_lt (k_sI t_4 21 0 ((t_4.1 21 0) + (1 : Int32))) (fun t_5 => some t_5))))))
theorem m_Ta_add (l : Launch) (G : k_G) (a : Nat → Nat) (tl : Value) (x1 : Int32) (x2 : Int32) (t : k_St) {t' : k_St} (hf : f_Ta_add x1 x2 t = some t') : k_CV l G yX7_add cX7_add 3 none 1 (k_WX G.2.1 a tl t) [.ref (a 21), .int x1, .int x2] (k_WX G.2.1 a tl t') := by
  refine k_startV (lv := [(0, .ref (a 21)), (1, .int x1), (2, .int x2)]) (by decide +kernel) (Nat.le_of_ble_eq_true rfl) rfl ?_
  intro p e s m args below meth c hA hr
  have hA : k_Amb p s m args meth c cX7_add 3 "TaleShares$Tales" G _ := hA
  unfold f_Ta_add at hf
  refine k_aload_n (i := 0) hA dX7_add_0 rfl 0 rfl ?_
  refine gt_X_21_0 hA wd_305 dX7_add_1 ?_
  refine k_sipush hA dX7_add_4 kc_s_162 ?_
  refine k_icmp_ge (tgt := 40) hA dX7_add_7 rfl (fun hc => ?_) (fun hc => ?_)
  · have hf := k_ift hc hf
    obtain rfl := k_r1 hf
    exact k_vret hA hr dX7_add_40
  have hf := k_iff hc hf
  obtain ⟨hi_1, hf⟩ := k_gi_e hf
  obtain ⟨t_2, et_2, hf⟩ := k_lt_e hf
  obtain ⟨hi_3, hf⟩ := k_gi_e hf
  obtain ⟨t_4, et_4, hf⟩ := k_lt_e hf
  obtain ⟨t_5, et_5, hf⟩ := k_lt_e hf
  obtain rfl := k_r1 hf
  refine k_aload_n (i := 0) hA dX7_add_10 rfl 0 rfl ?_
  refine gt_X_21_1 hA wd_308 dX7_add_11 ?_
  refine k_aload_n (i := 0) hA dX7_add_14 rfl 0 rfl ?_
  refine gt_X_21_0 hA wd_305 dX7_add_15 ?_
  refine k_iload_n (i := 1) hA dX7_add_18 rfl 1 rfl ?_
  refine sr_X_22 hA hi_1 et_2 dX7_add_19 ?_
  refine k_aload_n (i := 0) hA dX7_add_20 rfl 0 rfl ?_
  refine gt_X_21_2 hA wd_309 dX7_add_21 ?_
  refine k_aload_n (i := 0) hA dX7_add_24 rfl 0 rfl ?_
  refine gt_X_21_0 hA wd_305 dX7_add_25 ?_
  refine k_iload_n (i := 2) hA dX7_add_28 rfl 2 rfl ?_
  refine sr_X_23 hA hi_3 et_4 dX7_add_29 ?_
  refine k_aload_n (i := 0) hA dX7_add_30 rfl 0 rfl ?_
  refine k_dup hA dX7_add_31 rfl ?_
  refine gt_X_21_0 hA wd_305 dX7_add_32 ?_
  refine k_iconst hA dX7_add_35 kc_i_1 ?_
  refine k_iadd hA dX7_add_36 ?_
  refine pt_X_21_0 hA wd_305 et_5 dX7_add_37 ?_
  exact k_vret hA hr dX7_add_40

def f_Ta_goOn_13 (n : Nat) (self : Int32 → Int32 → Int32 → Int32 → k_St → Option k_St) : Nat → Int32 → Int32 → Int32 → Int32 → Int32 → k_St → Option k_St
  | 0, _, _, _, _, _, _ => none
  | k + 1, x2, x3, x4, x5, x6, t => (if (t.1 2 2) ≤ x6 then some t else k_cp (f_Te_mayFollow t x2 x6) (fun r_1 => (if (k_b r_1) = 0 then k_lt (x6 + (1 : Int32)) (fun x6_2 => f_Ta_goOn_13 n self k x2 x3 x4 x5 x6_2 t) else (if ((x3 >>> (x6 &&& 31)) &&& (1 : Int32)) = 0 then k_gi x6 8 (k_lt (t.1 3 x6.toNatClampNeg) (fun x7_4 => (if x7_4 = (3 : Int32) then k_cv (f_Ta_add (((x4 * (10 : Int32)) + x6) + (1 : Int32)) (x3 ||| ((1 : Int32) <<< (x6 &&& 31))) t) (fun t_11 => k_lt (x6 + (1 : Int32)) (fun x6_12 => f_Ta_goOn_13 n self k x2 x3 x4 x5 x6_12 t_11)) else (if x7_4 = (1 : Int32) then k_cv (self x6 (x3 ||| ((1 : Int32) <<< (x6 &&& 31))) (((x4 * (10 : Int32)) + x6) + (1 : Int32)) x5 t) (fun t_9 => k_lt (x6 + (1 : Int32)) (fun x6_10 => f_Ta_goOn_13 n self k x2 x3 x4 x5 x6_10 t_9)) else (if x7_4 = (2 : Int32) then (if x5 ≤ 0 then k_lt (x6 + (1 : Int32)) (fun x6_6 => f_Ta_goOn_13 n self k x2 x3 x4 x5 x6_6 t) else k_cv (self x6 (x3 ||| ((1 : Int32) <<< (x6 &&& 31))) (((x4 * (10 : Int32)) + x6) + (1 : Int32)) (x5 - (1 : Int32)) t) (fun t_7 => k_lt (x6 + (1 : Int32)) (fun x6_8 => f_Ta_goOn_13 n self k x2 x3 x4 x5 x6_8 t_7))) else k_lt (x6 + (1 : Int32)) (fun x6_5 => f_Ta_goOn_13 n self k x2 x3 x4 x5 x6_5 t)))))) else k_lt (x6 + (1 : Int32)) (fun x6_13 => f_Ta_goOn_13 n self k x2 x3 x4 x5 x6_13 t)))))
def f_Ta_goOn (n : Nat) : Nat → Int32 → Int32 → Int32 → Int32 → k_St → Option k_St
  | 0, _, _, _, _, _ => none
  | d + 1, x2, x3, x4, x5, t => (if (f_In_bitCount_0f7a4 x3) < (8 : Int32) then f_Ta_goOn_13 n (f_Ta_goOn n d) n x2 x3 x4 x5 (0 : Int32) t else some t)
theorem m_Ta_goOn_13 {p : Program} (l : Launch) {e : Env} {s : State} {m : MethodId} {args : Array Value} {below : List Frame} {meth : Method} {c : Code} (G : k_G) (a : Nat → Nat) (tl : Value) (n : Nat) {w0 : va_W} {t' : k_St} (d : Nat) (hA : k_Amb p s m args meth c cX7_goOn 8 "TaleShares$Tales" G (va_A w0 s.heap.size)) (hr : meth.sig.returnType = none) (self : Int32 → Int32 → Int32 → Int32 → k_St → Option k_St) (hself : ∀ (x2 : Int32) (x3 : Int32) (x4 : Int32) (x5 : Int32) (t : k_St) (t' : k_St), self x2 x3 x4 x5 t = some t' → k_CV l G yX7_goOn cX7_goOn 8 none (d + 2) (k_WX G.2.1 a tl t) [.ref (a 21), .ref (a 2), .int x2, .int x3, .int x4, .int x5] (k_WX G.2.1 a tl t')) : ∀ (k : Nat) (x2 : Int32) (x3 : Int32) (x4 : Int32) (x5 : Int32) (x6 : Int32) (t : k_St), f_Ta_goOn_13 n self k x2 x3 x4 x5 x6 t = some t' → k_Go p l e (k_rm (d + 1 + 2)) s m args below meth c (k_QV G w0 (k_WX G.2.1 a tl t') args s below) 8 G (va_A w0 s.heap.size) (k_WX G.2.1 a tl t) 13 [(0, .ref (a 21)), (1, .ref (a 2)), (2, .int x2), (3, .int x3), (4, .int x4), (5, .int x5), (6, .int x6)] [] := by
  intro k
  induction k with
  | zero => intro x2 x3 x4 x5 x6 t hf; cases hf
  | succ k ih =>
  intro x2 x3 x4 x5 x6 t hf
  rw [f_Ta_goOn_13] at hf
  refine k_iload hA dX7_goOn_13 6 rfl ?_
  refine k_aload_n (i := 1) hA dX7_goOn_15 rfl 1 rfl ?_
  refine gt_X_2_2 hA wd_165 dX7_goOn_16 ?_
  refine k_icmp_ge (tgt := 160) hA dX7_goOn_19 rfl (fun hc => ?_) (fun hc => ?_)
  · have hf := k_ift hc hf
    obtain rfl := k_r1 hf
    exact k_vret hA hr dX7_goOn_160
  have hf := k_iff hc hf
  obtain ⟨r_1, hr_1, hf⟩ := k_cp_e hf
  refine k_aload_n (i := 1) hA dX7_goOn_22 rfl 1 rfl ?_
  refine k_iload_n (i := 2) hA dX7_goOn_23 rfl 2 rfl ?_
  refine k_iload hA dX7_goOn_24 6 rfl ?_
  refine k_callVi (As := [.int x2, .int x6]) (rest := []) hA (m_Te_mayFollow l G a tl t x2 x6 hr_1) cd_X8_mayFollow wd_676 (hc_X_2 G.2.1 a tl t) rfl rfl (by omega) rfl rfl (Nat.le_of_ble_eq_true rfl) dX7_goOn_26 ?_
  refine k_if_eq (tgt := 154) hA dX7_goOn_29 rfl (fun hc => ?_) (fun hc => ?_)
  · have hf := k_ift hc hf
    obtain ⟨x6_2, ex6_2, hf⟩ := k_lt_e hf
    refine k_iinc (j := 6) (v := x6_2) (lv' := [(6, .int x6_2), (0, .ref (a 21)), (1, .ref (a 2)), (2, .int x2), (3, .int x3), (4, .int x4), (5, .int x5)]) hA dX7_goOn_154 rfl (k_inc ex6_2 kc_i_1) (Nat.le_of_ble_eq_true rfl) rfl ?_
    refine k_goto (tgt := 13) hA dX7_goOn_157 rfl ?_
    refine k_pick (lv' := [(0, .ref (a 21)), (1, .ref (a 2)), (2, .int x2), (3, .int x3), (4, .int x4), (5, .int x5), (6, .int x6_2)]) [1, 2, 3, 4, 5, 6, 0] rfl ?_
    exact ih x2 x3 x4 x5 x6_2 t hf
  have hf := k_iff hc hf
  refine k_iload_n (i := 3) hA dX7_goOn_32 rfl 3 rfl ?_
  refine k_iload hA dX7_goOn_33 6 rfl ?_
  refine k_ishr hA dX7_goOn_35 ?_
  refine k_iconst hA dX7_goOn_36 kc_i_1 ?_
  refine k_iand hA dX7_goOn_37 ?_
  refine k_if_eq (tgt := 44) hA dX7_goOn_38 rfl (fun hc => ?_) (fun hc => ?_)
  · have hf := k_ift hc hf
    obtain ⟨hi_3, hf⟩ := k_gi_e hf
    obtain ⟨x7_4, ex7_4, hf⟩ := k_lt_e hf
    refine k_aload_n (i := 1) hA dX7_goOn_44 rfl 1 rfl ?_
    refine gt_X_2_8 hA wd_190 dX7_goOn_45 ?_
    refine k_iload hA dX7_goOn_48 6 rfl ?_
    refine ld_X_3 hA hi_3 dX7_goOn_50 ?_
    refine k_istore (lv' := [(7, .int x7_4), (0, .ref (a 21)), (1, .ref (a 2)), (2, .int x2), (3, .int x3), (4, .int x4), (5, .int x5), (6, .int x6)]) hA dX7_goOn_51 ex7_4 (Nat.le_of_ble_eq_true rfl) rfl ?_
    refine k_iload hA dX7_goOn_53 0 rfl ?_
    refine k_iconst hA dX7_goOn_55 kc_i_3 ?_
    refine k_icmp_ne (tgt := 82) hA dX7_goOn_56 rfl (fun hc => ?_) (fun hc => ?_)
    · have hf := k_iff hc hf
      refine k_iload hA dX7_goOn_82 0 rfl ?_
      refine k_iconst hA dX7_goOn_84 kc_i_1 ?_
      refine k_icmp_ne (tgt := 116) hA dX7_goOn_85 rfl (fun hc => ?_) (fun hc => ?_)
      · have hf := k_iff hc hf
        refine k_iload hA dX7_goOn_116 0 rfl ?_
        refine k_iconst hA dX7_goOn_118 kc_i_2 ?_
        refine k_icmp_ne (tgt := 154) hA dX7_goOn_119 rfl (fun hc => ?_) (fun hc => ?_)
        · have hf := k_iff hc hf
          obtain ⟨x6_5, ex6_5, hf⟩ := k_lt_e hf
          refine k_iinc (j := 7) (v := x6_5) (lv' := [(6, .int x6_5), (7, .int x7_4), (0, .ref (a 21)), (1, .ref (a 2)), (2, .int x2), (3, .int x3), (4, .int x4), (5, .int x5)]) hA dX7_goOn_154 rfl (k_inc ex6_5 kc_i_1) (Nat.le_of_ble_eq_true rfl) rfl ?_
          refine k_goto (tgt := 13) hA dX7_goOn_157 rfl ?_
          refine k_pick (lv' := [(0, .ref (a 21)), (1, .ref (a 2)), (2, .int x2), (3, .int x3), (4, .int x4), (5, .int x5), (6, .int x6_5)]) [2, 3, 4, 5, 6, 7, 0] rfl ?_
          exact ih x2 x3 x4 x5 x6_5 t hf
        have hf := k_ift hc hf
        refine k_iload hA dX7_goOn_122 6 rfl ?_
        refine k_if_le (tgt := 154) hA dX7_goOn_124 rfl (fun hc => ?_) (fun hc => ?_)
        · have hf := k_ift hc hf
          obtain ⟨x6_6, ex6_6, hf⟩ := k_lt_e hf
          refine k_iinc (j := 7) (v := x6_6) (lv' := [(6, .int x6_6), (7, .int x7_4), (0, .ref (a 21)), (1, .ref (a 2)), (2, .int x2), (3, .int x3), (4, .int x4), (5, .int x5)]) hA dX7_goOn_154 rfl (k_inc ex6_6 kc_i_1) (Nat.le_of_ble_eq_true rfl) rfl ?_
          refine k_goto (tgt := 13) hA dX7_goOn_157 rfl ?_
          refine k_pick (lv' := [(0, .ref (a 21)), (1, .ref (a 2)), (2, .int x2), (3, .int x3), (4, .int x4), (5, .int x5), (6, .int x6_6)]) [2, 3, 4, 5, 6, 7, 0] rfl ?_
          exact ih x2 x3 x4 x5 x6_6 t hf
        have hf := k_iff hc hf
        obtain ⟨t_7, ht_7, hf⟩ := k_cv_e hf
        obtain ⟨x6_8, ex6_8, hf⟩ := k_lt_e hf
        refine k_aload_n (i := 0) hA dX7_goOn_127 rfl 1 rfl ?_
        refine k_aload_n (i := 1) hA dX7_goOn_128 rfl 2 rfl ?_
        refine k_iload hA dX7_goOn_129 7 rfl ?_
        refine k_iload_n (i := 3) hA dX7_goOn_131 rfl 4 rfl ?_
        refine k_iconst hA dX7_goOn_132 kc_i_1 ?_
        refine k_iload hA dX7_goOn_133 7 rfl ?_
        refine k_ishl hA dX7_goOn_135 ?_
        refine k_ior hA dX7_goOn_136 ?_
        refine k_iload hA dX7_goOn_137 5 rfl ?_
        refine k_bipush hA dX7_goOn_139 kc_b_10 ?_
        refine k_imul hA dX7_goOn_141 ?_
        refine k_iload hA dX7_goOn_142 7 rfl ?_
        refine k_iadd hA dX7_goOn_144 ?_
        refine k_iconst hA dX7_goOn_145 kc_i_1 ?_
        refine k_iadd hA dX7_goOn_146 ?_
        refine k_iload hA dX7_goOn_147 6 rfl ?_
        refine k_iconst hA dX7_goOn_149 kc_i_1 ?_
        refine k_isub hA dX7_goOn_150 ?_
        refine k_callVv (As := [.ref (a 2), .int x6, .int (x3 ||| ((1 : Int32) <<< (x6 &&& 31))), .int (((x4 * (10 : Int32)) + x6) + (1 : Int32)), .int (x5 - (1 : Int32))]) (rest := []) hA (hself x6 (x3 ||| ((1 : Int32) <<< (x6 &&& 31))) (((x4 * (10 : Int32)) + x6) + (1 : Int32)) (x5 - (1 : Int32)) t _ ht_7) cd_X7_goOn wd_666 (hc_X_21 G.2.1 a tl t) rfl rfl (by omega) rfl rfl (Nat.le_of_ble_eq_true rfl) dX7_goOn_151 ?_
        refine k_iinc (j := 7) (v := x6_8) (lv' := [(6, .int x6_8), (7, .int x7_4), (0, .ref (a 21)), (1, .ref (a 2)), (2, .int x2), (3, .int x3), (4, .int x4), (5, .int x5)]) hA dX7_goOn_154 rfl (k_inc ex6_8 kc_i_1) (Nat.le_of_ble_eq_true rfl) rfl ?_
        refine k_goto (tgt := 13) hA dX7_goOn_157 rfl ?_
        refine k_pick (lv' := [(0, .ref (a 21)), (1, .ref (a 2)), (2, .int x2), (3, .int x3), (4, .int x4), (5, .int x5), (6, .int x6_8)]) [2, 3, 4, 5, 6, 7, 0] rfl ?_
        exact ih x2 x3 x4 x5 x6_8 t_7 hf
      have hf := k_ift hc hf
      obtain ⟨t_9, ht_9, hf⟩ := k_cv_e hf
      obtain ⟨x6_10, ex6_10, hf⟩ := k_lt_e hf
      refine k_aload_n (i := 0) hA dX7_goOn_88 rfl 1 rfl ?_
      refine k_aload_n (i := 1) hA dX7_goOn_89 rfl 2 rfl ?_
      refine k_iload hA dX7_goOn_90 7 rfl ?_
      refine k_iload_n (i := 3) hA dX7_goOn_92 rfl 4 rfl ?_
      refine k_iconst hA dX7_goOn_93 kc_i_1 ?_
      refine k_iload hA dX7_goOn_94 7 rfl ?_
      refine k_ishl hA dX7_goOn_96 ?_
      refine k_ior hA dX7_goOn_97 ?_
      refine k_iload hA dX7_goOn_98 5 rfl ?_
      refine k_bipush hA dX7_goOn_100 kc_b_10 ?_
      refine k_imul hA dX7_goOn_102 ?_
      refine k_iload hA dX7_goOn_103 7 rfl ?_
      refine k_iadd hA dX7_goOn_105 ?_
      refine k_iconst hA dX7_goOn_106 kc_i_1 ?_
      refine k_iadd hA dX7_goOn_107 ?_
      refine k_iload hA dX7_goOn_108 6 rfl ?_
      refine k_callVv (As := [.ref (a 2), .int x6, .int (x3 ||| ((1 : Int32) <<< (x6 &&& 31))), .int (((x4 * (10 : Int32)) + x6) + (1 : Int32)), .int x5]) (rest := []) hA (hself x6 (x3 ||| ((1 : Int32) <<< (x6 &&& 31))) (((x4 * (10 : Int32)) + x6) + (1 : Int32)) x5 t _ ht_9) cd_X7_goOn wd_666 (hc_X_21 G.2.1 a tl t) rfl rfl (by omega) rfl rfl (Nat.le_of_ble_eq_true rfl) dX7_goOn_110 ?_
      refine k_goto (tgt := 154) hA dX7_goOn_113 rfl ?_
      refine k_iinc (j := 7) (v := x6_10) (lv' := [(6, .int x6_10), (7, .int x7_4), (0, .ref (a 21)), (1, .ref (a 2)), (2, .int x2), (3, .int x3), (4, .int x4), (5, .int x5)]) hA dX7_goOn_154 rfl (k_inc ex6_10 kc_i_1) (Nat.le_of_ble_eq_true rfl) rfl ?_
      refine k_goto (tgt := 13) hA dX7_goOn_157 rfl ?_
      refine k_pick (lv' := [(0, .ref (a 21)), (1, .ref (a 2)), (2, .int x2), (3, .int x3), (4, .int x4), (5, .int x5), (6, .int x6_10)]) [2, 3, 4, 5, 6, 7, 0] rfl ?_
      exact ih x2 x3 x4 x5 x6_10 t_9 hf
    have hf := k_ift hc hf
    obtain ⟨t_11, ht_11, hf⟩ := k_cv_e hf
    obtain ⟨x6_12, ex6_12, hf⟩ := k_lt_e hf
    refine k_aload_n (i := 0) hA dX7_goOn_59 rfl 1 rfl ?_
    refine k_iload hA dX7_goOn_60 5 rfl ?_
    refine k_bipush hA dX7_goOn_62 kc_b_10 ?_
    refine k_imul hA dX7_goOn_64 ?_
    refine k_iload hA dX7_goOn_65 7 rfl ?_
    refine k_iadd hA dX7_goOn_67 ?_
    refine k_iconst hA dX7_goOn_68 kc_i_1 ?_
    refine k_iadd hA dX7_goOn_69 ?_
    refine k_iload_n (i := 3) hA dX7_goOn_70 rfl 4 rfl ?_
    refine k_iconst hA dX7_goOn_71 kc_i_1 ?_
    refine k_iload hA dX7_goOn_72 7 rfl ?_
    refine k_ishl hA dX7_goOn_74 ?_
    refine k_ior hA dX7_goOn_75 ?_
    refine k_callVv (As := [.int (((x4 * (10 : Int32)) + x6) + (1 : Int32)), .int (x3 ||| ((1 : Int32) <<< (x6 &&& 31)))]) (rest := []) hA (m_Ta_add l G a tl (((x4 * (10 : Int32)) + x6) + (1 : Int32)) (x3 ||| ((1 : Int32) <<< (x6 &&& 31))) t ht_11) cd_X7_add wd_677 (hc_X_21 G.2.1 a tl t) rfl rfl (by omega) rfl rfl (Nat.le_of_ble_eq_true rfl) dX7_goOn_76 ?_
    refine k_goto (tgt := 154) hA dX7_goOn_79 rfl ?_
    refine k_iinc (j := 7) (v := x6_12) (lv' := [(6, .int x6_12), (7, .int x7_4), (0, .ref (a 21)), (1, .ref (a 2)), (2, .int x2), (3, .int x3), (4, .int x4), (5, .int x5)]) hA dX7_goOn_154 rfl (k_inc ex6_12 kc_i_1) (Nat.le_of_ble_eq_true rfl) rfl ?_
    refine k_goto (tgt := 13) hA dX7_goOn_157 rfl ?_
    refine k_pick (lv' := [(0, .ref (a 21)), (1, .ref (a 2)), (2, .int x2), (3, .int x3), (4, .int x4), (5, .int x5), (6, .int x6_12)]) [2, 3, 4, 5, 6, 7, 0] rfl ?_
    exact ih x2 x3 x4 x5 x6_12 t_11 hf
  have hf := k_iff hc hf
  obtain ⟨x6_13, ex6_13, hf⟩ := k_lt_e hf
  refine k_goto (tgt := 154) hA dX7_goOn_41 rfl ?_
  refine k_iinc (j := 6) (v := x6_13) (lv' := [(6, .int x6_13), (0, .ref (a 21)), (1, .ref (a 2)), (2, .int x2), (3, .int x3), (4, .int x4), (5, .int x5)]) hA dX7_goOn_154 rfl (k_inc ex6_13 kc_i_1) (Nat.le_of_ble_eq_true rfl) rfl ?_
  refine k_goto (tgt := 13) hA dX7_goOn_157 rfl ?_
  refine k_pick (lv' := [(0, .ref (a 21)), (1, .ref (a 2)), (2, .int x2), (3, .int x3), (4, .int x4), (5, .int x5), (6, .int x6_13)]) [1, 2, 3, 4, 5, 6, 0] rfl ?_
  exact ih x2 x3 x4 x5 x6_13 t hf

theorem m_Ta_goOn (l : Launch) (G : k_G) (a : Nat → Nat) (tl : Value) (n : Nat) : ∀ (d : Nat) (x2 : Int32) (x3 : Int32) (x4 : Int32) (x5 : Int32) (t : k_St) (t' : k_St), f_Ta_goOn n d x2 x3 x4 x5 t = some t' → k_CV l G yX7_goOn cX7_goOn 8 none (d + 2) (k_WX G.2.1 a tl t) [.ref (a 21), .ref (a 2), .int x2, .int x3, .int x4, .int x5] (k_WX G.2.1 a tl t') := by
  intro d
  induction d with
  | zero => intro x2 x3 x4 x5 t t' hf; cases hf
  | succ d m_ih =>
  intro x2 x3 x4 x5 t t' hf
  refine k_startV (lv := [(0, .ref (a 21)), (1, .ref (a 2)), (2, .int x2), (3, .int x3), (4, .int x4), (5, .int x5)]) (by decide +kernel) (Nat.le_of_ble_eq_true rfl) rfl ?_
  intro p e s m args below meth c hA hr
  have hA : k_Amb p s m args meth c cX7_goOn 8 "TaleShares$Tales" G _ := hA
  rw [f_Ta_goOn] at hf
  refine k_iload_n (i := 3) hA dX7_goOn_0 rfl 3 rfl ?_
  refine k_callSi (As := [.int x3]) (rest := []) hA (m_In_bitCount_0f7a4 l G (k_WX G.2.1 a tl t) x3 rfl) cd_J6_bitCount_0f7a4 wd_670 (by omega) rfl rfl (Nat.le_of_ble_eq_true rfl) dX7_goOn_1 ?_
  refine k_bipush hA dX7_goOn_4 kc_b_8 ?_
  refine k_icmp_lt (tgt := 10) hA dX7_goOn_6 rfl (fun hc => ?_) (fun hc => ?_)
  · have hf := k_ift hc hf
    refine k_iconst hA dX7_goOn_10 kc_i_0 ?_
    refine k_istore (lv' := [(6, .int (0 : Int32)), (0, .ref (a 21)), (1, .ref (a 2)), (2, .int x2), (3, .int x3), (4, .int x4), (5, .int x5)]) hA dX7_goOn_11 rfl (Nat.le_of_ble_eq_true rfl) rfl ?_
    refine k_pick (lv' := [(0, .ref (a 21)), (1, .ref (a 2)), (2, .int x2), (3, .int x3), (4, .int x4), (5, .int x5), (6, .int (0 : Int32))]) [1, 2, 3, 4, 5, 6, 0] rfl ?_
    exact m_Ta_goOn_13 l G a tl n d hA hr (f_Ta_goOn n d) m_ih n x2 x3 x4 x5 (0 : Int32) t hf
  have hf := k_iff hc hf
  obtain rfl := k_r1 hf
  exact k_vret hA hr dX7_goOn_9

def f_Ta_gather_7 (n : Nat) : Nat → Int32 → k_St → Option k_St
  | 0, _, _ => none
  | k + 1, x2, t => (if (t.1 2 2) ≤ x2 then some t else k_gi x2 8 ((if (t.1 3 x2.toNatClampNeg) = 0 then k_cv (f_Ta_goOn n (9 : Nat) x2 ((1 : Int32) <<< (x2 &&& 31)) (x2 + (1 : Int32)) (t.1 2 0) t) (fun t_3 => k_lt (x2 + (1 : Int32)) (fun x2_4 => f_Ta_gather_7 n k x2_4 t_3)) else k_lt (x2 + (1 : Int32)) (fun x2_2 => f_Ta_gather_7 n k x2_2 t))))
def f_Ta_gather (n : Nat) (t : k_St) : Option k_St := k_lt (k_sI t 21 0 (0 : Int32)) (fun t_1 => f_Ta_gather_7 n n (0 : Int32) t_1)
theorem m_Ta_gather_7 {p : Program} (l : Launch) {e : Env} {s : State} {m : MethodId} {args : Array Value} {below : List Frame} {meth : Method} {c : Code} (G : k_G) (a : Nat → Nat) (tl : Value) (n : Nat) {w0 : va_W} {t' : k_St} (hA : k_Amb p s m args meth c cX7_gather 3 "TaleShares$Tales" G (va_A w0 s.heap.size)) (hr : meth.sig.returnType = none) : ∀ (k : Nat) (x2 : Int32) (t : k_St), f_Ta_gather_7 n k x2 t = some t' → k_Go p l e (k_rm 12) s m args below meth c (k_QV G w0 (k_WX G.2.1 a tl t') args s below) 3 G (va_A w0 s.heap.size) (k_WX G.2.1 a tl t) 7 [(0, .ref (a 21)), (1, .ref (a 2)), (2, .int x2)] [] := by
  intro k
  induction k with
  | zero => intro x2 t hf; cases hf
  | succ k ih =>
  intro x2 t hf
  rw [f_Ta_gather_7] at hf
  refine k_iload_n (i := 2) hA dX7_gather_7 rfl 2 rfl ?_
  refine k_aload_n (i := 1) hA dX7_gather_8 rfl 1 rfl ?_
  refine gt_X_2_2 hA wd_165 dX7_gather_9 ?_
  refine k_icmp_ge (tgt := 46) hA dX7_gather_12 rfl (fun hc => ?_) (fun hc => ?_)
  · have hf := k_ift hc hf
    obtain rfl := k_r1 hf
    exact k_vret hA hr dX7_gather_46
  have hf := k_iff hc hf
  obtain ⟨hi_1, hf⟩ := k_gi_e hf
  refine k_aload_n (i := 1) hA dX7_gather_15 rfl 1 rfl ?_
  refine gt_X_2_8 hA wd_190 dX7_gather_16 ?_
  refine k_iload_n (i := 2) hA dX7_gather_19 rfl 2 rfl ?_
  refine ld_X_3 hA hi_1 dX7_gather_20 ?_
  refine k_if_ne (tgt := 40) hA dX7_gather_21 rfl (fun hc => ?_) (fun hc => ?_)
  · have hf := k_iff hc hf
    obtain ⟨x2_2, ex2_2, hf⟩ := k_lt_e hf
    refine k_iinc (j := 2) (v := x2_2) (lv' := [(2, .int x2_2), (0, .ref (a 21)), (1, .ref (a 2))]) hA dX7_gather_40 rfl (k_inc ex2_2 kc_i_1) (Nat.le_of_ble_eq_true rfl) rfl ?_
    refine k_goto (tgt := 7) hA dX7_gather_43 rfl ?_
    refine k_pick (lv' := [(0, .ref (a 21)), (1, .ref (a 2)), (2, .int x2_2)]) [1, 2, 0] rfl ?_
    exact ih x2_2 t hf
  have hf := k_ift hc hf
  obtain ⟨t_3, ht_3, hf⟩ := k_cv_e hf
  obtain ⟨x2_4, ex2_4, hf⟩ := k_lt_e hf
  refine k_aload_n (i := 0) hA dX7_gather_24 rfl 0 rfl ?_
  refine k_aload_n (i := 1) hA dX7_gather_25 rfl 1 rfl ?_
  refine k_iload_n (i := 2) hA dX7_gather_26 rfl 2 rfl ?_
  refine k_iconst hA dX7_gather_27 kc_i_1 ?_
  refine k_iload_n (i := 2) hA dX7_gather_28 rfl 2 rfl ?_
  refine k_ishl hA dX7_gather_29 ?_
  refine k_iload_n (i := 2) hA dX7_gather_30 rfl 2 rfl ?_
  refine k_iconst hA dX7_gather_31 kc_i_1 ?_
  refine k_iadd hA dX7_gather_32 ?_
  refine k_aload_n (i := 1) hA dX7_gather_33 rfl 1 rfl ?_
  refine gt_X_2_0 hA wd_158 dX7_gather_34 ?_
  refine k_callVv (As := [.ref (a 2), .int x2, .int ((1 : Int32) <<< (x2 &&& 31)), .int (x2 + (1 : Int32)), .int (t.1 2 0)]) (rest := []) hA (m_Ta_goOn l G a tl n (9 : Nat) x2 ((1 : Int32) <<< (x2 &&& 31)) (x2 + (1 : Int32)) (t.1 2 0) t _ ht_3) cd_X7_goOn wd_666 (hc_X_21 G.2.1 a tl t) rfl rfl (Nat.le_of_ble_eq_true rfl) rfl rfl (Nat.le_of_ble_eq_true rfl) dX7_gather_37 ?_
  refine k_iinc (j := 2) (v := x2_4) (lv' := [(2, .int x2_4), (0, .ref (a 21)), (1, .ref (a 2))]) hA dX7_gather_40 rfl (k_inc ex2_4 kc_i_1) (Nat.le_of_ble_eq_true rfl) rfl ?_
  refine k_goto (tgt := 7) hA dX7_gather_43 rfl ?_
  refine k_pick (lv' := [(0, .ref (a 21)), (1, .ref (a 2)), (2, .int x2_4)]) [1, 2, 0] rfl ?_
  exact ih x2_4 t_3 hf

theorem m_Ta_gather (l : Launch) (G : k_G) (a : Nat → Nat) (tl : Value) (n : Nat) (t : k_St) {t' : k_St} (hf : f_Ta_gather n t = some t') : k_CV l G yX7_gather cX7_gather 3 none 12 (k_WX G.2.1 a tl t) [.ref (a 21), .ref (a 2)] (k_WX G.2.1 a tl t') := by
  refine k_startV (lv := [(0, .ref (a 21)), (1, .ref (a 2))]) (by decide +kernel) (Nat.le_of_ble_eq_true rfl) rfl ?_
  intro p e s m args below meth c hA hr
  have hA : k_Amb p s m args meth c cX7_gather 3 "TaleShares$Tales" G _ := hA
  unfold f_Ta_gather at hf
  obtain ⟨t_1, et_1, hf⟩ := k_lt_e hf
  refine k_aload_n (i := 0) hA dX7_gather_0 rfl 0 rfl ?_
  refine k_iconst hA dX7_gather_1 kc_i_0 ?_
  refine pt_X_21_0 hA wd_305 et_1 dX7_gather_2 ?_
  refine k_iconst hA dX7_gather_5 kc_i_0 ?_
  refine k_istore_n (i := 2) (lv' := [(2, .int (0 : Int32)), (0, .ref (a 21)), (1, .ref (a 2))]) hA dX7_gather_6 rfl rfl (Nat.le_of_ble_eq_true rfl) rfl ?_
  refine k_pick (lv' := [(0, .ref (a 21)), (1, .ref (a 2)), (2, .int (0 : Int32))]) [1, 2, 0] rfl ?_
  exact m_Ta_gather_7 l G a tl n hA hr n (0 : Int32) t_1 hf

def f_Pa_pairFrom_61 (n : Nat) (self : Int32 → Int32 → Int32 → k_St → Option k_St) : Nat → Int32 → Int32 → Int32 → Int32 → k_St → Option k_St
  | 0, _, _, _, _, _ => none
  | k + 1, x1, x2, x3, x4, t => (if (t.1 24 3) ≤ x4 then k_cv (self (x1 + (1 : Int32)) x2 (x3 ||| ((15 : Int32) <<< (((4 : Int32) * x1) &&& 31))) t) (fun t_1 => some t_1) else (if ((x2 >>> (x4 &&& 31)) &&& (1 : Int32)) = 0 then k_cv (self (x1 + (1 : Int32)) (x2 ||| ((1 : Int32) <<< (x4 &&& 31))) ((x3 ||| (x4 <<< (((4 : Int32) * x1) &&& 31))) ||| (x1 <<< (((4 : Int32) * x4) &&& 31))) t) (fun t_3 => k_lt (x4 + (1 : Int32)) (fun x4_4 => f_Pa_pairFrom_61 n self k x1 x2 x3 x4_4 t_3)) else k_lt (x4 + (1 : Int32)) (fun x4_2 => f_Pa_pairFrom_61 n self k x1 x2 x3 x4_2 t)))
def f_Pa_pairFrom (n : Nat) : Nat → Int32 → Int32 → Int32 → k_St → Option k_St
  | 0, _, _, _, _ => none
  | d + 1, x1, x2, x3, t => (if x1 < (t.1 24 3) then (if ((x2 >>> (x1 &&& 31)) &&& (1 : Int32)) = 0 then k_lt (x1 + (1 : Int32)) (fun x4_1 => f_Pa_pairFrom_61 n (f_Pa_pairFrom n d) n x1 x2 x3 x4_1 t) else k_cv (f_Pa_pairFrom n d (x1 + (1 : Int32)) x2 x3 t) (fun t_2 => some t_2)) else (if (26 : Int32) ≤ (t.1 24 2) then some t else k_gi (t.1 24 2) 26 (k_lt (k_sI t 25 (t.1 24 2).toNatClampNeg x3) (fun t_4 => k_lt (k_sI t_4 24 2 ((t_4.1 24 2) + (1 : Int32))) (fun t_5 => some t_5)))))
theorem m_Pa_pairFrom_61 {p : Program} (l : Launch) {e : Env} {s : State} {m : MethodId} {args : Array Value} {below : List Frame} {meth : Method} {c : Code} (G : k_G) (a : Nat → Nat) (tl : Value) (n : Nat) {w0 : va_W} {t' : k_St} (d : Nat) (hA : k_Amb p s m args meth c cX4_pairFrom 5 "TaleShares$Park" G (va_A w0 s.heap.size)) (hr : meth.sig.returnType = none) (self : Int32 → Int32 → Int32 → k_St → Option k_St) (hself : ∀ (x1 : Int32) (x2 : Int32) (x3 : Int32) (t : k_St) (t' : k_St), self x1 x2 x3 t = some t' → k_CV l G yX4_pairFrom cX4_pairFrom 5 none (d + 1) (k_WX G.2.1 a tl t) [.ref (a 24), .int x1, .int x2, .int x3] (k_WX G.2.1 a tl t')) : ∀ (k : Nat) (x1 : Int32) (x2 : Int32) (x3 : Int32) (x4 : Int32) (t : k_St), f_Pa_pairFrom_61 n self k x1 x2 x3 x4 t = some t' → k_Go p l e (k_rm (d + 1 + 1)) s m args below meth c (k_QV G w0 (k_WX G.2.1 a tl t') args s below) 5 G (va_A w0 s.heap.size) (k_WX G.2.1 a tl t) 61 [(0, .ref (a 24)), (1, .int x1), (2, .int x2), (3, .int x3), (4, .int x4)] [] := by
  intro k
  induction k with
  | zero => intro x1 x2 x3 x4 t hf; cases hf
  | succ k ih =>
  intro x1 x2 x3 x4 t hf
  rw [f_Pa_pairFrom_61] at hf
  refine k_iload hA dX4_pairFrom_61 4 rfl ?_
  refine k_aload_n (i := 0) hA dX4_pairFrom_63 rfl 0 rfl ?_
  refine gt_X_24_3 hA wd_326 dX4_pairFrom_64 ?_
  refine k_icmp_ge (tgt := 113) hA dX4_pairFrom_67 rfl (fun hc => ?_) (fun hc => ?_)
  · have hf := k_ift hc hf
    obtain ⟨t_1, ht_1, hf⟩ := k_cv_e hf
    obtain rfl := k_r1 hf
    refine k_aload_n (i := 0) hA dX4_pairFrom_113 rfl 0 rfl ?_
    refine k_iload_n (i := 1) hA dX4_pairFrom_114 rfl 1 rfl ?_
    refine k_iconst hA dX4_pairFrom_115 kc_i_1 ?_
    refine k_iadd hA dX4_pairFrom_116 ?_
    refine k_iload_n (i := 2) hA dX4_pairFrom_117 rfl 2 rfl ?_
    refine k_iload_n (i := 3) hA dX4_pairFrom_118 rfl 3 rfl ?_
    refine k_bipush hA dX4_pairFrom_119 kc_b_15 ?_
    refine k_iconst hA dX4_pairFrom_121 kc_i_4 ?_
    refine k_iload_n (i := 1) hA dX4_pairFrom_122 rfl 1 rfl ?_
    refine k_imul hA dX4_pairFrom_123 ?_
    refine k_ishl hA dX4_pairFrom_124 ?_
    refine k_ior hA dX4_pairFrom_125 ?_
    refine k_callVv (As := [.int (x1 + (1 : Int32)), .int x2, .int (x3 ||| ((15 : Int32) <<< (((4 : Int32) * x1) &&& 31)))]) (rest := []) hA (hself (x1 + (1 : Int32)) x2 (x3 ||| ((15 : Int32) <<< (((4 : Int32) * x1) &&& 31))) t _ ht_1) cd_X4_pairFrom wd_685 (hc_X_24 G.2.1 a tl t) rfl rfl (by omega) rfl rfl (Nat.le_of_ble_eq_true rfl) dX4_pairFrom_126 ?_
    exact k_vret hA hr dX4_pairFrom_129
  have hf := k_iff hc hf
  refine k_iload_n (i := 2) hA dX4_pairFrom_70 rfl 2 rfl ?_
  refine k_iload hA dX4_pairFrom_71 4 rfl ?_
  refine k_ishr hA dX4_pairFrom_73 ?_
  refine k_iconst hA dX4_pairFrom_74 kc_i_1 ?_
  refine k_iand hA dX4_pairFrom_75 ?_
  refine k_if_ne (tgt := 107) hA dX4_pairFrom_76 rfl (fun hc => ?_) (fun hc => ?_)
  · have hf := k_iff hc hf
    obtain ⟨x4_2, ex4_2, hf⟩ := k_lt_e hf
    refine k_iinc (j := 4) (v := x4_2) (lv' := [(4, .int x4_2), (0, .ref (a 24)), (1, .int x1), (2, .int x2), (3, .int x3)]) hA dX4_pairFrom_107 rfl (k_inc ex4_2 kc_i_1) (Nat.le_of_ble_eq_true rfl) rfl ?_
    refine k_goto (tgt := 61) hA dX4_pairFrom_110 rfl ?_
    refine k_pick (lv' := [(0, .ref (a 24)), (1, .int x1), (2, .int x2), (3, .int x3), (4, .int x4_2)]) [1, 2, 3, 4, 0] rfl ?_
    exact ih x1 x2 x3 x4_2 t hf
  have hf := k_ift hc hf
  obtain ⟨t_3, ht_3, hf⟩ := k_cv_e hf
  obtain ⟨x4_4, ex4_4, hf⟩ := k_lt_e hf
  refine k_aload_n (i := 0) hA dX4_pairFrom_79 rfl 0 rfl ?_
  refine k_iload_n (i := 1) hA dX4_pairFrom_80 rfl 1 rfl ?_
  refine k_iconst hA dX4_pairFrom_81 kc_i_1 ?_
  refine k_iadd hA dX4_pairFrom_82 ?_
  refine k_iload_n (i := 2) hA dX4_pairFrom_83 rfl 2 rfl ?_
  refine k_iconst hA dX4_pairFrom_84 kc_i_1 ?_
  refine k_iload hA dX4_pairFrom_85 4 rfl ?_
  refine k_ishl hA dX4_pairFrom_87 ?_
  refine k_ior hA dX4_pairFrom_88 ?_
  refine k_iload_n (i := 3) hA dX4_pairFrom_89 rfl 3 rfl ?_
  refine k_iload hA dX4_pairFrom_90 4 rfl ?_
  refine k_iconst hA dX4_pairFrom_92 kc_i_4 ?_
  refine k_iload_n (i := 1) hA dX4_pairFrom_93 rfl 1 rfl ?_
  refine k_imul hA dX4_pairFrom_94 ?_
  refine k_ishl hA dX4_pairFrom_95 ?_
  refine k_ior hA dX4_pairFrom_96 ?_
  refine k_iload_n (i := 1) hA dX4_pairFrom_97 rfl 1 rfl ?_
  refine k_iconst hA dX4_pairFrom_98 kc_i_4 ?_
  refine k_iload hA dX4_pairFrom_99 4 rfl ?_
  refine k_imul hA dX4_pairFrom_101 ?_
  refine k_ishl hA dX4_pairFrom_102 ?_
  refine k_ior hA dX4_pairFrom_103 ?_
  refine k_callVv (As := [.int (x1 + (1 : Int32)), .int (x2 ||| ((1 : Int32) <<< (x4 &&& 31))), .int ((x3 ||| (x4 <<< (((4 : Int32) * x1) &&& 31))) ||| (x1 <<< (((4 : Int32) * x4) &&& 31)))]) (rest := []) hA (hself (x1 + (1 : Int32)) (x2 ||| ((1 : Int32) <<< (x4 &&& 31))) ((x3 ||| (x4 <<< (((4 : Int32) * x1) &&& 31))) ||| (x1 <<< (((4 : Int32) * x4) &&& 31))) t _ ht_3) cd_X4_pairFrom wd_685 (hc_X_24 G.2.1 a tl t) rfl rfl (by omega) rfl rfl (Nat.le_of_ble_eq_true rfl) dX4_pairFrom_104 ?_
  refine k_iinc (j := 4) (v := x4_4) (lv' := [(4, .int x4_4), (0, .ref (a 24)), (1, .int x1), (2, .int x2), (3, .int x3)]) hA dX4_pairFrom_107 rfl (k_inc ex4_4 kc_i_1) (Nat.le_of_ble_eq_true rfl) rfl ?_
  refine k_goto (tgt := 61) hA dX4_pairFrom_110 rfl ?_
  refine k_pick (lv' := [(0, .ref (a 24)), (1, .int x1), (2, .int x2), (3, .int x3), (4, .int x4_4)]) [1, 2, 3, 4, 0] rfl ?_
  exact ih x1 x2 x3 x4_4 t_3 hf

theorem m_Pa_pairFrom (l : Launch) (G : k_G) (a : Nat → Nat) (tl : Value) (n : Nat) : ∀ (d : Nat) (x1 : Int32) (x2 : Int32) (x3 : Int32) (t : k_St) (t' : k_St), f_Pa_pairFrom n d x1 x2 x3 t = some t' → k_CV l G yX4_pairFrom cX4_pairFrom 5 none (d + 1) (k_WX G.2.1 a tl t) [.ref (a 24), .int x1, .int x2, .int x3] (k_WX G.2.1 a tl t') := by
  intro d
  induction d with
  | zero => intro x1 x2 x3 t t' hf; cases hf
  | succ d m_ih =>
  intro x1 x2 x3 t t' hf
  refine k_startV (lv := [(0, .ref (a 24)), (1, .int x1), (2, .int x2), (3, .int x3)]) (by decide +kernel) (Nat.le_of_ble_eq_true rfl) rfl ?_
  intro p e s m args below meth c hA hr
  have hA : k_Amb p s m args meth c cX4_pairFrom 5 "TaleShares$Park" G _ := hA
  rw [f_Pa_pairFrom] at hf
  refine k_iload_n (i := 1) hA dX4_pairFrom_0 rfl 1 rfl ?_
  refine k_aload_n (i := 0) hA dX4_pairFrom_1 rfl 0 rfl ?_
  refine gt_X_24_3 hA wd_326 dX4_pairFrom_2 ?_
  refine k_icmp_lt (tgt := 38) hA dX4_pairFrom_5 rfl (fun hc => ?_) (fun hc => ?_)
  · have hf := k_ift hc hf
    refine k_iload_n (i := 2) hA dX4_pairFrom_38 rfl 2 rfl ?_
    refine k_iload_n (i := 1) hA dX4_pairFrom_39 rfl 1 rfl ?_
    refine k_ishr hA dX4_pairFrom_40 ?_
    refine k_iconst hA dX4_pairFrom_41 kc_i_1 ?_
    refine k_iand hA dX4_pairFrom_42 ?_
    refine k_if_eq (tgt := 56) hA dX4_pairFrom_43 rfl (fun hc => ?_) (fun hc => ?_)
    · have hf := k_ift hc hf
      obtain ⟨x4_1, ex4_1, hf⟩ := k_lt_e hf
      refine k_iload_n (i := 1) hA dX4_pairFrom_56 rfl 1 rfl ?_
      refine k_iconst hA dX4_pairFrom_57 kc_i_1 ?_
      refine k_iadd hA dX4_pairFrom_58 ?_
      refine k_istore (lv' := [(4, .int x4_1), (0, .ref (a 24)), (1, .int x1), (2, .int x2), (3, .int x3)]) hA dX4_pairFrom_59 ex4_1 (Nat.le_of_ble_eq_true rfl) rfl ?_
      refine k_pick (lv' := [(0, .ref (a 24)), (1, .int x1), (2, .int x2), (3, .int x3), (4, .int x4_1)]) [1, 2, 3, 4, 0] rfl ?_
      exact m_Pa_pairFrom_61 l G a tl n d hA hr (f_Pa_pairFrom n d) m_ih n x1 x2 x3 x4_1 t hf
    have hf := k_iff hc hf
    obtain ⟨t_2, ht_2, hf⟩ := k_cv_e hf
    obtain rfl := k_r1 hf
    refine k_aload_n (i := 0) hA dX4_pairFrom_46 rfl 0 rfl ?_
    refine k_iload_n (i := 1) hA dX4_pairFrom_47 rfl 1 rfl ?_
    refine k_iconst hA dX4_pairFrom_48 kc_i_1 ?_
    refine k_iadd hA dX4_pairFrom_49 ?_
    refine k_iload_n (i := 2) hA dX4_pairFrom_50 rfl 2 rfl ?_
    refine k_iload_n (i := 3) hA dX4_pairFrom_51 rfl 3 rfl ?_
    refine k_callVv (As := [.int (x1 + (1 : Int32)), .int x2, .int x3]) (rest := []) hA (m_ih (x1 + (1 : Int32)) x2 x3 t _ ht_2) cd_X4_pairFrom wd_685 (hc_X_24 G.2.1 a tl t) rfl rfl (by omega) rfl rfl (Nat.le_of_ble_eq_true rfl) dX4_pairFrom_52 ?_
    exact k_vret hA hr dX4_pairFrom_55
  have hf := k_iff hc hf
  refine k_aload_n (i := 0) hA dX4_pairFrom_8 rfl 0 rfl ?_
  refine gt_X_24_2 hA wd_325 dX4_pairFrom_9 ?_
  refine k_bipush hA dX4_pairFrom_12 kc_b_26 ?_
  refine k_icmp_ge (tgt := 37) hA dX4_pairFrom_14 rfl (fun hc => ?_) (fun hc => ?_)
  · have hf := k_ift hc hf
    obtain rfl := k_r1 hf
    exact k_vret hA hr dX4_pairFrom_37
  have hf := k_iff hc hf
  obtain ⟨hi_3, hf⟩ := k_gi_e hf
  obtain ⟨t_4, et_4, hf⟩ := k_lt_e hf
  obtain ⟨t_5, et_5, hf⟩ := k_lt_e hf
  obtain rfl := k_r1 hf
  refine k_aload_n (i := 0) hA dX4_pairFrom_17 rfl 0 rfl ?_
  refine gt_X_24_0 hA wd_323 dX4_pairFrom_18 ?_
  refine k_aload_n (i := 0) hA dX4_pairFrom_21 rfl 0 rfl ?_
  refine gt_X_24_2 hA wd_325 dX4_pairFrom_22 ?_
  refine k_iload_n (i := 3) hA dX4_pairFrom_25 rfl 3 rfl ?_
  refine sr_X_25 hA hi_3 et_4 dX4_pairFrom_26 ?_
  refine k_aload_n (i := 0) hA dX4_pairFrom_27 rfl 0 rfl ?_
  refine k_dup hA dX4_pairFrom_28 rfl ?_
  refine gt_X_24_2 hA wd_325 dX4_pairFrom_29 ?_
  refine k_iconst hA dX4_pairFrom_32 kc_i_1 ?_
  refine k_iadd hA dX4_pairFrom_33 ?_
  refine pt_X_24_2 hA wd_325 et_5 dX4_pairFrom_34 ?_
  exact k_vret hA hr dX4_pairFrom_37

def f_Pa_open (n : Nat) (t : k_St) : Option k_St := k_lt (k_sI t 24 3 (t.1 2 4)) (fun t_1 => k_lt (k_sI t_1 24 4 (t_1.1 2 6)) (fun t_2 => k_lt (k_sI t_2 24 2 (0 : Int32)) (fun t_3 => k_cv (f_Pa_pairFrom n (6 : Nat) (0 : Int32) (0 : Int32) (0 : Int32) t_3) (fun t_4 => some t_4))))
theorem m_Pa_open (l : Launch) (G : k_G) (a : Nat → Nat) (tl : Value) (n : Nat) (t : k_St) {t' : k_St} (hf : f_Pa_open n t = some t') : k_CV l G yX4_open cX4_open 2 none 8 (k_WX G.2.1 a tl t) [.ref (a 24), .ref (a 2)] (k_WX G.2.1 a tl t') := by
  refine k_startV (lv := [(0, .ref (a 24)), (1, .ref (a 2))]) (by decide +kernel) (Nat.le_of_ble_eq_true rfl) rfl ?_
  intro p e s m args below meth c hA hr
  have hA : k_Amb p s m args meth c cX4_open 2 "TaleShares$Park" G _ := hA
  unfold f_Pa_open at hf
  obtain ⟨t_1, et_1, hf⟩ := k_lt_e hf
  obtain ⟨t_2, et_2, hf⟩ := k_lt_e hf
  obtain ⟨t_3, et_3, hf⟩ := k_lt_e hf
  obtain ⟨t_4, ht_4, hf⟩ := k_cv_e hf
  obtain rfl := k_r1 hf
  refine k_aload_n (i := 0) hA dX4_open_0 rfl 0 rfl ?_
  refine k_aload_n (i := 1) hA dX4_open_1 rfl 1 rfl ?_
  refine gt_X_2_4 hA wd_172 dX4_open_2 ?_
  refine pt_X_24_3 hA wd_326 et_1 dX4_open_5 ?_
  refine k_aload_n (i := 0) hA dX4_open_8 rfl 0 rfl ?_
  refine k_aload_n (i := 1) hA dX4_open_9 rfl 1 rfl ?_
  refine gt_X_2_6 hA wd_181 dX4_open_10 ?_
  refine pt_X_24_4 hA wd_327 et_2 dX4_open_13 ?_
  refine k_aload_n (i := 0) hA dX4_open_16 rfl 0 rfl ?_
  refine k_iconst hA dX4_open_17 kc_i_0 ?_
  refine pt_X_24_2 hA wd_325 et_3 dX4_open_18 ?_
  refine k_aload_n (i := 0) hA dX4_open_21 rfl 0 rfl ?_
  refine k_iconst hA dX4_open_22 kc_i_0 ?_
  refine k_iconst hA dX4_open_23 kc_i_0 ?_
  refine k_iconst hA dX4_open_24 kc_i_0 ?_
  refine k_callVv (As := [.int (0 : Int32), .int (0 : Int32), .int (0 : Int32)]) (rest := []) hA (m_Pa_pairFrom l G a tl n (6 : Nat) (0 : Int32) (0 : Int32) (0 : Int32) t_3 _ ht_4) cd_X4_pairFrom wd_685 (hc_X_24 G.2.1 a tl t_3) rfl rfl (Nat.le_of_ble_eq_true rfl) rfl rfl (Nat.le_of_ble_eq_true rfl) dX4_open_25 ?_
  exact k_vret hA hr dX4_open_28

def f_Ti_keepOrder_22 (n : Nat) : Nat → Int32 → Int32 → k_St → Option k_St
  | 0, _, _, _ => none
  | k + 1, x1, x3, t => (if x1 ≤ x3 then k_lt (k_sI t 27 1 ((t.1 27 1) + (1 : Int32))) (fun t_1 => some t_1) else k_gi x3 5 (k_gi x3 5 (k_lt (k_sI t 28 x3.toNatClampNeg (t.1 30 x3.toNatClampNeg)) (fun t_4 => k_lt (x3 + (1 : Int32)) (fun x3_5 => f_Ti_keepOrder_22 n k x1 x3_5 t_4)))))
def f_Ti_keepOrder (n : Nat) (x1 : Int32) (x2 : Int32) (t : k_St) : Option k_St := (if (t.1 27 1) = 0 then k_lt (k_sI t 27 0 x2) (fun t_1 => f_Ti_keepOrder_22 n n x1 (0 : Int32) t_1) else (if (t.1 27 0) ≤ x2 then k_lt (k_sI t 27 1 ((t.1 27 1) + (1 : Int32))) (fun t_2 => some t_2) else k_lt (k_sI t 27 0 x2) (fun t_3 => f_Ti_keepOrder_22 n n x1 (0 : Int32) t_3)))
theorem m_Ti_keepOrder_22 {p : Program} (l : Launch) {e : Env} {s : State} {m : MethodId} {args : Array Value} {below : List Frame} {meth : Method} {c : Code} (G : k_G) (a : Nat → Nat) (tl : Value) (n : Nat) {w0 : va_W} {t' : k_St} (hA : k_Amb p s m args meth c cX9_keepOrder 4 "TaleShares$Timetable" G (va_A w0 s.heap.size)) (hr : meth.sig.returnType = none) : ∀ (k : Nat) (x1 : Int32) (x3 : Int32) (t : k_St), f_Ti_keepOrder_22 n k x1 x3 t = some t' → k_Go p l e (k_rm 1) s m args below meth c (k_QV G w0 (k_WX G.2.1 a tl t') args s below) 4 G (va_A w0 s.heap.size) (k_WX G.2.1 a tl t) 22 [(0, .ref (a 27)), (1, .int x1), (3, .int x3)] [] := by
  intro k
  induction k with
  | zero => intro x1 x3 t hf; cases hf
  | succ k ih =>
  intro x1 x3 t hf
  rw [f_Ti_keepOrder_22] at hf
  refine k_iload_n (i := 3) hA dX9_keepOrder_22 rfl 2 rfl ?_
  refine k_iload_n (i := 1) hA dX9_keepOrder_23 rfl 1 rfl ?_
  refine k_icmp_ge (tgt := 45) hA dX9_keepOrder_24 rfl (fun hc => ?_) (fun hc => ?_)
  · have hf := k_ift hc hf
    obtain ⟨t_1, et_1, hf⟩ := k_lt_e hf
    obtain rfl := k_r1 hf
    refine k_aload_n (i := 0) hA dX9_keepOrder_45 rfl 0 rfl ?_
    refine k_dup hA dX9_keepOrder_46 rfl ?_
    refine gt_X_27_1 hA wd_350 dX9_keepOrder_47 ?_
    refine k_iconst hA dX9_keepOrder_50 kc_i_1 ?_
    refine k_iadd hA dX9_keepOrder_51 ?_
    refine pt_X_27_1 hA wd_350 et_1 dX9_keepOrder_52 ?_
    exact k_vret hA hr dX9_keepOrder_55
  have hf := k_iff hc hf
  obtain ⟨hi_2, hf⟩ := k_gi_e hf
  obtain ⟨hi_3, hf⟩ := k_gi_e hf
  obtain ⟨t_4, et_4, hf⟩ := k_lt_e hf
  obtain ⟨x3_5, ex3_5, hf⟩ := k_lt_e hf
  refine k_aload_n (i := 0) hA dX9_keepOrder_27 rfl 0 rfl ?_
  refine gt_X_27_2 hA wd_352 dX9_keepOrder_28 ?_
  refine k_iload_n (i := 3) hA dX9_keepOrder_31 rfl 2 rfl ?_
  refine k_aload_n (i := 0) hA dX9_keepOrder_32 rfl 0 rfl ?_
  refine gt_X_27_4 hA wd_356 dX9_keepOrder_33 ?_
  refine k_iload_n (i := 3) hA dX9_keepOrder_36 rfl 2 rfl ?_
  refine ld_X_30 hA hi_2 dX9_keepOrder_37 ?_
  refine sr_X_28 hA hi_3 et_4 dX9_keepOrder_38 ?_
  refine k_iinc (j := 2) (v := x3_5) (lv' := [(3, .int x3_5), (0, .ref (a 27)), (1, .int x1)]) hA dX9_keepOrder_39 rfl (k_inc ex3_5 kc_i_1) (Nat.le_of_ble_eq_true rfl) rfl ?_
  refine k_goto (tgt := 22) hA dX9_keepOrder_42 rfl ?_
  refine k_pick (lv' := [(0, .ref (a 27)), (1, .int x1), (3, .int x3_5)]) [1, 2, 0] rfl ?_
  exact ih x1 x3_5 t_4 hf

theorem m_Ti_keepOrder (l : Launch) (G : k_G) (a : Nat → Nat) (tl : Value) (n : Nat) (x1 : Int32) (x2 : Int32) (t : k_St) {t' : k_St} (hf : f_Ti_keepOrder n x1 x2 t = some t') : k_CV l G yX9_keepOrder cX9_keepOrder 4 none 1 (k_WX G.2.1 a tl t) [.ref (a 27), .int x1, .int x2] (k_WX G.2.1 a tl t') := by
  refine k_startV (lv := [(0, .ref (a 27)), (1, .int x1), (2, .int x2)]) (by decide +kernel) (Nat.le_of_ble_eq_true rfl) rfl ?_
  intro p e s m args below meth c hA hr
  have hA : k_Amb p s m args meth c cX9_keepOrder 4 "TaleShares$Timetable" G _ := hA
  unfold f_Ti_keepOrder at hf
  refine k_aload_n (i := 0) hA dX9_keepOrder_0 rfl 0 rfl ?_
  refine gt_X_27_1 hA wd_350 dX9_keepOrder_1 ?_
  refine k_if_eq (tgt := 15) hA dX9_keepOrder_4 rfl (fun hc => ?_) (fun hc => ?_)
  · have hf := k_ift hc hf
    obtain ⟨t_1, et_1, hf⟩ := k_lt_e hf
    refine k_aload_n (i := 0) hA dX9_keepOrder_15 rfl 0 rfl ?_
    refine k_iload_n (i := 2) hA dX9_keepOrder_16 rfl 2 rfl ?_
    refine pt_X_27_0 hA wd_348 et_1 dX9_keepOrder_17 ?_
    refine k_iconst hA dX9_keepOrder_20 kc_i_0 ?_
    refine k_istore_n (i := 3) (lv' := [(3, .int (0 : Int32)), (0, .ref (a 27)), (1, .int x1), (2, .int x2)]) hA dX9_keepOrder_21 rfl rfl (Nat.le_of_ble_eq_true rfl) rfl ?_
    refine k_pick (lv' := [(0, .ref (a 27)), (1, .int x1), (3, .int (0 : Int32))]) [1, 2, 0] rfl ?_
    exact m_Ti_keepOrder_22 l G a tl n hA hr n x1 (0 : Int32) t_1 hf
  have hf := k_iff hc hf
  refine k_iload_n (i := 2) hA dX9_keepOrder_7 rfl 2 rfl ?_
  refine k_aload_n (i := 0) hA dX9_keepOrder_8 rfl 0 rfl ?_
  refine gt_X_27_0 hA wd_348 dX9_keepOrder_9 ?_
  refine k_icmp_ge (tgt := 45) hA dX9_keepOrder_12 rfl (fun hc => ?_) (fun hc => ?_)
  · have hf := k_ift hc hf
    obtain ⟨t_2, et_2, hf⟩ := k_lt_e hf
    obtain rfl := k_r1 hf
    refine k_aload_n (i := 0) hA dX9_keepOrder_45 rfl 0 rfl ?_
    refine k_dup hA dX9_keepOrder_46 rfl ?_
    refine gt_X_27_1 hA wd_350 dX9_keepOrder_47 ?_
    refine k_iconst hA dX9_keepOrder_50 kc_i_1 ?_
    refine k_iadd hA dX9_keepOrder_51 ?_
    refine pt_X_27_1 hA wd_350 et_2 dX9_keepOrder_52 ?_
    exact k_vret hA hr dX9_keepOrder_55
  have hf := k_iff hc hf
  obtain ⟨t_3, et_3, hf⟩ := k_lt_e hf
  refine k_aload_n (i := 0) hA dX9_keepOrder_15 rfl 0 rfl ?_
  refine k_iload_n (i := 2) hA dX9_keepOrder_16 rfl 2 rfl ?_
  refine pt_X_27_0 hA wd_348 et_3 dX9_keepOrder_17 ?_
  refine k_iconst hA dX9_keepOrder_20 kc_i_0 ?_
  refine k_istore_n (i := 3) (lv' := [(3, .int (0 : Int32)), (0, .ref (a 27)), (1, .int x1), (2, .int x2)]) hA dX9_keepOrder_21 rfl rfl (Nat.le_of_ble_eq_true rfl) rfl ?_
  refine k_pick (lv' := [(0, .ref (a 27)), (1, .int x1), (3, .int (0 : Int32))]) [1, 2, 0] rfl ?_
  exact m_Ti_keepOrder_22 l G a tl n hA hr n x1 (0 : Int32) t_3 hf

def f_Ti_visitFrom_22 (n : Nat) (self : Int32 → Int32 → Int32 → Int32 → k_St → Option k_St) : Nat → Int32 → Int32 → Int32 → Int32 → Int32 → k_St → Option k_St
  | 0, _, _, _, _, _, _ => none
  | k + 1, x2, x3, x4, x5, x6, t => (if (t.1 2 4) ≤ x6 then some t else k_gi x6 5 (k_lt (if (x4 + (1 : Int32)) < (t.1 6 x6.toNatClampNeg) then (t.1 6 x6.toNatClampNeg) else (x4 + (1 : Int32))) (fun x7_2 => (if ((x3 >>> (x6 &&& 31)) &&& (1 : Int32)) = 0 then k_gi x6 5 ((if (t.1 7 x6.toNatClampNeg) < x7_2 then k_lt (x6 + (1 : Int32)) (fun x6_5 => f_Ti_visitFrom_22 n self k x2 x3 x4 x5 x6_5 t) else (if x2 = 0 then k_gi x2 5 (k_lt (k_sI t 30 x2.toNatClampNeg x6) (fun t_15 => k_cv (self (x2 + (1 : Int32)) (x3 ||| ((1 : Int32) <<< (x6 &&& 31))) x7_2 (x5 + (0 : Int32)) t_15) (fun t_16 => k_lt (x6 + (1 : Int32)) (fun x6_17 => f_Ti_visitFrom_22 n self k x2 x3 x4 x5 x6_17 t_16)))) else k_gi x6 5 (k_gi (x2 - (1 : Int32)) 5 (k_gi (t.1 30 (x2 - (1 : Int32)).toNatClampNeg) 5 (k_lt (if 0 ≤ ((t.1 5 x6.toNatClampNeg) - (t.1 5 (t.1 30 (x2 - (1 : Int32)).toNatClampNeg).toNatClampNeg)) then ((t.1 5 x6.toNatClampNeg) - (t.1 5 (t.1 30 (x2 - (1 : Int32)).toNatClampNeg).toNatClampNeg)) else 0 - ((t.1 5 x6.toNatClampNeg) - (t.1 5 (t.1 30 (x2 - (1 : Int32)).toNatClampNeg).toNatClampNeg))) (fun x8_9 => k_gi x2 5 (k_lt (k_sI t 30 x2.toNatClampNeg x6) (fun t_11 => k_cv (self (x2 + (1 : Int32)) (x3 ||| ((1 : Int32) <<< (x6 &&& 31))) x7_2 (x5 + x8_9) t_11) (fun t_12 => k_lt (x6 + (1 : Int32)) (fun x6_13 => f_Ti_visitFrom_22 n self k x2 x3 x4 x5 x6_13 t_12))))))))))) else k_lt (x6 + (1 : Int32)) (fun x6_3 => f_Ti_visitFrom_22 n self k x2 x3 x4 x5 x6_3 t)))))
def f_Ti_visitFrom (n : Nat) : Nat → Int32 → Int32 → Int32 → Int32 → k_St → Option k_St
  | 0, _, _, _, _, _ => none
  | d + 1, x2, x3, x4, x5, t => (if x2 < (t.1 2 4) then f_Ti_visitFrom_22 n (f_Ti_visitFrom n d) n x2 x3 x4 x5 (0 : Int32) t else k_cv (f_Ti_keepOrder n (t.1 2 4) x5 t) (fun t_1 => some t_1))
theorem m_Ti_visitFrom_22 {p : Program} (l : Launch) {e : Env} {s : State} {m : MethodId} {args : Array Value} {below : List Frame} {meth : Method} {c : Code} (G : k_G) (a : Nat → Nat) (tl : Value) (n : Nat) {w0 : va_W} {t' : k_St} (d : Nat) (hA : k_Amb p s m args meth c cX9_visitFrom 9 "TaleShares$Timetable" G (va_A w0 s.heap.size)) (hr : meth.sig.returnType = none) (self : Int32 → Int32 → Int32 → Int32 → k_St → Option k_St) (hself : ∀ (x2 : Int32) (x3 : Int32) (x4 : Int32) (x5 : Int32) (t : k_St) (t' : k_St), self x2 x3 x4 x5 t = some t' → k_CV l G yX9_visitFrom cX9_visitFrom 9 none (d + 2) (k_WX G.2.1 a tl t) [.ref (a 27), .ref (a 2), .int x2, .int x3, .int x4, .int x5] (k_WX G.2.1 a tl t')) : ∀ (k : Nat) (x2 : Int32) (x3 : Int32) (x4 : Int32) (x5 : Int32) (x6 : Int32) (t : k_St), f_Ti_visitFrom_22 n self k x2 x3 x4 x5 x6 t = some t' → k_Go p l e (k_rm (d + 1 + 2)) s m args below meth c (k_QV G w0 (k_WX G.2.1 a tl t') args s below) 9 G (va_A w0 s.heap.size) (k_WX G.2.1 a tl t) 22 [(0, .ref (a 27)), (1, .ref (a 2)), (2, .int x2), (3, .int x3), (4, .int x4), (5, .int x5), (6, .int x6)] [] := by
  intro k
  induction k with
  | zero => intro x2 x3 x4 x5 x6 t hf; cases hf
  | succ k ih =>
  intro x2 x3 x4 x5 x6 t hf
  rw [f_Ti_visitFrom_22] at hf
  refine k_iload hA dX9_visitFrom_22 6 rfl ?_
  refine k_aload_n (i := 1) hA dX9_visitFrom_24 rfl 1 rfl ?_
  refine gt_X_2_4 hA wd_175 dX9_visitFrom_25 ?_
  refine k_icmp_ge (tgt := 137) hA dX9_visitFrom_28 rfl (fun hc => ?_) (fun hc => ?_)
  · have hf := k_ift hc hf
    obtain rfl := k_r1 hf
    exact k_vret hA hr dX9_visitFrom_137
  have hf := k_iff hc hf
  obtain ⟨hi_1, hf⟩ := k_gi_e hf
  obtain ⟨x7_2, ex7_2, hf⟩ := k_lt_e hf
  refine k_iload hA dX9_visitFrom_31 4 rfl ?_
  refine k_iconst hA dX9_visitFrom_33 kc_i_1 ?_
  refine k_iadd hA dX9_visitFrom_34 ?_
  refine k_aload_n (i := 1) hA dX9_visitFrom_35 rfl 1 rfl ?_
  refine gt_X_2_11 hA wd_201 dX9_visitFrom_36 ?_
  refine k_iload hA dX9_visitFrom_39 6 rfl ?_
  refine ld_X_6 hA hi_1 dX9_visitFrom_41 ?_
  refine k_mmax hA wd_701 wd_702 wd_129 wd_703 (by omega) (Nat.le_of_ble_eq_true rfl) dX9_visitFrom_42 ?_
  refine k_istore (lv' := [(7, .int x7_2), (0, .ref (a 27)), (1, .ref (a 2)), (2, .int x2), (3, .int x3), (4, .int x4), (5, .int x5), (6, .int x6)]) hA dX9_visitFrom_45 ex7_2 (Nat.le_of_ble_eq_true rfl) rfl ?_
  refine k_iload_n (i := 3) hA dX9_visitFrom_47 rfl 4 rfl ?_
  refine k_iload hA dX9_visitFrom_48 7 rfl ?_
  refine k_ishr hA dX9_visitFrom_50 ?_
  refine k_iconst hA dX9_visitFrom_51 kc_i_1 ?_
  refine k_iand hA dX9_visitFrom_52 ?_
  refine k_if_ne (tgt := 131) hA dX9_visitFrom_53 rfl (fun hc => ?_) (fun hc => ?_)
  · have hf := k_iff hc hf
    obtain ⟨x6_3, ex6_3, hf⟩ := k_lt_e hf
    refine k_iinc (j := 7) (v := x6_3) (lv' := [(6, .int x6_3), (7, .int x7_2), (0, .ref (a 27)), (1, .ref (a 2)), (2, .int x2), (3, .int x3), (4, .int x4), (5, .int x5)]) hA dX9_visitFrom_131 rfl (k_inc ex6_3 kc_i_1) (Nat.le_of_ble_eq_true rfl) rfl ?_
    refine k_goto (tgt := 22) hA dX9_visitFrom_134 rfl ?_
    refine k_pick (lv' := [(0, .ref (a 27)), (1, .ref (a 2)), (2, .int x2), (3, .int x3), (4, .int x4), (5, .int x5), (6, .int x6_3)]) [2, 3, 4, 5, 6, 7, 0] rfl ?_
    exact ih x2 x3 x4 x5 x6_3 t hf
  have hf := k_ift hc hf
  obtain ⟨hi_4, hf⟩ := k_gi_e hf
  refine k_iload hA dX9_visitFrom_56 0 rfl ?_
  refine k_aload_n (i := 1) hA dX9_visitFrom_58 rfl 2 rfl ?_
  refine gt_X_2_12 hA wd_205 dX9_visitFrom_59 ?_
  refine k_iload hA dX9_visitFrom_62 7 rfl ?_
  refine ld_X_7 hA hi_4 dX9_visitFrom_64 ?_
  refine k_icmp_gt (tgt := 131) hA dX9_visitFrom_65 rfl (fun hc => ?_) (fun hc => ?_)
  · have hf := k_ift hc hf
    obtain ⟨x6_5, ex6_5, hf⟩ := k_lt_e hf
    refine k_iinc (j := 7) (v := x6_5) (lv' := [(6, .int x6_5), (7, .int x7_2), (0, .ref (a 27)), (1, .ref (a 2)), (2, .int x2), (3, .int x3), (4, .int x4), (5, .int x5)]) hA dX9_visitFrom_131 rfl (k_inc ex6_5 kc_i_1) (Nat.le_of_ble_eq_true rfl) rfl ?_
    refine k_goto (tgt := 22) hA dX9_visitFrom_134 rfl ?_
    refine k_pick (lv' := [(0, .ref (a 27)), (1, .ref (a 2)), (2, .int x2), (3, .int x3), (4, .int x4), (5, .int x5), (6, .int x6_5)]) [2, 3, 4, 5, 6, 7, 0] rfl ?_
    exact ih x2 x3 x4 x5 x6_5 t hf
  have hf := k_iff hc hf
  refine k_iload_n (i := 2) hA dX9_visitFrom_68 rfl 3 rfl ?_
  refine k_if_ne (tgt := 76) hA dX9_visitFrom_69 rfl (fun hc => ?_) (fun hc => ?_)
  · have hf := k_iff hc hf
    obtain ⟨hi_6, hf⟩ := k_gi_e hf
    obtain ⟨hi_7, hf⟩ := k_gi_e hf
    obtain ⟨hi_8, hf⟩ := k_gi_e hf
    obtain ⟨x8_9, ex8_9, hf⟩ := k_lt_e hf
    obtain ⟨hi_10, hf⟩ := k_gi_e hf
    obtain ⟨t_11, et_11, hf⟩ := k_lt_e hf
    obtain ⟨t_12, ht_12, hf⟩ := k_cv_e hf
    obtain ⟨x6_13, ex6_13, hf⟩ := k_lt_e hf
    refine k_aload_n (i := 1) hA dX9_visitFrom_76 rfl 2 rfl ?_
    refine gt_X_2_10 hA wd_197 dX9_visitFrom_77 ?_
    refine k_iload hA dX9_visitFrom_80 7 rfl ?_
    refine ld_X_5 hA hi_6 dX9_visitFrom_82 ?_
    refine k_aload_n (i := 1) hA dX9_visitFrom_83 rfl 2 rfl ?_
    refine gt_X_2_10 hA wd_197 dX9_visitFrom_84 ?_
    refine k_aload_n (i := 0) hA dX9_visitFrom_87 rfl 1 rfl ?_
    refine gt_X_27_4 hA wd_356 dX9_visitFrom_88 ?_
    refine k_iload_n (i := 2) hA dX9_visitFrom_91 rfl 3 rfl ?_
    refine k_iconst hA dX9_visitFrom_92 kc_i_1 ?_
    refine k_isub hA dX9_visitFrom_93 ?_
    refine ld_X_30 hA hi_7 dX9_visitFrom_94 ?_
    refine ld_X_5 hA hi_8 dX9_visitFrom_95 ?_
    refine k_isub hA dX9_visitFrom_96 ?_
    refine k_mabs hA wd_704 wd_705 wd_129 wd_706 (by omega) (Nat.le_of_ble_eq_true rfl) dX9_visitFrom_97 ?_
    refine k_istore (lv' := [(8, .int x8_9), (7, .int x7_2), (0, .ref (a 27)), (1, .ref (a 2)), (2, .int x2), (3, .int x3), (4, .int x4), (5, .int x5), (6, .int x6)]) hA dX9_visitFrom_100 ex8_9 (Nat.le_of_ble_eq_true rfl) rfl ?_
    refine k_aload_n (i := 0) hA dX9_visitFrom_102 rfl 2 rfl ?_
    refine gt_X_27_4 hA wd_356 dX9_visitFrom_103 ?_
    refine k_iload_n (i := 2) hA dX9_visitFrom_106 rfl 4 rfl ?_
    refine k_iload hA dX9_visitFrom_107 8 rfl ?_
    refine sr_X_30 hA hi_10 et_11 dX9_visitFrom_109 ?_
    refine k_aload_n (i := 0) hA dX9_visitFrom_110 rfl 2 rfl ?_
    refine k_aload_n (i := 1) hA dX9_visitFrom_111 rfl 3 rfl ?_
    refine k_iload_n (i := 2) hA dX9_visitFrom_112 rfl 4 rfl ?_
    refine k_iconst hA dX9_visitFrom_113 kc_i_1 ?_
    refine k_iadd hA dX9_visitFrom_114 ?_
    refine k_iload_n (i := 3) hA dX9_visitFrom_115 rfl 5 rfl ?_
    refine k_iconst hA dX9_visitFrom_116 kc_i_1 ?_
    refine k_iload hA dX9_visitFrom_117 8 rfl ?_
    refine k_ishl hA dX9_visitFrom_119 ?_
    refine k_ior hA dX9_visitFrom_120 ?_
    refine k_iload hA dX9_visitFrom_121 1 rfl ?_
    refine k_iload hA dX9_visitFrom_123 7 rfl ?_
    refine k_iload hA dX9_visitFrom_125 0 rfl ?_
    refine k_iadd hA dX9_visitFrom_127 ?_
    refine k_callVv (As := [.ref (a 2), .int (x2 + (1 : Int32)), .int (x3 ||| ((1 : Int32) <<< (x6 &&& 31))), .int x7_2, .int (x5 + x8_9)]) (rest := []) hA (hself (x2 + (1 : Int32)) (x3 ||| ((1 : Int32) <<< (x6 &&& 31))) x7_2 (x5 + x8_9) t_11 _ ht_12) cd_X9_visitFrom wd_693 (hc_X_27 G.2.1 a tl t_11) rfl rfl (by omega) rfl rfl (Nat.le_of_ble_eq_true rfl) dX9_visitFrom_128 ?_
    refine k_iinc (j := 8) (v := x6_13) (lv' := [(6, .int x6_13), (8, .int x8_9), (7, .int x7_2), (0, .ref (a 27)), (1, .ref (a 2)), (2, .int x2), (3, .int x3), (4, .int x4), (5, .int x5)]) hA dX9_visitFrom_131 rfl (k_inc ex6_13 kc_i_1) (Nat.le_of_ble_eq_true rfl) rfl ?_
    refine k_goto (tgt := 22) hA dX9_visitFrom_134 rfl ?_
    refine k_pick (lv' := [(0, .ref (a 27)), (1, .ref (a 2)), (2, .int x2), (3, .int x3), (4, .int x4), (5, .int x5), (6, .int x6_13)]) [3, 4, 5, 6, 7, 8, 0] rfl ?_
    exact ih x2 x3 x4 x5 x6_13 t_12 hf
  have hf := k_ift hc hf
  obtain ⟨hi_14, hf⟩ := k_gi_e hf
  obtain ⟨t_15, et_15, hf⟩ := k_lt_e hf
  obtain ⟨t_16, ht_16, hf⟩ := k_cv_e hf
  obtain ⟨x6_17, ex6_17, hf⟩ := k_lt_e hf
  refine k_iconst hA dX9_visitFrom_72 kc_i_0 ?_
  refine k_goto (tgt := 100) hA dX9_visitFrom_73 rfl ?_
  refine k_istore (lv' := [(8, .int (0 : Int32)), (7, .int x7_2), (0, .ref (a 27)), (1, .ref (a 2)), (2, .int x2), (3, .int x3), (4, .int x4), (5, .int x5), (6, .int x6)]) hA dX9_visitFrom_100 rfl (Nat.le_of_ble_eq_true rfl) rfl ?_
  refine k_aload_n (i := 0) hA dX9_visitFrom_102 rfl 2 rfl ?_
  refine gt_X_27_4 hA wd_356 dX9_visitFrom_103 ?_
  refine k_iload_n (i := 2) hA dX9_visitFrom_106 rfl 4 rfl ?_
  refine k_iload hA dX9_visitFrom_107 8 rfl ?_
  refine sr_X_30 hA hi_14 et_15 dX9_visitFrom_109 ?_
  refine k_aload_n (i := 0) hA dX9_visitFrom_110 rfl 2 rfl ?_
  refine k_aload_n (i := 1) hA dX9_visitFrom_111 rfl 3 rfl ?_
  refine k_iload_n (i := 2) hA dX9_visitFrom_112 rfl 4 rfl ?_
  refine k_iconst hA dX9_visitFrom_113 kc_i_1 ?_
  refine k_iadd hA dX9_visitFrom_114 ?_
  refine k_iload_n (i := 3) hA dX9_visitFrom_115 rfl 5 rfl ?_
  refine k_iconst hA dX9_visitFrom_116 kc_i_1 ?_
  refine k_iload hA dX9_visitFrom_117 8 rfl ?_
  refine k_ishl hA dX9_visitFrom_119 ?_
  refine k_ior hA dX9_visitFrom_120 ?_
  refine k_iload hA dX9_visitFrom_121 1 rfl ?_
  refine k_iload hA dX9_visitFrom_123 7 rfl ?_
  refine k_iload hA dX9_visitFrom_125 0 rfl ?_
  refine k_iadd hA dX9_visitFrom_127 ?_
  refine k_callVv (As := [.ref (a 2), .int (x2 + (1 : Int32)), .int (x3 ||| ((1 : Int32) <<< (x6 &&& 31))), .int x7_2, .int (x5 + (0 : Int32))]) (rest := []) hA (hself (x2 + (1 : Int32)) (x3 ||| ((1 : Int32) <<< (x6 &&& 31))) x7_2 (x5 + (0 : Int32)) t_15 _ ht_16) cd_X9_visitFrom wd_693 (hc_X_27 G.2.1 a tl t_15) rfl rfl (by omega) rfl rfl (Nat.le_of_ble_eq_true rfl) dX9_visitFrom_128 ?_
  refine k_iinc (j := 8) (v := x6_17) (lv' := [(6, .int x6_17), (8, .int (0 : Int32)), (7, .int x7_2), (0, .ref (a 27)), (1, .ref (a 2)), (2, .int x2), (3, .int x3), (4, .int x4), (5, .int x5)]) hA dX9_visitFrom_131 rfl (k_inc ex6_17 kc_i_1) (Nat.le_of_ble_eq_true rfl) rfl ?_
  refine k_goto (tgt := 22) hA dX9_visitFrom_134 rfl ?_
  refine k_pick (lv' := [(0, .ref (a 27)), (1, .ref (a 2)), (2, .int x2), (3, .int x3), (4, .int x4), (5, .int x5), (6, .int x6_17)]) [3, 4, 5, 6, 7, 8, 0] rfl ?_
  exact ih x2 x3 x4 x5 x6_17 t_16 hf

theorem m_Ti_visitFrom (l : Launch) (G : k_G) (a : Nat → Nat) (tl : Value) (n : Nat) : ∀ (d : Nat) (x2 : Int32) (x3 : Int32) (x4 : Int32) (x5 : Int32) (t : k_St) (t' : k_St), f_Ti_visitFrom n d x2 x3 x4 x5 t = some t' → k_CV l G yX9_visitFrom cX9_visitFrom 9 none (d + 2) (k_WX G.2.1 a tl t) [.ref (a 27), .ref (a 2), .int x2, .int x3, .int x4, .int x5] (k_WX G.2.1 a tl t') := by
  intro d
  induction d with
  | zero => intro x2 x3 x4 x5 t t' hf; cases hf
  | succ d m_ih =>
  intro x2 x3 x4 x5 t t' hf
  refine k_startV (lv := [(0, .ref (a 27)), (1, .ref (a 2)), (2, .int x2), (3, .int x3), (4, .int x4), (5, .int x5)]) (by decide +kernel) (Nat.le_of_ble_eq_true rfl) rfl ?_
  intro p e s m args below meth c hA hr
  have hA : k_Amb p s m args meth c cX9_visitFrom 9 "TaleShares$Timetable" G _ := hA
  rw [f_Ti_visitFrom] at hf
  refine k_iload_n (i := 2) hA dX9_visitFrom_0 rfl 2 rfl ?_
  refine k_aload_n (i := 1) hA dX9_visitFrom_1 rfl 1 rfl ?_
  refine gt_X_2_4 hA wd_175 dX9_visitFrom_2 ?_
  refine k_icmp_lt (tgt := 19) hA dX9_visitFrom_5 rfl (fun hc => ?_) (fun hc => ?_)
  · have hf := k_ift hc hf
    refine k_iconst hA dX9_visitFrom_19 kc_i_0 ?_
    refine k_istore (lv' := [(6, .int (0 : Int32)), (0, .ref (a 27)), (1, .ref (a 2)), (2, .int x2), (3, .int x3), (4, .int x4), (5, .int x5)]) hA dX9_visitFrom_20 rfl (Nat.le_of_ble_eq_true rfl) rfl ?_
    refine k_pick (lv' := [(0, .ref (a 27)), (1, .ref (a 2)), (2, .int x2), (3, .int x3), (4, .int x4), (5, .int x5), (6, .int (0 : Int32))]) [1, 2, 3, 4, 5, 6, 0] rfl ?_
    exact m_Ti_visitFrom_22 l G a tl n d hA hr (f_Ti_visitFrom n d) m_ih n x2 x3 x4 x5 (0 : Int32) t hf
  have hf := k_iff hc hf
  obtain ⟨t_1, ht_1, hf⟩ := k_cv_e hf
  obtain rfl := k_r1 hf
  refine k_aload_n (i := 0) hA dX9_visitFrom_8 rfl 0 rfl ?_
  refine k_aload_n (i := 1) hA dX9_visitFrom_9 rfl 1 rfl ?_
  refine gt_X_2_4 hA wd_175 dX9_visitFrom_10 ?_
  refine k_iload hA dX9_visitFrom_13 5 rfl ?_
  refine k_callVv (As := [.int (t.1 2 4), .int x5]) (rest := []) hA (m_Ti_keepOrder l G a tl n (t.1 2 4) x5 t ht_1) cd_X9_keepOrder wd_697 (hc_X_27 G.2.1 a tl t) rfl rfl (by omega) rfl rfl (Nat.le_of_ble_eq_true rfl) dX9_visitFrom_15 ?_
  exact k_vret hA hr dX9_visitFrom_18

def f_Ti_make_24 (n : Nat) : Nat → Int32 → Int32 → k_St → Option k_St
  | 0, _, _, _ => none
  | k + 1, x2, x3, t => (if (t.1 2 4) ≤ x3 then some t else (if (t.1 27 1) ≤ 0 then some t else k_gi x3 5 (k_gi (t.1 28 x3.toNatClampNeg) 5 (k_lt (if (x2 + (1 : Int32)) < (t.1 6 (t.1 28 x3.toNatClampNeg).toNatClampNeg) then (t.1 6 (t.1 28 x3.toNatClampNeg).toNatClampNeg) else (x2 + (1 : Int32))) (fun x2_3 => k_gi x3 5 (k_gi (t.1 28 x3.toNatClampNeg) 5 (k_lt (k_sI t 29 (t.1 28 x3.toNatClampNeg).toNatClampNeg x2_3) (fun t_6 => k_lt (x3 + (1 : Int32)) (fun x3_7 => f_Ti_make_24 n k x2_3 x3_7 t_6)))))))))
def f_Ti_make (n : Nat) (t : k_St) : Option k_St := k_lt (k_sI t 27 0 (-2 : Int32)) (fun t_1 => k_lt (k_sI t_1 27 1 (0 : Int32)) (fun t_2 => k_cv (f_Ti_visitFrom n (6 : Nat) (0 : Int32) (0 : Int32) (-1 : Int32) (0 : Int32) t_2) (fun t_3 => f_Ti_make_24 n n (-1 : Int32) (0 : Int32) t_3)))
theorem m_Ti_make_24 {p : Program} (l : Launch) {e : Env} {s : State} {m : MethodId} {args : Array Value} {below : List Frame} {meth : Method} {c : Code} (G : k_G) (a : Nat → Nat) (tl : Value) (n : Nat) {w0 : va_W} {t' : k_St} (hA : k_Amb p s m args meth c cX9_make 4 "TaleShares$Timetable" G (va_A w0 s.heap.size)) (hr : meth.sig.returnType = none) : ∀ (k : Nat) (x2 : Int32) (x3 : Int32) (t : k_St), f_Ti_make_24 n k x2 x3 t = some t' → k_Go p l e (k_rm 9) s m args below meth c (k_QV G w0 (k_WX G.2.1 a tl t') args s below) 4 G (va_A w0 s.heap.size) (k_WX G.2.1 a tl t) 24 [(0, .ref (a 27)), (1, .ref (a 2)), (2, .int x2), (3, .int x3)] [] := by
  intro k
  induction k with
  | zero => intro x2 x3 t hf; cases hf
  | succ k ih =>
  intro x2 x3 t hf
  rw [f_Ti_make_24] at hf
  refine k_iload_n (i := 3) hA dX9_make_24 rfl 3 rfl ?_
  refine k_aload_n (i := 1) hA dX9_make_25 rfl 1 rfl ?_
  refine gt_X_2_4 hA wd_175 dX9_make_26 ?_
  refine k_icmp_ge (tgt := 75) hA dX9_make_29 rfl (fun hc => ?_) (fun hc => ?_)
  · have hf := k_ift hc hf
    obtain rfl := k_r1 hf
    exact k_vret hA hr dX9_make_75
  have hf := k_iff hc hf
  refine k_aload_n (i := 0) hA dX9_make_32 rfl 0 rfl ?_
  refine gt_X_27_1 hA wd_350 dX9_make_33 ?_
  refine k_if_le (tgt := 75) hA dX9_make_36 rfl (fun hc => ?_) (fun hc => ?_)
  · have hf := k_ift hc hf
    obtain rfl := k_r1 hf
    exact k_vret hA hr dX9_make_75
  have hf := k_iff hc hf
  obtain ⟨hi_1, hf⟩ := k_gi_e hf
  obtain ⟨hi_2, hf⟩ := k_gi_e hf
  obtain ⟨x2_3, ex2_3, hf⟩ := k_lt_e hf
  obtain ⟨hi_4, hf⟩ := k_gi_e hf
  obtain ⟨hi_5, hf⟩ := k_gi_e hf
  obtain ⟨t_6, et_6, hf⟩ := k_lt_e hf
  obtain ⟨x3_7, ex3_7, hf⟩ := k_lt_e hf
  refine k_iload_n (i := 2) hA dX9_make_39 rfl 2 rfl ?_
  refine k_iconst hA dX9_make_40 kc_i_1 ?_
  refine k_iadd hA dX9_make_41 ?_
  refine k_aload_n (i := 1) hA dX9_make_42 rfl 1 rfl ?_
  refine gt_X_2_11 hA wd_201 dX9_make_43 ?_
  refine k_aload_n (i := 0) hA dX9_make_46 rfl 0 rfl ?_
  refine gt_X_27_2 hA wd_352 dX9_make_47 ?_
  refine k_iload_n (i := 3) hA dX9_make_50 rfl 3 rfl ?_
  refine ld_X_28 hA hi_1 dX9_make_51 ?_
  refine ld_X_6 hA hi_2 dX9_make_52 ?_
  refine k_mmax hA wd_701 wd_702 wd_129 wd_703 (Nat.le_of_ble_eq_true rfl) (Nat.le_of_ble_eq_true rfl) dX9_make_53 ?_
  refine k_istore_n (i := 2) (lv' := [(2, .int x2_3), (0, .ref (a 27)), (1, .ref (a 2)), (3, .int x3)]) hA dX9_make_56 rfl ex2_3 (Nat.le_of_ble_eq_true rfl) rfl ?_
  refine k_aload_n (i := 0) hA dX9_make_57 rfl 1 rfl ?_
  refine gt_X_27_3 hA wd_354 dX9_make_58 ?_
  refine k_aload_n (i := 0) hA dX9_make_61 rfl 1 rfl ?_
  refine gt_X_27_2 hA wd_352 dX9_make_62 ?_
  refine k_iload_n (i := 3) hA dX9_make_65 rfl 3 rfl ?_
  refine ld_X_28 hA hi_4 dX9_make_66 ?_
  refine k_iload_n (i := 2) hA dX9_make_67 rfl 0 rfl ?_
  refine sr_X_29 hA hi_5 et_6 dX9_make_68 ?_
  refine k_iinc (j := 3) (v := x3_7) (lv' := [(3, .int x3_7), (2, .int x2_3), (0, .ref (a 27)), (1, .ref (a 2))]) hA dX9_make_69 rfl (k_inc ex3_7 kc_i_1) (Nat.le_of_ble_eq_true rfl) rfl ?_
  refine k_goto (tgt := 24) hA dX9_make_72 rfl ?_
  refine k_pick (lv' := [(0, .ref (a 27)), (1, .ref (a 2)), (2, .int x2_3), (3, .int x3_7)]) [2, 3, 1, 0] rfl ?_
  exact ih x2_3 x3_7 t_6 hf

theorem m_Ti_make (l : Launch) (G : k_G) (a : Nat → Nat) (tl : Value) (n : Nat) (t : k_St) {t' : k_St} (hf : f_Ti_make n t = some t') : k_CV l G yX9_make cX9_make 4 none 9 (k_WX G.2.1 a tl t) [.ref (a 27), .ref (a 2)] (k_WX G.2.1 a tl t') := by
  refine k_startV (lv := [(0, .ref (a 27)), (1, .ref (a 2))]) (by decide +kernel) (Nat.le_of_ble_eq_true rfl) rfl ?_
  intro p e s m args below meth c hA hr
  have hA : k_Amb p s m args meth c cX9_make 4 "TaleShares$Timetable" G _ := hA
  unfold f_Ti_make at hf
  obtain ⟨t_1, et_1, hf⟩ := k_lt_e hf
  obtain ⟨t_2, et_2, hf⟩ := k_lt_e hf
  obtain ⟨t_3, ht_3, hf⟩ := k_cv_e hf
  refine k_aload_n (i := 0) hA dX9_make_0 rfl 0 rfl ?_
  refine k_bipush hA dX9_make_1 kc_b_m2 ?_
  refine pt_X_27_0 hA wd_348 et_1 dX9_make_3 ?_
  refine k_aload_n (i := 0) hA dX9_make_6 rfl 0 rfl ?_
  refine k_iconst hA dX9_make_7 kc_i_0 ?_
  refine pt_X_27_1 hA wd_350 et_2 dX9_make_8 ?_
  refine k_aload_n (i := 0) hA dX9_make_11 rfl 0 rfl ?_
  refine k_aload_n (i := 1) hA dX9_make_12 rfl 1 rfl ?_
  refine k_iconst hA dX9_make_13 kc_i_0 ?_
  refine k_iconst hA dX9_make_14 kc_i_0 ?_
  refine k_iconst hA dX9_make_15 kc_i_m1 ?_
  refine k_iconst hA dX9_make_16 kc_i_0 ?_
  refine k_callVv (As := [.ref (a 2), .int (0 : Int32), .int (0 : Int32), .int (-1 : Int32), .int (0 : Int32)]) (rest := []) hA (m_Ti_visitFrom l G a tl n (6 : Nat) (0 : Int32) (0 : Int32) (-1 : Int32) (0 : Int32) t_2 _ ht_3) cd_X9_visitFrom wd_693 (hc_X_27 G.2.1 a tl t_2) rfl rfl (Nat.le_of_ble_eq_true rfl) rfl rfl (Nat.le_of_ble_eq_true rfl) dX9_make_17 ?_
  refine k_iconst hA dX9_make_20 kc_i_m1 ?_
  refine k_istore_n (i := 2) (lv' := [(2, .int (-1 : Int32)), (0, .ref (a 27)), (1, .ref (a 2))]) hA dX9_make_21 rfl rfl (Nat.le_of_ble_eq_true rfl) rfl ?_
  refine k_iconst hA dX9_make_22 kc_i_0 ?_
  refine k_istore_n (i := 3) (lv' := [(3, .int (0 : Int32)), (2, .int (-1 : Int32)), (0, .ref (a 27)), (1, .ref (a 2))]) hA dX9_make_23 rfl rfl (Nat.le_of_ble_eq_true rfl) rfl ?_
  refine k_pick (lv' := [(0, .ref (a 27)), (1, .ref (a 2)), (2, .int (-1 : Int32)), (3, .int (0 : Int32))]) [2, 3, 1, 0] rfl ?_
  exact m_Ti_make_24 l G a tl n hA hr n (-1 : Int32) (0 : Int32) t_3 hf

def f_Ta_lengthOf (t : k_St) (x1 : Int32) : Option Int32 := k_gi x1 162 (some (f_In_bitCount_0f7a4 (t.1 23 x1.toNatClampNeg)))
theorem m_Ta_lengthOf (l : Launch) (G : k_G) (a : Nat → Nat) (tl : Value) (t : k_St) (x1 : Int32) {r : Int32} (hf : f_Ta_lengthOf t x1 = some r) : k_CI l G yX7_lengthOf cX7_lengthOf 2 (some .int) 2 (k_WX G.2.1 a tl t) [.ref (a 21), .int x1] r (k_WX G.2.1 a tl t) := by
  refine k_startI (lv := [(0, .ref (a 21)), (1, .int x1)]) (by decide +kernel) (Nat.le_of_ble_eq_true rfl) rfl ?_
  intro p e s m args below meth c hA hr
  have hA : k_Amb p s m args meth c cX7_lengthOf 2 "TaleShares$Tales" G _ := hA
  unfold f_Ta_lengthOf at hf
  obtain ⟨hi_1, hf⟩ := k_gi_e hf
  obtain rfl := k_r1 hf
  refine k_aload_n (i := 0) hA dX7_lengthOf_0 rfl 0 rfl ?_
  refine gt_X_21_2 hA wd_309 dX7_lengthOf_1 ?_
  refine k_iload_n (i := 1) hA dX7_lengthOf_4 rfl 1 rfl ?_
  refine ld_X_23 hA hi_1 dX7_lengthOf_5 ?_
  refine k_callSi (As := [.int (t.1 23 x1.toNatClampNeg)]) (rest := []) hA (m_In_bitCount_0f7a4 l G (k_WX G.2.1 a tl t) (t.1 23 x1.toNatClampNeg) rfl) cd_J6_bitCount_0f7a4 wd_670 (Nat.le_of_ble_eq_true rfl) rfl rfl (Nat.le_of_ble_eq_true rfl) dX7_lengthOf_6 ?_
  exact k_iret hA hr rfl dX7_lengthOf_9

def f_Ta_pieceAt_16 (n : Nat) (t : k_St) : Nat → Int32 → Int32 → Int32 → Option Int32
  | 0, _, _, _ => none
  | k + 1, x2, x3, x4 => (if x4 ≤ x2 then some ((x3 - x3 / (10 : Int32) * (10 : Int32)) - (1 : Int32)) else k_lt (x3 / (10 : Int32)) (fun x3_1 => k_lt (x4 + (-1 : Int32)) (fun x4_2 => f_Ta_pieceAt_16 n t k x2 x3_1 x4_2)))
def f_Ta_pieceAt (n : Nat) (t : k_St) (x1 : Int32) (x2 : Int32) : Option Int32 := k_gi x1 162 (k_lt (t.1 22 x1.toNatClampNeg) (fun x3_2 => k_cp (f_Ta_lengthOf t x1) (fun r_3 => k_lt (r_3 - (1 : Int32)) (fun x4_4 => f_Ta_pieceAt_16 n t n x2 x3_2 x4_4))))
theorem m_Ta_pieceAt_16 {p : Program} (l : Launch) {e : Env} {s : State} {m : MethodId} {args : Array Value} {below : List Frame} {meth : Method} {c : Code} (G : k_G) (a : Nat → Nat) (tl : Value) (n : Nat) (t : k_St) {w0 : va_W} {r : Int32} (hA : k_Amb p s m args meth c cX7_pieceAt 5 "TaleShares$Tales" G (va_A w0 s.heap.size)) (hr : meth.sig.returnType = (some .int)) : ∀ (k : Nat) (x2 : Int32) (x3 : Int32) (x4 : Int32), f_Ta_pieceAt_16 n t k x2 x3 x4 = some r → k_Go p l e (k_rm 3) s m args below meth c (k_QI G w0 r (k_WX G.2.1 a tl t) args s below) 5 G (va_A w0 s.heap.size) (k_WX G.2.1 a tl t) 16 [(2, .int x2), (3, .int x3), (4, .int x4)] [] := by
  intro k
  induction k with
  | zero => intro x2 x3 x4 hf; cases hf
  | succ k ih =>
  intro x2 x3 x4 hf
  rw [f_Ta_pieceAt_16] at hf
  refine k_iload hA dX7_pieceAt_16 2 rfl ?_
  refine k_iload_n (i := 2) hA dX7_pieceAt_18 rfl 0 rfl ?_
  refine k_icmp_le (tgt := 33) hA dX7_pieceAt_19 rfl (fun hc => ?_) (fun hc => ?_)
  · have hf := k_ift hc hf
    obtain rfl := k_r1 hf
    refine k_iload_n (i := 3) hA dX7_pieceAt_33 rfl 1 rfl ?_
    refine k_bipush hA dX7_pieceAt_34 kc_b_10 ?_
    refine k_irem hA dX7_pieceAt_36 (by decide) ?_
    refine k_iconst hA dX7_pieceAt_37 kc_i_1 ?_
    refine k_isub hA dX7_pieceAt_38 ?_
    exact k_iret hA hr rfl dX7_pieceAt_39
  have hf := k_iff hc hf
  obtain ⟨x3_1, ex3_1, hf⟩ := k_lt_e hf
  obtain ⟨x4_2, ex4_2, hf⟩ := k_lt_e hf
  refine k_iload_n (i := 3) hA dX7_pieceAt_22 rfl 1 rfl ?_
  refine k_bipush hA dX7_pieceAt_23 kc_b_10 ?_
  refine k_idiv hA dX7_pieceAt_25 (by decide) ?_
  refine k_istore_n (i := 3) (lv' := [(3, .int x3_1), (2, .int x2), (4, .int x4)]) hA dX7_pieceAt_26 rfl ex3_1 (Nat.le_of_ble_eq_true rfl) rfl ?_
  refine k_iinc (j := 2) (v := x4_2) (lv' := [(4, .int x4_2), (3, .int x3_1), (2, .int x2)]) hA dX7_pieceAt_27 rfl (k_inc ex4_2 kc_i_m1) (Nat.le_of_ble_eq_true rfl) rfl ?_
  refine k_goto (tgt := 16) hA dX7_pieceAt_30 rfl ?_
  refine k_pick (lv' := [(2, .int x2), (3, .int x3_1), (4, .int x4_2)]) [2, 1, 0] rfl ?_
  exact ih x2 x3_1 x4_2 hf

theorem m_Ta_pieceAt (l : Launch) (G : k_G) (a : Nat → Nat) (tl : Value) (n : Nat) (t : k_St) (x1 : Int32) (x2 : Int32) {r : Int32} (hf : f_Ta_pieceAt n t x1 x2 = some r) : k_CI l G yX7_pieceAt cX7_pieceAt 5 (some .int) 3 (k_WX G.2.1 a tl t) [.ref (a 21), .int x1, .int x2] r (k_WX G.2.1 a tl t) := by
  refine k_startI (lv := [(0, .ref (a 21)), (1, .int x1), (2, .int x2)]) (by decide +kernel) (Nat.le_of_ble_eq_true rfl) rfl ?_
  intro p e s m args below meth c hA hr
  have hA : k_Amb p s m args meth c cX7_pieceAt 5 "TaleShares$Tales" G _ := hA
  unfold f_Ta_pieceAt at hf
  obtain ⟨hi_1, hf⟩ := k_gi_e hf
  obtain ⟨x3_2, ex3_2, hf⟩ := k_lt_e hf
  obtain ⟨r_3, hr_3, hf⟩ := k_cp_e hf
  obtain ⟨x4_4, ex4_4, hf⟩ := k_lt_e hf
  refine k_aload_n (i := 0) hA dX7_pieceAt_0 rfl 0 rfl ?_
  refine gt_X_21_1 hA wd_308 dX7_pieceAt_1 ?_
  refine k_iload_n (i := 1) hA dX7_pieceAt_4 rfl 1 rfl ?_
  refine ld_X_22 hA hi_1 dX7_pieceAt_5 ?_
  refine k_istore_n (i := 3) (lv' := [(3, .int x3_2), (0, .ref (a 21)), (1, .int x1), (2, .int x2)]) hA dX7_pieceAt_6 rfl ex3_2 (Nat.le_of_ble_eq_true rfl) rfl ?_
  refine k_aload_n (i := 0) hA dX7_pieceAt_7 rfl 1 rfl ?_
  refine k_iload_n (i := 1) hA dX7_pieceAt_8 rfl 2 rfl ?_
  refine k_callVi (As := [.int x1]) (rest := []) hA (m_Ta_lengthOf l G a tl t x1 hr_3) cd_X7_lengthOf wd_724 (hc_X_21 G.2.1 a tl t) rfl rfl (Nat.le_of_ble_eq_true rfl) rfl rfl (Nat.le_of_ble_eq_true rfl) dX7_pieceAt_9 ?_
  refine k_iconst hA dX7_pieceAt_12 kc_i_1 ?_
  refine k_isub hA dX7_pieceAt_13 ?_
  refine k_istore (lv' := [(4, .int x4_4), (3, .int x3_2), (0, .ref (a 21)), (1, .int x1), (2, .int x2)]) hA dX7_pieceAt_14 ex4_4 (Nat.le_of_ble_eq_true rfl) rfl ?_
  refine k_pick (lv' := [(2, .int x2), (3, .int x3_2), (4, .int x4_4)]) [4, 1, 0] rfl ?_
  exact m_Ta_pieceAt_16 l G a tl n t hA hr n x2 x3_2 x4_4 hf

def f_Sl_between_70 (n : Nat) (rec40 : Int32 → Int32 → Int32 → k_St → Option (Int32 × k_St)) : Nat → Int32 → Int32 → Int32 → Int32 → Int32 → k_St → Option (Int32 × k_St)
  | 0, _, _, _, _, _, _ => none
  | k + 1, x3, x4, x5, x6, x7, t => (if x4 < x7 then k_lt (x5 + (1 : Int32)) (fun x5_1 => rec40 x3 x4 x5_1 t) else k_gi x7 9 (k_lt (t.1 32 x7.toNatClampNeg) (fun x8_3 => k_gi x5 6 (k_cp (f_Ta_pieceAt n t x3 (x7 - (1 : Int32))) (fun r_5 => (if (t.1 9 x5.toNatClampNeg) = r_5 then k_gi (x7 - (1 : Int32)) 9 (k_lt ((1 : Int32) + (if (t.1 32 (x7 - (1 : Int32)).toNatClampNeg) < x8_3 then (t.1 32 (x7 - (1 : Int32)).toNatClampNeg) else x8_3)) (fun x10_12 => k_gi x7 9 (k_lt (k_sI t 32 x7.toNatClampNeg (if x10_12 < (x6 + (0 : Int32)) then x10_12 else (x6 + (0 : Int32)))) (fun t_14 => k_lt (x7 + (1 : Int32)) (fun x7_15 => f_Sl_between_70 n rec40 k x3 x4 x5 x8_3 x7_15 t_14))))) else k_gi (x7 - (1 : Int32)) 9 (k_lt ((1 : Int32) + (if (t.1 32 (x7 - (1 : Int32)).toNatClampNeg) < x8_3 then (t.1 32 (x7 - (1 : Int32)).toNatClampNeg) else x8_3)) (fun x10_7 => k_gi x7 9 (k_lt (k_sI t 32 x7.toNatClampNeg (if x10_7 < (x6 + (1 : Int32)) then x10_7 else (x6 + (1 : Int32)))) (fun t_9 => k_lt (x7 + (1 : Int32)) (fun x7_10 => f_Sl_between_70 n rec40 k x3 x4 x5 x8_3 x7_10 t_9)))))))))))
def f_Sl_between_40 (n : Nat) : Nat → Int32 → Int32 → Int32 → k_St → Option (Int32 × k_St)
  | 0, _, _, _, _ => none
  | k + 1, x3, x4, x5, t => (if (t.1 2 7) ≤ x5 then k_gi x4 9 (some ((t.1 32 x4.toNatClampNeg), t)) else k_gi (0 : Int32) 9 (k_lt (t.1 32 (0 : Int32).toNatClampNeg) (fun x6_3 => k_gi (0 : Int32) 9 (k_lt (k_sI t 32 (0 : Int32).toNatClampNeg (x5 + (1 : Int32))) (fun t_5 => f_Sl_between_70 n (f_Sl_between_40 n k) n x3 x4 x5 x6_3 (1 : Int32) t_5)))))
def f_Sl_between_15 (n : Nat) : Nat → Int32 → Int32 → Int32 → k_St → Option (Int32 × k_St)
  | 0, _, _, _, _ => none
  | k + 1, x3, x4, x5, t => (if x4 < x5 then f_Sl_between_40 n n x3 x4 (0 : Int32) t else k_gi x5 9 (k_lt (k_sI t 32 x5.toNatClampNeg x5) (fun t_2 => k_lt (x5 + (1 : Int32)) (fun x5_3 => f_Sl_between_15 n k x3 x4 x5_3 t_2))))
def f_Sl_between (n : Nat) (x3 : Int32) (t : k_St) : Option (Int32 × k_St) := k_cp (f_Ta_lengthOf t x3) (fun r_1 => k_lt (if (8 : Int32) < r_1 then (8 : Int32) else r_1) (fun x4_2 => f_Sl_between_15 n n x3 x4_2 (0 : Int32) t))
theorem m_Sl_between_70 {p : Program} (l : Launch) {e : Env} {s : State} {m : MethodId} {args : Array Value} {below : List Frame} {meth : Method} {c : Code} (G : k_G) (a : Nat → Nat) (tl : Value) (n : Nat) {w0 : va_W} {r : Int32} {t' : k_St} (hA : k_Amb p s m args meth c cX6_between 11 "TaleShares$Slips" G (va_A w0 s.heap.size)) (hr : meth.sig.returnType = (some .int)) (rec40 : Int32 → Int32 → Int32 → k_St → Option (Int32 × k_St)) (hrec40 : ∀ (x3 : Int32) (x4 : Int32) (x5 : Int32) (t : k_St), rec40 x3 x4 x5 t = some (r, t') → k_Go p l e (k_rm 4) s m args below meth c (k_QI G w0 r (k_WX G.2.1 a tl t') args s below) 11 G (va_A w0 s.heap.size) (k_WX G.2.1 a tl t) 40 [(0, .ref (a 31)), (1, .ref (a 2)), (2, .ref (a 21)), (3, .int x3), (4, .int x4), (5, .int x5)] []) : ∀ (k : Nat) (x3 : Int32) (x4 : Int32) (x5 : Int32) (x6 : Int32) (x7 : Int32) (t : k_St), f_Sl_between_70 n rec40 k x3 x4 x5 x6 x7 t = some (r, t') → k_Go p l e (k_rm 4) s m args below meth c (k_QI G w0 r (k_WX G.2.1 a tl t') args s below) 11 G (va_A w0 s.heap.size) (k_WX G.2.1 a tl t) 70 [(0, .ref (a 31)), (1, .ref (a 2)), (2, .ref (a 21)), (3, .int x3), (4, .int x4), (5, .int x5), (6, .int x6), (7, .int x7)] [] := by
  intro k
  induction k with
  | zero => intro x3 x4 x5 x6 x7 t hf; cases hf
  | succ k ih =>
  intro x3 x4 x5 x6 x7 t hf
  rw [f_Sl_between_70] at hf
  refine k_iload hA dX6_between_70 7 rfl ?_
  refine k_iload hA dX6_between_72 4 rfl ?_
  refine k_icmp_gt (tgt := 157) hA dX6_between_74 rfl (fun hc => ?_) (fun hc => ?_)
  · have hf := k_ift hc hf
    obtain ⟨x5_1, ex5_1, hf⟩ := k_lt_e hf
    refine k_iinc (j := 5) (v := x5_1) (lv' := [(5, .int x5_1), (0, .ref (a 31)), (1, .ref (a 2)), (2, .ref (a 21)), (3, .int x3), (4, .int x4), (6, .int x6), (7, .int x7)]) hA dX6_between_157 rfl (k_inc ex5_1 kc_i_1) (Nat.le_of_ble_eq_true rfl) rfl ?_
    refine k_goto (tgt := 40) hA dX6_between_160 rfl ?_
    refine k_pick (lv' := [(0, .ref (a 31)), (1, .ref (a 2)), (2, .ref (a 21)), (3, .int x3), (4, .int x4), (5, .int x5_1)]) [1, 2, 3, 4, 5, 0] rfl ?_
    exact hrec40 x3 x4 x5_1 t hf
  have hf := k_iff hc hf
  obtain ⟨hi_2, hf⟩ := k_gi_e hf
  obtain ⟨x8_3, ex8_3, hf⟩ := k_lt_e hf
  obtain ⟨hi_4, hf⟩ := k_gi_e hf
  obtain ⟨r_5, hr_5, hf⟩ := k_cp_e hf
  refine k_aload_n (i := 0) hA dX6_between_77 rfl 0 rfl ?_
  refine gt_X_31_3 hA wd_380 dX6_between_78 ?_
  refine k_iload hA dX6_between_81 7 rfl ?_
  refine ld_X_32 hA hi_2 dX6_between_83 ?_
  refine k_istore (lv' := [(8, .int x8_3), (0, .ref (a 31)), (1, .ref (a 2)), (2, .ref (a 21)), (3, .int x3), (4, .int x4), (5, .int x5), (6, .int x6), (7, .int x7)]) hA dX6_between_84 ex8_3 (Nat.le_of_ble_eq_true rfl) rfl ?_
  refine k_aload_n (i := 1) hA dX6_between_86 rfl 2 rfl ?_
  refine gt_X_2_14 hA wd_212 dX6_between_87 ?_
  refine k_iload hA dX6_between_90 6 rfl ?_
  refine ld_X_9 hA hi_4 dX6_between_92 ?_
  refine k_aload_n (i := 2) hA dX6_between_93 rfl 3 rfl ?_
  refine k_iload_n (i := 3) hA dX6_between_94 rfl 4 rfl ?_
  refine k_iload hA dX6_between_95 8 rfl ?_
  refine k_iconst hA dX6_between_97 kc_i_1 ?_
  refine k_isub hA dX6_between_98 ?_
  refine k_callVi (As := [.int x3, .int (x7 - (1 : Int32))]) (rest := [.int (t.1 9 x5.toNatClampNeg)]) hA (m_Ta_pieceAt l G a tl n t x3 (x7 - (1 : Int32)) hr_5) cd_X7_pieceAt wd_720 (hc_X_21 G.2.1 a tl t) rfl rfl (Nat.le_of_ble_eq_true rfl) rfl rfl (Nat.le_of_ble_eq_true rfl) dX6_between_99 ?_
  refine k_icmp_ne (tgt := 109) hA dX6_between_102 rfl (fun hc => ?_) (fun hc => ?_)
  · have hf := k_iff hc hf
    obtain ⟨hi_6, hf⟩ := k_gi_e hf
    obtain ⟨x10_7, ex10_7, hf⟩ := k_lt_e hf
    obtain ⟨hi_8, hf⟩ := k_gi_e hf
    obtain ⟨t_9, et_9, hf⟩ := k_lt_e hf
    obtain ⟨x7_10, ex7_10, hf⟩ := k_lt_e hf
    refine k_iconst hA dX6_between_109 kc_i_1 ?_
    refine k_istore (lv' := [(9, .int (1 : Int32)), (8, .int x8_3), (0, .ref (a 31)), (1, .ref (a 2)), (2, .ref (a 21)), (3, .int x3), (4, .int x4), (5, .int x5), (6, .int x6), (7, .int x7)]) hA dX6_between_110 rfl (Nat.le_of_ble_eq_true rfl) rfl ?_
    refine k_iconst hA dX6_between_112 kc_i_1 ?_
    refine k_iload hA dX6_between_113 1 rfl ?_
    refine k_aload_n (i := 0) hA dX6_between_115 rfl 2 rfl ?_
    refine gt_X_31_3 hA wd_380 dX6_between_116 ?_
    refine k_iload hA dX6_between_119 9 rfl ?_
    refine k_iconst hA dX6_between_121 kc_i_1 ?_
    refine k_isub hA dX6_between_122 ?_
    refine ld_X_32 hA hi_6 dX6_between_123 ?_
    refine k_mmin hA wd_719 wd_493 wd_129 wd_494 (Nat.le_of_ble_eq_true rfl) (Nat.le_of_ble_eq_true rfl) dX6_between_124 ?_
    refine k_iadd hA dX6_between_127 ?_
    refine k_istore (lv' := [(10, .int x10_7), (9, .int (1 : Int32)), (8, .int x8_3), (0, .ref (a 31)), (1, .ref (a 2)), (2, .ref (a 21)), (3, .int x3), (4, .int x4), (5, .int x5), (6, .int x6), (7, .int x7)]) hA dX6_between_128 ex10_7 (Nat.le_of_ble_eq_true rfl) rfl ?_
    refine k_aload_n (i := 0) hA dX6_between_130 rfl 3 rfl ?_
    refine gt_X_31_3 hA wd_380 dX6_between_131 ?_
    refine k_iload hA dX6_between_134 10 rfl ?_
    refine k_iload hA dX6_between_136 9 rfl ?_
    refine k_iload hA dX6_between_138 1 rfl ?_
    refine k_iadd hA dX6_between_140 ?_
    refine k_iload hA dX6_between_141 0 rfl ?_
    refine k_mmin hA wd_719 wd_493 wd_129 wd_494 (Nat.le_of_ble_eq_true rfl) (Nat.le_of_ble_eq_true rfl) dX6_between_143 ?_
    refine sr_X_32 hA hi_8 et_9 dX6_between_146 ?_
    refine k_iload hA dX6_between_147 2 rfl ?_
    refine k_istore (lv' := [(6, .int x8_3), (10, .int x10_7), (9, .int (1 : Int32)), (8, .int x8_3), (0, .ref (a 31)), (1, .ref (a 2)), (2, .ref (a 21)), (3, .int x3), (4, .int x4), (5, .int x5), (7, .int x7)]) hA dX6_between_149 rfl (Nat.le_of_ble_eq_true rfl) rfl ?_
    refine k_iinc (j := 10) (v := x7_10) (lv' := [(7, .int x7_10), (6, .int x8_3), (10, .int x10_7), (9, .int (1 : Int32)), (8, .int x8_3), (0, .ref (a 31)), (1, .ref (a 2)), (2, .ref (a 21)), (3, .int x3), (4, .int x4), (5, .int x5)]) hA dX6_between_151 rfl (k_inc ex7_10 kc_i_1) (Nat.le_of_ble_eq_true rfl) rfl ?_
    refine k_goto (tgt := 70) hA dX6_between_154 rfl ?_
    refine k_pick (lv' := [(0, .ref (a 31)), (1, .ref (a 2)), (2, .ref (a 21)), (3, .int x3), (4, .int x4), (5, .int x5), (6, .int x8_3), (7, .int x7_10)]) [5, 6, 7, 8, 9, 10, 1, 0] rfl ?_
    exact ih x3 x4 x5 x8_3 x7_10 t_9 hf
  have hf := k_ift hc hf
  obtain ⟨hi_11, hf⟩ := k_gi_e hf
  obtain ⟨x10_12, ex10_12, hf⟩ := k_lt_e hf
  obtain ⟨hi_13, hf⟩ := k_gi_e hf
  obtain ⟨t_14, et_14, hf⟩ := k_lt_e hf
  obtain ⟨x7_15, ex7_15, hf⟩ := k_lt_e hf
  refine k_iconst hA dX6_between_105 kc_i_0 ?_
  refine k_goto (tgt := 110) hA dX6_between_106 rfl ?_
  refine k_istore (lv' := [(9, .int (0 : Int32)), (8, .int x8_3), (0, .ref (a 31)), (1, .ref (a 2)), (2, .ref (a 21)), (3, .int x3), (4, .int x4), (5, .int x5), (6, .int x6), (7, .int x7)]) hA dX6_between_110 rfl (Nat.le_of_ble_eq_true rfl) rfl ?_
  refine k_iconst hA dX6_between_112 kc_i_1 ?_
  refine k_iload hA dX6_between_113 1 rfl ?_
  refine k_aload_n (i := 0) hA dX6_between_115 rfl 2 rfl ?_
  refine gt_X_31_3 hA wd_380 dX6_between_116 ?_
  refine k_iload hA dX6_between_119 9 rfl ?_
  refine k_iconst hA dX6_between_121 kc_i_1 ?_
  refine k_isub hA dX6_between_122 ?_
  refine ld_X_32 hA hi_11 dX6_between_123 ?_
  refine k_mmin hA wd_719 wd_493 wd_129 wd_494 (Nat.le_of_ble_eq_true rfl) (Nat.le_of_ble_eq_true rfl) dX6_between_124 ?_
  refine k_iadd hA dX6_between_127 ?_
  refine k_istore (lv' := [(10, .int x10_12), (9, .int (0 : Int32)), (8, .int x8_3), (0, .ref (a 31)), (1, .ref (a 2)), (2, .ref (a 21)), (3, .int x3), (4, .int x4), (5, .int x5), (6, .int x6), (7, .int x7)]) hA dX6_between_128 ex10_12 (Nat.le_of_ble_eq_true rfl) rfl ?_
  refine k_aload_n (i := 0) hA dX6_between_130 rfl 3 rfl ?_
  refine gt_X_31_3 hA wd_380 dX6_between_131 ?_
  refine k_iload hA dX6_between_134 10 rfl ?_
  refine k_iload hA dX6_between_136 9 rfl ?_
  refine k_iload hA dX6_between_138 1 rfl ?_
  refine k_iadd hA dX6_between_140 ?_
  refine k_iload hA dX6_between_141 0 rfl ?_
  refine k_mmin hA wd_719 wd_493 wd_129 wd_494 (Nat.le_of_ble_eq_true rfl) (Nat.le_of_ble_eq_true rfl) dX6_between_143 ?_
  refine sr_X_32 hA hi_13 et_14 dX6_between_146 ?_
  refine k_iload hA dX6_between_147 2 rfl ?_
  refine k_istore (lv' := [(6, .int x8_3), (10, .int x10_12), (9, .int (0 : Int32)), (8, .int x8_3), (0, .ref (a 31)), (1, .ref (a 2)), (2, .ref (a 21)), (3, .int x3), (4, .int x4), (5, .int x5), (7, .int x7)]) hA dX6_between_149 rfl (Nat.le_of_ble_eq_true rfl) rfl ?_
  refine k_iinc (j := 10) (v := x7_15) (lv' := [(7, .int x7_15), (6, .int x8_3), (10, .int x10_12), (9, .int (0 : Int32)), (8, .int x8_3), (0, .ref (a 31)), (1, .ref (a 2)), (2, .ref (a 21)), (3, .int x3), (4, .int x4), (5, .int x5)]) hA dX6_between_151 rfl (k_inc ex7_15 kc_i_1) (Nat.le_of_ble_eq_true rfl) rfl ?_
  refine k_goto (tgt := 70) hA dX6_between_154 rfl ?_
  refine k_pick (lv' := [(0, .ref (a 31)), (1, .ref (a 2)), (2, .ref (a 21)), (3, .int x3), (4, .int x4), (5, .int x5), (6, .int x8_3), (7, .int x7_15)]) [5, 6, 7, 8, 9, 10, 1, 0] rfl ?_
  exact ih x3 x4 x5 x8_3 x7_15 t_14 hf

theorem m_Sl_between_40 {p : Program} (l : Launch) {e : Env} {s : State} {m : MethodId} {args : Array Value} {below : List Frame} {meth : Method} {c : Code} (G : k_G) (a : Nat → Nat) (tl : Value) (n : Nat) {w0 : va_W} {r : Int32} {t' : k_St} (hA : k_Amb p s m args meth c cX6_between 11 "TaleShares$Slips" G (va_A w0 s.heap.size)) (hr : meth.sig.returnType = (some .int)) : ∀ (k : Nat) (x3 : Int32) (x4 : Int32) (x5 : Int32) (t : k_St), f_Sl_between_40 n k x3 x4 x5 t = some (r, t') → k_Go p l e (k_rm 4) s m args below meth c (k_QI G w0 r (k_WX G.2.1 a tl t') args s below) 11 G (va_A w0 s.heap.size) (k_WX G.2.1 a tl t) 40 [(0, .ref (a 31)), (1, .ref (a 2)), (2, .ref (a 21)), (3, .int x3), (4, .int x4), (5, .int x5)] [] := by
  intro k
  induction k with
  | zero => intro x3 x4 x5 t hf; cases hf
  | succ k ih =>
  intro x3 x4 x5 t hf
  rw [f_Sl_between_40] at hf
  refine k_iload hA dX6_between_40 5 rfl ?_
  refine k_aload_n (i := 1) hA dX6_between_42 rfl 1 rfl ?_
  refine gt_X_2_7 hA wd_185 dX6_between_43 ?_
  refine k_icmp_ge (tgt := 163) hA dX6_between_46 rfl (fun hc => ?_) (fun hc => ?_)
  · have hf := k_ift hc hf
    obtain ⟨hi_1, hf⟩ := k_gi_e hf
    obtain ⟨rfl, rfl⟩ := k_r2 hf
    refine k_aload_n (i := 0) hA dX6_between_163 rfl 0 rfl ?_
    refine gt_X_31_3 hA wd_380 dX6_between_164 ?_
    refine k_iload hA dX6_between_167 4 rfl ?_
    refine ld_X_32 hA hi_1 dX6_between_169 ?_
    exact k_iret hA hr rfl dX6_between_170
  have hf := k_iff hc hf
  obtain ⟨hi_2, hf⟩ := k_gi_e hf
  obtain ⟨x6_3, ex6_3, hf⟩ := k_lt_e hf
  obtain ⟨hi_4, hf⟩ := k_gi_e hf
  obtain ⟨t_5, et_5, hf⟩ := k_lt_e hf
  refine k_aload_n (i := 0) hA dX6_between_49 rfl 0 rfl ?_
  refine gt_X_31_3 hA wd_380 dX6_between_50 ?_
  refine k_iconst hA dX6_between_53 kc_i_0 ?_
  refine ld_X_32 hA hi_2 dX6_between_54 ?_
  refine k_istore (lv' := [(6, .int x6_3), (0, .ref (a 31)), (1, .ref (a 2)), (2, .ref (a 21)), (3, .int x3), (4, .int x4), (5, .int x5)]) hA dX6_between_55 ex6_3 (Nat.le_of_ble_eq_true rfl) rfl ?_
  refine k_aload_n (i := 0) hA dX6_between_57 rfl 1 rfl ?_
  refine gt_X_31_3 hA wd_380 dX6_between_58 ?_
  refine k_iconst hA dX6_between_61 kc_i_0 ?_
  refine k_iload hA dX6_between_62 6 rfl ?_
  refine k_iconst hA dX6_between_64 kc_i_1 ?_
  refine k_iadd hA dX6_between_65 ?_
  refine sr_X_32 hA hi_4 et_5 dX6_between_66 ?_
  refine k_iconst hA dX6_between_67 kc_i_1 ?_
  refine k_istore (lv' := [(7, .int (1 : Int32)), (6, .int x6_3), (0, .ref (a 31)), (1, .ref (a 2)), (2, .ref (a 21)), (3, .int x3), (4, .int x4), (5, .int x5)]) hA dX6_between_68 rfl (Nat.le_of_ble_eq_true rfl) rfl ?_
  refine k_pick (lv' := [(0, .ref (a 31)), (1, .ref (a 2)), (2, .ref (a 21)), (3, .int x3), (4, .int x4), (5, .int x5), (6, .int x6_3), (7, .int (1 : Int32))]) [2, 3, 4, 5, 6, 7, 1, 0] rfl ?_
  exact m_Sl_between_70 l G a tl n hA hr (f_Sl_between_40 n k) ih n x3 x4 x5 x6_3 (1 : Int32) t_5 hf

theorem m_Sl_between_15 {p : Program} (l : Launch) {e : Env} {s : State} {m : MethodId} {args : Array Value} {below : List Frame} {meth : Method} {c : Code} (G : k_G) (a : Nat → Nat) (tl : Value) (n : Nat) {w0 : va_W} {r : Int32} {t' : k_St} (hA : k_Amb p s m args meth c cX6_between 11 "TaleShares$Slips" G (va_A w0 s.heap.size)) (hr : meth.sig.returnType = (some .int)) : ∀ (k : Nat) (x3 : Int32) (x4 : Int32) (x5 : Int32) (t : k_St), f_Sl_between_15 n k x3 x4 x5 t = some (r, t') → k_Go p l e (k_rm 4) s m args below meth c (k_QI G w0 r (k_WX G.2.1 a tl t') args s below) 11 G (va_A w0 s.heap.size) (k_WX G.2.1 a tl t) 15 [(0, .ref (a 31)), (1, .ref (a 2)), (2, .ref (a 21)), (3, .int x3), (4, .int x4), (5, .int x5)] [] := by
  intro k
  induction k with
  | zero => intro x3 x4 x5 t hf; cases hf
  | succ k ih =>
  intro x3 x4 x5 t hf
  rw [f_Sl_between_15] at hf
  refine k_iload hA dX6_between_15 5 rfl ?_
  refine k_iload hA dX6_between_17 4 rfl ?_
  refine k_icmp_gt (tgt := 37) hA dX6_between_19 rfl (fun hc => ?_) (fun hc => ?_)
  · have hf := k_ift hc hf
    refine k_iconst hA dX6_between_37 kc_i_0 ?_
    refine k_istore (lv' := [(5, .int (0 : Int32)), (0, .ref (a 31)), (1, .ref (a 2)), (2, .ref (a 21)), (3, .int x3), (4, .int x4)]) hA dX6_between_38 rfl (Nat.le_of_ble_eq_true rfl) rfl ?_
    refine k_pick (lv' := [(0, .ref (a 31)), (1, .ref (a 2)), (2, .ref (a 21)), (3, .int x3), (4, .int x4), (5, .int (0 : Int32))]) [1, 2, 3, 4, 5, 0] rfl ?_
    exact m_Sl_between_40 l G a tl n hA hr n x3 x4 (0 : Int32) t hf
  have hf := k_iff hc hf
  obtain ⟨hi_1, hf⟩ := k_gi_e hf
  obtain ⟨t_2, et_2, hf⟩ := k_lt_e hf
  obtain ⟨x5_3, ex5_3, hf⟩ := k_lt_e hf
  refine k_aload_n (i := 0) hA dX6_between_22 rfl 0 rfl ?_
  refine gt_X_31_3 hA wd_380 dX6_between_23 ?_
  refine k_iload hA dX6_between_26 5 rfl ?_
  refine k_iload hA dX6_between_28 5 rfl ?_
  refine sr_X_32 hA hi_1 et_2 dX6_between_30 ?_
  refine k_iinc (j := 5) (v := x5_3) (lv' := [(5, .int x5_3), (0, .ref (a 31)), (1, .ref (a 2)), (2, .ref (a 21)), (3, .int x3), (4, .int x4)]) hA dX6_between_31 rfl (k_inc ex5_3 kc_i_1) (Nat.le_of_ble_eq_true rfl) rfl ?_
  refine k_goto (tgt := 15) hA dX6_between_34 rfl ?_
  refine k_pick (lv' := [(0, .ref (a 31)), (1, .ref (a 2)), (2, .ref (a 21)), (3, .int x3), (4, .int x4), (5, .int x5_3)]) [1, 2, 3, 4, 5, 0] rfl ?_
  exact ih x3 x4 x5_3 t_2 hf

theorem m_Sl_between (l : Launch) (G : k_G) (a : Nat → Nat) (tl : Value) (n : Nat) (x3 : Int32) (t : k_St) {r : Int32} {t' : k_St} (hf : f_Sl_between n x3 t = some (r, t')) : k_CI l G yX6_between cX6_between 11 (some .int) 4 (k_WX G.2.1 a tl t) [.ref (a 31), .ref (a 2), .ref (a 21), .int x3] r (k_WX G.2.1 a tl t') := by
  refine k_startI (lv := [(0, .ref (a 31)), (1, .ref (a 2)), (2, .ref (a 21)), (3, .int x3)]) (by decide +kernel) (Nat.le_of_ble_eq_true rfl) rfl ?_
  intro p e s m args below meth c hA hr
  have hA : k_Amb p s m args meth c cX6_between 11 "TaleShares$Slips" G _ := hA
  unfold f_Sl_between at hf
  obtain ⟨r_1, hr_1, hf⟩ := k_cp_e hf
  obtain ⟨x4_2, ex4_2, hf⟩ := k_lt_e hf
  refine k_aload_n (i := 2) hA dX6_between_0 rfl 2 rfl ?_
  refine k_iload_n (i := 3) hA dX6_between_1 rfl 3 rfl ?_
  refine k_callVi (As := [.int x3]) (rest := []) hA (m_Ta_lengthOf l G a tl t x3 hr_1) cd_X7_lengthOf wd_715 (hc_X_21 G.2.1 a tl t) rfl rfl (Nat.le_of_ble_eq_true rfl) rfl rfl (Nat.le_of_ble_eq_true rfl) dX6_between_2 ?_
  refine k_bipush hA dX6_between_5 kc_b_8 ?_
  refine k_mmin hA wd_719 wd_493 wd_129 wd_494 (Nat.le_of_ble_eq_true rfl) (Nat.le_of_ble_eq_true rfl) dX6_between_7 ?_
  refine k_istore (lv' := [(4, .int x4_2), (0, .ref (a 31)), (1, .ref (a 2)), (2, .ref (a 21)), (3, .int x3)]) hA dX6_between_10 ex4_2 (Nat.le_of_ble_eq_true rfl) rfl ?_
  refine k_iconst hA dX6_between_12 kc_i_0 ?_
  refine k_istore (lv' := [(5, .int (0 : Int32)), (4, .int x4_2), (0, .ref (a 31)), (1, .ref (a 2)), (2, .ref (a 21)), (3, .int x3)]) hA dX6_between_13 rfl (Nat.le_of_ble_eq_true rfl) rfl ?_
  refine k_pick (lv' := [(0, .ref (a 31)), (1, .ref (a 2)), (2, .ref (a 21)), (3, .int x3), (4, .int x4_2), (5, .int (0 : Int32))]) [2, 3, 4, 5, 1, 0] rfl ?_
  exact m_Sl_between_15 l G a tl n hA hr n x3 x4_2 (0 : Int32) t hf

def f_Sl_compare_75 (n : Nat) (rec18 : Int32 → k_St → Option k_St) (x3 : Int32) (x4 : Int32) (t : k_St) : Option k_St := (if x4 = (t.1 31 0) then k_lt (k_sI t 31 2 ((t.1 31 2) + (1 : Int32))) (fun t_2 => k_lt (x3 + (1 : Int32)) (fun x3_3 => rec18 x3_3 t_2)) else k_lt (x3 + (1 : Int32)) (fun x3_1 => rec18 x3_1 t))
def f_Sl_compare_59 (n : Nat) (rec18 : Int32 → k_St → Option k_St) (x3 : Int32) (x4 : Int32) (t : k_St) : Option k_St := k_lt (k_sI t 31 0 x4) (fun t_1 => k_lt (k_sI t_1 31 1 x3) (fun t_2 => k_lt (k_sI t_2 31 2 (0 : Int32)) (fun t_3 => f_Sl_compare_75 n rec18 x3 x4 t_3)))
def f_Sl_compare_18 (n : Nat) : Nat → Int32 → k_St → Option k_St
  | 0, _, _ => none
  | k + 1, x3, t => (if (t.1 21 0) ≤ x3 then some t else (if (t.1 2 7) ≤ 0 then some t else k_cl (f_Sl_between n x3 t) (fun r_2 t_1 => (if (t_1.1 31 1) = (-1 : Int32) then f_Sl_compare_59 n (f_Sl_compare_18 n k) x3 r_2 t_1 else (if (t_1.1 31 0) ≤ r_2 then f_Sl_compare_75 n (f_Sl_compare_18 n k) x3 r_2 t_1 else f_Sl_compare_59 n (f_Sl_compare_18 n k) x3 r_2 t_1)))))
def f_Sl_compare (n : Nat) (t : k_St) : Option k_St := k_lt (k_sI t 31 0 (-2 : Int32)) (fun t_1 => k_lt (k_sI t_1 31 1 (-1 : Int32)) (fun t_2 => k_lt (k_sI t_2 31 2 (0 : Int32)) (fun t_3 => f_Sl_compare_18 n n (0 : Int32) t_3)))
theorem m_Sl_compare_75 {p : Program} (l : Launch) {e : Env} {s : State} {m : MethodId} {args : Array Value} {below : List Frame} {meth : Method} {c : Code} (G : k_G) (a : Nat → Nat) (tl : Value) (n : Nat) {w0 : va_W} {t' : k_St} (hA : k_Amb p s m args meth c cX6_compare 5 "TaleShares$Slips" G (va_A w0 s.heap.size)) (hr : meth.sig.returnType = none) (rec18 : Int32 → k_St → Option k_St) (hrec18 : ∀ (x3 : Int32) (t : k_St), rec18 x3 t = some t' → k_Go p l e (k_rm 5) s m args below meth c (k_QV G w0 (k_WX G.2.1 a tl t') args s below) 5 G (va_A w0 s.heap.size) (k_WX G.2.1 a tl t) 18 [(0, .ref (a 31)), (1, .ref (a 2)), (2, .ref (a 21)), (3, .int x3)] []) : ∀ (x3 : Int32) (x4 : Int32) (t : k_St), f_Sl_compare_75 n rec18 x3 x4 t = some t' → k_Go p l e (k_rm 5) s m args below meth c (k_QV G w0 (k_WX G.2.1 a tl t') args s below) 5 G (va_A w0 s.heap.size) (k_WX G.2.1 a tl t) 75 [(0, .ref (a 31)), (1, .ref (a 2)), (2, .ref (a 21)), (3, .int x3), (4, .int x4)] [] := by
  intro x3 x4 t hf
  unfold f_Sl_compare_75 at hf
  refine k_iload hA dX6_compare_75 4 rfl ?_
  refine k_aload_n (i := 0) hA dX6_compare_77 rfl 0 rfl ?_
  refine gt_X_31_0 hA wd_374 dX6_compare_78 ?_
  refine k_icmp_ne (tgt := 94) hA dX6_compare_81 rfl (fun hc => ?_) (fun hc => ?_)
  · have hf := k_iff hc hf
    obtain ⟨x3_1, ex3_1, hf⟩ := k_lt_e hf
    refine k_iinc (j := 3) (v := x3_1) (lv' := [(3, .int x3_1), (0, .ref (a 31)), (1, .ref (a 2)), (2, .ref (a 21)), (4, .int x4)]) hA dX6_compare_94 rfl (k_inc ex3_1 kc_i_1) (Nat.le_of_ble_eq_true rfl) rfl ?_
    refine k_goto (tgt := 18) hA dX6_compare_97 rfl ?_
    refine k_pick (lv' := [(0, .ref (a 31)), (1, .ref (a 2)), (2, .ref (a 21)), (3, .int x3_1)]) [1, 2, 3, 0] rfl ?_
    exact hrec18 x3_1 t hf
  have hf := k_ift hc hf
  obtain ⟨t_2, et_2, hf⟩ := k_lt_e hf
  obtain ⟨x3_3, ex3_3, hf⟩ := k_lt_e hf
  refine k_aload_n (i := 0) hA dX6_compare_84 rfl 0 rfl ?_
  refine k_dup hA dX6_compare_85 rfl ?_
  refine gt_X_31_2 hA wd_378 dX6_compare_86 ?_
  refine k_iconst hA dX6_compare_89 kc_i_1 ?_
  refine k_iadd hA dX6_compare_90 ?_
  refine pt_X_31_2 hA wd_378 et_2 dX6_compare_91 ?_
  refine k_iinc (j := 3) (v := x3_3) (lv' := [(3, .int x3_3), (0, .ref (a 31)), (1, .ref (a 2)), (2, .ref (a 21)), (4, .int x4)]) hA dX6_compare_94 rfl (k_inc ex3_3 kc_i_1) (Nat.le_of_ble_eq_true rfl) rfl ?_
  refine k_goto (tgt := 18) hA dX6_compare_97 rfl ?_
  refine k_pick (lv' := [(0, .ref (a 31)), (1, .ref (a 2)), (2, .ref (a 21)), (3, .int x3_3)]) [1, 2, 3, 0] rfl ?_
  exact hrec18 x3_3 t_2 hf

theorem m_Sl_compare_59 {p : Program} (l : Launch) {e : Env} {s : State} {m : MethodId} {args : Array Value} {below : List Frame} {meth : Method} {c : Code} (G : k_G) (a : Nat → Nat) (tl : Value) (n : Nat) {w0 : va_W} {t' : k_St} (hA : k_Amb p s m args meth c cX6_compare 5 "TaleShares$Slips" G (va_A w0 s.heap.size)) (hr : meth.sig.returnType = none) (rec18 : Int32 → k_St → Option k_St) (hrec18 : ∀ (x3 : Int32) (t : k_St), rec18 x3 t = some t' → k_Go p l e (k_rm 5) s m args below meth c (k_QV G w0 (k_WX G.2.1 a tl t') args s below) 5 G (va_A w0 s.heap.size) (k_WX G.2.1 a tl t) 18 [(0, .ref (a 31)), (1, .ref (a 2)), (2, .ref (a 21)), (3, .int x3)] []) : ∀ (x3 : Int32) (x4 : Int32) (t : k_St), f_Sl_compare_59 n rec18 x3 x4 t = some t' → k_Go p l e (k_rm 5) s m args below meth c (k_QV G w0 (k_WX G.2.1 a tl t') args s below) 5 G (va_A w0 s.heap.size) (k_WX G.2.1 a tl t) 59 [(0, .ref (a 31)), (1, .ref (a 2)), (2, .ref (a 21)), (3, .int x3), (4, .int x4)] [] := by
  intro x3 x4 t hf
  unfold f_Sl_compare_59 at hf
  obtain ⟨t_1, et_1, hf⟩ := k_lt_e hf
  obtain ⟨t_2, et_2, hf⟩ := k_lt_e hf
  obtain ⟨t_3, et_3, hf⟩ := k_lt_e hf
  refine k_aload_n (i := 0) hA dX6_compare_59 rfl 0 rfl ?_
  refine k_iload hA dX6_compare_60 4 rfl ?_
  refine pt_X_31_0 hA wd_374 et_1 dX6_compare_62 ?_
  refine k_aload_n (i := 0) hA dX6_compare_65 rfl 0 rfl ?_
  refine k_iload_n (i := 3) hA dX6_compare_66 rfl 3 rfl ?_
  refine pt_X_31_1 hA wd_376 et_2 dX6_compare_67 ?_
  refine k_aload_n (i := 0) hA dX6_compare_70 rfl 0 rfl ?_
  refine k_iconst hA dX6_compare_71 kc_i_0 ?_
  refine pt_X_31_2 hA wd_378 et_3 dX6_compare_72 ?_
  exact m_Sl_compare_75 l G a tl n hA hr rec18 hrec18 x3 x4 t_3 hf

theorem m_Sl_compare_18 {p : Program} (l : Launch) {e : Env} {s : State} {m : MethodId} {args : Array Value} {below : List Frame} {meth : Method} {c : Code} (G : k_G) (a : Nat → Nat) (tl : Value) (n : Nat) {w0 : va_W} {t' : k_St} (hA : k_Amb p s m args meth c cX6_compare 5 "TaleShares$Slips" G (va_A w0 s.heap.size)) (hr : meth.sig.returnType = none) : ∀ (k : Nat) (x3 : Int32) (t : k_St), f_Sl_compare_18 n k x3 t = some t' → k_Go p l e (k_rm 5) s m args below meth c (k_QV G w0 (k_WX G.2.1 a tl t') args s below) 5 G (va_A w0 s.heap.size) (k_WX G.2.1 a tl t) 18 [(0, .ref (a 31)), (1, .ref (a 2)), (2, .ref (a 21)), (3, .int x3)] [] := by
  intro k
  induction k with
  | zero => intro x3 t hf; cases hf
  | succ k ih =>
  intro x3 t hf
  rw [f_Sl_compare_18] at hf
  refine k_iload_n (i := 3) hA dX6_compare_18 rfl 3 rfl ?_
  refine k_aload_n (i := 2) hA dX6_compare_19 rfl 2 rfl ?_
  refine gt_X_21_0 hA wd_306 dX6_compare_20 ?_
  refine k_icmp_ge (tgt := 100) hA dX6_compare_23 rfl (fun hc => ?_) (fun hc => ?_)
  · have hf := k_ift hc hf
    obtain rfl := k_r1 hf
    exact k_vret hA hr dX6_compare_100
  have hf := k_iff hc hf
  refine k_aload_n (i := 1) hA dX6_compare_26 rfl 1 rfl ?_
  refine gt_X_2_7 hA wd_185 dX6_compare_27 ?_
  refine k_if_le (tgt := 100) hA dX6_compare_30 rfl (fun hc => ?_) (fun hc => ?_)
  · have hf := k_ift hc hf
    obtain rfl := k_r1 hf
    exact k_vret hA hr dX6_compare_100
  have hf := k_iff hc hf
  obtain ⟨r_2, t_1, ht_1, hf⟩ := k_cl_e hf
  refine k_aload_n (i := 0) hA dX6_compare_33 rfl 0 rfl ?_
  refine k_aload_n (i := 1) hA dX6_compare_34 rfl 1 rfl ?_
  refine k_aload_n (i := 2) hA dX6_compare_35 rfl 2 rfl ?_
  refine k_iload_n (i := 3) hA dX6_compare_36 rfl 3 rfl ?_
  refine k_callVi (As := [.ref (a 2), .ref (a 21), .int x3]) (rest := []) hA (m_Sl_between l G a tl n x3 t ht_1) cd_X6_between wd_711 (hc_X_31 G.2.1 a tl t) rfl rfl (Nat.le_of_ble_eq_true rfl) rfl rfl (Nat.le_of_ble_eq_true rfl) dX6_compare_37 ?_
  refine k_istore (lv' := [(4, .int r_2), (0, .ref (a 31)), (1, .ref (a 2)), (2, .ref (a 21)), (3, .int x3)]) hA dX6_compare_40 rfl (Nat.le_of_ble_eq_true rfl) rfl ?_
  refine k_aload_n (i := 0) hA dX6_compare_42 rfl 1 rfl ?_
  refine gt_X_31_1 hA wd_376 dX6_compare_43 ?_
  refine k_iconst hA dX6_compare_46 kc_i_m1 ?_
  refine k_icmp_eq (tgt := 59) hA dX6_compare_47 rfl (fun hc => ?_) (fun hc => ?_)
  · have hf := k_ift hc hf
    refine k_pick (lv' := [(0, .ref (a 31)), (1, .ref (a 2)), (2, .ref (a 21)), (3, .int x3), (4, .int r_2)]) [1, 2, 3, 4, 0] rfl ?_
    exact m_Sl_compare_59 l G a tl n hA hr (f_Sl_compare_18 n k) ih x3 r_2 t_1 hf
  have hf := k_iff hc hf
  refine k_iload hA dX6_compare_50 0 rfl ?_
  refine k_aload_n (i := 0) hA dX6_compare_52 rfl 1 rfl ?_
  refine gt_X_31_0 hA wd_374 dX6_compare_53 ?_
  refine k_icmp_ge (tgt := 75) hA dX6_compare_56 rfl (fun hc => ?_) (fun hc => ?_)
  · have hf := k_ift hc hf
    refine k_pick (lv' := [(0, .ref (a 31)), (1, .ref (a 2)), (2, .ref (a 21)), (3, .int x3), (4, .int r_2)]) [1, 2, 3, 4, 0] rfl ?_
    exact m_Sl_compare_75 l G a tl n hA hr (f_Sl_compare_18 n k) ih x3 r_2 t_1 hf
  have hf := k_iff hc hf
  refine k_pick (lv' := [(0, .ref (a 31)), (1, .ref (a 2)), (2, .ref (a 21)), (3, .int x3), (4, .int r_2)]) [1, 2, 3, 4, 0] rfl ?_
  exact m_Sl_compare_59 l G a tl n hA hr (f_Sl_compare_18 n k) ih x3 r_2 t_1 hf

theorem m_Sl_compare (l : Launch) (G : k_G) (a : Nat → Nat) (tl : Value) (n : Nat) (t : k_St) {t' : k_St} (hf : f_Sl_compare n t = some t') : k_CV l G yX6_compare cX6_compare 5 none 5 (k_WX G.2.1 a tl t) [.ref (a 31), .ref (a 2), .ref (a 21)] (k_WX G.2.1 a tl t') := by
  refine k_startV (lv := [(0, .ref (a 31)), (1, .ref (a 2)), (2, .ref (a 21))]) (by decide +kernel) (Nat.le_of_ble_eq_true rfl) rfl ?_
  intro p e s m args below meth c hA hr
  have hA : k_Amb p s m args meth c cX6_compare 5 "TaleShares$Slips" G _ := hA
  unfold f_Sl_compare at hf
  obtain ⟨t_1, et_1, hf⟩ := k_lt_e hf
  obtain ⟨t_2, et_2, hf⟩ := k_lt_e hf
  obtain ⟨t_3, et_3, hf⟩ := k_lt_e hf
  refine k_aload_n (i := 0) hA dX6_compare_0 rfl 0 rfl ?_
  refine k_bipush hA dX6_compare_1 kc_b_m2 ?_
  refine pt_X_31_0 hA wd_374 et_1 dX6_compare_3 ?_
  refine k_aload_n (i := 0) hA dX6_compare_6 rfl 0 rfl ?_
  refine k_iconst hA dX6_compare_7 kc_i_m1 ?_
  refine pt_X_31_1 hA wd_376 et_2 dX6_compare_8 ?_
  refine k_aload_n (i := 0) hA dX6_compare_11 rfl 0 rfl ?_
  refine k_iconst hA dX6_compare_12 kc_i_0 ?_
  refine pt_X_31_2 hA wd_378 et_3 dX6_compare_13 ?_
  refine k_iconst hA dX6_compare_16 kc_i_0 ?_
  refine k_istore_n (i := 3) (lv' := [(3, .int (0 : Int32)), (0, .ref (a 31)), (1, .ref (a 2)), (2, .ref (a 21))]) hA dX6_compare_17 rfl rfl (Nat.le_of_ble_eq_true rfl) rfl ?_
  refine k_pick (lv' := [(0, .ref (a 31)), (1, .ref (a 2)), (2, .ref (a 21)), (3, .int (0 : Int32))]) [1, 2, 3, 0] rfl ?_
  exact m_Sl_compare_18 l G a tl n hA hr n (0 : Int32) t_3 hf

def f_X_withMore (x0 : Int64) (x2 : Int32) (x3 : Int32) : Int64 := (x0 ||| ((x3.toInt64) <<< (((8 : Int32) * x2).toInt64 &&& 63)))
theorem m_X_withMore (l : Launch) (G : k_G) (w : va_W) (x0 : Int64) (x2 : Int32) (x3 : Int32) {r : Int64} (hf : f_X_withMore x0 x2 x3 = r) : k_CL l G yX10_withMore cX10_withMore 4 (some .long) 1 w [.long x0, .int x2, .int x3] r w := by
  refine k_startL (lv := [(0, .long x0), (2, .int x2), (3, .int x3)]) (by decide +kernel) (Nat.le_of_ble_eq_true rfl) rfl ?_
  intro p e s m args below meth c hA hr
  have hA : k_Amb p s m args meth c cX10_withMore 4 "TaleShares" G _ := hA
  unfold f_X_withMore at hf
  subst hf
  refine k_lload_n (i := 0) hA dX10_withMore_0 rfl 0 rfl ?_
  refine k_iload_n (i := 3) hA dX10_withMore_1 rfl 2 rfl ?_
  refine k_i2l hA dX10_withMore_2 ?_
  refine k_bipush hA dX10_withMore_3 kc_b_8 ?_
  refine k_iload_n (i := 2) hA dX10_withMore_5 rfl 1 rfl ?_
  refine k_imul hA dX10_withMore_6 ?_
  refine k_lshl hA dX10_withMore_7 ?_
  refine k_lor hA dX10_withMore_8 ?_
  exact k_lret hA hr dX10_withMore_9

def f_No_begin_15 (n : Nat) : Nat → Int32 → k_St → Option k_St
  | 0, _, _ => none
  | k + 1, x2, t => (if (t.1 34 4) ≤ x2 then k_lt (k_sI t 34 1 (0 : Int32)) (fun t_1 => k_lt (k_sI t_1 34 2 (0 : Int32)) (fun t_2 => k_lt (k_sI t_2 34 3 (0 : Int32)) (fun t_3 => some t_3))) else k_gi x2 5 (k_lt (k_sL t 34 0 (f_X_withMore (t.2 34 0) x2 (t.1 8 x2.toNatClampNeg))) (fun t_5 => k_lt (x2 + (1 : Int32)) (fun x2_6 => f_No_begin_15 n k x2_6 t_5))))
def f_No_begin (n : Nat) (t : k_St) : Option k_St := k_lt (k_sI t 34 4 (t.1 2 4)) (fun t_1 => k_lt (k_sL t_1 34 0 (0 : Int64)) (fun t_2 => f_No_begin_15 n n (0 : Int32) t_2))
theorem m_No_begin_15 {p : Program} (l : Launch) {e : Env} {s : State} {m : MethodId} {args : Array Value} {below : List Frame} {meth : Method} {c : Code} (G : k_G) (a : Nat → Nat) (tl : Value) (n : Nat) {w0 : va_W} {t' : k_St} (hA : k_Amb p s m args meth c cX3_begin 3 "TaleShares$Now" G (va_A w0 s.heap.size)) (hr : meth.sig.returnType = none) : ∀ (k : Nat) (x2 : Int32) (t : k_St), f_No_begin_15 n k x2 t = some t' → k_Go p l e (k_rm 2) s m args below meth c (k_QV G w0 (k_WX G.2.1 a tl t') args s below) 3 G (va_A w0 s.heap.size) (k_WX G.2.1 a tl t) 15 [(0, .ref (a 34)), (1, .ref (a 2)), (2, .int x2)] [] := by
  intro k
  induction k with
  | zero => intro x2 t hf; cases hf
  | succ k ih =>
  intro x2 t hf
  rw [f_No_begin_15] at hf
  refine k_iload_n (i := 2) hA dX3_begin_15 rfl 2 rfl ?_
  refine k_aload_n (i := 0) hA dX3_begin_16 rfl 0 rfl ?_
  refine gt_X_34_4 hA wd_419 dX3_begin_17 ?_
  refine k_icmp_ge (tgt := 47) hA dX3_begin_20 rfl (fun hc => ?_) (fun hc => ?_)
  · have hf := k_ift hc hf
    obtain ⟨t_1, et_1, hf⟩ := k_lt_e hf
    obtain ⟨t_2, et_2, hf⟩ := k_lt_e hf
    obtain ⟨t_3, et_3, hf⟩ := k_lt_e hf
    obtain rfl := k_r1 hf
    refine k_aload_n (i := 0) hA dX3_begin_47 rfl 0 rfl ?_
    refine k_iconst hA dX3_begin_48 kc_i_0 ?_
    refine pt_X_34_1 hA wd_413 et_1 dX3_begin_49 ?_
    refine k_aload_n (i := 0) hA dX3_begin_52 rfl 0 rfl ?_
    refine k_iconst hA dX3_begin_53 kc_i_0 ?_
    refine pt_X_34_2 hA wd_415 et_2 dX3_begin_54 ?_
    refine k_aload_n (i := 0) hA dX3_begin_57 rfl 0 rfl ?_
    refine k_iconst hA dX3_begin_58 kc_i_0 ?_
    refine pt_X_34_3 hA wd_417 et_3 dX3_begin_59 ?_
    exact k_vret hA hr dX3_begin_62
  have hf := k_iff hc hf
  obtain ⟨hi_4, hf⟩ := k_gi_e hf
  obtain ⟨t_5, et_5, hf⟩ := k_lt_e hf
  obtain ⟨x2_6, ex2_6, hf⟩ := k_lt_e hf
  refine k_aload_n (i := 0) hA dX3_begin_23 rfl 0 rfl ?_
  refine k_aload_n (i := 0) hA dX3_begin_24 rfl 0 rfl ?_
  refine gt_X_34_0 hA wd_411 dX3_begin_25 ?_
  refine k_iload_n (i := 2) hA dX3_begin_28 rfl 2 rfl ?_
  refine k_aload_n (i := 1) hA dX3_begin_29 rfl 1 rfl ?_
  refine gt_X_2_13 hA wd_209 dX3_begin_30 ?_
  refine k_iload_n (i := 2) hA dX3_begin_33 rfl 2 rfl ?_
  refine ld_X_8 hA hi_4 dX3_begin_34 ?_
  refine k_callSNl (As := [.long (t.2 34 0), .int x2, .int (t.1 8 x2.toNatClampNeg)]) (rest := [.ref (a 34)]) hA (m_X_withMore l G (k_WX G.2.1 a tl t) (t.2 34 0) x2 (t.1 8 x2.toNatClampNeg) rfl) cd_X10_withMore nm_RX3_33 (Nat.le_of_ble_eq_true rfl) rfl rfl (Nat.le_of_ble_eq_true rfl) dX3_begin_35 ?_
  refine pt_X_34_0 hA wd_411 et_5 dX3_begin_38 ?_
  refine k_iinc (j := 2) (v := x2_6) (lv' := [(2, .int x2_6), (0, .ref (a 34)), (1, .ref (a 2))]) hA dX3_begin_41 rfl (k_inc ex2_6 kc_i_1) (Nat.le_of_ble_eq_true rfl) rfl ?_
  refine k_goto (tgt := 15) hA dX3_begin_44 rfl ?_
  refine k_pick (lv' := [(0, .ref (a 34)), (1, .ref (a 2)), (2, .int x2_6)]) [1, 2, 0] rfl ?_
  exact ih x2_6 t_5 hf

theorem m_No_begin (l : Launch) (G : k_G) (a : Nat → Nat) (tl : Value) (n : Nat) (t : k_St) {t' : k_St} (hf : f_No_begin n t = some t') : k_CV l G yX3_begin cX3_begin 3 none 2 (k_WX G.2.1 a tl t) [.ref (a 34), .ref (a 2)] (k_WX G.2.1 a tl t') := by
  refine k_startV (lv := [(0, .ref (a 34)), (1, .ref (a 2))]) (by decide +kernel) (Nat.le_of_ble_eq_true rfl) rfl ?_
  intro p e s m args below meth c hA hr
  have hA : k_Amb p s m args meth c cX3_begin 3 "TaleShares$Now" G _ := hA
  unfold f_No_begin at hf
  obtain ⟨t_1, et_1, hf⟩ := k_lt_e hf
  obtain ⟨t_2, et_2, hf⟩ := k_lt_e hf
  refine k_aload_n (i := 0) hA dX3_begin_0 rfl 0 rfl ?_
  refine k_aload_n (i := 1) hA dX3_begin_1 rfl 1 rfl ?_
  refine gt_X_2_4 hA wd_173 dX3_begin_2 ?_
  refine pt_X_34_4 hA wd_419 et_1 dX3_begin_5 ?_
  refine k_aload_n (i := 0) hA dX3_begin_8 rfl 0 rfl ?_
  refine k_lconst hA dX3_begin_9 kc_l_0 ?_
  refine pt_X_34_0 hA wd_411 et_2 dX3_begin_10 ?_
  refine k_iconst hA dX3_begin_13 kc_i_0 ?_
  refine k_istore_n (i := 2) (lv' := [(2, .int (0 : Int32)), (0, .ref (a 34)), (1, .ref (a 2))]) hA dX3_begin_14 rfl rfl (Nat.le_of_ble_eq_true rfl) rfl ?_
  refine k_pick (lv' := [(0, .ref (a 34)), (1, .ref (a 2)), (2, .int (0 : Int32))]) [1, 2, 0] rfl ?_
  exact m_No_begin_15 l G a tl n hA hr n (0 : Int32) t_2 hf

