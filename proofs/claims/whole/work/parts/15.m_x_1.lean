theorem dX10_wanted_0 : decode cX10_wanted 0 = .ok (.aload_n 0, 1) := by decide +kernel
theorem dX10_wanted_1 : decode cX10_wanted 1 = .ok (.iload_n 1, 1) := by decide +kernel
theorem dX10_wanted_2 : decode cX10_wanted 2 = .ok (.invokevirtual 137, 3) := by decide +kernel
theorem dX10_wanted_5 : decode cX10_wanted 5 = .ok (.ifCond .eq 9, 3) := by decide +kernel
theorem dX10_wanted_8 : decode cX10_wanted 8 = .ok (.aload_n 0, 1) := by decide +kernel
theorem dX10_wanted_9 : decode cX10_wanted 9 = .ok (.iconst 1, 1) := by decide +kernel
theorem dX10_wanted_10 : decode cX10_wanted 10 = .ok (.invokevirtual 73, 3) := by decide +kernel
theorem dX10_wanted_13 : decode cX10_wanted 13 = .ok (.ireturn, 1) := by decide +kernel
theorem dX10_wanted_14 : decode cX10_wanted 14 = .ok (.bipush (-2), 2) := by decide +kernel
theorem dX10_wanted_16 : decode cX10_wanted 16 = .ok (.istore_n 2, 1) := by decide +kernel
theorem dX10_wanted_17 : decode cX10_wanted 17 = .ok (.aload_n 0, 1) := by decide +kernel
theorem dX10_wanted_18 : decode cX10_wanted 18 = .ok (.getfield 26, 3) := by decide +kernel
theorem dX10_wanted_21 : decode cX10_wanted 21 = .ok (.aload_n 0, 1) := by decide +kernel
theorem dX10_wanted_22 : decode cX10_wanted 22 = .ok (.getfield 61, 3) := by decide +kernel
theorem dX10_wanted_25 : decode cX10_wanted 25 = .ok (.iload_n 1, 1) := by decide +kernel
theorem dX10_wanted_26 : decode cX10_wanted 26 = .ok (.invokevirtual 149, 3) := by decide +kernel
theorem dX10_wanted_29 : decode cX10_wanted 29 = .ok (.invokevirtual 173, 3) := by decide +kernel
theorem dX10_wanted_32 : decode cX10_wanted 32 = .ok (.istore_n 3, 1) := by decide +kernel
theorem dX10_wanted_33 : decode cX10_wanted 33 = .ok (.iconst 0, 1) := by decide +kernel
theorem dX10_wanted_34 : decode cX10_wanted 34 = .ok (.istore 4, 2) := by decide +kernel
theorem dX10_wanted_36 : decode cX10_wanted 36 = .ok (.iload 4, 2) := by decide +kernel
theorem dX10_wanted_38 : decode cX10_wanted 38 = .ok (.aload_n 0, 1) := by decide +kernel
theorem dX10_wanted_39 : decode cX10_wanted 39 = .ok (.getfield 10, 3) := by decide +kernel
theorem dX10_wanted_42 : decode cX10_wanted 42 = .ok (.getfield 106, 3) := by decide +kernel
theorem dX10_wanted_45 : decode cX10_wanted 45 = .ok (.if_icmp .ge 43, 3) := by decide +kernel
theorem dX10_wanted_48 : decode cX10_wanted 48 = .ok (.aload_n 0, 1) := by decide +kernel
theorem dX10_wanted_49 : decode cX10_wanted 49 = .ok (.getfield 26, 3) := by decide +kernel
theorem dX10_wanted_52 : decode cX10_wanted 52 = .ok (.aload_n 0, 1) := by decide +kernel
theorem dX10_wanted_53 : decode cX10_wanted 53 = .ok (.getfield 61, 3) := by decide +kernel
theorem dX10_wanted_56 : decode cX10_wanted 56 = .ok (.iload_n 1, 1) := by decide +kernel
theorem dX10_wanted_57 : decode cX10_wanted 57 = .ok (.invokevirtual 149, 3) := by decide +kernel
theorem dX10_wanted_60 : decode cX10_wanted 60 = .ok (.iconst 1, 1) := by decide +kernel
theorem dX10_wanted_61 : decode cX10_wanted 61 = .ok (.iload 4, 2) := by decide +kernel
theorem dX10_wanted_63 : decode cX10_wanted 63 = .ok (.ishl, 1) := by decide +kernel
theorem dX10_wanted_64 : decode cX10_wanted 64 = .ok (.ior, 1) := by decide +kernel
theorem dX10_wanted_65 : decode cX10_wanted 65 = .ok (.invokevirtual 173, 3) := by decide +kernel
theorem dX10_wanted_68 : decode cX10_wanted 68 = .ok (.istore 5, 2) := by decide +kernel
theorem dX10_wanted_70 : decode cX10_wanted 70 = .ok (.iload 5, 2) := by decide +kernel
theorem dX10_wanted_72 : decode cX10_wanted 72 = .ok (.iload_n 3, 1) := by decide +kernel
theorem dX10_wanted_73 : decode cX10_wanted 73 = .ok (.if_icmp .le 9, 3) := by decide +kernel
theorem dX10_wanted_76 : decode cX10_wanted 76 = .ok (.iload 4, 2) := by decide +kernel
theorem dX10_wanted_78 : decode cX10_wanted 78 = .ok (.istore_n 2, 1) := by decide +kernel
theorem dX10_wanted_79 : decode cX10_wanted 79 = .ok (.iload 5, 2) := by decide +kernel
theorem dX10_wanted_81 : decode cX10_wanted 81 = .ok (.istore_n 3, 1) := by decide +kernel
theorem dX10_wanted_82 : decode cX10_wanted 82 = .ok (.iinc 4 1, 3) := by decide +kernel
theorem dX10_wanted_85 : decode cX10_wanted 85 = .ok (.goto (-49), 3) := by decide +kernel
theorem dX10_wanted_88 : decode cX10_wanted 88 = .ok (.aload_n 0, 1) := by decide +kernel
theorem dX10_wanted_89 : decode cX10_wanted 89 = .ok (.iload_n 2, 1) := by decide +kernel
theorem dX10_wanted_90 : decode cX10_wanted 90 = .ok (.invokevirtual 109, 3) := by decide +kernel
theorem dX10_wanted_93 : decode cX10_wanted 93 = .ok (.ireturn, 1) := by decide +kernel
theorem dX10_ask_0 : decode cX10_ask 0 = .ok (.aload_n 0, 1) := by decide +kernel
theorem dX10_ask_1 : decode cX10_ask 1 = .ok (.iload_n 1, 1) := by decide +kernel
theorem dX10_ask_2 : decode cX10_ask 2 = .ok (.invokevirtual 137, 3) := by decide +kernel
theorem dX10_ask_5 : decode cX10_ask 5 = .ok (.ifCond .eq 9, 3) := by decide +kernel
theorem dX10_ask_8 : decode cX10_ask 8 = .ok (.aload_n 0, 1) := by decide +kernel
theorem dX10_ask_9 : decode cX10_ask 9 = .ok (.iconst 1, 1) := by decide +kernel
theorem dX10_ask_10 : decode cX10_ask 10 = .ok (.invokevirtual 73, 3) := by decide +kernel
theorem dX10_ask_13 : decode cX10_ask 13 = .ok (.ireturn, 1) := by decide +kernel
theorem dX10_ask_14 : decode cX10_ask 14 = .ok (.bipush (-2), 2) := by decide +kernel
theorem dX10_ask_16 : decode cX10_ask 16 = .ok (.istore_n 2, 1) := by decide +kernel
theorem dX10_ask_17 : decode cX10_ask 17 = .ok (.aload_n 0, 1) := by decide +kernel
theorem dX10_ask_18 : decode cX10_ask 18 = .ok (.getfield 26, 3) := by decide +kernel
theorem dX10_ask_21 : decode cX10_ask 21 = .ok (.aload_n 0, 1) := by decide +kernel
theorem dX10_ask_22 : decode cX10_ask 22 = .ok (.getfield 61, 3) := by decide +kernel
theorem dX10_ask_25 : decode cX10_ask 25 = .ok (.iload_n 1, 1) := by decide +kernel
theorem dX10_ask_26 : decode cX10_ask 26 = .ok (.invokevirtual 149, 3) := by decide +kernel
theorem dX10_ask_29 : decode cX10_ask 29 = .ok (.invokevirtual 173, 3) := by decide +kernel
theorem dX10_ask_32 : decode cX10_ask 32 = .ok (.istore_n 3, 1) := by decide +kernel
theorem dX10_ask_33 : decode cX10_ask 33 = .ok (.iconst 0, 1) := by decide +kernel
theorem dX10_ask_34 : decode cX10_ask 34 = .ok (.istore 4, 2) := by decide +kernel
theorem dX10_ask_36 : decode cX10_ask 36 = .ok (.iload 4, 2) := by decide +kernel
theorem dX10_ask_38 : decode cX10_ask 38 = .ok (.aload_n 0, 1) := by decide +kernel
theorem dX10_ask_39 : decode cX10_ask 39 = .ok (.getfield 10, 3) := by decide +kernel
theorem dX10_ask_42 : decode cX10_ask 42 = .ok (.getfield 203, 3) := by decide +kernel
theorem dX10_ask_45 : decode cX10_ask 45 = .ok (.if_icmp .ge 64, 3) := by decide +kernel
theorem dX10_ask_48 : decode cX10_ask 48 = .ok (.aload_n 0, 1) := by decide +kernel
theorem dX10_ask_49 : decode cX10_ask 49 = .ok (.getfield 10, 3) := by decide +kernel
theorem dX10_ask_52 : decode cX10_ask 52 = .ok (.iload 4, 2) := by decide +kernel
theorem dX10_ask_54 : decode cX10_ask 54 = .ok (.invokevirtual 206, 3) := by decide +kernel
theorem dX10_ask_57 : decode cX10_ask 57 = .ok (.ifCond .eq 7, 3) := by decide +kernel
theorem dX10_ask_60 : decode cX10_ask 60 = .ok (.iconst 0, 1) := by decide +kernel
theorem dX10_ask_61 : decode cX10_ask 61 = .ok (.goto 28, 3) := by decide +kernel
theorem dX10_ask_64 : decode cX10_ask 64 = .ok (.aload_n 0, 1) := by decide +kernel
theorem dX10_ask_65 : decode cX10_ask 65 = .ok (.getfield 26, 3) := by decide +kernel
theorem dX10_ask_68 : decode cX10_ask 68 = .ok (.aload_n 0, 1) := by decide +kernel
theorem dX10_ask_69 : decode cX10_ask 69 = .ok (.getfield 61, 3) := by decide +kernel
theorem dX10_ask_72 : decode cX10_ask 72 = .ok (.iload_n 1, 1) := by decide +kernel
theorem dX10_ask_73 : decode cX10_ask 73 = .ok (.invokevirtual 149, 3) := by decide +kernel
theorem dX10_ask_76 : decode cX10_ask 76 = .ok (.aload_n 0, 1) := by decide +kernel
theorem dX10_ask_77 : decode cX10_ask 77 = .ok (.getfield 61, 3) := by decide +kernel
theorem dX10_ask_80 : decode cX10_ask 80 = .ok (.iload 4, 2) := by decide +kernel
theorem dX10_ask_82 : decode cX10_ask 82 = .ok (.invokevirtual 149, 3) := by decide +kernel
theorem dX10_ask_85 : decode cX10_ask 85 = .ok (.ior, 1) := by decide +kernel
theorem dX10_ask_86 : decode cX10_ask 86 = .ok (.invokevirtual 173, 3) := by decide +kernel
theorem dX10_ask_89 : decode cX10_ask 89 = .ok (.istore 5, 2) := by decide +kernel
theorem dX10_ask_91 : decode cX10_ask 91 = .ok (.iload 5, 2) := by decide +kernel
theorem dX10_ask_93 : decode cX10_ask 93 = .ok (.iload_n 3, 1) := by decide +kernel
theorem dX10_ask_94 : decode cX10_ask 94 = .ok (.if_icmp .le 9, 3) := by decide +kernel
theorem dX10_ask_97 : decode cX10_ask 97 = .ok (.iload 4, 2) := by decide +kernel
theorem dX10_ask_99 : decode cX10_ask 99 = .ok (.istore_n 2, 1) := by decide +kernel
theorem dX10_ask_100 : decode cX10_ask 100 = .ok (.iload 5, 2) := by decide +kernel
theorem dX10_ask_102 : decode cX10_ask 102 = .ok (.istore_n 3, 1) := by decide +kernel
theorem dX10_ask_103 : decode cX10_ask 103 = .ok (.iinc 4 1, 3) := by decide +kernel
theorem dX10_ask_106 : decode cX10_ask 106 = .ok (.goto (-70), 3) := by decide +kernel
theorem dX10_ask_109 : decode cX10_ask 109 = .ok (.aload_n 0, 1) := by decide +kernel
theorem dX10_ask_110 : decode cX10_ask 110 = .ok (.iload_n 2, 1) := by decide +kernel
theorem dX10_ask_111 : decode cX10_ask 111 = .ok (.invokevirtual 109, 3) := by decide +kernel
theorem dX10_ask_114 : decode cX10_ask 114 = .ok (.ireturn, 1) := by decide +kernel
theorem dX10_askAll_0 : decode cX10_askAll 0 = .ok (.aload_n 0, 1) := by decide +kernel
theorem dX10_askAll_1 : decode cX10_askAll 1 = .ok (.iload_n 1, 1) := by decide +kernel
theorem dX10_askAll_2 : decode cX10_askAll 2 = .ok (.invokevirtual 137, 3) := by decide +kernel
theorem dX10_askAll_5 : decode cX10_askAll 5 = .ok (.ifCond .eq 9, 3) := by decide +kernel
theorem dX10_askAll_8 : decode cX10_askAll 8 = .ok (.aload_n 0, 1) := by decide +kernel
theorem dX10_askAll_9 : decode cX10_askAll 9 = .ok (.iconst 1, 1) := by decide +kernel
theorem dX10_askAll_10 : decode cX10_askAll 10 = .ok (.invokevirtual 73, 3) := by decide +kernel
theorem dX10_askAll_13 : decode cX10_askAll 13 = .ok (.ireturn, 1) := by decide +kernel
theorem dX10_askAll_14 : decode cX10_askAll 14 = .ok (.bipush (-2), 2) := by decide +kernel
theorem dX10_askAll_16 : decode cX10_askAll 16 = .ok (.istore_n 2, 1) := by decide +kernel
theorem dX10_askAll_17 : decode cX10_askAll 17 = .ok (.aload_n 0, 1) := by decide +kernel
theorem dX10_askAll_18 : decode cX10_askAll 18 = .ok (.getfield 10, 3) := by decide +kernel
theorem dX10_askAll_21 : decode cX10_askAll 21 = .ok (.getfield 152, 3) := by decide +kernel
theorem dX10_askAll_24 : decode cX10_askAll 24 = .ok (.iconst 1, 1) := by decide +kernel
theorem dX10_askAll_25 : decode cX10_askAll 25 = .ok (.iload_n 1, 1) := by decide +kernel
theorem dX10_askAll_26 : decode cX10_askAll 26 = .ok (.ishl, 1) := by decide +kernel
theorem dX10_askAll_27 : decode cX10_askAll 27 = .ok (.ior, 1) := by decide +kernel
theorem dX10_askAll_28 : decode cX10_askAll 28 = .ok (.istore_n 3, 1) := by decide +kernel
theorem dX10_askAll_29 : decode cX10_askAll 29 = .ok (.iconst 0, 1) := by decide +kernel
theorem dX10_askAll_30 : decode cX10_askAll 30 = .ok (.istore 4, 2) := by decide +kernel
theorem dX10_askAll_32 : decode cX10_askAll 32 = .ok (.iload 4, 2) := by decide +kernel
theorem dX10_askAll_34 : decode cX10_askAll 34 = .ok (.iconst 1, 1) := by decide +kernel
theorem dX10_askAll_35 : decode cX10_askAll 35 = .ok (.aload_n 0, 1) := by decide +kernel
theorem dX10_askAll_36 : decode cX10_askAll 36 = .ok (.getfield 10, 3) := by decide +kernel
theorem dX10_askAll_39 : decode cX10_askAll 39 = .ok (.getfield 203, 3) := by decide +kernel
theorem dX10_askAll_42 : decode cX10_askAll 42 = .ok (.ishl, 1) := by decide +kernel
theorem dX10_askAll_43 : decode cX10_askAll 43 = .ok (.if_icmp .ge 77, 3) := by decide +kernel
theorem dX10_askAll_46 : decode cX10_askAll 46 = .ok (.iload_n 2, 1) := by decide +kernel
theorem dX10_askAll_47 : decode cX10_askAll 47 = .ok (.bipush (-2), 2) := by decide +kernel
theorem dX10_askAll_49 : decode cX10_askAll 49 = .ok (.if_icmp .eq 15, 3) := by decide +kernel
theorem dX10_askAll_52 : decode cX10_askAll 52 = .ok (.iload 4, 2) := by decide +kernel
theorem dX10_askAll_54 : decode cX10_askAll 54 = .ok (.invokestatic 195, 3) := by decide +kernel
theorem dX10_askAll_57 : decode cX10_askAll 57 = .ok (.iload_n 2, 1) := by decide +kernel
theorem dX10_askAll_58 : decode cX10_askAll 58 = .ok (.invokestatic 195, 3) := by decide +kernel
theorem dX10_askAll_61 : decode cX10_askAll 61 = .ok (.if_icmp .ge 7, 3) := by decide +kernel
theorem dX10_askAll_64 : decode cX10_askAll 64 = .ok (.iconst 1, 1) := by decide +kernel
theorem dX10_askAll_65 : decode cX10_askAll 65 = .ok (.goto 4, 3) := by decide +kernel
theorem dX10_askAll_68 : decode cX10_askAll 68 = .ok (.iconst 0, 1) := by decide +kernel
theorem dX10_askAll_69 : decode cX10_askAll 69 = .ok (.istore 5, 2) := by decide +kernel
theorem dX10_askAll_71 : decode cX10_askAll 71 = .ok (.iload 4, 2) := by decide +kernel
theorem dX10_askAll_73 : decode cX10_askAll 73 = .ok (.iload_n 3, 1) := by decide +kernel
theorem dX10_askAll_74 : decode cX10_askAll 74 = .ok (.iand, 1) := by decide +kernel
theorem dX10_askAll_75 : decode cX10_askAll 75 = .ok (.ifCond .ne 39, 3) := by decide +kernel
theorem dX10_askAll_78 : decode cX10_askAll 78 = .ok (.iload 5, 2) := by decide +kernel
theorem dX10_askAll_80 : decode cX10_askAll 80 = .ok (.ifCond .eq 34, 3) := by decide +kernel
theorem dX10_askAll_83 : decode cX10_askAll 83 = .ok (.aload_n 0, 1) := by decide +kernel
theorem dX10_askAll_84 : decode cX10_askAll 84 = .ok (.getfield 26, 3) := by decide +kernel
theorem dX10_askAll_87 : decode cX10_askAll 87 = .ok (.aload_n 0, 1) := by decide +kernel
theorem dX10_askAll_88 : decode cX10_askAll 88 = .ok (.getfield 61, 3) := by decide +kernel
theorem dX10_askAll_91 : decode cX10_askAll 91 = .ok (.iload_n 1, 1) := by decide +kernel
theorem dX10_askAll_92 : decode cX10_askAll 92 = .ok (.invokevirtual 149, 3) := by decide +kernel
theorem dX10_askAll_95 : decode cX10_askAll 95 = .ok (.aload_n 0, 1) := by decide +kernel
theorem dX10_askAll_96 : decode cX10_askAll 96 = .ok (.getfield 61, 3) := by decide +kernel
theorem dX10_askAll_99 : decode cX10_askAll 99 = .ok (.iload 4, 2) := by decide +kernel
theorem dX10_askAll_101 : decode cX10_askAll 101 = .ok (.invokevirtual 209, 3) := by decide +kernel
theorem dX10_askAll_104 : decode cX10_askAll 104 = .ok (.ior, 1) := by decide +kernel
theorem dX10_askAll_105 : decode cX10_askAll 105 = .ok (.invokevirtual 212, 3) := by decide +kernel
theorem dX10_askAll_108 : decode cX10_askAll 108 = .ok (.ifCond .eq 6, 3) := by decide +kernel
theorem dX10_askAll_111 : decode cX10_askAll 111 = .ok (.iload 4, 2) := by decide +kernel
theorem dX10_askAll_113 : decode cX10_askAll 113 = .ok (.istore_n 2, 1) := by decide +kernel
theorem dX10_askAll_114 : decode cX10_askAll 114 = .ok (.iinc 4 1, 3) := by decide +kernel
theorem dX10_askAll_117 : decode cX10_askAll 117 = .ok (.goto (-85), 3) := by decide +kernel
theorem dX10_askAll_120 : decode cX10_askAll 120 = .ok (.aload_n 0, 1) := by decide +kernel
theorem dX10_askAll_121 : decode cX10_askAll 121 = .ok (.iload_n 2, 1) := by decide +kernel
theorem dX10_askAll_122 : decode cX10_askAll 122 = .ok (.invokevirtual 109, 3) := by decide +kernel
theorem dX10_askAll_125 : decode cX10_askAll 125 = .ok (.ireturn, 1) := by decide +kernel
theorem dX3_knownByAny_0 : decode cX3_knownByAny 0 = .ok (.iconst 0, 1) := by decide +kernel
theorem dX3_knownByAny_1 : decode cX3_knownByAny 1 = .ok (.istore_n 2, 1) := by decide +kernel
theorem dX3_knownByAny_2 : decode cX3_knownByAny 2 = .ok (.iconst 0, 1) := by decide +kernel
theorem dX3_knownByAny_3 : decode cX3_knownByAny 3 = .ok (.istore_n 3, 1) := by decide +kernel
theorem dX3_knownByAny_4 : decode cX3_knownByAny 4 = .ok (.iload_n 3, 1) := by decide +kernel
theorem dX3_knownByAny_5 : decode cX3_knownByAny 5 = .ok (.aload_n 0, 1) := by decide +kernel
theorem dX3_knownByAny_6 : decode cX3_knownByAny 6 = .ok (.getfield 24, 3) := by decide +kernel
theorem dX3_knownByAny_9 : decode cX3_knownByAny 9 = .ok (.if_icmp .ge 25, 3) := by decide +kernel
theorem dX3_knownByAny_12 : decode cX3_knownByAny 12 = .ok (.iload_n 1, 1) := by decide +kernel
theorem dX3_knownByAny_13 : decode cX3_knownByAny 13 = .ok (.iload_n 3, 1) := by decide +kernel
theorem dX3_knownByAny_14 : decode cX3_knownByAny 14 = .ok (.ishr, 1) := by decide +kernel
theorem dX3_knownByAny_15 : decode cX3_knownByAny 15 = .ok (.iconst 1, 1) := by decide +kernel
theorem dX3_knownByAny_16 : decode cX3_knownByAny 16 = .ok (.iand, 1) := by decide +kernel
theorem dX3_knownByAny_17 : decode cX3_knownByAny 17 = .ok (.ifCond .eq 11, 3) := by decide +kernel
theorem dX3_knownByAny_20 : decode cX3_knownByAny 20 = .ok (.iload_n 2, 1) := by decide +kernel
theorem dX3_knownByAny_21 : decode cX3_knownByAny 21 = .ok (.aload_n 0, 1) := by decide +kernel
theorem dX3_knownByAny_22 : decode cX3_knownByAny 22 = .ok (.iload_n 3, 1) := by decide +kernel
theorem dX3_knownByAny_23 : decode cX3_knownByAny 23 = .ok (.invokevirtual 50, 3) := by decide +kernel
theorem dX3_knownByAny_26 : decode cX3_knownByAny 26 = .ok (.ior, 1) := by decide +kernel
theorem dX3_knownByAny_27 : decode cX3_knownByAny 27 = .ok (.istore_n 2, 1) := by decide +kernel
theorem dX3_knownByAny_28 : decode cX3_knownByAny 28 = .ok (.iinc 3 1, 3) := by decide +kernel
theorem dX3_knownByAny_31 : decode cX3_knownByAny 31 = .ok (.goto (-27), 3) := by decide +kernel
theorem dX3_knownByAny_34 : decode cX3_knownByAny 34 = .ok (.iload_n 2, 1) := by decide +kernel
theorem dX3_knownByAny_35 : decode cX3_knownByAny 35 = .ok (.ireturn, 1) := by decide +kernel
theorem dX10_sense_0 : decode cX10_sense 0 = .ok (.aload_n 0, 1) := by decide +kernel
theorem dX10_sense_1 : decode cX10_sense 1 = .ok (.getfield 85, 3) := by decide +kernel
theorem dX10_sense_4 : decode cX10_sense 4 = .ok (.ifCond .ne 9, 3) := by decide +kernel
theorem dX10_sense_7 : decode cX10_sense 7 = .ok (.aload_n 0, 1) := by decide +kernel
theorem dX10_sense_8 : decode cX10_sense 8 = .ok (.iconst 1, 1) := by decide +kernel
theorem dX10_sense_9 : decode cX10_sense 9 = .ok (.invokevirtual 73, 3) := by decide +kernel
theorem dX10_sense_12 : decode cX10_sense 12 = .ok (.ireturn, 1) := by decide +kernel
theorem dX10_sense_13 : decode cX10_sense 13 = .ok (.iconst 0, 1) := by decide +kernel
theorem dX10_sense_14 : decode cX10_sense 14 = .ok (.istore_n 1, 1) := by decide +kernel
theorem dX10_sense_15 : decode cX10_sense 15 = .ok (.iconst 0, 1) := by decide +kernel
theorem dX10_sense_16 : decode cX10_sense 16 = .ok (.istore_n 2, 1) := by decide +kernel
theorem dX10_sense_17 : decode cX10_sense 17 = .ok (.iload_n 2, 1) := by decide +kernel
theorem dX10_sense_18 : decode cX10_sense 18 = .ok (.aload_n 0, 1) := by decide +kernel
theorem dX10_sense_19 : decode cX10_sense 19 = .ok (.getfield 10, 3) := by decide +kernel
theorem dX10_sense_22 : decode cX10_sense 22 = .ok (.getfield 203, 3) := by decide +kernel
theorem dX10_sense_25 : decode cX10_sense 25 = .ok (.if_icmp .ge 23, 3) := by decide +kernel
theorem dX10_sense_28 : decode cX10_sense 28 = .ok (.aload_n 0, 1) := by decide +kernel
theorem dX10_sense_29 : decode cX10_sense 29 = .ok (.iload_n 2, 1) := by decide +kernel
theorem dX10_sense_30 : decode cX10_sense 30 = .ok (.invokevirtual 155, 3) := by decide +kernel
theorem dX10_sense_33 : decode cX10_sense 33 = .ok (.ifCond .eq 9, 3) := by decide +kernel
theorem dX10_sense_36 : decode cX10_sense 36 = .ok (.iload_n 1, 1) := by decide +kernel
theorem dX10_sense_37 : decode cX10_sense 37 = .ok (.iconst 1, 1) := by decide +kernel
theorem dX10_sense_38 : decode cX10_sense 38 = .ok (.iload_n 2, 1) := by decide +kernel
theorem dX10_sense_39 : decode cX10_sense 39 = .ok (.ishl, 1) := by decide +kernel
theorem dX10_sense_40 : decode cX10_sense 40 = .ok (.ior, 1) := by decide +kernel
theorem dX10_sense_41 : decode cX10_sense 41 = .ok (.istore_n 1, 1) := by decide +kernel
theorem dX10_sense_42 : decode cX10_sense 42 = .ok (.iinc 2 1, 3) := by decide +kernel
theorem dX10_sense_45 : decode cX10_sense 45 = .ok (.goto (-28), 3) := by decide +kernel
theorem dX10_sense_48 : decode cX10_sense 48 = .ok (.aload_n 0, 1) := by decide +kernel
theorem dX10_sense_49 : decode cX10_sense 49 = .ok (.iload_n 1, 1) := by decide +kernel
theorem dX10_sense_50 : decode cX10_sense 50 = .ok (.invokevirtual 109, 3) := by decide +kernel
theorem dX10_sense_53 : decode cX10_sense 53 = .ok (.ireturn, 1) := by decide +kernel
theorem dX10_wisest_0 : decode cX10_wisest 0 = .ok (.aload_n 0, 1) := by decide +kernel
theorem dX10_wisest_1 : decode cX10_wisest 1 = .ok (.getfield 85, 3) := by decide +kernel
theorem dX10_wisest_4 : decode cX10_wisest 4 = .ok (.ifCond .ne 9, 3) := by decide +kernel
theorem dX10_wisest_7 : decode cX10_wisest 7 = .ok (.aload_n 0, 1) := by decide +kernel
theorem dX10_wisest_8 : decode cX10_wisest 8 = .ok (.iconst 1, 1) := by decide +kernel
theorem dX10_wisest_9 : decode cX10_wisest 9 = .ok (.invokevirtual 73, 3) := by decide +kernel
theorem dX10_wisest_12 : decode cX10_wisest 12 = .ok (.ireturn, 1) := by decide +kernel
theorem dX10_wisest_13 : decode cX10_wisest 13 = .ok (.bipush (-2), 2) := by decide +kernel
theorem dX10_wisest_15 : decode cX10_wisest 15 = .ok (.istore_n 1, 1) := by decide +kernel
theorem dX10_wisest_16 : decode cX10_wisest 16 = .ok (.iconst (-1), 1) := by decide +kernel
theorem dX10_wisest_17 : decode cX10_wisest 17 = .ok (.istore_n 2, 1) := by decide +kernel
theorem dX10_wisest_18 : decode cX10_wisest 18 = .ok (.iconst 0, 1) := by decide +kernel
theorem dX10_wisest_19 : decode cX10_wisest 19 = .ok (.istore_n 3, 1) := by decide +kernel
theorem dX10_wisest_20 : decode cX10_wisest 20 = .ok (.iload_n 3, 1) := by decide +kernel
theorem dX10_wisest_21 : decode cX10_wisest 21 = .ok (.aload_n 0, 1) := by decide +kernel
theorem dX10_wisest_22 : decode cX10_wisest 22 = .ok (.getfield 10, 3) := by decide +kernel
theorem dX10_wisest_25 : decode cX10_wisest 25 = .ok (.getfield 203, 3) := by decide +kernel
theorem dX10_wisest_28 : decode cX10_wisest 28 = .ok (.if_icmp .ge 33, 3) := by decide +kernel
theorem dX10_wisest_31 : decode cX10_wisest 31 = .ok (.aload_n 0, 1) := by decide +kernel
theorem dX10_wisest_32 : decode cX10_wisest 32 = .ok (.getfield 61, 3) := by decide +kernel
theorem dX10_wisest_35 : decode cX10_wisest 35 = .ok (.iload_n 3, 1) := by decide +kernel
theorem dX10_wisest_36 : decode cX10_wisest 36 = .ok (.invokevirtual 149, 3) := by decide +kernel
theorem dX10_wisest_39 : decode cX10_wisest 39 = .ok (.invokestatic 195, 3) := by decide +kernel
theorem dX10_wisest_42 : decode cX10_wisest 42 = .ok (.istore 4, 2) := by decide +kernel
theorem dX10_wisest_44 : decode cX10_wisest 44 = .ok (.iload 4, 2) := by decide +kernel
theorem dX10_wisest_46 : decode cX10_wisest 46 = .ok (.iload_n 2, 1) := by decide +kernel
theorem dX10_wisest_47 : decode cX10_wisest 47 = .ok (.if_icmp .le 8, 3) := by decide +kernel
theorem dX10_wisest_50 : decode cX10_wisest 50 = .ok (.iload_n 3, 1) := by decide +kernel
theorem dX10_wisest_51 : decode cX10_wisest 51 = .ok (.istore_n 1, 1) := by decide +kernel
theorem dX10_wisest_52 : decode cX10_wisest 52 = .ok (.iload 4, 2) := by decide +kernel
theorem dX10_wisest_54 : decode cX10_wisest 54 = .ok (.istore_n 2, 1) := by decide +kernel
theorem dX10_wisest_55 : decode cX10_wisest 55 = .ok (.iinc 3 1, 3) := by decide +kernel
theorem dX10_wisest_58 : decode cX10_wisest 58 = .ok (.goto (-38), 3) := by decide +kernel
theorem dX10_wisest_61 : decode cX10_wisest 61 = .ok (.aload_n 0, 1) := by decide +kernel
theorem dX10_wisest_62 : decode cX10_wisest 62 = .ok (.iload_n 1, 1) := by decide +kernel
theorem dX10_wisest_63 : decode cX10_wisest 63 = .ok (.invokevirtual 109, 3) := by decide +kernel
theorem dX10_wisest_66 : decode cX10_wisest 66 = .ok (.ireturn, 1) := by decide +kernel
theorem dX10_soonest_0 : decode cX10_soonest 0 = .ok (.aload_n 0, 1) := by decide +kernel
theorem dX10_soonest_1 : decode cX10_soonest 1 = .ok (.getfield 85, 3) := by decide +kernel
theorem dX10_soonest_4 : decode cX10_soonest 4 = .ok (.ifCond .eq 24, 3) := by decide +kernel
theorem dX10_soonest_7 : decode cX10_soonest 7 = .ok (.aload_n 0, 1) := by decide +kernel
theorem dX10_soonest_8 : decode cX10_soonest 8 = .ok (.aload_n 0, 1) := by decide +kernel
theorem dX10_soonest_9 : decode cX10_soonest 9 = .ok (.getfield 33, 3) := by decide +kernel
theorem dX10_soonest_12 : decode cX10_soonest 12 = .ok (.aload_n 0, 1) := by decide +kernel
theorem dX10_soonest_13 : decode cX10_soonest 13 = .ok (.getfield 61, 3) := by decide +kernel
theorem dX10_soonest_16 : decode cX10_soonest 16 = .ok (.getfield 158, 3) := by decide +kernel
theorem dX10_soonest_19 : decode cX10_soonest 19 = .ok (.invokevirtual 215, 3) := by decide +kernel
theorem dX10_soonest_22 : decode cX10_soonest 22 = .ok (.invokevirtual 109, 3) := by decide +kernel
theorem dX10_soonest_25 : decode cX10_soonest 25 = .ok (.goto 8, 3) := by decide +kernel
theorem dX10_soonest_28 : decode cX10_soonest 28 = .ok (.aload_n 0, 1) := by decide +kernel
theorem dX10_soonest_29 : decode cX10_soonest 29 = .ok (.iconst 1, 1) := by decide +kernel
theorem dX10_soonest_30 : decode cX10_soonest 30 = .ok (.invokevirtual 73, 3) := by decide +kernel
theorem dX10_soonest_33 : decode cX10_soonest 33 = .ok (.ireturn, 1) := by decide +kernel
theorem dX4_fewestRounds_0 : decode cX4_fewestRounds 0 = .ok (.aload_n 0, 1) := by decide +kernel
theorem dX4_fewestRounds_1 : decode cX4_fewestRounds 1 = .ok (.lload_n 1, 1) := by decide +kernel
theorem dX4_fewestRounds_2 : decode cX4_fewestRounds 2 = .ok (.invokestatic 40, 3) := by decide +kernel
theorem dX4_fewestRounds_5 : decode cX4_fewestRounds 5 = .ok (.putfield 44, 3) := by decide +kernel
theorem dX4_fewestRounds_8 : decode cX4_fewestRounds 8 = .ok (.iconst 0, 1) := by decide +kernel
theorem dX4_fewestRounds_9 : decode cX4_fewestRounds 9 = .ok (.istore_n 3, 1) := by decide +kernel
theorem dX4_fewestRounds_10 : decode cX4_fewestRounds 10 = .ok (.iload_n 3, 1) := by decide +kernel
theorem dX4_fewestRounds_11 : decode cX4_fewestRounds 11 = .ok (.iconst 3, 1) := by decide +kernel
theorem dX4_fewestRounds_12 : decode cX4_fewestRounds 12 = .ok (.if_icmp .gt 21, 3) := by decide +kernel
theorem dX4_fewestRounds_15 : decode cX4_fewestRounds 15 = .ok (.aload_n 0, 1) := by decide +kernel
theorem dX4_fewestRounds_16 : decode cX4_fewestRounds 16 = .ok (.lload_n 1, 1) := by decide +kernel
theorem dX4_fewestRounds_17 : decode cX4_fewestRounds 17 = .ok (.iconst 0, 1) := by decide +kernel
theorem dX4_fewestRounds_18 : decode cX4_fewestRounds 18 = .ok (.iload_n 3, 1) := by decide +kernel
theorem dX4_fewestRounds_19 : decode cX4_fewestRounds 19 = .ok (.invokevirtual 47, 3) := by decide +kernel
theorem dX4_fewestRounds_22 : decode cX4_fewestRounds 22 = .ok (.ifCond .eq 5, 3) := by decide +kernel
theorem dX4_fewestRounds_25 : decode cX4_fewestRounds 25 = .ok (.iload_n 3, 1) := by decide +kernel
theorem dX4_fewestRounds_26 : decode cX4_fewestRounds 26 = .ok (.ireturn, 1) := by decide +kernel
theorem dX4_fewestRounds_27 : decode cX4_fewestRounds 27 = .ok (.iinc 3 1, 3) := by decide +kernel
theorem dX4_fewestRounds_30 : decode cX4_fewestRounds 30 = .ok (.goto (-20), 3) := by decide +kernel
theorem dX4_fewestRounds_33 : decode cX4_fewestRounds 33 = .ok (.bipush (-2), 2) := by decide +kernel
theorem dX4_fewestRounds_35 : decode cX4_fewestRounds 35 = .ok (.ireturn, 1) := by decide +kernel
theorem dX4_leadsOn_0 : decode cX4_leadsOn 0 = .ok (.iload_n 3, 1) := by decide +kernel
theorem dX4_leadsOn_1 : decode cX4_leadsOn 1 = .ok (.iload 4, 2) := by decide +kernel
theorem dX4_leadsOn_3 : decode cX4_leadsOn 3 = .ok (.if_icmp .lt 21, 3) := by decide +kernel
theorem dX4_leadsOn_6 : decode cX4_leadsOn 6 = .ok (.aload_n 0, 1) := by decide +kernel
theorem dX4_leadsOn_7 : decode cX4_leadsOn 7 = .ok (.lload_n 1, 1) := by decide +kernel
theorem dX4_leadsOn_8 : decode cX4_leadsOn 8 = .ok (.invokevirtual 51, 3) := by decide +kernel
theorem dX4_leadsOn_11 : decode cX4_leadsOn 11 = .ok (.aload_n 0, 1) := by decide +kernel
theorem dX4_leadsOn_12 : decode cX4_leadsOn 12 = .ok (.getfield 24, 3) := by decide +kernel
theorem dX4_leadsOn_15 : decode cX4_leadsOn 15 = .ok (.if_icmp .ne 7, 3) := by decide +kernel
theorem dX4_leadsOn_18 : decode cX4_leadsOn 18 = .ok (.iconst 1, 1) := by decide +kernel
theorem dX4_leadsOn_19 : decode cX4_leadsOn 19 = .ok (.goto 4, 3) := by decide +kernel
theorem dX4_leadsOn_22 : decode cX4_leadsOn 22 = .ok (.iconst 0, 1) := by decide +kernel
theorem dX4_leadsOn_23 : decode cX4_leadsOn 23 = .ok (.ireturn, 1) := by decide +kernel
theorem dX4_leadsOn_24 : decode cX4_leadsOn 24 = .ok (.iload_n 3, 1) := by decide +kernel
theorem dX4_leadsOn_25 : decode cX4_leadsOn 25 = .ok (.iconst 1, 1) := by decide +kernel
theorem dX4_leadsOn_26 : decode cX4_leadsOn 26 = .ok (.iadd, 1) := by decide +kernel
theorem dX4_leadsOn_27 : decode cX4_leadsOn 27 = .ok (.iload 4, 2) := by decide +kernel
theorem dX4_leadsOn_29 : decode cX4_leadsOn 29 = .ok (.if_icmp .ne 13, 3) := by decide +kernel
theorem dX4_leadsOn_32 : decode cX4_leadsOn 32 = .ok (.aload_n 0, 1) := by decide +kernel
theorem dX4_leadsOn_33 : decode cX4_leadsOn 33 = .ok (.lload_n 1, 1) := by decide +kernel
theorem dX4_leadsOn_34 : decode cX4_leadsOn 34 = .ok (.invokevirtual 54, 3) := by decide +kernel
theorem dX4_leadsOn_37 : decode cX4_leadsOn 37 = .ok (.ifCond .eq 5, 3) := by decide +kernel
theorem dX4_leadsOn_40 : decode cX4_leadsOn 40 = .ok (.iconst 0, 1) := by decide +kernel
theorem dX4_leadsOn_41 : decode cX4_leadsOn 41 = .ok (.ireturn, 1) := by decide +kernel
theorem dX4_leadsOn_42 : decode cX4_leadsOn 42 = .ok (.iconst 0, 1) := by decide +kernel
theorem dX4_leadsOn_43 : decode cX4_leadsOn 43 = .ok (.istore 5, 2) := by decide +kernel
theorem dX4_leadsOn_45 : decode cX4_leadsOn 45 = .ok (.iload 5, 2) := by decide +kernel
theorem dX4_leadsOn_47 : decode cX4_leadsOn 47 = .ok (.aload_n 0, 1) := by decide +kernel
theorem dX4_leadsOn_48 : decode cX4_leadsOn 48 = .ok (.getfield 29, 3) := by decide +kernel
theorem dX4_leadsOn_51 : decode cX4_leadsOn 51 = .ok (.if_icmp .ge 38, 3) := by decide +kernel
theorem dX4_leadsOn_54 : decode cX4_leadsOn 54 = .ok (.aload_n 0, 1) := by decide +kernel
theorem dX4_leadsOn_55 : decode cX4_leadsOn 55 = .ok (.getfield 15, 3) := by decide +kernel
theorem dX4_leadsOn_58 : decode cX4_leadsOn 58 = .ok (.iload_n 3, 1) := by decide +kernel
theorem dX4_leadsOn_59 : decode cX4_leadsOn 59 = .ok (.iload 5, 2) := by decide +kernel
theorem dX4_leadsOn_61 : decode cX4_leadsOn 61 = .ok (.iastore, 1) := by decide +kernel
theorem dX4_leadsOn_62 : decode cX4_leadsOn 62 = .ok (.aload_n 0, 1) := by decide +kernel
theorem dX4_leadsOn_63 : decode cX4_leadsOn 63 = .ok (.aload_n 0, 1) := by decide +kernel
theorem dX4_leadsOn_64 : decode cX4_leadsOn 64 = .ok (.lload_n 1, 1) := by decide +kernel
theorem dX4_leadsOn_65 : decode cX4_leadsOn 65 = .ok (.iload 5, 2) := by decide +kernel
theorem dX4_leadsOn_67 : decode cX4_leadsOn 67 = .ok (.invokevirtual 58, 3) := by decide +kernel
theorem dX4_leadsOn_70 : decode cX4_leadsOn 70 = .ok (.iload_n 3, 1) := by decide +kernel
theorem dX4_leadsOn_71 : decode cX4_leadsOn 71 = .ok (.iconst 1, 1) := by decide +kernel
theorem dX4_leadsOn_72 : decode cX4_leadsOn 72 = .ok (.iadd, 1) := by decide +kernel
theorem dX4_leadsOn_73 : decode cX4_leadsOn 73 = .ok (.iload 4, 2) := by decide +kernel
theorem dX4_leadsOn_75 : decode cX4_leadsOn 75 = .ok (.invokevirtual 47, 3) := by decide +kernel
theorem dX4_leadsOn_78 : decode cX4_leadsOn 78 = .ok (.ifCond .eq 5, 3) := by decide +kernel
theorem dX4_leadsOn_81 : decode cX4_leadsOn 81 = .ok (.iconst 1, 1) := by decide +kernel
theorem dX4_leadsOn_82 : decode cX4_leadsOn 82 = .ok (.ireturn, 1) := by decide +kernel
theorem dX4_leadsOn_83 : decode cX4_leadsOn 83 = .ok (.iinc 5 1, 3) := by decide +kernel
theorem dX4_leadsOn_86 : decode cX4_leadsOn 86 = .ok (.goto (-41), 3) := by decide +kernel
theorem dX4_leadsOn_89 : decode cX4_leadsOn 89 = .ok (.iconst 0, 1) := by decide +kernel
theorem dX4_leadsOn_90 : decode cX4_leadsOn 90 = .ok (.ireturn, 1) := by decide +kernel
theorem dX4_behindRound_0 : decode cX4_behindRound 0 = .ok (.lload_n 1, 1) := by decide +kernel
theorem dX4_behindRound_1 : decode cX4_behindRound 1 = .ok (.lstore 4, 2) := by decide +kernel
theorem dX4_behindRound_3 : decode cX4_behindRound 3 = .ok (.iconst 0, 1) := by decide +kernel
theorem dX4_behindRound_4 : decode cX4_behindRound 4 = .ok (.istore 6, 2) := by decide +kernel
theorem dX4_behindRound_6 : decode cX4_behindRound 6 = .ok (.iload 6, 2) := by decide +kernel
theorem dX4_behindRound_8 : decode cX4_behindRound 8 = .ok (.aload_n 0, 1) := by decide +kernel
theorem dX4_behindRound_9 : decode cX4_behindRound 9 = .ok (.getfield 24, 3) := by decide +kernel
theorem dX4_behindRound_12 : decode cX4_behindRound 12 = .ok (.if_icmp .ge 52, 3) := by decide +kernel
theorem dX4_behindRound_15 : decode cX4_behindRound 15 = .ok (.aload_n 0, 1) := by decide +kernel
theorem dX4_behindRound_16 : decode cX4_behindRound 16 = .ok (.iload_n 3, 1) := by decide +kernel
theorem dX4_behindRound_17 : decode cX4_behindRound 17 = .ok (.iload 6, 2) := by decide +kernel
theorem dX4_behindRound_19 : decode cX4_behindRound 19 = .ok (.invokevirtual 36, 3) := by decide +kernel
theorem dX4_behindRound_22 : decode cX4_behindRound 22 = .ok (.istore 7, 2) := by decide +kernel
theorem dX4_behindRound_24 : decode cX4_behindRound 24 = .ok (.iload 7, 2) := by decide +kernel
theorem dX4_behindRound_26 : decode cX4_behindRound 26 = .ok (.bipush 15, 2) := by decide +kernel
theorem dX4_behindRound_28 : decode cX4_behindRound 28 = .ok (.if_icmp .eq 30, 3) := by decide +kernel
theorem dX4_behindRound_31 : decode cX4_behindRound 31 = .ok (.aload_n 0, 1) := by decide +kernel
theorem dX4_behindRound_32 : decode cX4_behindRound 32 = .ok (.getfield 28, 3) := by decide +kernel
theorem dX4_behindRound_35 : decode cX4_behindRound 35 = .ok (.iload 7, 2) := by decide +kernel
theorem dX4_behindRound_37 : decode cX4_behindRound 37 = .ok (.ishr, 1) := by decide +kernel
theorem dX4_behindRound_38 : decode cX4_behindRound 38 = .ok (.iconst 1, 1) := by decide +kernel
theorem dX4_behindRound_39 : decode cX4_behindRound 39 = .ok (.iand, 1) := by decide +kernel
theorem dX4_behindRound_40 : decode cX4_behindRound 40 = .ok (.ifCond .ne 18, 3) := by decide +kernel
theorem dX4_behindRound_43 : decode cX4_behindRound 43 = .ok (.lload 4, 2) := by decide +kernel
theorem dX4_behindRound_45 : decode cX4_behindRound 45 = .ok (.iload 6, 2) := by decide +kernel
theorem dX4_behindRound_47 : decode cX4_behindRound 47 = .ok (.lload_n 1, 1) := by decide +kernel
theorem dX4_behindRound_48 : decode cX4_behindRound 48 = .ok (.iload 7, 2) := by decide +kernel
theorem dX4_behindRound_50 : decode cX4_behindRound 50 = .ok (.invokestatic 62, 3) := by decide +kernel
theorem dX4_behindRound_53 : decode cX4_behindRound 53 = .ok (.invokestatic 66, 3) := by decide +kernel
theorem dX4_behindRound_56 : decode cX4_behindRound 56 = .ok (.lstore 4, 2) := by decide +kernel
theorem dX4_behindRound_58 : decode cX4_behindRound 58 = .ok (.iinc 6 1, 3) := by decide +kernel
theorem dX4_behindRound_61 : decode cX4_behindRound 61 = .ok (.goto (-55), 3) := by decide +kernel
theorem dX4_behindRound_64 : decode cX4_behindRound 64 = .ok (.lload 4, 2) := by decide +kernel
theorem dX4_behindRound_66 : decode cX4_behindRound 66 = .ok (.lreturn, 1) := by decide +kernel
theorem dX4_partnerBy_0 : decode cX4_partnerBy 0 = .ok (.aload_n 0, 1) := by decide +kernel
theorem dX4_partnerBy_1 : decode cX4_partnerBy 1 = .ok (.getfield 11, 3) := by decide +kernel
theorem dX4_partnerBy_4 : decode cX4_partnerBy 4 = .ok (.iload_n 1, 1) := by decide +kernel
theorem dX4_partnerBy_5 : decode cX4_partnerBy 5 = .ok (.iaload, 1) := by decide +kernel
theorem dX4_partnerBy_6 : decode cX4_partnerBy 6 = .ok (.iconst 4, 1) := by decide +kernel
theorem dX4_partnerBy_7 : decode cX4_partnerBy 7 = .ok (.iload_n 2, 1) := by decide +kernel
theorem dX4_partnerBy_8 : decode cX4_partnerBy 8 = .ok (.imul, 1) := by decide +kernel
theorem dX4_partnerBy_9 : decode cX4_partnerBy 9 = .ok (.ishr, 1) := by decide +kernel
theorem dX4_partnerBy_10 : decode cX4_partnerBy 10 = .ok (.bipush 15, 2) := by decide +kernel
theorem dX4_partnerBy_12 : decode cX4_partnerBy 12 = .ok (.iand, 1) := by decide +kernel
theorem dX4_partnerBy_13 : decode cX4_partnerBy 13 = .ok (.ireturn, 1) := by decide +kernel
theorem dX4_isTooFar_0 : decode cX4_isTooFar 0 = .ok (.iconst 0, 1) := by decide +kernel
theorem dX4_isTooFar_1 : decode cX4_isTooFar 1 = .ok (.istore_n 3, 1) := by decide +kernel
theorem dX4_isTooFar_2 : decode cX4_isTooFar 2 = .ok (.iload_n 3, 1) := by decide +kernel
theorem dX4_isTooFar_3 : decode cX4_isTooFar 3 = .ok (.aload_n 0, 1) := by decide +kernel
theorem dX4_isTooFar_4 : decode cX4_isTooFar 4 = .ok (.getfield 24, 3) := by decide +kernel
theorem dX4_isTooFar_7 : decode cX4_isTooFar 7 = .ok (.if_icmp .ge 96, 3) := by decide +kernel
theorem dX4_isTooFar_10 : decode cX4_isTooFar 10 = .ok (.lload_n 1, 1) := by decide +kernel
theorem dX4_isTooFar_11 : decode cX4_isTooFar 11 = .ok (.iload_n 3, 1) := by decide +kernel
theorem dX4_isTooFar_12 : decode cX4_isTooFar 12 = .ok (.invokestatic 62, 3) := by decide +kernel
theorem dX4_isTooFar_15 : decode cX4_isTooFar 15 = .ok (.aload_n 0, 1) := by decide +kernel
theorem dX4_isTooFar_16 : decode cX4_isTooFar 16 = .ok (.getfield 44, 3) := by decide +kernel
theorem dX4_isTooFar_19 : decode cX4_isTooFar 19 = .ok (.if_icmp .ne 7, 3) := by decide +kernel
theorem dX4_isTooFar_22 : decode cX4_isTooFar 22 = .ok (.iconst 1, 1) := by decide +kernel
theorem dX4_isTooFar_23 : decode cX4_isTooFar 23 = .ok (.goto 4, 3) := by decide +kernel
theorem dX4_isTooFar_26 : decode cX4_isTooFar 26 = .ok (.iconst 0, 1) := by decide +kernel
theorem dX4_isTooFar_27 : decode cX4_isTooFar 27 = .ok (.istore 4, 2) := by decide +kernel
theorem dX4_isTooFar_29 : decode cX4_isTooFar 29 = .ok (.iconst 0, 1) := by decide +kernel
theorem dX4_isTooFar_30 : decode cX4_isTooFar 30 = .ok (.istore 5, 2) := by decide +kernel
theorem dX4_isTooFar_32 : decode cX4_isTooFar 32 = .ok (.iload 5, 2) := by decide +kernel
theorem dX4_isTooFar_34 : decode cX4_isTooFar 34 = .ok (.aload_n 0, 1) := by decide +kernel
theorem dX4_isTooFar_35 : decode cX4_isTooFar 35 = .ok (.getfield 24, 3) := by decide +kernel
theorem dX4_isTooFar_38 : decode cX4_isTooFar 38 = .ok (.if_icmp .ge 52, 3) := by decide +kernel
theorem dX4_isTooFar_41 : decode cX4_isTooFar 41 = .ok (.iload 4, 2) := by decide +kernel
theorem dX4_isTooFar_43 : decode cX4_isTooFar 43 = .ok (.ifCond .ne 47, 3) := by decide +kernel
theorem dX4_isTooFar_46 : decode cX4_isTooFar 46 = .ok (.aload_n 0, 1) := by decide +kernel
theorem dX4_isTooFar_47 : decode cX4_isTooFar 47 = .ok (.getfield 28, 3) := by decide +kernel
theorem dX4_isTooFar_50 : decode cX4_isTooFar 50 = .ok (.iload 5, 2) := by decide +kernel
theorem dX4_isTooFar_52 : decode cX4_isTooFar 52 = .ok (.ishr, 1) := by decide +kernel
theorem dX4_isTooFar_53 : decode cX4_isTooFar 53 = .ok (.iconst 1, 1) := by decide +kernel
theorem dX4_isTooFar_54 : decode cX4_isTooFar 54 = .ok (.iand, 1) := by decide +kernel
theorem dX4_isTooFar_55 : decode cX4_isTooFar 55 = .ok (.ifCond .ne 26, 3) := by decide +kernel
theorem dX4_isTooFar_58 : decode cX4_isTooFar 58 = .ok (.lload_n 1, 1) := by decide +kernel
theorem dX4_isTooFar_59 : decode cX4_isTooFar 59 = .ok (.iload_n 3, 1) := by decide +kernel
theorem dX4_isTooFar_60 : decode cX4_isTooFar 60 = .ok (.invokestatic 62, 3) := by decide +kernel
theorem dX4_isTooFar_63 : decode cX4_isTooFar 63 = .ok (.lload_n 1, 1) := by decide +kernel
theorem dX4_isTooFar_64 : decode cX4_isTooFar 64 = .ok (.iload 5, 2) := by decide +kernel
theorem dX4_isTooFar_66 : decode cX4_isTooFar 66 = .ok (.invokestatic 62, 3) := by decide +kernel
theorem dX4_isTooFar_69 : decode cX4_isTooFar 69 = .ok (.ior, 1) := by decide +kernel
theorem dX4_isTooFar_70 : decode cX4_isTooFar 70 = .ok (.aload_n 0, 1) := by decide +kernel
theorem dX4_isTooFar_71 : decode cX4_isTooFar 71 = .ok (.getfield 44, 3) := by decide +kernel
theorem dX4_isTooFar_74 : decode cX4_isTooFar 74 = .ok (.if_icmp .ne 7, 3) := by decide +kernel
theorem dX4_isTooFar_77 : decode cX4_isTooFar 77 = .ok (.iconst 1, 1) := by decide +kernel
theorem dX4_isTooFar_78 : decode cX4_isTooFar 78 = .ok (.goto 4, 3) := by decide +kernel
theorem dX4_isTooFar_81 : decode cX4_isTooFar 81 = .ok (.iconst 0, 1) := by decide +kernel
theorem dX4_isTooFar_82 : decode cX4_isTooFar 82 = .ok (.istore 4, 2) := by decide +kernel
theorem dX4_isTooFar_84 : decode cX4_isTooFar 84 = .ok (.iinc 5 1, 3) := by decide +kernel
theorem dX4_isTooFar_87 : decode cX4_isTooFar 87 = .ok (.goto (-55), 3) := by decide +kernel
theorem dX4_isTooFar_90 : decode cX4_isTooFar 90 = .ok (.iload 4, 2) := by decide +kernel
theorem dX4_isTooFar_92 : decode cX4_isTooFar 92 = .ok (.ifCond .ne 5, 3) := by decide +kernel
theorem dX4_isTooFar_95 : decode cX4_isTooFar 95 = .ok (.iconst 1, 1) := by decide +kernel
theorem dX4_isTooFar_96 : decode cX4_isTooFar 96 = .ok (.ireturn, 1) := by decide +kernel
theorem dX4_isTooFar_97 : decode cX4_isTooFar 97 = .ok (.iinc 3 1, 3) := by decide +kernel
theorem dX4_isTooFar_100 : decode cX4_isTooFar 100 = .ok (.goto (-98), 3) := by decide +kernel
theorem dX4_isTooFar_103 : decode cX4_isTooFar 103 = .ok (.iconst 0, 1) := by decide +kernel
theorem dX4_isTooFar_104 : decode cX4_isTooFar 104 = .ok (.ireturn, 1) := by decide +kernel
theorem dX4_countAllKnowing_0 : decode cX4_countAllKnowing 0 = .ok (.iconst 0, 1) := by decide +kernel
theorem dX4_countAllKnowing_1 : decode cX4_countAllKnowing 1 = .ok (.istore_n 3, 1) := by decide +kernel
theorem dX4_countAllKnowing_2 : decode cX4_countAllKnowing 2 = .ok (.iconst 0, 1) := by decide +kernel
theorem dX4_countAllKnowing_3 : decode cX4_countAllKnowing 3 = .ok (.istore 4, 2) := by decide +kernel
theorem dX4_countAllKnowing_5 : decode cX4_countAllKnowing 5 = .ok (.iload 4, 2) := by decide +kernel
theorem dX4_countAllKnowing_7 : decode cX4_countAllKnowing 7 = .ok (.aload_n 0, 1) := by decide +kernel
theorem dX4_countAllKnowing_8 : decode cX4_countAllKnowing 8 = .ok (.getfield 24, 3) := by decide +kernel
theorem dX4_countAllKnowing_11 : decode cX4_countAllKnowing 11 = .ok (.if_icmp .ge 25, 3) := by decide +kernel
theorem dX4_countAllKnowing_14 : decode cX4_countAllKnowing 14 = .ok (.lload_n 1, 1) := by decide +kernel
theorem dX4_countAllKnowing_15 : decode cX4_countAllKnowing 15 = .ok (.iload 4, 2) := by decide +kernel
theorem dX4_countAllKnowing_17 : decode cX4_countAllKnowing 17 = .ok (.invokestatic 62, 3) := by decide +kernel
theorem dX4_countAllKnowing_20 : decode cX4_countAllKnowing 20 = .ok (.aload_n 0, 1) := by decide +kernel
theorem dX4_countAllKnowing_21 : decode cX4_countAllKnowing 21 = .ok (.getfield 44, 3) := by decide +kernel
theorem dX4_countAllKnowing_24 : decode cX4_countAllKnowing 24 = .ok (.if_icmp .ne 6, 3) := by decide +kernel
theorem dX4_countAllKnowing_27 : decode cX4_countAllKnowing 27 = .ok (.iinc 3 1, 3) := by decide +kernel
theorem dX4_countAllKnowing_30 : decode cX4_countAllKnowing 30 = .ok (.iinc 4 1, 3) := by decide +kernel
theorem dX4_countAllKnowing_33 : decode cX4_countAllKnowing 33 = .ok (.goto (-28), 3) := by decide +kernel
theorem dX4_countAllKnowing_36 : decode cX4_countAllKnowing 36 = .ok (.iload_n 3, 1) := by decide +kernel
theorem dX4_countAllKnowing_37 : decode cX4_countAllKnowing 37 = .ok (.ireturn, 1) := by decide +kernel
theorem dX10_meets_0 : decode cX10_meets 0 = .ok (.aload_n 0, 1) := by decide +kernel
theorem dX10_meets_1 : decode cX10_meets 1 = .ok (.iload_n 2, 1) := by decide +kernel
theorem dX10_meets_2 : decode cX10_meets 2 = .ok (.invokevirtual 137, 3) := by decide +kernel
theorem dX10_meets_5 : decode cX10_meets 5 = .ok (.ifCond .ne 25, 3) := by decide +kernel
theorem dX10_meets_8 : decode cX10_meets 8 = .ok (.iload_n 1, 1) := by decide +kernel
theorem dX10_meets_9 : decode cX10_meets 9 = .ok (.ifCond .lt 21, 3) := by decide +kernel
theorem dX10_meets_12 : decode cX10_meets 12 = .ok (.iload_n 1, 1) := by decide +kernel
theorem dX10_meets_13 : decode cX10_meets 13 = .ok (.aload_n 0, 1) := by decide +kernel
theorem dX10_meets_14 : decode cX10_meets 14 = .ok (.getfield 33, 3) := by decide +kernel
theorem dX10_meets_17 : decode cX10_meets 17 = .ok (.aload_n 0, 1) := by decide +kernel
theorem dX10_meets_18 : decode cX10_meets 18 = .ok (.getfield 61, 3) := by decide +kernel
theorem dX10_meets_21 : decode cX10_meets 21 = .ok (.getfield 158, 3) := by decide +kernel
theorem dX10_meets_24 : decode cX10_meets 24 = .ok (.invokevirtual 215, 3) := by decide +kernel
theorem dX10_meets_27 : decode cX10_meets 27 = .ok (.if_icmp .lt 9, 3) := by decide +kernel
theorem dX10_meets_30 : decode cX10_meets 30 = .ok (.aload_n 0, 1) := by decide +kernel
theorem dX10_meets_31 : decode cX10_meets 31 = .ok (.iconst 1, 1) := by decide +kernel
theorem dX10_meets_32 : decode cX10_meets 32 = .ok (.invokevirtual 73, 3) := by decide +kernel
theorem dX10_meets_35 : decode cX10_meets 35 = .ok (.ireturn, 1) := by decide +kernel
theorem dX10_meets_36 : decode cX10_meets 36 = .ok (.aload_n 0, 1) := by decide +kernel
theorem dX10_meets_37 : decode cX10_meets 37 = .ok (.aload_n 0, 1) := by decide +kernel
theorem dX10_meets_38 : decode cX10_meets 38 = .ok (.getfield 33, 3) := by decide +kernel
theorem dX10_meets_41 : decode cX10_meets 41 = .ok (.iload_n 1, 1) := by decide +kernel
theorem dX10_meets_42 : decode cX10_meets 42 = .ok (.iload_n 2, 1) := by decide +kernel
theorem dX10_meets_43 : decode cX10_meets 43 = .ok (.invokevirtual 218, 3) := by decide +kernel
theorem dX10_meets_46 : decode cX10_meets 46 = .ok (.invokevirtual 109, 3) := by decide +kernel
theorem dX10_meets_49 : decode cX10_meets 49 = .ok (.ireturn, 1) := by decide +kernel
theorem dX4_partnerOnWay_0 : decode cX4_partnerOnWay 0 = .ok (.aload_n 0, 1) := by decide +kernel
theorem dX4_partnerOnWay_1 : decode cX4_partnerOnWay 1 = .ok (.aload_n 0, 1) := by decide +kernel
theorem dX4_partnerOnWay_2 : decode cX4_partnerOnWay 2 = .ok (.getfield 15, 3) := by decide +kernel
theorem dX4_partnerOnWay_5 : decode cX4_partnerOnWay 5 = .ok (.iload_n 1, 1) := by decide +kernel
theorem dX4_partnerOnWay_6 : decode cX4_partnerOnWay 6 = .ok (.iaload, 1) := by decide +kernel
theorem dX4_partnerOnWay_7 : decode cX4_partnerOnWay 7 = .ok (.iload_n 2, 1) := by decide +kernel
theorem dX4_partnerOnWay_8 : decode cX4_partnerOnWay 8 = .ok (.invokevirtual 36, 3) := by decide +kernel
theorem dX4_partnerOnWay_11 : decode cX4_partnerOnWay 11 = .ok (.istore_n 3, 1) := by decide +kernel
theorem dX4_partnerOnWay_12 : decode cX4_partnerOnWay 12 = .ok (.iload_n 3, 1) := by decide +kernel
theorem dX4_partnerOnWay_13 : decode cX4_partnerOnWay 13 = .ok (.bipush 15, 2) := by decide +kernel
theorem dX4_partnerOnWay_15 : decode cX4_partnerOnWay 15 = .ok (.if_icmp .ne 8, 3) := by decide +kernel
theorem dX4_partnerOnWay_18 : decode cX4_partnerOnWay 18 = .ok (.bipush (-2), 2) := by decide +kernel
theorem dX4_partnerOnWay_20 : decode cX4_partnerOnWay 20 = .ok (.goto 4, 3) := by decide +kernel
theorem dX4_partnerOnWay_23 : decode cX4_partnerOnWay 23 = .ok (.iload_n 3, 1) := by decide +kernel
theorem dX4_partnerOnWay_24 : decode cX4_partnerOnWay 24 = .ok (.ireturn, 1) := by decide +kernel
theorem dX10_mostBehind_0 : decode cX10_mostBehind 0 = .ok (.aload_n 0, 1) := by decide +kernel
theorem dX10_mostBehind_1 : decode cX10_mostBehind 1 = .ok (.getfield 85, 3) := by decide +kernel
theorem dX10_mostBehind_4 : decode cX10_mostBehind 4 = .ok (.ifCond .ne 9, 3) := by decide +kernel
theorem dX10_mostBehind_7 : decode cX10_mostBehind 7 = .ok (.aload_n 0, 1) := by decide +kernel
theorem dX10_mostBehind_8 : decode cX10_mostBehind 8 = .ok (.iconst 1, 1) := by decide +kernel
theorem dX10_mostBehind_9 : decode cX10_mostBehind 9 = .ok (.invokevirtual 73, 3) := by decide +kernel
theorem dX10_mostBehind_12 : decode cX10_mostBehind 12 = .ok (.ireturn, 1) := by decide +kernel
theorem dX10_mostBehind_13 : decode cX10_mostBehind 13 = .ok (.iload_n 1, 1) := by decide +kernel
theorem dX10_mostBehind_14 : decode cX10_mostBehind 14 = .ok (.ifCond .lt 8, 3) := by decide +kernel
theorem dX10_mostBehind_17 : decode cX10_mostBehind 17 = .ok (.iload_n 1, 1) := by decide +kernel
theorem dX10_mostBehind_18 : decode cX10_mostBehind 18 = .ok (.iconst 3, 1) := by decide +kernel
theorem dX10_mostBehind_19 : decode cX10_mostBehind 19 = .ok (.if_icmp .lt 9, 3) := by decide +kernel
theorem dX10_mostBehind_22 : decode cX10_mostBehind 22 = .ok (.aload_n 0, 1) := by decide +kernel
theorem dX10_mostBehind_23 : decode cX10_mostBehind 23 = .ok (.iconst 2, 1) := by decide +kernel
theorem dX10_mostBehind_24 : decode cX10_mostBehind 24 = .ok (.invokevirtual 73, 3) := by decide +kernel
theorem dX10_mostBehind_27 : decode cX10_mostBehind 27 = .ok (.ireturn, 1) := by decide +kernel
theorem dX10_mostBehind_28 : decode cX10_mostBehind 28 = .ok (.aload_n 0, 1) := by decide +kernel
theorem dX10_mostBehind_29 : decode cX10_mostBehind 29 = .ok (.aload_n 0, 1) := by decide +kernel
theorem dX10_mostBehind_30 : decode cX10_mostBehind 30 = .ok (.getfield 33, 3) := by decide +kernel
theorem dX10_mostBehind_33 : decode cX10_mostBehind 33 = .ok (.aload_n 0, 1) := by decide +kernel
theorem dX10_mostBehind_34 : decode cX10_mostBehind 34 = .ok (.getfield 61, 3) := by decide +kernel
theorem dX10_mostBehind_37 : decode cX10_mostBehind 37 = .ok (.getfield 158, 3) := by decide +kernel
theorem dX10_mostBehind_40 : decode cX10_mostBehind 40 = .ok (.iload_n 1, 1) := by decide +kernel
theorem dX10_mostBehind_41 : decode cX10_mostBehind 41 = .ok (.invokevirtual 221, 3) := by decide +kernel
theorem dX10_mostBehind_44 : decode cX10_mostBehind 44 = .ok (.invokevirtual 109, 3) := by decide +kernel
theorem dX10_mostBehind_47 : decode cX10_mostBehind 47 = .ok (.ireturn, 1) := by decide +kernel
theorem dX4_mostThatKnowAll_0 : decode cX4_mostThatKnowAll 0 = .ok (.aload_n 0, 1) := by decide +kernel
theorem dX4_mostThatKnowAll_1 : decode cX4_mostThatKnowAll 1 = .ok (.lload_n 1, 1) := by decide +kernel
theorem dX4_mostThatKnowAll_2 : decode cX4_mostThatKnowAll 2 = .ok (.invokestatic 40, 3) := by decide +kernel
theorem dX4_mostThatKnowAll_5 : decode cX4_mostThatKnowAll 5 = .ok (.putfield 44, 3) := by decide +kernel
theorem dX4_mostThatKnowAll_8 : decode cX4_mostThatKnowAll 8 = .ok (.aload_n 0, 1) := by decide +kernel
theorem dX4_mostThatKnowAll_9 : decode cX4_mostThatKnowAll 9 = .ok (.lload_n 1, 1) := by decide +kernel
theorem dX4_mostThatKnowAll_10 : decode cX4_mostThatKnowAll 10 = .ok (.iload_n 3, 1) := by decide +kernel
theorem dX4_mostThatKnowAll_11 : decode cX4_mostThatKnowAll 11 = .ok (.invokevirtual 70, 3) := by decide +kernel
theorem dX4_mostThatKnowAll_14 : decode cX4_mostThatKnowAll 14 = .ok (.ireturn, 1) := by decide +kernel
theorem dX4_mostFrom_0 : decode cX4_mostFrom 0 = .ok (.iload_n 3, 1) := by decide +kernel
theorem dX4_mostFrom_1 : decode cX4_mostFrom 1 = .ok (.ifCond .gt 9, 3) := by decide +kernel
theorem dX4_mostFrom_4 : decode cX4_mostFrom 4 = .ok (.aload_n 0, 1) := by decide +kernel
theorem dX4_mostFrom_5 : decode cX4_mostFrom 5 = .ok (.lload_n 1, 1) := by decide +kernel
theorem dX4_mostFrom_6 : decode cX4_mostFrom 6 = .ok (.invokevirtual 51, 3) := by decide +kernel
theorem dX4_mostFrom_9 : decode cX4_mostFrom 9 = .ok (.ireturn, 1) := by decide +kernel
theorem dX4_mostFrom_10 : decode cX4_mostFrom 10 = .ok (.iconst 0, 1) := by decide +kernel
theorem dX4_mostFrom_11 : decode cX4_mostFrom 11 = .ok (.istore 4, 2) := by decide +kernel
theorem dX4_mostFrom_13 : decode cX4_mostFrom 13 = .ok (.iconst 0, 1) := by decide +kernel
theorem dX4_mostFrom_14 : decode cX4_mostFrom 14 = .ok (.istore 5, 2) := by decide +kernel
theorem dX4_mostFrom_16 : decode cX4_mostFrom 16 = .ok (.iload 5, 2) := by decide +kernel
theorem dX4_mostFrom_18 : decode cX4_mostFrom 18 = .ok (.aload_n 0, 1) := by decide +kernel
theorem dX4_mostFrom_19 : decode cX4_mostFrom 19 = .ok (.getfield 29, 3) := by decide +kernel
theorem dX4_mostFrom_22 : decode cX4_mostFrom 22 = .ok (.if_icmp .ge 30, 3) := by decide +kernel
theorem dX4_mostFrom_25 : decode cX4_mostFrom 25 = .ok (.iload 4, 2) := by decide +kernel
theorem dX4_mostFrom_27 : decode cX4_mostFrom 27 = .ok (.aload_n 0, 1) := by decide +kernel
theorem dX4_mostFrom_28 : decode cX4_mostFrom 28 = .ok (.aload_n 0, 1) := by decide +kernel
theorem dX4_mostFrom_29 : decode cX4_mostFrom 29 = .ok (.lload_n 1, 1) := by decide +kernel
theorem dX4_mostFrom_30 : decode cX4_mostFrom 30 = .ok (.iload 5, 2) := by decide +kernel
theorem dX4_mostFrom_32 : decode cX4_mostFrom 32 = .ok (.invokevirtual 58, 3) := by decide +kernel
theorem dX4_mostFrom_35 : decode cX4_mostFrom 35 = .ok (.iload_n 3, 1) := by decide +kernel
theorem dX4_mostFrom_36 : decode cX4_mostFrom 36 = .ok (.iconst 1, 1) := by decide +kernel
theorem dX4_mostFrom_37 : decode cX4_mostFrom 37 = .ok (.isub, 1) := by decide +kernel
theorem dX4_mostFrom_38 : decode cX4_mostFrom 38 = .ok (.invokevirtual 70, 3) := by decide +kernel
theorem dX4_mostFrom_41 : decode cX4_mostFrom 41 = .ok (.invokestatic 73, 3) := by decide +kernel
theorem dX4_mostFrom_44 : decode cX4_mostFrom 44 = .ok (.istore 4, 2) := by decide +kernel
theorem dX4_mostFrom_46 : decode cX4_mostFrom 46 = .ok (.iinc 5 1, 3) := by decide +kernel
theorem dX4_mostFrom_49 : decode cX4_mostFrom 49 = .ok (.goto (-33), 3) := by decide +kernel
theorem dX4_mostFrom_52 : decode cX4_mostFrom 52 = .ok (.iload 4, 2) := by decide +kernel
theorem dX4_mostFrom_54 : decode cX4_mostFrom 54 = .ok (.ireturn, 1) := by decide +kernel
theorem dX10_walks_0 : decode cX10_walks 0 = .ok (.aload_n 0, 1) := by decide +kernel
theorem dX10_walks_1 : decode cX10_walks 1 = .ok (.getfield 85, 3) := by decide +kernel
theorem dX10_walks_4 : decode cX10_walks 4 = .ok (.ifCond .ne 9, 3) := by decide +kernel
theorem dX10_walks_7 : decode cX10_walks 7 = .ok (.aload_n 0, 1) := by decide +kernel
theorem dX10_walks_8 : decode cX10_walks 8 = .ok (.iconst 1, 1) := by decide +kernel
theorem dX10_walks_9 : decode cX10_walks 9 = .ok (.invokevirtual 73, 3) := by decide +kernel
theorem dX10_walks_12 : decode cX10_walks 12 = .ok (.ireturn, 1) := by decide +kernel
theorem dX10_walks_13 : decode cX10_walks 13 = .ok (.aload_n 0, 1) := by decide +kernel
theorem dX10_walks_14 : decode cX10_walks 14 = .ok (.getfield 10, 3) := by decide +kernel
theorem dX10_walks_17 : decode cX10_walks 17 = .ok (.getfield 203, 3) := by decide +kernel
theorem dX10_walks_20 : decode cX10_walks 20 = .ok (.ifCond .ne 12, 3) := by decide +kernel
theorem dX10_walks_23 : decode cX10_walks 23 = .ok (.aload_n 0, 1) := by decide +kernel
theorem dX10_walks_24 : decode cX10_walks 24 = .ok (.bipush 6, 2) := by decide +kernel
theorem dX10_walks_26 : decode cX10_walks 26 = .ok (.invokevirtual 73, 3) := by decide +kernel
theorem dX10_walks_29 : decode cX10_walks 29 = .ok (.goto 14, 3) := by decide +kernel
theorem dX10_walks_32 : decode cX10_walks 32 = .ok (.aload_n 0, 1) := by decide +kernel
theorem dX10_walks_33 : decode cX10_walks 33 = .ok (.aload_n 0, 1) := by decide +kernel
theorem dX10_walks_34 : decode cX10_walks 34 = .ok (.getfield 40, 3) := by decide +kernel
theorem dX10_walks_37 : decode cX10_walks 37 = .ok (.getfield 225, 3) := by decide +kernel
theorem dX10_walks_40 : decode cX10_walks 40 = .ok (.invokevirtual 109, 3) := by decide +kernel
theorem dX10_walks_43 : decode cX10_walks 43 = .ok (.ireturn, 1) := by decide +kernel
theorem dX10_visit_0 : decode cX10_visit 0 = .ok (.aload_n 0, 1) := by decide +kernel
theorem dX10_visit_1 : decode cX10_visit 1 = .ok (.iload_n 1, 1) := by decide +kernel
theorem dX10_visit_2 : decode cX10_visit 2 = .ok (.invokevirtual 137, 3) := by decide +kernel
theorem dX10_visit_5 : decode cX10_visit 5 = .ok (.ifCond .ne 13, 3) := by decide +kernel
theorem dX10_visit_8 : decode cX10_visit 8 = .ok (.aload_n 0, 1) := by decide +kernel
theorem dX10_visit_9 : decode cX10_visit 9 = .ok (.getfield 40, 3) := by decide +kernel
theorem dX10_visit_12 : decode cX10_visit 12 = .ok (.getfield 228, 3) := by decide +kernel
theorem dX10_visit_15 : decode cX10_visit 15 = .ok (.ifCond .ne 9, 3) := by decide +kernel
theorem dX10_visit_18 : decode cX10_visit 18 = .ok (.aload_n 0, 1) := by decide +kernel
theorem dX10_visit_19 : decode cX10_visit 19 = .ok (.iconst 1, 1) := by decide +kernel
theorem dX10_visit_20 : decode cX10_visit 20 = .ok (.invokevirtual 73, 3) := by decide +kernel
theorem dX10_visit_23 : decode cX10_visit 23 = .ok (.ireturn, 1) := by decide +kernel
theorem dX10_visit_24 : decode cX10_visit 24 = .ok (.aload_n 0, 1) := by decide +kernel
theorem dX10_visit_25 : decode cX10_visit 25 = .ok (.aload_n 0, 1) := by decide +kernel
theorem dX10_visit_26 : decode cX10_visit 26 = .ok (.getfield 40, 3) := by decide +kernel
theorem dX10_visit_29 : decode cX10_visit 29 = .ok (.getfield 231, 3) := by decide +kernel
theorem dX10_visit_32 : decode cX10_visit 32 = .ok (.iload_n 1, 1) := by decide +kernel
theorem dX10_visit_33 : decode cX10_visit 33 = .ok (.iaload, 1) := by decide +kernel
theorem dX10_visit_34 : decode cX10_visit 34 = .ok (.invokevirtual 109, 3) := by decide +kernel
theorem dX10_visit_37 : decode cX10_visit 37 = .ok (.ireturn, 1) := by decide +kernel
theorem dX10_hourOf_0 : decode cX10_hourOf 0 = .ok (.aload_n 0, 1) := by decide +kernel
theorem dX10_hourOf_1 : decode cX10_hourOf 1 = .ok (.iload_n 1, 1) := by decide +kernel
theorem dX10_hourOf_2 : decode cX10_hourOf 2 = .ok (.invokevirtual 137, 3) := by decide +kernel
theorem dX10_hourOf_5 : decode cX10_hourOf 5 = .ok (.ifCond .eq 9, 3) := by decide +kernel
theorem dX10_hourOf_8 : decode cX10_hourOf 8 = .ok (.aload_n 0, 1) := by decide +kernel
theorem dX10_hourOf_9 : decode cX10_hourOf 9 = .ok (.iconst 1, 1) := by decide +kernel
theorem dX10_hourOf_10 : decode cX10_hourOf 10 = .ok (.invokevirtual 73, 3) := by decide +kernel
theorem dX10_hourOf_13 : decode cX10_hourOf 13 = .ok (.ireturn, 1) := by decide +kernel
theorem dX10_hourOf_14 : decode cX10_hourOf 14 = .ok (.aload_n 0, 1) := by decide +kernel
theorem dX10_hourOf_15 : decode cX10_hourOf 15 = .ok (.aload_n 0, 1) := by decide +kernel
theorem dX10_hourOf_16 : decode cX10_hourOf 16 = .ok (.getfield 40, 3) := by decide +kernel
theorem dX10_hourOf_19 : decode cX10_hourOf 19 = .ok (.getfield 228, 3) := by decide +kernel
theorem dX10_hourOf_22 : decode cX10_hourOf 22 = .ok (.ifCond .ne 8, 3) := by decide +kernel
theorem dX10_hourOf_25 : decode cX10_hourOf 25 = .ok (.bipush (-2), 2) := by decide +kernel
theorem dX10_hourOf_27 : decode cX10_hourOf 27 = .ok (.goto 12, 3) := by decide +kernel
theorem dX10_hourOf_30 : decode cX10_hourOf 30 = .ok (.aload_n 0, 1) := by decide +kernel
theorem dX10_hourOf_31 : decode cX10_hourOf 31 = .ok (.getfield 40, 3) := by decide +kernel
theorem dX10_hourOf_34 : decode cX10_hourOf 34 = .ok (.getfield 234, 3) := by decide +kernel
theorem dX10_hourOf_37 : decode cX10_hourOf 37 = .ok (.iload_n 1, 1) := by decide +kernel
theorem dX10_hourOf_38 : decode cX10_hourOf 38 = .ok (.iaload, 1) := by decide +kernel
theorem dX10_hourOf_39 : decode cX10_hourOf 39 = .ok (.invokevirtual 109, 3) := by decide +kernel
theorem dX10_hourOf_42 : decode cX10_hourOf 42 = .ok (.ireturn, 1) := by decide +kernel
theorem dX10_orders_0 : decode cX10_orders 0 = .ok (.aload_n 0, 1) := by decide +kernel
theorem dX10_orders_1 : decode cX10_orders 1 = .ok (.getfield 85, 3) := by decide +kernel
theorem dX10_orders_4 : decode cX10_orders 4 = .ok (.ifCond .ne 9, 3) := by decide +kernel
theorem dX10_orders_7 : decode cX10_orders 7 = .ok (.aload_n 0, 1) := by decide +kernel
theorem dX10_orders_8 : decode cX10_orders 8 = .ok (.iconst 1, 1) := by decide +kernel
theorem dX10_orders_9 : decode cX10_orders 9 = .ok (.invokevirtual 73, 3) := by decide +kernel
theorem dX10_orders_12 : decode cX10_orders 12 = .ok (.ireturn, 1) := by decide +kernel
theorem dX10_orders_13 : decode cX10_orders 13 = .ok (.aload_n 0, 1) := by decide +kernel
theorem dX10_orders_14 : decode cX10_orders 14 = .ok (.getfield 10, 3) := by decide +kernel
theorem dX10_orders_17 : decode cX10_orders 17 = .ok (.getfield 203, 3) := by decide +kernel
theorem dX10_orders_20 : decode cX10_orders 20 = .ok (.ifCond .ne 12, 3) := by decide +kernel
theorem dX10_orders_23 : decode cX10_orders 23 = .ok (.aload_n 0, 1) := by decide +kernel
theorem dX10_orders_24 : decode cX10_orders 24 = .ok (.bipush 6, 2) := by decide +kernel
theorem dX10_orders_26 : decode cX10_orders 26 = .ok (.invokevirtual 73, 3) := by decide +kernel
theorem dX10_orders_29 : decode cX10_orders 29 = .ok (.goto 14, 3) := by decide +kernel
theorem dX10_orders_32 : decode cX10_orders 32 = .ok (.aload_n 0, 1) := by decide +kernel
theorem dX10_orders_33 : decode cX10_orders 33 = .ok (.aload_n 0, 1) := by decide +kernel
theorem dX10_orders_34 : decode cX10_orders 34 = .ok (.getfield 40, 3) := by decide +kernel
theorem dX10_orders_37 : decode cX10_orders 37 = .ok (.getfield 228, 3) := by decide +kernel
theorem dX10_orders_40 : decode cX10_orders 40 = .ok (.invokevirtual 109, 3) := by decide +kernel
theorem dX10_orders_43 : decode cX10_orders 43 = .ok (.ireturn, 1) := by decide +kernel
theorem dX10_slips_0 : decode cX10_slips 0 = .ok (.aload_n 0, 1) := by decide +kernel
theorem dX10_slips_1 : decode cX10_slips 1 = .ok (.invokevirtual 237, 3) := by decide +kernel
theorem dX10_slips_4 : decode cX10_slips 4 = .ok (.ifCond .eq 14, 3) := by decide +kernel
theorem dX10_slips_7 : decode cX10_slips 7 = .ok (.aload_n 0, 1) := by decide +kernel
theorem dX10_slips_8 : decode cX10_slips 8 = .ok (.aload_n 0, 1) := by decide +kernel
theorem dX10_slips_9 : decode cX10_slips 9 = .ok (.invokevirtual 241, 3) := by decide +kernel
theorem dX10_slips_12 : decode cX10_slips 12 = .ok (.invokevirtual 73, 3) := by decide +kernel
theorem dX10_slips_15 : decode cX10_slips 15 = .ok (.goto 14, 3) := by decide +kernel
theorem dX10_slips_18 : decode cX10_slips 18 = .ok (.aload_n 0, 1) := by decide +kernel
theorem dX10_slips_19 : decode cX10_slips 19 = .ok (.aload_n 0, 1) := by decide +kernel
theorem dX10_slips_20 : decode cX10_slips 20 = .ok (.getfield 47, 3) := by decide +kernel
theorem dX10_slips_23 : decode cX10_slips 23 = .ok (.getfield 245, 3) := by decide +kernel
theorem dX10_slips_26 : decode cX10_slips 26 = .ok (.invokevirtual 109, 3) := by decide +kernel
theorem dX10_slips_29 : decode cX10_slips 29 = .ok (.ireturn, 1) := by decide +kernel
theorem dX10_noMixed_0 : decode cX10_noMixed 0 = .ok (.aload_n 0, 1) := by decide +kernel
theorem dX10_noMixed_1 : decode cX10_noMixed 1 = .ok (.getfield 10, 3) := by decide +kernel
theorem dX10_noMixed_4 : decode cX10_noMixed 4 = .ok (.getfield 254, 3) := by decide +kernel
theorem dX10_noMixed_7 : decode cX10_noMixed 7 = .ok (.ifCond .ne 7, 3) := by decide +kernel
theorem dX10_noMixed_10 : decode cX10_noMixed 10 = .ok (.iconst 1, 1) := by decide +kernel
theorem dX10_noMixed_11 : decode cX10_noMixed 11 = .ok (.goto 4, 3) := by decide +kernel
theorem dX10_noMixed_14 : decode cX10_noMixed 14 = .ok (.iconst 0, 1) := by decide +kernel
theorem dX10_noMixed_15 : decode cX10_noMixed 15 = .ok (.ireturn, 1) := by decide +kernel
theorem dX10_whyNoMixed_0 : decode cX10_whyNoMixed 0 = .ok (.aload_n 0, 1) := by decide +kernel
theorem dX10_whyNoMixed_1 : decode cX10_whyNoMixed 1 = .ok (.getfield 85, 3) := by decide +kernel
theorem dX10_whyNoMixed_4 : decode cX10_whyNoMixed 4 = .ok (.ifCond .eq 8, 3) := by decide +kernel
theorem dX10_whyNoMixed_7 : decode cX10_whyNoMixed 7 = .ok (.bipush 6, 2) := by decide +kernel
theorem dX10_whyNoMixed_9 : decode cX10_whyNoMixed 9 = .ok (.goto 4, 3) := by decide +kernel
theorem dX10_whyNoMixed_12 : decode cX10_whyNoMixed 12 = .ok (.iconst 1, 1) := by decide +kernel
theorem dX10_whyNoMixed_13 : decode cX10_whyNoMixed 13 = .ok (.ireturn, 1) := by decide +kernel
def f_X_wanted_36 (n : Nat) : Nat → Int32 → Int32 → Int32 → Int32 → k_St → Option (Int32 × k_St)
  | 0, _, _, _, _, _ => none
  | k + 1, x1, x2, x3, x4, t => (if (t.1 2 2) ≤ x4 then k_lt (f_X_answer x2 t) (fun q_1 => some (q_1.1, q_1.2)) else k_cp (f_Ta_countOf n t ((f_No_knownBy t x1) ||| ((1 : Int32) <<< (x4 &&& 31)))) (fun r_2 => (if r_2 ≤ x3 then k_lt (x4 + (1 : Int32)) (fun x4_3 => f_X_wanted_36 n k x1 x2 x3 x4_3 t) else k_lt (x4 + (1 : Int32)) (fun x4_4 => f_X_wanted_36 n k x1 x4 r_2 x4_4 t))))
def f_X_wanted (n : Nat) (x1 : Int32) (t : k_St) : Option (Int32 × k_St) := (if (k_b (f_X_noHouse t x1)) = 0 then k_cp (f_Ta_countOf n t (f_No_knownBy t x1)) (fun r_1 => f_X_wanted_36 n n x1 (-2 : Int32) r_1 (0 : Int32) t) else k_lt (f_X_refuse (1 : Int32) t) (fun q_2 => some (q_2.1, q_2.2)))
theorem m_X_wanted_36 {p : Program} (l : Launch) {e : Env} {s : State} {m : MethodId} {args : Array Value} {below : List Frame} {meth : Method} {c : Code} (G : k_G) (a : Nat → Nat) (tl : Value) (n : Nat) {w0 : va_W} {r : Int32} {t' : k_St} (hA : k_Amb p s m args meth c cX10_wanted 6 "TaleShares" G (va_A w0 s.heap.size)) (hr : meth.sig.returnType = (some .int)) : ∀ (k : Nat) (x1 : Int32) (x2 : Int32) (x3 : Int32) (x4 : Int32) (t : k_St), f_X_wanted_36 n k x1 x2 x3 x4 t = some (r, t') → k_Go p l e (k_rm 3) s m args below meth c (k_QI G w0 r (k_WX G.2.1 a tl t') args s below) 6 G (va_A w0 s.heap.size) (k_WX G.2.1 a tl t) 36 [(0, .ref (a 0)), (1, .int x1), (2, .int x2), (3, .int x3), (4, .int x4)] [] := by
  intro k
  induction k with
  | zero => intro x1 x2 x3 x4 t hf; cases hf
  | succ k ih =>
  intro x1 x2 x3 x4 t hf
  rw [f_X_wanted_36] at hf
  refine k_iload hA dX10_wanted_36 4 rfl ?_
  refine k_aload_n (i := 0) hA dX10_wanted_38 rfl 0 rfl ?_
  refine gt_X_0_7 hA wd_444 dX10_wanted_39 ?_
  refine gt_X_2_2 hA wd_167 dX10_wanted_42 ?_
  refine k_icmp_ge (tgt := 88) hA dX10_wanted_45 rfl (fun hc => ?_) (fun hc => ?_)
  · have hf := k_ift hc hf
    obtain ⟨⟨rq_1, tq_1⟩, hq_1, hf⟩ := k_lt_e hf
    dsimp only at hf
    obtain ⟨rfl, rfl⟩ := k_r2 hf
    refine k_aload_n (i := 0) hA dX10_wanted_88 rfl 0 rfl ?_
    refine k_iload_n (i := 2) hA dX10_wanted_89 rfl 2 rfl ?_
    refine k_callVi (As := [.int x2]) (rest := []) hA (m_X_answer l G a tl x2 t hq_1.symm) cd_X10_answer wd_732 (hc_X_0 G.2.1 a tl t) rfl rfl (Nat.le_of_ble_eq_true rfl) rfl rfl (Nat.le_of_ble_eq_true rfl) dX10_wanted_90 ?_
    exact k_iret hA hr rfl dX10_wanted_93
  have hf := k_iff hc hf
  obtain ⟨r_2, hr_2, hf⟩ := k_cp_e hf
  refine k_aload_n (i := 0) hA dX10_wanted_48 rfl 0 rfl ?_
  refine gt_X_0_1 hA wd_438 dX10_wanted_49 ?_
  refine k_aload_n (i := 0) hA dX10_wanted_52 rfl 0 rfl ?_
  refine gt_X_0_6 hA wd_443 dX10_wanted_53 ?_
  refine k_iload_n (i := 1) hA dX10_wanted_56 rfl 1 rfl ?_
  refine k_callVi (As := [.int x1]) (rest := [.ref (a 21)]) hA (m_No_knownBy l G a tl t x1 rfl) cd_X3_knownBy wd_780 (hc_X_34 G.2.1 a tl t) rfl rfl (Nat.le_of_ble_eq_true rfl) rfl rfl (Nat.le_of_ble_eq_true rfl) dX10_wanted_57 ?_
  refine k_iconst hA dX10_wanted_60 kc_i_1 ?_
  refine k_iload hA dX10_wanted_61 4 rfl ?_
  refine k_ishl hA dX10_wanted_63 ?_
  refine k_ior hA dX10_wanted_64 ?_
  refine k_callVi (As := [.int ((f_No_knownBy t x1) ||| ((1 : Int32) <<< (x4 &&& 31)))]) (rest := []) hA (m_Ta_countOf l G a tl n t ((f_No_knownBy t x1) ||| ((1 : Int32) <<< (x4 &&& 31))) hr_2) cd_X7_countOf wd_823 (hc_X_21 G.2.1 a tl t) rfl rfl (Nat.le_of_ble_eq_true rfl) rfl rfl (Nat.le_of_ble_eq_true rfl) dX10_wanted_65 ?_
  refine k_istore (lv' := [(5, .int r_2), (0, .ref (a 0)), (1, .int x1), (2, .int x2), (3, .int x3), (4, .int x4)]) hA dX10_wanted_68 rfl (Nat.le_of_ble_eq_true rfl) rfl ?_
  refine k_iload hA dX10_wanted_70 0 rfl ?_
  refine k_iload_n (i := 3) hA dX10_wanted_72 rfl 4 rfl ?_
  refine k_icmp_le (tgt := 82) hA dX10_wanted_73 rfl (fun hc => ?_) (fun hc => ?_)
  · have hf := k_ift hc hf
    obtain ⟨x4_3, ex4_3, hf⟩ := k_lt_e hf
    refine k_iinc (j := 5) (v := x4_3) (lv' := [(4, .int x4_3), (5, .int r_2), (0, .ref (a 0)), (1, .int x1), (2, .int x2), (3, .int x3)]) hA dX10_wanted_82 rfl (k_inc ex4_3 kc_i_1) (Nat.le_of_ble_eq_true rfl) rfl ?_
    refine k_goto (tgt := 36) hA dX10_wanted_85 rfl ?_
    refine k_pick (lv' := [(0, .ref (a 0)), (1, .int x1), (2, .int x2), (3, .int x3), (4, .int x4_3)]) [2, 3, 4, 5, 0] rfl ?_
    exact ih x1 x2 x3 x4_3 t hf
  have hf := k_iff hc hf
  obtain ⟨x4_4, ex4_4, hf⟩ := k_lt_e hf
  refine k_iload hA dX10_wanted_76 5 rfl ?_
  refine k_istore_n (i := 2) (lv' := [(2, .int x4), (5, .int r_2), (0, .ref (a 0)), (1, .int x1), (3, .int x3), (4, .int x4)]) hA dX10_wanted_78 rfl rfl (Nat.le_of_ble_eq_true rfl) rfl ?_
  refine k_iload hA dX10_wanted_79 1 rfl ?_
  refine k_istore_n (i := 3) (lv' := [(3, .int r_2), (2, .int x4), (5, .int r_2), (0, .ref (a 0)), (1, .int x1), (4, .int x4)]) hA dX10_wanted_81 rfl rfl (Nat.le_of_ble_eq_true rfl) rfl ?_
  refine k_iinc (j := 5) (v := x4_4) (lv' := [(4, .int x4_4), (3, .int r_2), (2, .int x4), (5, .int r_2), (0, .ref (a 0)), (1, .int x1)]) hA dX10_wanted_82 rfl (k_inc ex4_4 kc_i_1) (Nat.le_of_ble_eq_true rfl) rfl ?_
  refine k_goto (tgt := 36) hA dX10_wanted_85 rfl ?_
  refine k_pick (lv' := [(0, .ref (a 0)), (1, .int x1), (2, .int x4), (3, .int r_2), (4, .int x4_4)]) [4, 5, 2, 1, 0] rfl ?_
  exact ih x1 x4 r_2 x4_4 t hf

theorem m_X_wanted (l : Launch) (G : k_G) (a : Nat → Nat) (tl : Value) (n : Nat) (x1 : Int32) (t : k_St) {r : Int32} {t' : k_St} (hf : f_X_wanted n x1 t = some (r, t')) : k_CI l G yX10_wanted cX10_wanted 6 (some .int) 3 (k_WX G.2.1 a tl t) [.ref (a 0), .int x1] r (k_WX G.2.1 a tl t') := by
  refine k_startI (lv := [(0, .ref (a 0)), (1, .int x1)]) (by decide +kernel) (Nat.le_of_ble_eq_true rfl) rfl ?_
  intro p e s m args below meth c hA hr
  have hA : k_Amb p s m args meth c cX10_wanted 6 "TaleShares" G _ := hA
  unfold f_X_wanted at hf
  refine k_aload_n (i := 0) hA dX10_wanted_0 rfl 0 rfl ?_
  refine k_iload_n (i := 1) hA dX10_wanted_1 rfl 1 rfl ?_
  refine k_callVi (As := [.int x1]) (rest := []) hA (m_X_noHouse l G a tl t x1 rfl) cd_X10_noHouse wd_776 (hc_X_0 G.2.1 a tl t) rfl rfl (Nat.le_of_ble_eq_true rfl) rfl rfl (Nat.le_of_ble_eq_true rfl) dX10_wanted_2 ?_
  refine k_if_eq (tgt := 14) hA dX10_wanted_5 rfl (fun hc => ?_) (fun hc => ?_)
  · have hf := k_ift hc hf
    obtain ⟨r_1, hr_1, hf⟩ := k_cp_e hf
    refine k_bipush hA dX10_wanted_14 kc_b_m2 ?_
    refine k_istore_n (i := 2) (lv' := [(2, .int (-2 : Int32)), (0, .ref (a 0)), (1, .int x1)]) hA dX10_wanted_16 rfl rfl (Nat.le_of_ble_eq_true rfl) rfl ?_
    refine k_aload_n (i := 0) hA dX10_wanted_17 rfl 1 rfl ?_
    refine gt_X_0_1 hA wd_438 dX10_wanted_18 ?_
    refine k_aload_n (i := 0) hA dX10_wanted_21 rfl 1 rfl ?_
    refine gt_X_0_6 hA wd_443 dX10_wanted_22 ?_
    refine k_iload_n (i := 1) hA dX10_wanted_25 rfl 2 rfl ?_
    refine k_callVi (As := [.int x1]) (rest := [.ref (a 21)]) hA (m_No_knownBy l G a tl t x1 rfl) cd_X3_knownBy wd_780 (hc_X_34 G.2.1 a tl t) rfl rfl (Nat.le_of_ble_eq_true rfl) rfl rfl (Nat.le_of_ble_eq_true rfl) dX10_wanted_26 ?_
    refine k_callVi (As := [.int (f_No_knownBy t x1)]) (rest := []) hA (m_Ta_countOf l G a tl n t (f_No_knownBy t x1) hr_1) cd_X7_countOf wd_823 (hc_X_21 G.2.1 a tl t) rfl rfl (Nat.le_of_ble_eq_true rfl) rfl rfl (Nat.le_of_ble_eq_true rfl) dX10_wanted_29 ?_
    refine k_istore_n (i := 3) (lv' := [(3, .int r_1), (2, .int (-2 : Int32)), (0, .ref (a 0)), (1, .int x1)]) hA dX10_wanted_32 rfl rfl (Nat.le_of_ble_eq_true rfl) rfl ?_
    refine k_iconst hA dX10_wanted_33 kc_i_0 ?_
    refine k_istore (lv' := [(4, .int (0 : Int32)), (3, .int r_1), (2, .int (-2 : Int32)), (0, .ref (a 0)), (1, .int x1)]) hA dX10_wanted_34 rfl (Nat.le_of_ble_eq_true rfl) rfl ?_
    refine k_pick (lv' := [(0, .ref (a 0)), (1, .int x1), (2, .int (-2 : Int32)), (3, .int r_1), (4, .int (0 : Int32))]) [3, 4, 2, 1, 0] rfl ?_
    exact m_X_wanted_36 l G a tl n hA hr n x1 (-2 : Int32) r_1 (0 : Int32) t hf
  have hf := k_iff hc hf
  obtain ⟨⟨rq_2, tq_2⟩, hq_2, hf⟩ := k_lt_e hf
  dsimp only at hf
  obtain ⟨rfl, rfl⟩ := k_r2 hf
  refine k_aload_n (i := 0) hA dX10_wanted_8 rfl 0 rfl ?_
  refine k_iconst hA dX10_wanted_9 kc_i_1 ?_
  refine k_callVi (As := [.int (1 : Int32)]) (rest := []) hA (m_X_refuse l G a tl (1 : Int32) t hq_2.symm) cd_X10_refuse wd_480 (hc_X_0 G.2.1 a tl t) rfl rfl (Nat.le_of_ble_eq_true rfl) rfl rfl (Nat.le_of_ble_eq_true rfl) dX10_wanted_10 ?_
  exact k_iret hA hr rfl dX10_wanted_13

def f_Te_isSilent (t : k_St) (x1 : Int32) : Bool := (if (((t.1 2 6) >>> (x1 &&& 31)) &&& (1 : Int32)) = 0 then false else true)
theorem m_Te_isSilent (l : Launch) (G : k_G) (a : Nat → Nat) (tl : Value) (t : k_St) (x1 : Int32) {r : Bool} (hf : f_Te_isSilent t x1 = r) : k_CI l G yX8_isSilent cX8_isSilent 2 (some .boolean) 1 (k_WX G.2.1 a tl t) [.ref (a 2), .int x1] (k_b r) (k_WX G.2.1 a tl t) := by
  refine k_startI (lv := [(0, .ref (a 2)), (1, .int x1)]) (by decide +kernel) (Nat.le_of_ble_eq_true rfl) rfl ?_
  intro p e s m args below meth c hA hr
  have hA : k_Amb p s m args meth c cX8_isSilent 2 "TaleShares$Terrace" G _ := hA
  unfold f_Te_isSilent at hf
  refine k_aload_n (i := 0) hA dX8_isSilent_0 rfl 0 rfl ?_
  refine gt_X_2_6 hA wd_182 dX8_isSilent_1 ?_
  refine k_iload_n (i := 1) hA dX8_isSilent_4 rfl 1 rfl ?_
  refine k_ishr hA dX8_isSilent_5 ?_
  refine k_iconst hA dX8_isSilent_6 kc_i_1 ?_
  refine k_iand hA dX8_isSilent_7 ?_
  refine k_if_eq (tgt := 15) hA dX8_isSilent_8 rfl (fun hc => ?_) (fun hc => ?_)
  · have hf := k_ift hc hf
    subst hf
    refine k_iconst hA dX8_isSilent_15 kc_i_0 ?_
    exact k_iret hA hr (k_narB (k_b01 _)) dX8_isSilent_16
  have hf := k_iff hc hf
  subst hf
  refine k_iconst hA dX8_isSilent_11 kc_i_1 ?_
  refine k_goto (tgt := 16) hA dX8_isSilent_12 rfl ?_
  exact k_iret hA hr (k_narB (k_b01 _)) dX8_isSilent_16

def f_X_ask_36 (n : Nat) : Nat → Int32 → Int32 → Int32 → Int32 → k_St → Option (Int32 × k_St)
  | 0, _, _, _, _, _ => none
  | k + 1, x1, x2, x3, x4, t => (if (t.1 2 4) ≤ x4 then k_lt (f_X_answer x2 t) (fun q_1 => some (q_1.1, q_1.2)) else (if (k_b (f_Te_isSilent t x4)) = 0 then k_cp (f_Ta_countOf n t ((f_No_knownBy t x1) ||| (f_No_knownBy t x4))) (fun r_2 => (if r_2 ≤ x3 then k_lt (x4 + (1 : Int32)) (fun x4_3 => f_X_ask_36 n k x1 x2 x3 x4_3 t) else k_lt (x4 + (1 : Int32)) (fun x4_4 => f_X_ask_36 n k x1 x4 r_2 x4_4 t))) else (if (0 : Int32) ≤ x3 then k_lt (x4 + (1 : Int32)) (fun x4_5 => f_X_ask_36 n k x1 x2 x3 x4_5 t) else k_lt (x4 + (1 : Int32)) (fun x4_6 => f_X_ask_36 n k x1 x4 (0 : Int32) x4_6 t))))
def f_X_ask (n : Nat) (x1 : Int32) (t : k_St) : Option (Int32 × k_St) := (if (k_b (f_X_noHouse t x1)) = 0 then k_cp (f_Ta_countOf n t (f_No_knownBy t x1)) (fun r_1 => f_X_ask_36 n n x1 (-2 : Int32) r_1 (0 : Int32) t) else k_lt (f_X_refuse (1 : Int32) t) (fun q_2 => some (q_2.1, q_2.2)))
theorem m_X_ask_36 {p : Program} (l : Launch) {e : Env} {s : State} {m : MethodId} {args : Array Value} {below : List Frame} {meth : Method} {c : Code} (G : k_G) (a : Nat → Nat) (tl : Value) (n : Nat) {w0 : va_W} {r : Int32} {t' : k_St} (hA : k_Amb p s m args meth c cX10_ask 6 "TaleShares" G (va_A w0 s.heap.size)) (hr : meth.sig.returnType = (some .int)) : ∀ (k : Nat) (x1 : Int32) (x2 : Int32) (x3 : Int32) (x4 : Int32) (t : k_St), f_X_ask_36 n k x1 x2 x3 x4 t = some (r, t') → k_Go p l e (k_rm 3) s m args below meth c (k_QI G w0 r (k_WX G.2.1 a tl t') args s below) 6 G (va_A w0 s.heap.size) (k_WX G.2.1 a tl t) 36 [(0, .ref (a 0)), (1, .int x1), (2, .int x2), (3, .int x3), (4, .int x4)] [] := by
  intro k
  induction k with
  | zero => intro x1 x2 x3 x4 t hf; cases hf
  | succ k ih =>
  intro x1 x2 x3 x4 t hf
  rw [f_X_ask_36] at hf
  refine k_iload hA dX10_ask_36 4 rfl ?_
  refine k_aload_n (i := 0) hA dX10_ask_38 rfl 0 rfl ?_
  refine gt_X_0_7 hA wd_444 dX10_ask_39 ?_
  refine gt_X_2_4 hA wd_177 dX10_ask_42 ?_
  refine k_icmp_ge (tgt := 109) hA dX10_ask_45 rfl (fun hc => ?_) (fun hc => ?_)
  · have hf := k_ift hc hf
    obtain ⟨⟨rq_1, tq_1⟩, hq_1, hf⟩ := k_lt_e hf
    dsimp only at hf
    obtain ⟨rfl, rfl⟩ := k_r2 hf
    refine k_aload_n (i := 0) hA dX10_ask_109 rfl 0 rfl ?_
    refine k_iload_n (i := 2) hA dX10_ask_110 rfl 2 rfl ?_
    refine k_callVi (As := [.int x2]) (rest := []) hA (m_X_answer l G a tl x2 t hq_1.symm) cd_X10_answer wd_732 (hc_X_0 G.2.1 a tl t) rfl rfl (Nat.le_of_ble_eq_true rfl) rfl rfl (Nat.le_of_ble_eq_true rfl) dX10_ask_111 ?_
    exact k_iret hA hr rfl dX10_ask_114
  have hf := k_iff hc hf
  refine k_aload_n (i := 0) hA dX10_ask_48 rfl 0 rfl ?_
  refine gt_X_0_7 hA wd_444 dX10_ask_49 ?_
  refine k_iload hA dX10_ask_52 4 rfl ?_
  refine k_callVi (As := [.int x4]) (rest := []) hA (m_Te_isSilent l G a tl t x4 rfl) cd_X8_isSilent wd_892 (hc_X_2 G.2.1 a tl t) rfl rfl (Nat.le_of_ble_eq_true rfl) rfl rfl (Nat.le_of_ble_eq_true rfl) dX10_ask_54 ?_
  refine k_if_eq (tgt := 64) hA dX10_ask_57 rfl (fun hc => ?_) (fun hc => ?_)
  · have hf := k_ift hc hf
    obtain ⟨r_2, hr_2, hf⟩ := k_cp_e hf
    refine k_aload_n (i := 0) hA dX10_ask_64 rfl 0 rfl ?_
    refine gt_X_0_1 hA wd_438 dX10_ask_65 ?_
    refine k_aload_n (i := 0) hA dX10_ask_68 rfl 0 rfl ?_
    refine gt_X_0_6 hA wd_443 dX10_ask_69 ?_
    refine k_iload_n (i := 1) hA dX10_ask_72 rfl 1 rfl ?_
    refine k_callVi (As := [.int x1]) (rest := [.ref (a 21)]) hA (m_No_knownBy l G a tl t x1 rfl) cd_X3_knownBy wd_780 (hc_X_34 G.2.1 a tl t) rfl rfl (Nat.le_of_ble_eq_true rfl) rfl rfl (Nat.le_of_ble_eq_true rfl) dX10_ask_73 ?_
    refine k_aload_n (i := 0) hA dX10_ask_76 rfl 0 rfl ?_
    refine gt_X_0_6 hA wd_443 dX10_ask_77 ?_
    refine k_iload hA dX10_ask_80 4 rfl ?_
    refine k_callVi (As := [.int x4]) (rest := [.int (f_No_knownBy t x1), .ref (a 21)]) hA (m_No_knownBy l G a tl t x4 rfl) cd_X3_knownBy wd_780 (hc_X_34 G.2.1 a tl t) rfl rfl (Nat.le_of_ble_eq_true rfl) rfl rfl (Nat.le_of_ble_eq_true rfl) dX10_ask_82 ?_
    refine k_ior hA dX10_ask_85 ?_
    refine k_callVi (As := [.int ((f_No_knownBy t x1) ||| (f_No_knownBy t x4))]) (rest := []) hA (m_Ta_countOf l G a tl n t ((f_No_knownBy t x1) ||| (f_No_knownBy t x4)) hr_2) cd_X7_countOf wd_823 (hc_X_21 G.2.1 a tl t) rfl rfl (Nat.le_of_ble_eq_true rfl) rfl rfl (Nat.le_of_ble_eq_true rfl) dX10_ask_86 ?_
    refine k_istore (lv' := [(5, .int r_2), (0, .ref (a 0)), (1, .int x1), (2, .int x2), (3, .int x3), (4, .int x4)]) hA dX10_ask_89 rfl (Nat.le_of_ble_eq_true rfl) rfl ?_
    refine k_iload hA dX10_ask_91 0 rfl ?_
    refine k_iload_n (i := 3) hA dX10_ask_93 rfl 4 rfl ?_
    refine k_icmp_le (tgt := 103) hA dX10_ask_94 rfl (fun hc => ?_) (fun hc => ?_)
    · have hf := k_ift hc hf
      obtain ⟨x4_3, ex4_3, hf⟩ := k_lt_e hf
      refine k_iinc (j := 5) (v := x4_3) (lv' := [(4, .int x4_3), (5, .int r_2), (0, .ref (a 0)), (1, .int x1), (2, .int x2), (3, .int x3)]) hA dX10_ask_103 rfl (k_inc ex4_3 kc_i_1) (Nat.le_of_ble_eq_true rfl) rfl ?_
      refine k_goto (tgt := 36) hA dX10_ask_106 rfl ?_
      refine k_pick (lv' := [(0, .ref (a 0)), (1, .int x1), (2, .int x2), (3, .int x3), (4, .int x4_3)]) [2, 3, 4, 5, 0] rfl ?_
      exact ih x1 x2 x3 x4_3 t hf
    have hf := k_iff hc hf
    obtain ⟨x4_4, ex4_4, hf⟩ := k_lt_e hf
    refine k_iload hA dX10_ask_97 5 rfl ?_
    refine k_istore_n (i := 2) (lv' := [(2, .int x4), (5, .int r_2), (0, .ref (a 0)), (1, .int x1), (3, .int x3), (4, .int x4)]) hA dX10_ask_99 rfl rfl (Nat.le_of_ble_eq_true rfl) rfl ?_
    refine k_iload hA dX10_ask_100 1 rfl ?_
    refine k_istore_n (i := 3) (lv' := [(3, .int r_2), (2, .int x4), (5, .int r_2), (0, .ref (a 0)), (1, .int x1), (4, .int x4)]) hA dX10_ask_102 rfl rfl (Nat.le_of_ble_eq_true rfl) rfl ?_
    refine k_iinc (j := 5) (v := x4_4) (lv' := [(4, .int x4_4), (3, .int r_2), (2, .int x4), (5, .int r_2), (0, .ref (a 0)), (1, .int x1)]) hA dX10_ask_103 rfl (k_inc ex4_4 kc_i_1) (Nat.le_of_ble_eq_true rfl) rfl ?_
    refine k_goto (tgt := 36) hA dX10_ask_106 rfl ?_
    refine k_pick (lv' := [(0, .ref (a 0)), (1, .int x1), (2, .int x4), (3, .int r_2), (4, .int x4_4)]) [4, 5, 2, 1, 0] rfl ?_
    exact ih x1 x4 r_2 x4_4 t hf
  have hf := k_iff hc hf
  refine k_iconst hA dX10_ask_60 kc_i_0 ?_
  refine k_goto (tgt := 89) hA dX10_ask_61 rfl ?_
  refine k_istore (lv' := [(5, .int (0 : Int32)), (0, .ref (a 0)), (1, .int x1), (2, .int x2), (3, .int x3), (4, .int x4)]) hA dX10_ask_89 rfl (Nat.le_of_ble_eq_true rfl) rfl ?_
  refine k_iload hA dX10_ask_91 0 rfl ?_
  refine k_iload_n (i := 3) hA dX10_ask_93 rfl 4 rfl ?_
  refine k_icmp_le (tgt := 103) hA dX10_ask_94 rfl (fun hc => ?_) (fun hc => ?_)
  · have hf := k_ift hc hf
    obtain ⟨x4_5, ex4_5, hf⟩ := k_lt_e hf
    refine k_iinc (j := 5) (v := x4_5) (lv' := [(4, .int x4_5), (5, .int (0 : Int32)), (0, .ref (a 0)), (1, .int x1), (2, .int x2), (3, .int x3)]) hA dX10_ask_103 rfl (k_inc ex4_5 kc_i_1) (Nat.le_of_ble_eq_true rfl) rfl ?_
    refine k_goto (tgt := 36) hA dX10_ask_106 rfl ?_
    refine k_pick (lv' := [(0, .ref (a 0)), (1, .int x1), (2, .int x2), (3, .int x3), (4, .int x4_5)]) [2, 3, 4, 5, 0] rfl ?_
    exact ih x1 x2 x3 x4_5 t hf
  have hf := k_iff hc hf
  obtain ⟨x4_6, ex4_6, hf⟩ := k_lt_e hf
  refine k_iload hA dX10_ask_97 5 rfl ?_
  refine k_istore_n (i := 2) (lv' := [(2, .int x4), (5, .int (0 : Int32)), (0, .ref (a 0)), (1, .int x1), (3, .int x3), (4, .int x4)]) hA dX10_ask_99 rfl rfl (Nat.le_of_ble_eq_true rfl) rfl ?_
  refine k_iload hA dX10_ask_100 1 rfl ?_
  refine k_istore_n (i := 3) (lv' := [(3, .int (0 : Int32)), (2, .int x4), (5, .int (0 : Int32)), (0, .ref (a 0)), (1, .int x1), (4, .int x4)]) hA dX10_ask_102 rfl rfl (Nat.le_of_ble_eq_true rfl) rfl ?_
  refine k_iinc (j := 5) (v := x4_6) (lv' := [(4, .int x4_6), (3, .int (0 : Int32)), (2, .int x4), (5, .int (0 : Int32)), (0, .ref (a 0)), (1, .int x1)]) hA dX10_ask_103 rfl (k_inc ex4_6 kc_i_1) (Nat.le_of_ble_eq_true rfl) rfl ?_
  refine k_goto (tgt := 36) hA dX10_ask_106 rfl ?_
  refine k_pick (lv' := [(0, .ref (a 0)), (1, .int x1), (2, .int x4), (3, .int (0 : Int32)), (4, .int x4_6)]) [4, 5, 2, 1, 0] rfl ?_
  exact ih x1 x4 (0 : Int32) x4_6 t hf

theorem m_X_ask (l : Launch) (G : k_G) (a : Nat → Nat) (tl : Value) (n : Nat) (x1 : Int32) (t : k_St) {r : Int32} {t' : k_St} (hf : f_X_ask n x1 t = some (r, t')) : k_CI l G yX10_ask cX10_ask 6 (some .int) 3 (k_WX G.2.1 a tl t) [.ref (a 0), .int x1] r (k_WX G.2.1 a tl t') := by
  refine k_startI (lv := [(0, .ref (a 0)), (1, .int x1)]) (by decide +kernel) (Nat.le_of_ble_eq_true rfl) rfl ?_
  intro p e s m args below meth c hA hr
  have hA : k_Amb p s m args meth c cX10_ask 6 "TaleShares" G _ := hA
  unfold f_X_ask at hf
  refine k_aload_n (i := 0) hA dX10_ask_0 rfl 0 rfl ?_
  refine k_iload_n (i := 1) hA dX10_ask_1 rfl 1 rfl ?_
  refine k_callVi (As := [.int x1]) (rest := []) hA (m_X_noHouse l G a tl t x1 rfl) cd_X10_noHouse wd_776 (hc_X_0 G.2.1 a tl t) rfl rfl (Nat.le_of_ble_eq_true rfl) rfl rfl (Nat.le_of_ble_eq_true rfl) dX10_ask_2 ?_
  refine k_if_eq (tgt := 14) hA dX10_ask_5 rfl (fun hc => ?_) (fun hc => ?_)
  · have hf := k_ift hc hf
    obtain ⟨r_1, hr_1, hf⟩ := k_cp_e hf
    refine k_bipush hA dX10_ask_14 kc_b_m2 ?_
    refine k_istore_n (i := 2) (lv' := [(2, .int (-2 : Int32)), (0, .ref (a 0)), (1, .int x1)]) hA dX10_ask_16 rfl rfl (Nat.le_of_ble_eq_true rfl) rfl ?_
    refine k_aload_n (i := 0) hA dX10_ask_17 rfl 1 rfl ?_
    refine gt_X_0_1 hA wd_438 dX10_ask_18 ?_
    refine k_aload_n (i := 0) hA dX10_ask_21 rfl 1 rfl ?_
    refine gt_X_0_6 hA wd_443 dX10_ask_22 ?_
    refine k_iload_n (i := 1) hA dX10_ask_25 rfl 2 rfl ?_
    refine k_callVi (As := [.int x1]) (rest := [.ref (a 21)]) hA (m_No_knownBy l G a tl t x1 rfl) cd_X3_knownBy wd_780 (hc_X_34 G.2.1 a tl t) rfl rfl (Nat.le_of_ble_eq_true rfl) rfl rfl (Nat.le_of_ble_eq_true rfl) dX10_ask_26 ?_
    refine k_callVi (As := [.int (f_No_knownBy t x1)]) (rest := []) hA (m_Ta_countOf l G a tl n t (f_No_knownBy t x1) hr_1) cd_X7_countOf wd_823 (hc_X_21 G.2.1 a tl t) rfl rfl (Nat.le_of_ble_eq_true rfl) rfl rfl (Nat.le_of_ble_eq_true rfl) dX10_ask_29 ?_
    refine k_istore_n (i := 3) (lv' := [(3, .int r_1), (2, .int (-2 : Int32)), (0, .ref (a 0)), (1, .int x1)]) hA dX10_ask_32 rfl rfl (Nat.le_of_ble_eq_true rfl) rfl ?_
    refine k_iconst hA dX10_ask_33 kc_i_0 ?_
    refine k_istore (lv' := [(4, .int (0 : Int32)), (3, .int r_1), (2, .int (-2 : Int32)), (0, .ref (a 0)), (1, .int x1)]) hA dX10_ask_34 rfl (Nat.le_of_ble_eq_true rfl) rfl ?_
    refine k_pick (lv' := [(0, .ref (a 0)), (1, .int x1), (2, .int (-2 : Int32)), (3, .int r_1), (4, .int (0 : Int32))]) [3, 4, 2, 1, 0] rfl ?_
    exact m_X_ask_36 l G a tl n hA hr n x1 (-2 : Int32) r_1 (0 : Int32) t hf
  have hf := k_iff hc hf
  obtain ⟨⟨rq_2, tq_2⟩, hq_2, hf⟩ := k_lt_e hf
  dsimp only at hf
  obtain ⟨rfl, rfl⟩ := k_r2 hf
  refine k_aload_n (i := 0) hA dX10_ask_8 rfl 0 rfl ?_
  refine k_iconst hA dX10_ask_9 kc_i_1 ?_
  refine k_callVi (As := [.int (1 : Int32)]) (rest := []) hA (m_X_refuse l G a tl (1 : Int32) t hq_2.symm) cd_X10_refuse wd_480 (hc_X_0 G.2.1 a tl t) rfl rfl (Nat.le_of_ble_eq_true rfl) rfl rfl (Nat.le_of_ble_eq_true rfl) dX10_ask_10 ?_
  exact k_iret hA hr rfl dX10_ask_13

def f_No_knownByAny_4 (n : Nat) (t : k_St) : Nat → Int32 → Int32 → Int32 → Option Int32
  | 0, _, _, _ => none
  | k + 1, x1, x2, x3 => (if (t.1 34 4) ≤ x3 then some x2 else (if ((x1 >>> (x3 &&& 31)) &&& (1 : Int32)) = 0 then k_lt (x3 + (1 : Int32)) (fun x3_1 => f_No_knownByAny_4 n t k x1 x2 x3_1) else k_lt (x2 ||| (f_No_knownBy t x3)) (fun x2_2 => k_lt (x3 + (1 : Int32)) (fun x3_3 => f_No_knownByAny_4 n t k x1 x2_2 x3_3))))
def f_No_knownByAny (n : Nat) (t : k_St) (x1 : Int32) : Option Int32 := f_No_knownByAny_4 n t n x1 (0 : Int32) (0 : Int32)
theorem m_No_knownByAny_4 {p : Program} (l : Launch) {e : Env} {s : State} {m : MethodId} {args : Array Value} {below : List Frame} {meth : Method} {c : Code} (G : k_G) (a : Nat → Nat) (tl : Value) (n : Nat) (t : k_St) {w0 : va_W} {r : Int32} (hA : k_Amb p s m args meth c cX3_knownByAny 4 "TaleShares$Now" G (va_A w0 s.heap.size)) (hr : meth.sig.returnType = (some .int)) : ∀ (k : Nat) (x1 : Int32) (x2 : Int32) (x3 : Int32), f_No_knownByAny_4 n t k x1 x2 x3 = some r → k_Go p l e (k_rm 3) s m args below meth c (k_QI G w0 r (k_WX G.2.1 a tl t) args s below) 4 G (va_A w0 s.heap.size) (k_WX G.2.1 a tl t) 4 [(0, .ref (a 34)), (1, .int x1), (2, .int x2), (3, .int x3)] [] := by
  intro k
  induction k with
  | zero => intro x1 x2 x3 hf; cases hf
  | succ k ih =>
  intro x1 x2 x3 hf
  rw [f_No_knownByAny_4] at hf
  refine k_iload_n (i := 3) hA dX3_knownByAny_4 rfl 3 rfl ?_
  refine k_aload_n (i := 0) hA dX3_knownByAny_5 rfl 0 rfl ?_
  refine gt_X_34_4 hA wd_419 dX3_knownByAny_6 ?_
  refine k_icmp_ge (tgt := 34) hA dX3_knownByAny_9 rfl (fun hc => ?_) (fun hc => ?_)
  · have hf := k_ift hc hf
    obtain rfl := k_r1 hf
    refine k_iload_n (i := 2) hA dX3_knownByAny_34 rfl 2 rfl ?_
    exact k_iret hA hr rfl dX3_knownByAny_35
  have hf := k_iff hc hf
  refine k_iload_n (i := 1) hA dX3_knownByAny_12 rfl 1 rfl ?_
  refine k_iload_n (i := 3) hA dX3_knownByAny_13 rfl 3 rfl ?_
  refine k_ishr hA dX3_knownByAny_14 ?_
  refine k_iconst hA dX3_knownByAny_15 kc_i_1 ?_
  refine k_iand hA dX3_knownByAny_16 ?_
  refine k_if_eq (tgt := 28) hA dX3_knownByAny_17 rfl (fun hc => ?_) (fun hc => ?_)
  · have hf := k_ift hc hf
    obtain ⟨x3_1, ex3_1, hf⟩ := k_lt_e hf
    refine k_iinc (j := 3) (v := x3_1) (lv' := [(3, .int x3_1), (0, .ref (a 34)), (1, .int x1), (2, .int x2)]) hA dX3_knownByAny_28 rfl (k_inc ex3_1 kc_i_1) (Nat.le_of_ble_eq_true rfl) rfl ?_
    refine k_goto (tgt := 4) hA dX3_knownByAny_31 rfl ?_
    refine k_pick (lv' := [(0, .ref (a 34)), (1, .int x1), (2, .int x2), (3, .int x3_1)]) [1, 2, 3, 0] rfl ?_
    exact ih x1 x2 x3_1 hf
  have hf := k_iff hc hf
  obtain ⟨x2_2, ex2_2, hf⟩ := k_lt_e hf
  obtain ⟨x3_3, ex3_3, hf⟩ := k_lt_e hf
  refine k_iload_n (i := 2) hA dX3_knownByAny_20 rfl 2 rfl ?_
  refine k_aload_n (i := 0) hA dX3_knownByAny_21 rfl 0 rfl ?_
  refine k_iload_n (i := 3) hA dX3_knownByAny_22 rfl 3 rfl ?_
  refine k_callVi (As := [.int x3]) (rest := [.int x2]) hA (m_No_knownBy l G a tl t x3 rfl) cd_X3_knownBy wd_765 (hc_X_34 G.2.1 a tl t) rfl rfl (Nat.le_of_ble_eq_true rfl) rfl rfl (Nat.le_of_ble_eq_true rfl) dX3_knownByAny_23 ?_
  refine k_ior hA dX3_knownByAny_26 ?_
  refine k_istore_n (i := 2) (lv' := [(2, .int x2_2), (0, .ref (a 34)), (1, .int x1), (3, .int x3)]) hA dX3_knownByAny_27 rfl ex2_2 (Nat.le_of_ble_eq_true rfl) rfl ?_
  refine k_iinc (j := 3) (v := x3_3) (lv' := [(3, .int x3_3), (2, .int x2_2), (0, .ref (a 34)), (1, .int x1)]) hA dX3_knownByAny_28 rfl (k_inc ex3_3 kc_i_1) (Nat.le_of_ble_eq_true rfl) rfl ?_
  refine k_goto (tgt := 4) hA dX3_knownByAny_31 rfl ?_
  refine k_pick (lv' := [(0, .ref (a 34)), (1, .int x1), (2, .int x2_2), (3, .int x3_3)]) [2, 3, 1, 0] rfl ?_
  exact ih x1 x2_2 x3_3 hf

theorem m_No_knownByAny (l : Launch) (G : k_G) (a : Nat → Nat) (tl : Value) (n : Nat) (t : k_St) (x1 : Int32) {r : Int32} (hf : f_No_knownByAny n t x1 = some r) : k_CI l G yX3_knownByAny cX3_knownByAny 4 (some .int) 3 (k_WX G.2.1 a tl t) [.ref (a 34), .int x1] r (k_WX G.2.1 a tl t) := by
  refine k_startI (lv := [(0, .ref (a 34)), (1, .int x1)]) (by decide +kernel) (Nat.le_of_ble_eq_true rfl) rfl ?_
  intro p e s m args below meth c hA hr
  have hA : k_Amb p s m args meth c cX3_knownByAny 4 "TaleShares$Now" G _ := hA
  unfold f_No_knownByAny at hf
  refine k_iconst hA dX3_knownByAny_0 kc_i_0 ?_
  refine k_istore_n (i := 2) (lv' := [(2, .int (0 : Int32)), (0, .ref (a 34)), (1, .int x1)]) hA dX3_knownByAny_1 rfl rfl (Nat.le_of_ble_eq_true rfl) rfl ?_
  refine k_iconst hA dX3_knownByAny_2 kc_i_0 ?_
  refine k_istore_n (i := 3) (lv' := [(3, .int (0 : Int32)), (2, .int (0 : Int32)), (0, .ref (a 34)), (1, .int x1)]) hA dX3_knownByAny_3 rfl rfl (Nat.le_of_ble_eq_true rfl) rfl ?_
  refine k_pick (lv' := [(0, .ref (a 34)), (1, .int x1), (2, .int (0 : Int32)), (3, .int (0 : Int32))]) [2, 3, 1, 0] rfl ?_
  exact m_No_knownByAny_4 l G a tl n t hA hr n x1 (0 : Int32) (0 : Int32) hf

def f_X_askAll_69 (n : Nat) (rec32 : Int32 → Int32 → Int32 → Int32 → k_St → Option (Int32 × k_St)) (x1 : Int32) (x2 : Int32) (x3 : Int32) (x4 : Int32) (s0 : Int32) (t : k_St) : Option (Int32 × k_St) := (if (x4 &&& x3) = 0 then (if s0 = 0 then k_lt (x4 + (1 : Int32)) (fun x4_2 => rec32 x1 x2 x3 x4_2 t) else k_cp (f_No_knownByAny n t x4) (fun r_3 => k_cp (f_Ta_makeSense n t ((f_No_knownBy t x1) ||| r_3)) (fun r_4 => (if (k_b r_4) = 0 then k_lt (x4 + (1 : Int32)) (fun x4_5 => rec32 x1 x2 x3 x4_5 t) else k_lt (x4 + (1 : Int32)) (fun x4_6 => rec32 x1 x4 x3 x4_6 t))))) else k_lt (x4 + (1 : Int32)) (fun x4_1 => rec32 x1 x2 x3 x4_1 t))
def f_X_askAll_64 (n : Nat) (rec32 : Int32 → Int32 → Int32 → Int32 → k_St → Option (Int32 × k_St)) (x1 : Int32) (x2 : Int32) (x3 : Int32) (x4 : Int32) (t : k_St) : Option (Int32 × k_St) := f_X_askAll_69 n rec32 x1 x2 x3 x4 (1 : Int32) t
def f_X_askAll_32 (n : Nat) : Nat → Int32 → Int32 → Int32 → Int32 → k_St → Option (Int32 × k_St)
  | 0, _, _, _, _, _ => none
  | k + 1, x1, x2, x3, x4, t => (if ((1 : Int32) <<< ((t.1 2 4) &&& 31)) ≤ x4 then k_lt (f_X_answer x2 t) (fun q_1 => some (q_1.1, q_1.2)) else (if x2 = (-2 : Int32) then f_X_askAll_64 n (f_X_askAll_32 n k) x1 x2 x3 x4 t else (if (f_In_bitCount_0f7a4 x2) ≤ (f_In_bitCount_0f7a4 x4) then f_X_askAll_69 n (f_X_askAll_32 n k) x1 x2 x3 x4 (0 : Int32) t else f_X_askAll_64 n (f_X_askAll_32 n k) x1 x2 x3 x4 t)))
def f_X_askAll (n : Nat) (x1 : Int32) (t : k_St) : Option (Int32 × k_St) := (if (k_b (f_X_noHouse t x1)) = 0 then k_lt ((t.1 2 6) ||| ((1 : Int32) <<< (x1 &&& 31))) (fun x3_1 => f_X_askAll_32 n n x1 (-2 : Int32) x3_1 (0 : Int32) t) else k_lt (f_X_refuse (1 : Int32) t) (fun q_2 => some (q_2.1, q_2.2)))
theorem m_X_askAll_69 {p : Program} (l : Launch) {e : Env} {s : State} {m : MethodId} {args : Array Value} {below : List Frame} {meth : Method} {c : Code} (G : k_G) (a : Nat → Nat) (tl : Value) (n : Nat) {w0 : va_W} {r : Int32} {t' : k_St} (hA : k_Amb p s m args meth c cX10_askAll 6 "TaleShares" G (va_A w0 s.heap.size)) (hr : meth.sig.returnType = (some .int)) (rec32 : Int32 → Int32 → Int32 → Int32 → k_St → Option (Int32 × k_St)) (hrec32 : ∀ (x1 : Int32) (x2 : Int32) (x3 : Int32) (x4 : Int32) (t : k_St), rec32 x1 x2 x3 x4 t = some (r, t') → k_Go p l e (k_rm 4) s m args below meth c (k_QI G w0 r (k_WX G.2.1 a tl t') args s below) 6 G (va_A w0 s.heap.size) (k_WX G.2.1 a tl t) 32 [(0, .ref (a 0)), (1, .int x1), (2, .int x2), (3, .int x3), (4, .int x4)] []) : ∀ (x1 : Int32) (x2 : Int32) (x3 : Int32) (x4 : Int32) (s0 : Int32) (t : k_St), f_X_askAll_69 n rec32 x1 x2 x3 x4 s0 t = some (r, t') → k_Go p l e (k_rm 4) s m args below meth c (k_QI G w0 r (k_WX G.2.1 a tl t') args s below) 6 G (va_A w0 s.heap.size) (k_WX G.2.1 a tl t) 69 [(0, .ref (a 0)), (1, .int x1), (2, .int x2), (3, .int x3), (4, .int x4)] [.int s0] := by
  intro x1 x2 x3 x4 s0 t hf
  unfold f_X_askAll_69 at hf
  refine k_istore (lv' := [(5, .int s0), (0, .ref (a 0)), (1, .int x1), (2, .int x2), (3, .int x3), (4, .int x4)]) hA dX10_askAll_69 rfl (Nat.le_of_ble_eq_true rfl) rfl ?_
  refine k_iload hA dX10_askAll_71 5 rfl ?_
  refine k_iload_n (i := 3) hA dX10_askAll_73 rfl 4 rfl ?_
  refine k_iand hA dX10_askAll_74 ?_
  refine k_if_ne (tgt := 114) hA dX10_askAll_75 rfl (fun hc => ?_) (fun hc => ?_)
  · have hf := k_iff hc hf
    obtain ⟨x4_1, ex4_1, hf⟩ := k_lt_e hf
    refine k_iinc (j := 5) (v := x4_1) (lv' := [(4, .int x4_1), (5, .int s0), (0, .ref (a 0)), (1, .int x1), (2, .int x2), (3, .int x3)]) hA dX10_askAll_114 rfl (k_inc ex4_1 kc_i_1) (Nat.le_of_ble_eq_true rfl) rfl ?_
    refine k_goto (tgt := 32) hA dX10_askAll_117 rfl ?_
    refine k_pick (lv' := [(0, .ref (a 0)), (1, .int x1), (2, .int x2), (3, .int x3), (4, .int x4_1)]) [2, 3, 4, 5, 0] rfl ?_
    exact hrec32 x1 x2 x3 x4_1 t hf
  have hf := k_ift hc hf
  refine k_iload hA dX10_askAll_78 0 rfl ?_
  refine k_if_eq (tgt := 114) hA dX10_askAll_80 rfl (fun hc => ?_) (fun hc => ?_)
  · have hf := k_ift hc hf
    obtain ⟨x4_2, ex4_2, hf⟩ := k_lt_e hf
    refine k_iinc (j := 5) (v := x4_2) (lv' := [(4, .int x4_2), (5, .int s0), (0, .ref (a 0)), (1, .int x1), (2, .int x2), (3, .int x3)]) hA dX10_askAll_114 rfl (k_inc ex4_2 kc_i_1) (Nat.le_of_ble_eq_true rfl) rfl ?_
    refine k_goto (tgt := 32) hA dX10_askAll_117 rfl ?_
    refine k_pick (lv' := [(0, .ref (a 0)), (1, .int x1), (2, .int x2), (3, .int x3), (4, .int x4_2)]) [2, 3, 4, 5, 0] rfl ?_
    exact hrec32 x1 x2 x3 x4_2 t hf
  have hf := k_iff hc hf
  obtain ⟨r_3, hr_3, hf⟩ := k_cp_e hf
  obtain ⟨r_4, hr_4, hf⟩ := k_cp_e hf
  refine k_aload_n (i := 0) hA dX10_askAll_83 rfl 1 rfl ?_
  refine gt_X_0_1 hA wd_438 dX10_askAll_84 ?_
  refine k_aload_n (i := 0) hA dX10_askAll_87 rfl 1 rfl ?_
  refine gt_X_0_6 hA wd_443 dX10_askAll_88 ?_
  refine k_iload_n (i := 1) hA dX10_askAll_91 rfl 2 rfl ?_
  refine k_callVi (As := [.int x1]) (rest := [.ref (a 21)]) hA (m_No_knownBy l G a tl t x1 rfl) cd_X3_knownBy wd_780 (hc_X_34 G.2.1 a tl t) rfl rfl (Nat.le_of_ble_eq_true rfl) rfl rfl (Nat.le_of_ble_eq_true rfl) dX10_askAll_92 ?_
  refine k_aload_n (i := 0) hA dX10_askAll_95 rfl 1 rfl ?_
  refine gt_X_0_6 hA wd_443 dX10_askAll_96 ?_
  refine k_iload hA dX10_askAll_99 5 rfl ?_
  refine k_callVi (As := [.int x4]) (rest := [.int (f_No_knownBy t x1), .ref (a 21)]) hA (m_No_knownByAny l G a tl n t x4 hr_3) cd_X3_knownByAny wd_897 (hc_X_34 G.2.1 a tl t) rfl rfl (Nat.le_of_ble_eq_true rfl) rfl rfl (Nat.le_of_ble_eq_true rfl) dX10_askAll_101 ?_
  refine k_ior hA dX10_askAll_104 ?_
  refine k_callVi (As := [.int ((f_No_knownBy t x1) ||| r_3)]) (rest := []) hA (m_Ta_makeSense l G a tl n t ((f_No_knownBy t x1) ||| r_3) hr_4) cd_X7_makeSense wd_785 (hc_X_21 G.2.1 a tl t) rfl rfl (Nat.le_of_ble_eq_true rfl) rfl rfl (Nat.le_of_ble_eq_true rfl) dX10_askAll_105 ?_
  refine k_if_eq (tgt := 114) hA dX10_askAll_108 rfl (fun hc => ?_) (fun hc => ?_)
  · have hf := k_ift hc hf
    obtain ⟨x4_5, ex4_5, hf⟩ := k_lt_e hf
    refine k_iinc (j := 5) (v := x4_5) (lv' := [(4, .int x4_5), (5, .int s0), (0, .ref (a 0)), (1, .int x1), (2, .int x2), (3, .int x3)]) hA dX10_askAll_114 rfl (k_inc ex4_5 kc_i_1) (Nat.le_of_ble_eq_true rfl) rfl ?_
    refine k_goto (tgt := 32) hA dX10_askAll_117 rfl ?_
    refine k_pick (lv' := [(0, .ref (a 0)), (1, .int x1), (2, .int x2), (3, .int x3), (4, .int x4_5)]) [2, 3, 4, 5, 0] rfl ?_
    exact hrec32 x1 x2 x3 x4_5 t hf
  have hf := k_iff hc hf
  obtain ⟨x4_6, ex4_6, hf⟩ := k_lt_e hf
  refine k_iload hA dX10_askAll_111 5 rfl ?_
  refine k_istore_n (i := 2) (lv' := [(2, .int x4), (5, .int s0), (0, .ref (a 0)), (1, .int x1), (3, .int x3), (4, .int x4)]) hA dX10_askAll_113 rfl rfl (Nat.le_of_ble_eq_true rfl) rfl ?_
  refine k_iinc (j := 5) (v := x4_6) (lv' := [(4, .int x4_6), (2, .int x4), (5, .int s0), (0, .ref (a 0)), (1, .int x1), (3, .int x3)]) hA dX10_askAll_114 rfl (k_inc ex4_6 kc_i_1) (Nat.le_of_ble_eq_true rfl) rfl ?_
  refine k_goto (tgt := 32) hA dX10_askAll_117 rfl ?_
  refine k_pick (lv' := [(0, .ref (a 0)), (1, .int x1), (2, .int x4), (3, .int x3), (4, .int x4_6)]) [3, 4, 1, 5, 0] rfl ?_
  exact hrec32 x1 x4 x3 x4_6 t hf

theorem m_X_askAll_64 {p : Program} (l : Launch) {e : Env} {s : State} {m : MethodId} {args : Array Value} {below : List Frame} {meth : Method} {c : Code} (G : k_G) (a : Nat → Nat) (tl : Value) (n : Nat) {w0 : va_W} {r : Int32} {t' : k_St} (hA : k_Amb p s m args meth c cX10_askAll 6 "TaleShares" G (va_A w0 s.heap.size)) (hr : meth.sig.returnType = (some .int)) (rec32 : Int32 → Int32 → Int32 → Int32 → k_St → Option (Int32 × k_St)) (hrec32 : ∀ (x1 : Int32) (x2 : Int32) (x3 : Int32) (x4 : Int32) (t : k_St), rec32 x1 x2 x3 x4 t = some (r, t') → k_Go p l e (k_rm 4) s m args below meth c (k_QI G w0 r (k_WX G.2.1 a tl t') args s below) 6 G (va_A w0 s.heap.size) (k_WX G.2.1 a tl t) 32 [(0, .ref (a 0)), (1, .int x1), (2, .int x2), (3, .int x3), (4, .int x4)] []) : ∀ (x1 : Int32) (x2 : Int32) (x3 : Int32) (x4 : Int32) (t : k_St), f_X_askAll_64 n rec32 x1 x2 x3 x4 t = some (r, t') → k_Go p l e (k_rm 4) s m args below meth c (k_QI G w0 r (k_WX G.2.1 a tl t') args s below) 6 G (va_A w0 s.heap.size) (k_WX G.2.1 a tl t) 64 [(0, .ref (a 0)), (1, .int x1), (2, .int x2), (3, .int x3), (4, .int x4)] [] := by
  intro x1 x2 x3 x4 t hf
  unfold f_X_askAll_64 at hf
  refine k_iconst hA dX10_askAll_64 kc_i_1 ?_
  refine k_goto (tgt := 69) hA dX10_askAll_65 rfl ?_
  exact m_X_askAll_69 l G a tl n hA hr rec32 hrec32 x1 x2 x3 x4 (1 : Int32) t hf

theorem m_X_askAll_32 {p : Program} (l : Launch) {e : Env} {s : State} {m : MethodId} {args : Array Value} {below : List Frame} {meth : Method} {c : Code} (G : k_G) (a : Nat → Nat) (tl : Value) (n : Nat) {w0 : va_W} {r : Int32} {t' : k_St} (hA : k_Amb p s m args meth c cX10_askAll 6 "TaleShares" G (va_A w0 s.heap.size)) (hr : meth.sig.returnType = (some .int)) : ∀ (k : Nat) (x1 : Int32) (x2 : Int32) (x3 : Int32) (x4 : Int32) (t : k_St), f_X_askAll_32 n k x1 x2 x3 x4 t = some (r, t') → k_Go p l e (k_rm 4) s m args below meth c (k_QI G w0 r (k_WX G.2.1 a tl t') args s below) 6 G (va_A w0 s.heap.size) (k_WX G.2.1 a tl t) 32 [(0, .ref (a 0)), (1, .int x1), (2, .int x2), (3, .int x3), (4, .int x4)] [] := by
  intro k
  induction k with
  | zero => intro x1 x2 x3 x4 t hf; cases hf
  | succ k ih =>
  intro x1 x2 x3 x4 t hf
  rw [f_X_askAll_32] at hf
  refine k_iload hA dX10_askAll_32 4 rfl ?_
  refine k_iconst hA dX10_askAll_34 kc_i_1 ?_
  refine k_aload_n (i := 0) hA dX10_askAll_35 rfl 0 rfl ?_
  refine gt_X_0_7 hA wd_444 dX10_askAll_36 ?_
  refine gt_X_2_4 hA wd_177 dX10_askAll_39 ?_
  refine k_ishl hA dX10_askAll_42 ?_
  refine k_icmp_ge (tgt := 120) hA dX10_askAll_43 rfl (fun hc => ?_) (fun hc => ?_)
  · have hf := k_ift hc hf
    obtain ⟨⟨rq_1, tq_1⟩, hq_1, hf⟩ := k_lt_e hf
    dsimp only at hf
    obtain ⟨rfl, rfl⟩ := k_r2 hf
    refine k_aload_n (i := 0) hA dX10_askAll_120 rfl 0 rfl ?_
    refine k_iload_n (i := 2) hA dX10_askAll_121 rfl 2 rfl ?_
    refine k_callVi (As := [.int x2]) (rest := []) hA (m_X_answer l G a tl x2 t hq_1.symm) cd_X10_answer wd_732 (hc_X_0 G.2.1 a tl t) rfl rfl (Nat.le_of_ble_eq_true rfl) rfl rfl (Nat.le_of_ble_eq_true rfl) dX10_askAll_122 ?_
    exact k_iret hA hr rfl dX10_askAll_125
  have hf := k_iff hc hf
  refine k_iload_n (i := 2) hA dX10_askAll_46 rfl 2 rfl ?_
  refine k_bipush hA dX10_askAll_47 kc_b_m2 ?_
  refine k_icmp_eq (tgt := 64) hA dX10_askAll_49 rfl (fun hc => ?_) (fun hc => ?_)
  · have hf := k_ift hc hf
    exact m_X_askAll_64 l G a tl n hA hr (f_X_askAll_32 n k) ih x1 x2 x3 x4 t hf
  have hf := k_iff hc hf
  refine k_iload hA dX10_askAll_52 4 rfl ?_
  refine k_callSi (As := [.int x4]) (rest := []) hA (m_In_bitCount_0f7a4 l G (k_WX G.2.1 a tl t) x4 rfl) cd_J6_bitCount_0f7a4 wd_871 (Nat.le_of_ble_eq_true rfl) rfl rfl (Nat.le_of_ble_eq_true rfl) dX10_askAll_54 ?_
  refine k_iload_n (i := 2) hA dX10_askAll_57 rfl 2 rfl ?_
  refine k_callSi (As := [.int x2]) (rest := [.int (f_In_bitCount_0f7a4 x4)]) hA (m_In_bitCount_0f7a4 l G (k_WX G.2.1 a tl t) x2 rfl) cd_J6_bitCount_0f7a4 wd_871 (Nat.le_of_ble_eq_true rfl) rfl rfl (Nat.le_of_ble_eq_true rfl) dX10_askAll_58 ?_
  refine k_icmp_ge (tgt := 68) hA dX10_askAll_61 rfl (fun hc => ?_) (fun hc => ?_)
  · have hf := k_ift hc hf
    refine k_iconst hA dX10_askAll_68 kc_i_0 ?_
    exact m_X_askAll_69 l G a tl n hA hr (f_X_askAll_32 n k) ih x1 x2 x3 x4 (0 : Int32) t hf
  have hf := k_iff hc hf
  exact m_X_askAll_64 l G a tl n hA hr (f_X_askAll_32 n k) ih x1 x2 x3 x4 t hf

theorem m_X_askAll (l : Launch) (G : k_G) (a : Nat → Nat) (tl : Value) (n : Nat) (x1 : Int32) (t : k_St) {r : Int32} {t' : k_St} (hf : f_X_askAll n x1 t = some (r, t')) : k_CI l G yX10_askAll cX10_askAll 6 (some .int) 4 (k_WX G.2.1 a tl t) [.ref (a 0), .int x1] r (k_WX G.2.1 a tl t') := by
  refine k_startI (lv := [(0, .ref (a 0)), (1, .int x1)]) (by decide +kernel) (Nat.le_of_ble_eq_true rfl) rfl ?_
  intro p e s m args below meth c hA hr
  have hA : k_Amb p s m args meth c cX10_askAll 6 "TaleShares" G _ := hA
  unfold f_X_askAll at hf
  refine k_aload_n (i := 0) hA dX10_askAll_0 rfl 0 rfl ?_
  refine k_iload_n (i := 1) hA dX10_askAll_1 rfl 1 rfl ?_
  refine k_callVi (As := [.int x1]) (rest := []) hA (m_X_noHouse l G a tl t x1 rfl) cd_X10_noHouse wd_776 (hc_X_0 G.2.1 a tl t) rfl rfl (Nat.le_of_ble_eq_true rfl) rfl rfl (Nat.le_of_ble_eq_true rfl) dX10_askAll_2 ?_
  refine k_if_eq (tgt := 14) hA dX10_askAll_5 rfl (fun hc => ?_) (fun hc => ?_)
  · have hf := k_ift hc hf
    obtain ⟨x3_1, ex3_1, hf⟩ := k_lt_e hf
    refine k_bipush hA dX10_askAll_14 kc_b_m2 ?_
    refine k_istore_n (i := 2) (lv' := [(2, .int (-2 : Int32)), (0, .ref (a 0)), (1, .int x1)]) hA dX10_askAll_16 rfl rfl (Nat.le_of_ble_eq_true rfl) rfl ?_
    refine k_aload_n (i := 0) hA dX10_askAll_17 rfl 1 rfl ?_
    refine gt_X_0_7 hA wd_444 dX10_askAll_18 ?_
    refine gt_X_2_6 hA wd_183 dX10_askAll_21 ?_
    refine k_iconst hA dX10_askAll_24 kc_i_1 ?_
    refine k_iload_n (i := 1) hA dX10_askAll_25 rfl 2 rfl ?_
    refine k_ishl hA dX10_askAll_26 ?_
    refine k_ior hA dX10_askAll_27 ?_
    refine k_istore_n (i := 3) (lv' := [(3, .int x3_1), (2, .int (-2 : Int32)), (0, .ref (a 0)), (1, .int x1)]) hA dX10_askAll_28 rfl ex3_1 (Nat.le_of_ble_eq_true rfl) rfl ?_
    refine k_iconst hA dX10_askAll_29 kc_i_0 ?_
    refine k_istore (lv' := [(4, .int (0 : Int32)), (3, .int x3_1), (2, .int (-2 : Int32)), (0, .ref (a 0)), (1, .int x1)]) hA dX10_askAll_30 rfl (Nat.le_of_ble_eq_true rfl) rfl ?_
    refine k_pick (lv' := [(0, .ref (a 0)), (1, .int x1), (2, .int (-2 : Int32)), (3, .int x3_1), (4, .int (0 : Int32))]) [3, 4, 2, 1, 0] rfl ?_
    exact m_X_askAll_32 l G a tl n hA hr n x1 (-2 : Int32) x3_1 (0 : Int32) t hf
  have hf := k_iff hc hf
  obtain ⟨⟨rq_2, tq_2⟩, hq_2, hf⟩ := k_lt_e hf
  dsimp only at hf
  obtain ⟨rfl, rfl⟩ := k_r2 hf
  refine k_aload_n (i := 0) hA dX10_askAll_8 rfl 0 rfl ?_
  refine k_iconst hA dX10_askAll_9 kc_i_1 ?_
  refine k_callVi (As := [.int (1 : Int32)]) (rest := []) hA (m_X_refuse l G a tl (1 : Int32) t hq_2.symm) cd_X10_refuse wd_480 (hc_X_0 G.2.1 a tl t) rfl rfl (Nat.le_of_ble_eq_true rfl) rfl rfl (Nat.le_of_ble_eq_true rfl) dX10_askAll_10 ?_
  exact k_iret hA hr rfl dX10_askAll_13

def f_X_sense_17 (n : Nat) : Nat → Int32 → Int32 → k_St → Option (Int32 × k_St)
  | 0, _, _, _ => none
  | k + 1, x1, x2, t => (if (t.1 2 4) ≤ x2 then k_lt (f_X_answer x1 t) (fun q_1 => some (q_1.1, q_1.2)) else k_cp (f_X_hasSense n t x2) (fun r_2 => (if (k_b r_2) = 0 then k_lt (x2 + (1 : Int32)) (fun x2_3 => f_X_sense_17 n k x1 x2_3 t) else k_lt (x1 ||| ((1 : Int32) <<< (x2 &&& 31))) (fun x1_4 => k_lt (x2 + (1 : Int32)) (fun x2_5 => f_X_sense_17 n k x1_4 x2_5 t)))))
def f_X_sense (n : Nat) (t : k_St) : Option (Int32 × k_St) := (if (t.1 0 10) = 0 then k_lt (f_X_refuse (1 : Int32) t) (fun q_1 => some (q_1.1, q_1.2)) else f_X_sense_17 n n (0 : Int32) (0 : Int32) t)
theorem m_X_sense_17 {p : Program} (l : Launch) {e : Env} {s : State} {m : MethodId} {args : Array Value} {below : List Frame} {meth : Method} {c : Code} (G : k_G) (a : Nat → Nat) (tl : Value) (n : Nat) {w0 : va_W} {r : Int32} {t' : k_St} (hA : k_Amb p s m args meth c cX10_sense 3 "TaleShares" G (va_A w0 s.heap.size)) (hr : meth.sig.returnType = (some .int)) : ∀ (k : Nat) (x1 : Int32) (x2 : Int32) (t : k_St), f_X_sense_17 n k x1 x2 t = some (r, t') → k_Go p l e (k_rm 5) s m args below meth c (k_QI G w0 r (k_WX G.2.1 a tl t') args s below) 3 G (va_A w0 s.heap.size) (k_WX G.2.1 a tl t) 17 [(0, .ref (a 0)), (1, .int x1), (2, .int x2)] [] := by
  intro k
  induction k with
  | zero => intro x1 x2 t hf; cases hf
  | succ k ih =>
  intro x1 x2 t hf
  rw [f_X_sense_17] at hf
  refine k_iload_n (i := 2) hA dX10_sense_17 rfl 2 rfl ?_
  refine k_aload_n (i := 0) hA dX10_sense_18 rfl 0 rfl ?_
  refine gt_X_0_7 hA wd_444 dX10_sense_19 ?_
  refine gt_X_2_4 hA wd_177 dX10_sense_22 ?_
  refine k_icmp_ge (tgt := 48) hA dX10_sense_25 rfl (fun hc => ?_) (fun hc => ?_)
  · have hf := k_ift hc hf
    obtain ⟨⟨rq_1, tq_1⟩, hq_1, hf⟩ := k_lt_e hf
    dsimp only at hf
    obtain ⟨rfl, rfl⟩ := k_r2 hf
    refine k_aload_n (i := 0) hA dX10_sense_48 rfl 0 rfl ?_
    refine k_iload_n (i := 1) hA dX10_sense_49 rfl 1 rfl ?_
    refine k_callVi (As := [.int x1]) (rest := []) hA (m_X_answer l G a tl x1 t hq_1.symm) cd_X10_answer wd_732 (hc_X_0 G.2.1 a tl t) rfl rfl (Nat.le_of_ble_eq_true rfl) rfl rfl (Nat.le_of_ble_eq_true rfl) dX10_sense_50 ?_
    exact k_iret hA hr rfl dX10_sense_53
  have hf := k_iff hc hf
  obtain ⟨r_2, hr_2, hf⟩ := k_cp_e hf
  refine k_aload_n (i := 0) hA dX10_sense_28 rfl 0 rfl ?_
  refine k_iload_n (i := 2) hA dX10_sense_29 rfl 2 rfl ?_
  refine k_callVi (As := [.int x2]) (rest := []) hA (m_X_hasSense l G a tl n t x2 hr_2) cd_X10_hasSense wd_781 (hc_X_0 G.2.1 a tl t) rfl rfl (Nat.le_of_ble_eq_true rfl) rfl rfl (Nat.le_of_ble_eq_true rfl) dX10_sense_30 ?_
  refine k_if_eq (tgt := 42) hA dX10_sense_33 rfl (fun hc => ?_) (fun hc => ?_)
  · have hf := k_ift hc hf
    obtain ⟨x2_3, ex2_3, hf⟩ := k_lt_e hf
    refine k_iinc (j := 2) (v := x2_3) (lv' := [(2, .int x2_3), (0, .ref (a 0)), (1, .int x1)]) hA dX10_sense_42 rfl (k_inc ex2_3 kc_i_1) (Nat.le_of_ble_eq_true rfl) rfl ?_
    refine k_goto (tgt := 17) hA dX10_sense_45 rfl ?_
    refine k_pick (lv' := [(0, .ref (a 0)), (1, .int x1), (2, .int x2_3)]) [1, 2, 0] rfl ?_
    exact ih x1 x2_3 t hf
  have hf := k_iff hc hf
  obtain ⟨x1_4, ex1_4, hf⟩ := k_lt_e hf
  obtain ⟨x2_5, ex2_5, hf⟩ := k_lt_e hf
  refine k_iload_n (i := 1) hA dX10_sense_36 rfl 1 rfl ?_
  refine k_iconst hA dX10_sense_37 kc_i_1 ?_
  refine k_iload_n (i := 2) hA dX10_sense_38 rfl 2 rfl ?_
  refine k_ishl hA dX10_sense_39 ?_
  refine k_ior hA dX10_sense_40 ?_
  refine k_istore_n (i := 1) (lv' := [(1, .int x1_4), (0, .ref (a 0)), (2, .int x2)]) hA dX10_sense_41 rfl ex1_4 (Nat.le_of_ble_eq_true rfl) rfl ?_
  refine k_iinc (j := 2) (v := x2_5) (lv' := [(2, .int x2_5), (1, .int x1_4), (0, .ref (a 0))]) hA dX10_sense_42 rfl (k_inc ex2_5 kc_i_1) (Nat.le_of_ble_eq_true rfl) rfl ?_
  refine k_goto (tgt := 17) hA dX10_sense_45 rfl ?_
  refine k_pick (lv' := [(0, .ref (a 0)), (1, .int x1_4), (2, .int x2_5)]) [2, 1, 0] rfl ?_
  exact ih x1_4 x2_5 t hf

theorem m_X_sense (l : Launch) (G : k_G) (a : Nat → Nat) (tl : Value) (n : Nat) (t : k_St) {r : Int32} {t' : k_St} (hf : f_X_sense n t = some (r, t')) : k_CI l G yX10_sense cX10_sense 3 (some .int) 5 (k_WX G.2.1 a tl t) [.ref (a 0)] r (k_WX G.2.1 a tl t') := by
  refine k_startI (lv := [(0, .ref (a 0))]) (by decide +kernel) (Nat.le_of_ble_eq_true rfl) rfl ?_
  intro p e s m args below meth c hA hr
  have hA : k_Amb p s m args meth c cX10_sense 3 "TaleShares" G _ := hA
  unfold f_X_sense at hf
  refine k_aload_n (i := 0) hA dX10_sense_0 rfl 0 rfl ?_
  refine gt_X_0_8 hA wd_445 dX10_sense_1 ?_
  refine k_if_ne (tgt := 13) hA dX10_sense_4 rfl (fun hc => ?_) (fun hc => ?_)
  · have hf := k_iff hc hf
    refine k_iconst hA dX10_sense_13 kc_i_0 ?_
    refine k_istore_n (i := 1) (lv' := [(1, .int (0 : Int32)), (0, .ref (a 0))]) hA dX10_sense_14 rfl rfl (Nat.le_of_ble_eq_true rfl) rfl ?_
    refine k_iconst hA dX10_sense_15 kc_i_0 ?_
    refine k_istore_n (i := 2) (lv' := [(2, .int (0 : Int32)), (1, .int (0 : Int32)), (0, .ref (a 0))]) hA dX10_sense_16 rfl rfl (Nat.le_of_ble_eq_true rfl) rfl ?_
    refine k_pick (lv' := [(0, .ref (a 0)), (1, .int (0 : Int32)), (2, .int (0 : Int32))]) [2, 1, 0] rfl ?_
    exact m_X_sense_17 l G a tl n hA hr n (0 : Int32) (0 : Int32) t hf
  have hf := k_ift hc hf
  obtain ⟨⟨rq_1, tq_1⟩, hq_1, hf⟩ := k_lt_e hf
  dsimp only at hf
  obtain ⟨rfl, rfl⟩ := k_r2 hf
  refine k_aload_n (i := 0) hA dX10_sense_7 rfl 0 rfl ?_
  refine k_iconst hA dX10_sense_8 kc_i_1 ?_
  refine k_callVi (As := [.int (1 : Int32)]) (rest := []) hA (m_X_refuse l G a tl (1 : Int32) t hq_1.symm) cd_X10_refuse wd_480 (hc_X_0 G.2.1 a tl t) rfl rfl (Nat.le_of_ble_eq_true rfl) rfl rfl (Nat.le_of_ble_eq_true rfl) dX10_sense_9 ?_
  exact k_iret hA hr rfl dX10_sense_12

def f_X_wisest_20 (n : Nat) : Nat → Int32 → Int32 → Int32 → k_St → Option (Int32 × k_St)
  | 0, _, _, _, _ => none
  | k + 1, x1, x2, x3, t => (if (t.1 2 4) ≤ x3 then k_lt (f_X_answer x1 t) (fun q_1 => some (q_1.1, q_1.2)) else k_lt (f_In_bitCount_0f7a4 (f_No_knownBy t x3)) (fun x4_2 => (if x4_2 ≤ x2 then k_lt (x3 + (1 : Int32)) (fun x3_3 => f_X_wisest_20 n k x1 x2 x3_3 t) else k_lt (x3 + (1 : Int32)) (fun x3_4 => f_X_wisest_20 n k x3 x4_2 x3_4 t))))
def f_X_wisest (n : Nat) (t : k_St) : Option (Int32 × k_St) := (if (t.1 0 10) = 0 then k_lt (f_X_refuse (1 : Int32) t) (fun q_1 => some (q_1.1, q_1.2)) else f_X_wisest_20 n n (-2 : Int32) (-1 : Int32) (0 : Int32) t)
theorem m_X_wisest_20 {p : Program} (l : Launch) {e : Env} {s : State} {m : MethodId} {args : Array Value} {below : List Frame} {meth : Method} {c : Code} (G : k_G) (a : Nat → Nat) (tl : Value) (n : Nat) {w0 : va_W} {r : Int32} {t' : k_St} (hA : k_Amb p s m args meth c cX10_wisest 5 "TaleShares" G (va_A w0 s.heap.size)) (hr : meth.sig.returnType = (some .int)) : ∀ (k : Nat) (x1 : Int32) (x2 : Int32) (x3 : Int32) (t : k_St), f_X_wisest_20 n k x1 x2 x3 t = some (r, t') → k_Go p l e (k_rm 3) s m args below meth c (k_QI G w0 r (k_WX G.2.1 a tl t') args s below) 5 G (va_A w0 s.heap.size) (k_WX G.2.1 a tl t) 20 [(0, .ref (a 0)), (1, .int x1), (2, .int x2), (3, .int x3)] [] := by
  intro k
  induction k with
  | zero => intro x1 x2 x3 t hf; cases hf
  | succ k ih =>
  intro x1 x2 x3 t hf
  rw [f_X_wisest_20] at hf
  refine k_iload_n (i := 3) hA dX10_wisest_20 rfl 3 rfl ?_
  refine k_aload_n (i := 0) hA dX10_wisest_21 rfl 0 rfl ?_
  refine gt_X_0_7 hA wd_444 dX10_wisest_22 ?_
  refine gt_X_2_4 hA wd_177 dX10_wisest_25 ?_
  refine k_icmp_ge (tgt := 61) hA dX10_wisest_28 rfl (fun hc => ?_) (fun hc => ?_)
  · have hf := k_ift hc hf
    obtain ⟨⟨rq_1, tq_1⟩, hq_1, hf⟩ := k_lt_e hf
    dsimp only at hf
    obtain ⟨rfl, rfl⟩ := k_r2 hf
    refine k_aload_n (i := 0) hA dX10_wisest_61 rfl 0 rfl ?_
    refine k_iload_n (i := 1) hA dX10_wisest_62 rfl 1 rfl ?_
    refine k_callVi (As := [.int x1]) (rest := []) hA (m_X_answer l G a tl x1 t hq_1.symm) cd_X10_answer wd_732 (hc_X_0 G.2.1 a tl t) rfl rfl (Nat.le_of_ble_eq_true rfl) rfl rfl (Nat.le_of_ble_eq_true rfl) dX10_wisest_63 ?_
    exact k_iret hA hr rfl dX10_wisest_66
  have hf := k_iff hc hf
  obtain ⟨x4_2, ex4_2, hf⟩ := k_lt_e hf
  refine k_aload_n (i := 0) hA dX10_wisest_31 rfl 0 rfl ?_
  refine gt_X_0_6 hA wd_443 dX10_wisest_32 ?_
  refine k_iload_n (i := 3) hA dX10_wisest_35 rfl 3 rfl ?_
  refine k_callVi (As := [.int x3]) (rest := []) hA (m_No_knownBy l G a tl t x3 rfl) cd_X3_knownBy wd_780 (hc_X_34 G.2.1 a tl t) rfl rfl (Nat.le_of_ble_eq_true rfl) rfl rfl (Nat.le_of_ble_eq_true rfl) dX10_wisest_36 ?_
  refine k_callSi (As := [.int (f_No_knownBy t x3)]) (rest := []) hA (m_In_bitCount_0f7a4 l G (k_WX G.2.1 a tl t) (f_No_knownBy t x3) rfl) cd_J6_bitCount_0f7a4 wd_871 (Nat.le_of_ble_eq_true rfl) rfl rfl (Nat.le_of_ble_eq_true rfl) dX10_wisest_39 ?_
  refine k_istore (lv' := [(4, .int x4_2), (0, .ref (a 0)), (1, .int x1), (2, .int x2), (3, .int x3)]) hA dX10_wisest_42 ex4_2 (Nat.le_of_ble_eq_true rfl) rfl ?_
  refine k_iload hA dX10_wisest_44 0 rfl ?_
  refine k_iload_n (i := 2) hA dX10_wisest_46 rfl 3 rfl ?_
  refine k_icmp_le (tgt := 55) hA dX10_wisest_47 rfl (fun hc => ?_) (fun hc => ?_)
  · have hf := k_ift hc hf
    obtain ⟨x3_3, ex3_3, hf⟩ := k_lt_e hf
    refine k_iinc (j := 4) (v := x3_3) (lv' := [(3, .int x3_3), (4, .int x4_2), (0, .ref (a 0)), (1, .int x1), (2, .int x2)]) hA dX10_wisest_55 rfl (k_inc ex3_3 kc_i_1) (Nat.le_of_ble_eq_true rfl) rfl ?_
    refine k_goto (tgt := 20) hA dX10_wisest_58 rfl ?_
    refine k_pick (lv' := [(0, .ref (a 0)), (1, .int x1), (2, .int x2), (3, .int x3_3)]) [2, 3, 4, 0] rfl ?_
    exact ih x1 x2 x3_3 t hf
  have hf := k_iff hc hf
  obtain ⟨x3_4, ex3_4, hf⟩ := k_lt_e hf
  refine k_iload_n (i := 3) hA dX10_wisest_50 rfl 4 rfl ?_
  refine k_istore_n (i := 1) (lv' := [(1, .int x3), (4, .int x4_2), (0, .ref (a 0)), (2, .int x2), (3, .int x3)]) hA dX10_wisest_51 rfl rfl (Nat.le_of_ble_eq_true rfl) rfl ?_
  refine k_iload hA dX10_wisest_52 1 rfl ?_
  refine k_istore_n (i := 2) (lv' := [(2, .int x4_2), (1, .int x3), (4, .int x4_2), (0, .ref (a 0)), (3, .int x3)]) hA dX10_wisest_54 rfl rfl (Nat.le_of_ble_eq_true rfl) rfl ?_
  refine k_iinc (j := 4) (v := x3_4) (lv' := [(3, .int x3_4), (2, .int x4_2), (1, .int x3), (4, .int x4_2), (0, .ref (a 0))]) hA dX10_wisest_55 rfl (k_inc ex3_4 kc_i_1) (Nat.le_of_ble_eq_true rfl) rfl ?_
  refine k_goto (tgt := 20) hA dX10_wisest_58 rfl ?_
  refine k_pick (lv' := [(0, .ref (a 0)), (1, .int x3), (2, .int x4_2), (3, .int x3_4)]) [4, 2, 1, 0] rfl ?_
  exact ih x3 x4_2 x3_4 t hf

theorem m_X_wisest (l : Launch) (G : k_G) (a : Nat → Nat) (tl : Value) (n : Nat) (t : k_St) {r : Int32} {t' : k_St} (hf : f_X_wisest n t = some (r, t')) : k_CI l G yX10_wisest cX10_wisest 5 (some .int) 3 (k_WX G.2.1 a tl t) [.ref (a 0)] r (k_WX G.2.1 a tl t') := by
  refine k_startI (lv := [(0, .ref (a 0))]) (by decide +kernel) (Nat.le_of_ble_eq_true rfl) rfl ?_
  intro p e s m args below meth c hA hr
  have hA : k_Amb p s m args meth c cX10_wisest 5 "TaleShares" G _ := hA
  unfold f_X_wisest at hf
  refine k_aload_n (i := 0) hA dX10_wisest_0 rfl 0 rfl ?_
  refine gt_X_0_8 hA wd_445 dX10_wisest_1 ?_
  refine k_if_ne (tgt := 13) hA dX10_wisest_4 rfl (fun hc => ?_) (fun hc => ?_)
  · have hf := k_iff hc hf
    refine k_bipush hA dX10_wisest_13 kc_b_m2 ?_
    refine k_istore_n (i := 1) (lv' := [(1, .int (-2 : Int32)), (0, .ref (a 0))]) hA dX10_wisest_15 rfl rfl (Nat.le_of_ble_eq_true rfl) rfl ?_
    refine k_iconst hA dX10_wisest_16 kc_i_m1 ?_
    refine k_istore_n (i := 2) (lv' := [(2, .int (-1 : Int32)), (1, .int (-2 : Int32)), (0, .ref (a 0))]) hA dX10_wisest_17 rfl rfl (Nat.le_of_ble_eq_true rfl) rfl ?_
    refine k_iconst hA dX10_wisest_18 kc_i_0 ?_
    refine k_istore_n (i := 3) (lv' := [(3, .int (0 : Int32)), (2, .int (-1 : Int32)), (1, .int (-2 : Int32)), (0, .ref (a 0))]) hA dX10_wisest_19 rfl rfl (Nat.le_of_ble_eq_true rfl) rfl ?_
    refine k_pick (lv' := [(0, .ref (a 0)), (1, .int (-2 : Int32)), (2, .int (-1 : Int32)), (3, .int (0 : Int32))]) [3, 2, 1, 0] rfl ?_
    exact m_X_wisest_20 l G a tl n hA hr n (-2 : Int32) (-1 : Int32) (0 : Int32) t hf
  have hf := k_ift hc hf
  obtain ⟨⟨rq_1, tq_1⟩, hq_1, hf⟩ := k_lt_e hf
  dsimp only at hf
  obtain ⟨rfl, rfl⟩ := k_r2 hf
  refine k_aload_n (i := 0) hA dX10_wisest_7 rfl 0 rfl ?_
  refine k_iconst hA dX10_wisest_8 kc_i_1 ?_
  refine k_callVi (As := [.int (1 : Int32)]) (rest := []) hA (m_X_refuse l G a tl (1 : Int32) t hq_1.symm) cd_X10_refuse wd_480 (hc_X_0 G.2.1 a tl t) rfl rfl (Nat.le_of_ble_eq_true rfl) rfl rfl (Nat.le_of_ble_eq_true rfl) dX10_wisest_9 ?_
  exact k_iret hA hr rfl dX10_wisest_12

def f_Pa_partnerBy (t : k_St) (x1 : Int32) (x2 : Int32) : Option Int32 := k_gi x1 26 (some (((t.1 25 x1.toNatClampNeg) >>> (((4 : Int32) * x2) &&& 31)) &&& (15 : Int32)))
theorem m_Pa_partnerBy (l : Launch) (G : k_G) (a : Nat → Nat) (tl : Value) (t : k_St) (x1 : Int32) (x2 : Int32) {r : Int32} (hf : f_Pa_partnerBy t x1 x2 = some r) : k_CI l G yX4_partnerBy cX4_partnerBy 3 (some .int) 1 (k_WX G.2.1 a tl t) [.ref (a 24), .int x1, .int x2] r (k_WX G.2.1 a tl t) := by
  refine k_startI (lv := [(0, .ref (a 24)), (1, .int x1), (2, .int x2)]) (by decide +kernel) (Nat.le_of_ble_eq_true rfl) rfl ?_
  intro p e s m args below meth c hA hr
  have hA : k_Amb p s m args meth c cX4_partnerBy 3 "TaleShares$Park" G _ := hA
  unfold f_Pa_partnerBy at hf
  obtain ⟨hi_1, hf⟩ := k_gi_e hf
  obtain rfl := k_r1 hf
  refine k_aload_n (i := 0) hA dX4_partnerBy_0 rfl 0 rfl ?_
  refine gt_X_24_0 hA wd_323 dX4_partnerBy_1 ?_
  refine k_iload_n (i := 1) hA dX4_partnerBy_4 rfl 1 rfl ?_
  refine ld_X_25 hA hi_1 dX4_partnerBy_5 ?_
  refine k_iconst hA dX4_partnerBy_6 kc_i_4 ?_
  refine k_iload_n (i := 2) hA dX4_partnerBy_7 rfl 2 rfl ?_
  refine k_imul hA dX4_partnerBy_8 ?_
  refine k_ishr hA dX4_partnerBy_9 ?_
  refine k_bipush hA dX4_partnerBy_10 kc_b_15 ?_
  refine k_iand hA dX4_partnerBy_12 ?_
  exact k_iret hA hr rfl dX4_partnerBy_13

def f_Pa_behindRound_6 (n : Nat) (t : k_St) : Nat → Int64 → Int32 → Int64 → Int32 → Option Int64
  | 0, _, _, _, _ => none
  | k + 1, x1, x3, x4, x6 => (if (t.1 24 3) ≤ x6 then some x4 else k_cp (f_Pa_partnerBy t x3 x6) (fun r_1 => (if r_1 = (15 : Int32) then k_lt (x6 + (1 : Int32)) (fun x6_2 => f_Pa_behindRound_6 n t k x1 x3 x4 x6_2) else (if (((t.1 24 4) >>> (r_1 &&& 31)) &&& (1 : Int32)) = 0 then k_lt (f_X_withMore x4 x6 (f_X_partOf x1 r_1)) (fun x4_4 => k_lt (x6 + (1 : Int32)) (fun x6_5 => f_Pa_behindRound_6 n t k x1 x3 x4_4 x6_5)) else k_lt (x6 + (1 : Int32)) (fun x6_3 => f_Pa_behindRound_6 n t k x1 x3 x4 x6_3)))))
def f_Pa_behindRound (n : Nat) (t : k_St) (x1 : Int64) (x3 : Int32) : Option Int64 := f_Pa_behindRound_6 n t n x1 x3 x1 (0 : Int32)
theorem m_Pa_behindRound_6 {p : Program} (l : Launch) {e : Env} {s : State} {m : MethodId} {args : Array Value} {below : List Frame} {meth : Method} {c : Code} (G : k_G) (a : Nat → Nat) (tl : Value) (n : Nat) (t : k_St) {w0 : va_W} {r : Int64} (hA : k_Amb p s m args meth c cX4_behindRound 8 "TaleShares$Park" G (va_A w0 s.heap.size)) (hr : meth.sig.returnType = (some .long)) : ∀ (k : Nat) (x1 : Int64) (x3 : Int32) (x4 : Int64) (x6 : Int32), f_Pa_behindRound_6 n t k x1 x3 x4 x6 = some r → k_Go p l e (k_rm 2) s m args below meth c (k_QL G w0 r (k_WX G.2.1 a tl t) args s below) 8 G (va_A w0 s.heap.size) (k_WX G.2.1 a tl t) 6 [(0, .ref (a 24)), (1, .long x1), (3, .int x3), (4, .long x4), (6, .int x6)] [] := by
  intro k
  induction k with
  | zero => intro x1 x3 x4 x6 hf; cases hf
  | succ k ih =>
  intro x1 x3 x4 x6 hf
  rw [f_Pa_behindRound_6] at hf
  refine k_iload hA dX4_behindRound_6 4 rfl ?_
  refine k_aload_n (i := 0) hA dX4_behindRound_8 rfl 0 rfl ?_
  refine gt_X_24_3 hA wd_326 dX4_behindRound_9 ?_
  refine k_icmp_ge (tgt := 64) hA dX4_behindRound_12 rfl (fun hc => ?_) (fun hc => ?_)
  · have hf := k_ift hc hf
    obtain rfl := k_r1 hf
    refine k_lload hA dX4_behindRound_64 3 rfl ?_
    exact k_lret hA hr dX4_behindRound_66
  have hf := k_iff hc hf
  obtain ⟨r_1, hr_1, hf⟩ := k_cp_e hf
  refine k_aload_n (i := 0) hA dX4_behindRound_15 rfl 0 rfl ?_
  refine k_iload_n (i := 3) hA dX4_behindRound_16 rfl 2 rfl ?_
  refine k_iload hA dX4_behindRound_17 4 rfl ?_
  refine k_callVi (As := [.int x3, .int x6]) (rest := []) hA (m_Pa_partnerBy l G a tl t x3 x6 hr_1) cd_X4_partnerBy wd_935 (hc_X_24 G.2.1 a tl t) rfl rfl (Nat.le_of_ble_eq_true rfl) rfl rfl (Nat.le_of_ble_eq_true rfl) dX4_behindRound_19 ?_
  refine k_istore (lv' := [(7, .int r_1), (0, .ref (a 24)), (1, .long x1), (3, .int x3), (4, .long x4), (6, .int x6)]) hA dX4_behindRound_22 rfl (Nat.le_of_ble_eq_true rfl) rfl ?_
  refine k_iload hA dX4_behindRound_24 0 rfl ?_
  refine k_bipush hA dX4_behindRound_26 kc_b_15 ?_
  refine k_icmp_eq (tgt := 58) hA dX4_behindRound_28 rfl (fun hc => ?_) (fun hc => ?_)
  · have hf := k_ift hc hf
    obtain ⟨x6_2, ex6_2, hf⟩ := k_lt_e hf
    refine k_iinc (j := 5) (v := x6_2) (lv' := [(6, .int x6_2), (7, .int r_1), (0, .ref (a 24)), (1, .long x1), (3, .int x3), (4, .long x4)]) hA dX4_behindRound_58 rfl (k_inc ex6_2 kc_i_1) (Nat.le_of_ble_eq_true rfl) rfl ?_
    refine k_goto (tgt := 6) hA dX4_behindRound_61 rfl ?_
    refine k_pick (lv' := [(0, .ref (a 24)), (1, .long x1), (3, .int x3), (4, .long x4), (6, .int x6_2)]) [2, 3, 4, 5, 0] rfl ?_
    exact ih x1 x3 x4 x6_2 hf
  have hf := k_iff hc hf
  refine k_aload_n (i := 0) hA dX4_behindRound_31 rfl 1 rfl ?_
  refine gt_X_24_4 hA wd_327 dX4_behindRound_32 ?_
  refine k_iload hA dX4_behindRound_35 0 rfl ?_
  refine k_ishr hA dX4_behindRound_37 ?_
  refine k_iconst hA dX4_behindRound_38 kc_i_1 ?_
  refine k_iand hA dX4_behindRound_39 ?_
  refine k_if_ne (tgt := 58) hA dX4_behindRound_40 rfl (fun hc => ?_) (fun hc => ?_)
  · have hf := k_iff hc hf
    obtain ⟨x6_3, ex6_3, hf⟩ := k_lt_e hf
    refine k_iinc (j := 5) (v := x6_3) (lv' := [(6, .int x6_3), (7, .int r_1), (0, .ref (a 24)), (1, .long x1), (3, .int x3), (4, .long x4)]) hA dX4_behindRound_58 rfl (k_inc ex6_3 kc_i_1) (Nat.le_of_ble_eq_true rfl) rfl ?_
    refine k_goto (tgt := 6) hA dX4_behindRound_61 rfl ?_
    refine k_pick (lv' := [(0, .ref (a 24)), (1, .long x1), (3, .int x3), (4, .long x4), (6, .int x6_3)]) [2, 3, 4, 5, 0] rfl ?_
    exact ih x1 x3 x4 x6_3 hf
  have hf := k_ift hc hf
  obtain ⟨x4_4, ex4_4, hf⟩ := k_lt_e hf
  obtain ⟨x6_5, ex6_5, hf⟩ := k_lt_e hf
  refine k_lload hA dX4_behindRound_43 4 rfl ?_
  refine k_iload hA dX4_behindRound_45 5 rfl ?_
  refine k_lload_n (i := 1) hA dX4_behindRound_47 rfl 2 rfl ?_
  refine k_iload hA dX4_behindRound_48 0 rfl ?_
  refine k_callSNi (As := [.long x1, .int r_1]) (rest := [.int x6, .long x4]) hA (m_X_partOf l G (k_WX G.2.1 a tl t) x1 r_1 rfl) cd_X10_partOf nm_RX4_62 (Nat.le_of_ble_eq_true rfl) rfl rfl (Nat.le_of_ble_eq_true rfl) dX4_behindRound_50 ?_
  refine k_callSNl (As := [.long x4, .int x6, .int (f_X_partOf x1 r_1)]) (rest := []) hA (m_X_withMore l G (k_WX G.2.1 a tl t) x4 x6 (f_X_partOf x1 r_1) rfl) cd_X10_withMore nm_RX4_66 (Nat.le_of_ble_eq_true rfl) rfl rfl (Nat.le_of_ble_eq_true rfl) dX4_behindRound_53 ?_
  refine k_lstore (lv' := [(4, .long x4_4), (7, .int r_1), (0, .ref (a 24)), (1, .long x1), (3, .int x3), (6, .int x6)]) hA dX4_behindRound_56 ex4_4 (Nat.le_of_ble_eq_true rfl) rfl ?_
  refine k_iinc (j := 5) (v := x6_5) (lv' := [(6, .int x6_5), (4, .long x4_4), (7, .int r_1), (0, .ref (a 24)), (1, .long x1), (3, .int x3)]) hA dX4_behindRound_58 rfl (k_inc ex6_5 kc_i_1) (Nat.le_of_ble_eq_true rfl) rfl ?_
  refine k_goto (tgt := 6) hA dX4_behindRound_61 rfl ?_
  refine k_pick (lv' := [(0, .ref (a 24)), (1, .long x1), (3, .int x3), (4, .long x4_4), (6, .int x6_5)]) [3, 4, 5, 1, 0] rfl ?_
  exact ih x1 x3 x4_4 x6_5 hf

theorem m_Pa_behindRound (l : Launch) (G : k_G) (a : Nat → Nat) (tl : Value) (n : Nat) (t : k_St) (x1 : Int64) (x3 : Int32) {r : Int64} (hf : f_Pa_behindRound n t x1 x3 = some r) : k_CL l G yX4_behindRound cX4_behindRound 8 (some .long) 2 (k_WX G.2.1 a tl t) [.ref (a 24), .long x1, .int x3] r (k_WX G.2.1 a tl t) := by
  refine k_startL (lv := [(0, .ref (a 24)), (1, .long x1), (3, .int x3)]) (by decide +kernel) (Nat.le_of_ble_eq_true rfl) rfl ?_
  intro p e s m args below meth c hA hr
  have hA : k_Amb p s m args meth c cX4_behindRound 8 "TaleShares$Park" G _ := hA
  unfold f_Pa_behindRound at hf
  refine k_lload_n (i := 1) hA dX4_behindRound_0 rfl 1 rfl ?_
  refine k_lstore (lv' := [(4, .long x1), (0, .ref (a 24)), (1, .long x1), (3, .int x3)]) hA dX4_behindRound_1 rfl (Nat.le_of_ble_eq_true rfl) rfl ?_
  refine k_iconst hA dX4_behindRound_3 kc_i_0 ?_
  refine k_istore (lv' := [(6, .int (0 : Int32)), (4, .long x1), (0, .ref (a 24)), (1, .long x1), (3, .int x3)]) hA dX4_behindRound_4 rfl (Nat.le_of_ble_eq_true rfl) rfl ?_
  refine k_pick (lv' := [(0, .ref (a 24)), (1, .long x1), (3, .int x3), (4, .long x1), (6, .int (0 : Int32))]) [2, 3, 4, 1, 0] rfl ?_
  exact m_Pa_behindRound_6 l G a tl n t hA hr n x1 x3 x1 (0 : Int32) hf

def f_Pa_isTooFar_32 (n : Nat) (t : k_St) (rec2 : Int64 → Int32 → Option Bool) : Nat → Int64 → Int32 → Int32 → Int32 → Option Bool
  | 0, _, _, _, _ => none
  | k + 1, x1, x3, x4, x5 => (if (t.1 24 3) ≤ x5 then (if x4 = 0 then some true else k_lt (x3 + (1 : Int32)) (fun x3_1 => rec2 x1 x3_1)) else (if x4 = 0 then (if (((t.1 24 4) >>> (x5 &&& 31)) &&& (1 : Int32)) = 0 then (if ((f_X_partOf x1 x3) ||| (f_X_partOf x1 x5)) = (t.1 24 5) then k_lt (x5 + (1 : Int32)) (fun x5_5 => f_Pa_isTooFar_32 n t rec2 k x1 x3 (1 : Int32) x5_5) else k_lt (x5 + (1 : Int32)) (fun x5_4 => f_Pa_isTooFar_32 n t rec2 k x1 x3 (0 : Int32) x5_4)) else k_lt (x5 + (1 : Int32)) (fun x5_3 => f_Pa_isTooFar_32 n t rec2 k x1 x3 (0 : Int32) x5_3)) else (if x4 = 0 then some true else k_lt (x3 + (1 : Int32)) (fun x3_2 => rec2 x1 x3_2))))
def f_Pa_isTooFar_2 (n : Nat) (t : k_St) : Nat → Int64 → Int32 → Option Bool
  | 0, _, _ => none
  | k + 1, x1, x3 => (if (t.1 24 3) ≤ x3 then some false else (if (f_X_partOf x1 x3) = (t.1 24 5) then f_Pa_isTooFar_32 n t (f_Pa_isTooFar_2 n t k) n x1 x3 (1 : Int32) (0 : Int32) else f_Pa_isTooFar_32 n t (f_Pa_isTooFar_2 n t k) n x1 x3 (0 : Int32) (0 : Int32)))
def f_Pa_isTooFar (n : Nat) (t : k_St) (x1 : Int64) : Option Bool := f_Pa_isTooFar_2 n t n x1 (0 : Int32)
theorem m_Pa_isTooFar_32 {p : Program} (l : Launch) {e : Env} {s : State} {m : MethodId} {args : Array Value} {below : List Frame} {meth : Method} {c : Code} (G : k_G) (a : Nat → Nat) (tl : Value) (n : Nat) (t : k_St) {w0 : va_W} {r : Bool} (hA : k_Amb p s m args meth c cX4_isTooFar 6 "TaleShares$Park" G (va_A w0 s.heap.size)) (hr : meth.sig.returnType = (some .boolean)) (rec2 : Int64 → Int32 → Option Bool) (hrec2 : ∀ (x1 : Int64) (x3 : Int32), rec2 x1 x3 = some r → k_Go p l e (k_rm 2) s m args below meth c (k_QI G w0 (k_b r) (k_WX G.2.1 a tl t) args s below) 6 G (va_A w0 s.heap.size) (k_WX G.2.1 a tl t) 2 [(0, .ref (a 24)), (1, .long x1), (3, .int x3)] []) : ∀ (k : Nat) (x1 : Int64) (x3 : Int32) (x4 : Int32) (x5 : Int32), f_Pa_isTooFar_32 n t rec2 k x1 x3 x4 x5 = some r → k_Go p l e (k_rm 2) s m args below meth c (k_QI G w0 (k_b r) (k_WX G.2.1 a tl t) args s below) 6 G (va_A w0 s.heap.size) (k_WX G.2.1 a tl t) 32 [(0, .ref (a 24)), (1, .long x1), (3, .int x3), (4, .int x4), (5, .int x5)] [] := by
  intro k
  induction k with
  | zero => intro x1 x3 x4 x5 hf; cases hf
  | succ k ih =>
  intro x1 x3 x4 x5 hf
  rw [f_Pa_isTooFar_32] at hf
  refine k_iload hA dX4_isTooFar_32 4 rfl ?_
  refine k_aload_n (i := 0) hA dX4_isTooFar_34 rfl 0 rfl ?_
  refine gt_X_24_3 hA wd_326 dX4_isTooFar_35 ?_
  refine k_icmp_ge (tgt := 90) hA dX4_isTooFar_38 rfl (fun hc => ?_) (fun hc => ?_)
  · have hf := k_ift hc hf
    refine k_iload hA dX4_isTooFar_90 3 rfl ?_
    refine k_if_ne (tgt := 97) hA dX4_isTooFar_92 rfl (fun hc => ?_) (fun hc => ?_)
    · have hf := k_iff hc hf
      obtain ⟨x3_1, ex3_1, hf⟩ := k_lt_e hf
      refine k_iinc (j := 2) (v := x3_1) (lv' := [(3, .int x3_1), (0, .ref (a 24)), (1, .long x1), (4, .int x4), (5, .int x5)]) hA dX4_isTooFar_97 rfl (k_inc ex3_1 kc_i_1) (Nat.le_of_ble_eq_true rfl) rfl ?_
      refine k_goto (tgt := 2) hA dX4_isTooFar_100 rfl ?_
      refine k_pick (lv' := [(0, .ref (a 24)), (1, .long x1), (3, .int x3_1)]) [1, 2, 0] rfl ?_
      exact hrec2 x1 x3_1 hf
    have hf := k_ift hc hf
    obtain rfl := k_r1 hf
    refine k_iconst hA dX4_isTooFar_95 kc_i_1 ?_
    exact k_iret hA hr (k_narB (k_b01 _)) dX4_isTooFar_96
  have hf := k_iff hc hf
  refine k_iload hA dX4_isTooFar_41 3 rfl ?_
  refine k_if_ne (tgt := 90) hA dX4_isTooFar_43 rfl (fun hc => ?_) (fun hc => ?_)
  · have hf := k_iff hc hf
    refine k_iload hA dX4_isTooFar_90 3 rfl ?_
    refine k_if_ne (tgt := 97) hA dX4_isTooFar_92 rfl (fun hc => ?_) (fun hc => ?_)
    · have hf := k_iff hc hf
      obtain ⟨x3_2, ex3_2, hf⟩ := k_lt_e hf
      refine k_iinc (j := 2) (v := x3_2) (lv' := [(3, .int x3_2), (0, .ref (a 24)), (1, .long x1), (4, .int x4), (5, .int x5)]) hA dX4_isTooFar_97 rfl (k_inc ex3_2 kc_i_1) (Nat.le_of_ble_eq_true rfl) rfl ?_
      refine k_goto (tgt := 2) hA dX4_isTooFar_100 rfl ?_
      refine k_pick (lv' := [(0, .ref (a 24)), (1, .long x1), (3, .int x3_2)]) [1, 2, 0] rfl ?_
      exact hrec2 x1 x3_2 hf
    have hf := k_ift hc hf
    obtain rfl := k_r1 hf
    refine k_iconst hA dX4_isTooFar_95 kc_i_1 ?_
    exact k_iret hA hr (k_narB (k_b01 _)) dX4_isTooFar_96
  have hf := k_ift hc hf
  refine k_aload_n (i := 0) hA dX4_isTooFar_46 rfl 0 rfl ?_
  refine gt_X_24_4 hA wd_327 dX4_isTooFar_47 ?_
  refine k_iload hA dX4_isTooFar_50 4 rfl ?_
  refine k_ishr hA dX4_isTooFar_52 ?_
  refine k_iconst hA dX4_isTooFar_53 kc_i_1 ?_
  refine k_iand hA dX4_isTooFar_54 ?_
  refine k_if_ne (tgt := 81) hA dX4_isTooFar_55 rfl (fun hc => ?_) (fun hc => ?_)
  · have hf := k_iff hc hf
    obtain ⟨x5_3, ex5_3, hf⟩ := k_lt_e hf
    refine k_iconst hA dX4_isTooFar_81 kc_i_0 ?_
    refine k_istore (lv' := [(4, .int (0 : Int32)), (0, .ref (a 24)), (1, .long x1), (3, .int x3), (5, .int x5)]) hA dX4_isTooFar_82 rfl (Nat.le_of_ble_eq_true rfl) rfl ?_
    refine k_iinc (j := 4) (v := x5_3) (lv' := [(5, .int x5_3), (4, .int (0 : Int32)), (0, .ref (a 24)), (1, .long x1), (3, .int x3)]) hA dX4_isTooFar_84 rfl (k_inc ex5_3 kc_i_1) (Nat.le_of_ble_eq_true rfl) rfl ?_
    refine k_goto (tgt := 32) hA dX4_isTooFar_87 rfl ?_
    refine k_pick (lv' := [(0, .ref (a 24)), (1, .long x1), (3, .int x3), (4, .int (0 : Int32)), (5, .int x5_3)]) [2, 3, 4, 1, 0] rfl ?_
    exact ih x1 x3 (0 : Int32) x5_3 hf
  have hf := k_ift hc hf
  refine k_lload_n (i := 1) hA dX4_isTooFar_58 rfl 1 rfl ?_
  refine k_iload_n (i := 3) hA dX4_isTooFar_59 rfl 2 rfl ?_
  refine k_callSNi (As := [.long x1, .int x3]) (rest := []) hA (m_X_partOf l G (k_WX G.2.1 a tl t) x1 x3 rfl) cd_X10_partOf nm_RX4_62 (Nat.le_of_ble_eq_true rfl) rfl rfl (Nat.le_of_ble_eq_true rfl) dX4_isTooFar_60 ?_
  refine k_lload_n (i := 1) hA dX4_isTooFar_63 rfl 1 rfl ?_
  refine k_iload hA dX4_isTooFar_64 4 rfl ?_
  refine k_callSNi (As := [.long x1, .int x5]) (rest := [.int (f_X_partOf x1 x3)]) hA (m_X_partOf l G (k_WX G.2.1 a tl t) x1 x5 rfl) cd_X10_partOf nm_RX4_62 (Nat.le_of_ble_eq_true rfl) rfl rfl (Nat.le_of_ble_eq_true rfl) dX4_isTooFar_66 ?_
  refine k_ior hA dX4_isTooFar_69 ?_
  refine k_aload_n (i := 0) hA dX4_isTooFar_70 rfl 0 rfl ?_
  refine gt_X_24_5 hA wd_328 dX4_isTooFar_71 ?_
  refine k_icmp_ne (tgt := 81) hA dX4_isTooFar_74 rfl (fun hc => ?_) (fun hc => ?_)
  · have hf := k_iff hc hf
    obtain ⟨x5_4, ex5_4, hf⟩ := k_lt_e hf
    refine k_iconst hA dX4_isTooFar_81 kc_i_0 ?_
    refine k_istore (lv' := [(4, .int (0 : Int32)), (0, .ref (a 24)), (1, .long x1), (3, .int x3), (5, .int x5)]) hA dX4_isTooFar_82 rfl (Nat.le_of_ble_eq_true rfl) rfl ?_
    refine k_iinc (j := 4) (v := x5_4) (lv' := [(5, .int x5_4), (4, .int (0 : Int32)), (0, .ref (a 24)), (1, .long x1), (3, .int x3)]) hA dX4_isTooFar_84 rfl (k_inc ex5_4 kc_i_1) (Nat.le_of_ble_eq_true rfl) rfl ?_
    refine k_goto (tgt := 32) hA dX4_isTooFar_87 rfl ?_
    refine k_pick (lv' := [(0, .ref (a 24)), (1, .long x1), (3, .int x3), (4, .int (0 : Int32)), (5, .int x5_4)]) [2, 3, 4, 1, 0] rfl ?_
    exact ih x1 x3 (0 : Int32) x5_4 hf
  have hf := k_ift hc hf
  obtain ⟨x5_5, ex5_5, hf⟩ := k_lt_e hf
  refine k_iconst hA dX4_isTooFar_77 kc_i_1 ?_
  refine k_goto (tgt := 82) hA dX4_isTooFar_78 rfl ?_
  refine k_istore (lv' := [(4, .int (1 : Int32)), (0, .ref (a 24)), (1, .long x1), (3, .int x3), (5, .int x5)]) hA dX4_isTooFar_82 rfl (Nat.le_of_ble_eq_true rfl) rfl ?_
  refine k_iinc (j := 4) (v := x5_5) (lv' := [(5, .int x5_5), (4, .int (1 : Int32)), (0, .ref (a 24)), (1, .long x1), (3, .int x3)]) hA dX4_isTooFar_84 rfl (k_inc ex5_5 kc_i_1) (Nat.le_of_ble_eq_true rfl) rfl ?_
  refine k_goto (tgt := 32) hA dX4_isTooFar_87 rfl ?_
  refine k_pick (lv' := [(0, .ref (a 24)), (1, .long x1), (3, .int x3), (4, .int (1 : Int32)), (5, .int x5_5)]) [2, 3, 4, 1, 0] rfl ?_
  exact ih x1 x3 (1 : Int32) x5_5 hf

theorem m_Pa_isTooFar_2 {p : Program} (l : Launch) {e : Env} {s : State} {m : MethodId} {args : Array Value} {below : List Frame} {meth : Method} {c : Code} (G : k_G) (a : Nat → Nat) (tl : Value) (n : Nat) (t : k_St) {w0 : va_W} {r : Bool} (hA : k_Amb p s m args meth c cX4_isTooFar 6 "TaleShares$Park" G (va_A w0 s.heap.size)) (hr : meth.sig.returnType = (some .boolean)) : ∀ (k : Nat) (x1 : Int64) (x3 : Int32), f_Pa_isTooFar_2 n t k x1 x3 = some r → k_Go p l e (k_rm 2) s m args below meth c (k_QI G w0 (k_b r) (k_WX G.2.1 a tl t) args s below) 6 G (va_A w0 s.heap.size) (k_WX G.2.1 a tl t) 2 [(0, .ref (a 24)), (1, .long x1), (3, .int x3)] [] := by
  intro k
  induction k with
  | zero => intro x1 x3 hf; cases hf
  | succ k ih =>
  intro x1 x3 hf
  rw [f_Pa_isTooFar_2] at hf
  refine k_iload_n (i := 3) hA dX4_isTooFar_2 rfl 2 rfl ?_
  refine k_aload_n (i := 0) hA dX4_isTooFar_3 rfl 0 rfl ?_
  refine gt_X_24_3 hA wd_326 dX4_isTooFar_4 ?_
  refine k_icmp_ge (tgt := 103) hA dX4_isTooFar_7 rfl (fun hc => ?_) (fun hc => ?_)
  · have hf := k_ift hc hf
    obtain rfl := k_r1 hf
    refine k_iconst hA dX4_isTooFar_103 kc_i_0 ?_
    exact k_iret hA hr (k_narB (k_b01 _)) dX4_isTooFar_104
  have hf := k_iff hc hf
  refine k_lload_n (i := 1) hA dX4_isTooFar_10 rfl 1 rfl ?_
  refine k_iload_n (i := 3) hA dX4_isTooFar_11 rfl 2 rfl ?_
  refine k_callSNi (As := [.long x1, .int x3]) (rest := []) hA (m_X_partOf l G (k_WX G.2.1 a tl t) x1 x3 rfl) cd_X10_partOf nm_RX4_62 (Nat.le_of_ble_eq_true rfl) rfl rfl (Nat.le_of_ble_eq_true rfl) dX4_isTooFar_12 ?_
  refine k_aload_n (i := 0) hA dX4_isTooFar_15 rfl 0 rfl ?_
  refine gt_X_24_5 hA wd_328 dX4_isTooFar_16 ?_
  refine k_icmp_ne (tgt := 26) hA dX4_isTooFar_19 rfl (fun hc => ?_) (fun hc => ?_)
  · have hf := k_iff hc hf
    refine k_iconst hA dX4_isTooFar_26 kc_i_0 ?_
    refine k_istore (lv' := [(4, .int (0 : Int32)), (0, .ref (a 24)), (1, .long x1), (3, .int x3)]) hA dX4_isTooFar_27 rfl (Nat.le_of_ble_eq_true rfl) rfl ?_
    refine k_iconst hA dX4_isTooFar_29 kc_i_0 ?_
    refine k_istore (lv' := [(5, .int (0 : Int32)), (4, .int (0 : Int32)), (0, .ref (a 24)), (1, .long x1), (3, .int x3)]) hA dX4_isTooFar_30 rfl (Nat.le_of_ble_eq_true rfl) rfl ?_
    refine k_pick (lv' := [(0, .ref (a 24)), (1, .long x1), (3, .int x3), (4, .int (0 : Int32)), (5, .int (0 : Int32))]) [2, 3, 4, 1, 0] rfl ?_
    exact m_Pa_isTooFar_32 l G a tl n t hA hr (f_Pa_isTooFar_2 n t k) ih n x1 x3 (0 : Int32) (0 : Int32) hf
  have hf := k_ift hc hf
  refine k_iconst hA dX4_isTooFar_22 kc_i_1 ?_
  refine k_goto (tgt := 27) hA dX4_isTooFar_23 rfl ?_
  refine k_istore (lv' := [(4, .int (1 : Int32)), (0, .ref (a 24)), (1, .long x1), (3, .int x3)]) hA dX4_isTooFar_27 rfl (Nat.le_of_ble_eq_true rfl) rfl ?_
  refine k_iconst hA dX4_isTooFar_29 kc_i_0 ?_
  refine k_istore (lv' := [(5, .int (0 : Int32)), (4, .int (1 : Int32)), (0, .ref (a 24)), (1, .long x1), (3, .int x3)]) hA dX4_isTooFar_30 rfl (Nat.le_of_ble_eq_true rfl) rfl ?_
  refine k_pick (lv' := [(0, .ref (a 24)), (1, .long x1), (3, .int x3), (4, .int (1 : Int32)), (5, .int (0 : Int32))]) [2, 3, 4, 1, 0] rfl ?_
  exact m_Pa_isTooFar_32 l G a tl n t hA hr (f_Pa_isTooFar_2 n t k) ih n x1 x3 (1 : Int32) (0 : Int32) hf

theorem m_Pa_isTooFar (l : Launch) (G : k_G) (a : Nat → Nat) (tl : Value) (n : Nat) (t : k_St) (x1 : Int64) {r : Bool} (hf : f_Pa_isTooFar n t x1 = some r) : k_CI l G yX4_isTooFar cX4_isTooFar 6 (some .boolean) 2 (k_WX G.2.1 a tl t) [.ref (a 24), .long x1] (k_b r) (k_WX G.2.1 a tl t) := by
  refine k_startI (lv := [(0, .ref (a 24)), (1, .long x1)]) (by decide +kernel) (Nat.le_of_ble_eq_true rfl) rfl ?_
  intro p e s m args below meth c hA hr
  have hA : k_Amb p s m args meth c cX4_isTooFar 6 "TaleShares$Park" G _ := hA
  unfold f_Pa_isTooFar at hf
  refine k_iconst hA dX4_isTooFar_0 kc_i_0 ?_
  refine k_istore_n (i := 3) (lv' := [(3, .int (0 : Int32)), (0, .ref (a 24)), (1, .long x1)]) hA dX4_isTooFar_1 rfl rfl (Nat.le_of_ble_eq_true rfl) rfl ?_
  refine k_pick (lv' := [(0, .ref (a 24)), (1, .long x1), (3, .int (0 : Int32))]) [1, 2, 0] rfl ?_
  exact m_Pa_isTooFar_2 l G a tl n t hA hr n x1 (0 : Int32) hf

def f_Pa_countAllKnowing_5 (n : Nat) (t : k_St) : Nat → Int64 → Int32 → Int32 → Option Int32
  | 0, _, _, _ => none
  | k + 1, x1, x3, x4 => (if (t.1 24 3) ≤ x4 then some x3 else (if (f_X_partOf x1 x4) = (t.1 24 5) then k_lt (x3 + (1 : Int32)) (fun x3_2 => k_lt (x4 + (1 : Int32)) (fun x4_3 => f_Pa_countAllKnowing_5 n t k x1 x3_2 x4_3)) else k_lt (x4 + (1 : Int32)) (fun x4_1 => f_Pa_countAllKnowing_5 n t k x1 x3 x4_1)))
def f_Pa_countAllKnowing (n : Nat) (t : k_St) (x1 : Int64) : Option Int32 := f_Pa_countAllKnowing_5 n t n x1 (0 : Int32) (0 : Int32)
theorem m_Pa_countAllKnowing_5 {p : Program} (l : Launch) {e : Env} {s : State} {m : MethodId} {args : Array Value} {below : List Frame} {meth : Method} {c : Code} (G : k_G) (a : Nat → Nat) (tl : Value) (n : Nat) (t : k_St) {w0 : va_W} {r : Int32} (hA : k_Amb p s m args meth c cX4_countAllKnowing 5 "TaleShares$Park" G (va_A w0 s.heap.size)) (hr : meth.sig.returnType = (some .int)) : ∀ (k : Nat) (x1 : Int64) (x3 : Int32) (x4 : Int32), f_Pa_countAllKnowing_5 n t k x1 x3 x4 = some r → k_Go p l e (k_rm 2) s m args below meth c (k_QI G w0 r (k_WX G.2.1 a tl t) args s below) 5 G (va_A w0 s.heap.size) (k_WX G.2.1 a tl t) 5 [(0, .ref (a 24)), (1, .long x1), (3, .int x3), (4, .int x4)] [] := by
  intro k
  induction k with
  | zero => intro x1 x3 x4 hf; cases hf
  | succ k ih =>
  intro x1 x3 x4 hf
  rw [f_Pa_countAllKnowing_5] at hf
  refine k_iload hA dX4_countAllKnowing_5 3 rfl ?_
  refine k_aload_n (i := 0) hA dX4_countAllKnowing_7 rfl 0 rfl ?_
  refine gt_X_24_3 hA wd_326 dX4_countAllKnowing_8 ?_
  refine k_icmp_ge (tgt := 36) hA dX4_countAllKnowing_11 rfl (fun hc => ?_) (fun hc => ?_)
  · have hf := k_ift hc hf
    obtain rfl := k_r1 hf
    refine k_iload_n (i := 3) hA dX4_countAllKnowing_36 rfl 2 rfl ?_
    exact k_iret hA hr rfl dX4_countAllKnowing_37
  have hf := k_iff hc hf
  refine k_lload_n (i := 1) hA dX4_countAllKnowing_14 rfl 1 rfl ?_
  refine k_iload hA dX4_countAllKnowing_15 3 rfl ?_
  refine k_callSNi (As := [.long x1, .int x4]) (rest := []) hA (m_X_partOf l G (k_WX G.2.1 a tl t) x1 x4 rfl) cd_X10_partOf nm_RX4_62 (Nat.le_of_ble_eq_true rfl) rfl rfl (Nat.le_of_ble_eq_true rfl) dX4_countAllKnowing_17 ?_
  refine k_aload_n (i := 0) hA dX4_countAllKnowing_20 rfl 0 rfl ?_
  refine gt_X_24_5 hA wd_328 dX4_countAllKnowing_21 ?_
  refine k_icmp_ne (tgt := 30) hA dX4_countAllKnowing_24 rfl (fun hc => ?_) (fun hc => ?_)
  · have hf := k_iff hc hf
    obtain ⟨x4_1, ex4_1, hf⟩ := k_lt_e hf
    refine k_iinc (j := 3) (v := x4_1) (lv' := [(4, .int x4_1), (0, .ref (a 24)), (1, .long x1), (3, .int x3)]) hA dX4_countAllKnowing_30 rfl (k_inc ex4_1 kc_i_1) (Nat.le_of_ble_eq_true rfl) rfl ?_
    refine k_goto (tgt := 5) hA dX4_countAllKnowing_33 rfl ?_
    refine k_pick (lv' := [(0, .ref (a 24)), (1, .long x1), (3, .int x3), (4, .int x4_1)]) [1, 2, 3, 0] rfl ?_
    exact ih x1 x3 x4_1 hf
  have hf := k_ift hc hf
  obtain ⟨x3_2, ex3_2, hf⟩ := k_lt_e hf
  obtain ⟨x4_3, ex4_3, hf⟩ := k_lt_e hf
  refine k_iinc (j := 2) (v := x3_2) (lv' := [(3, .int x3_2), (0, .ref (a 24)), (1, .long x1), (4, .int x4)]) hA dX4_countAllKnowing_27 rfl (k_inc ex3_2 kc_i_1) (Nat.le_of_ble_eq_true rfl) rfl ?_
  refine k_iinc (j := 3) (v := x4_3) (lv' := [(4, .int x4_3), (3, .int x3_2), (0, .ref (a 24)), (1, .long x1)]) hA dX4_countAllKnowing_30 rfl (k_inc ex4_3 kc_i_1) (Nat.le_of_ble_eq_true rfl) rfl ?_
  refine k_goto (tgt := 5) hA dX4_countAllKnowing_33 rfl ?_
  refine k_pick (lv' := [(0, .ref (a 24)), (1, .long x1), (3, .int x3_2), (4, .int x4_3)]) [2, 3, 1, 0] rfl ?_
  exact ih x1 x3_2 x4_3 hf

theorem m_Pa_countAllKnowing (l : Launch) (G : k_G) (a : Nat → Nat) (tl : Value) (n : Nat) (t : k_St) (x1 : Int64) {r : Int32} (hf : f_Pa_countAllKnowing n t x1 = some r) : k_CI l G yX4_countAllKnowing cX4_countAllKnowing 5 (some .int) 2 (k_WX G.2.1 a tl t) [.ref (a 24), .long x1] r (k_WX G.2.1 a tl t) := by
  refine k_startI (lv := [(0, .ref (a 24)), (1, .long x1)]) (by decide +kernel) (Nat.le_of_ble_eq_true rfl) rfl ?_
  intro p e s m args below meth c hA hr
  have hA : k_Amb p s m args meth c cX4_countAllKnowing 5 "TaleShares$Park" G _ := hA
  unfold f_Pa_countAllKnowing at hf
  refine k_iconst hA dX4_countAllKnowing_0 kc_i_0 ?_
  refine k_istore_n (i := 3) (lv' := [(3, .int (0 : Int32)), (0, .ref (a 24)), (1, .long x1)]) hA dX4_countAllKnowing_1 rfl rfl (Nat.le_of_ble_eq_true rfl) rfl ?_
  refine k_iconst hA dX4_countAllKnowing_2 kc_i_0 ?_
  refine k_istore (lv' := [(4, .int (0 : Int32)), (3, .int (0 : Int32)), (0, .ref (a 24)), (1, .long x1)]) hA dX4_countAllKnowing_3 rfl (Nat.le_of_ble_eq_true rfl) rfl ?_
  refine k_pick (lv' := [(0, .ref (a 24)), (1, .long x1), (3, .int (0 : Int32)), (4, .int (0 : Int32))]) [2, 3, 1, 0] rfl ?_
  exact m_Pa_countAllKnowing_5 l G a tl n t hA hr n x1 (0 : Int32) (0 : Int32) hf

def f_Pa_leadsOn_45 (n : Nat) (self : Int64 → Int32 → Int32 → k_St → Option (Bool × k_St)) : Nat → Int64 → Int32 → Int32 → Int32 → k_St → Option (Bool × k_St)
  | 0, _, _, _, _, _ => none
  | k + 1, x1, x3, x4, x5, t => (if (t.1 24 2) ≤ x5 then some (false, t) else k_gi x3 3 (k_lt (k_sI t 26 x3.toNatClampNeg x5) (fun t_2 => k_cp (f_Pa_behindRound n t_2 x1 x5) (fun r_3 => k_cl (self r_3 (x3 + (1 : Int32)) x4 t_2) (fun r_5 t_4 => (if (k_b r_5) = 0 then k_lt (x5 + (1 : Int32)) (fun x5_6 => f_Pa_leadsOn_45 n self k x1 x3 x4 x5_6 t_4) else some (true, t_4)))))))
def f_Pa_leadsOn (n : Nat) : Nat → Int64 → Int32 → Int32 → k_St → Option (Bool × k_St)
  | 0, _, _, _, _ => none
  | d + 1, x1, x3, x4, t => (if x3 < x4 then (if (x3 + (1 : Int32)) = x4 then k_cp (f_Pa_isTooFar n t x1) (fun r_1 => (if (k_b r_1) = 0 then f_Pa_leadsOn_45 n (f_Pa_leadsOn n d) n x1 x3 x4 (0 : Int32) t else some (false, t))) else f_Pa_leadsOn_45 n (f_Pa_leadsOn n d) n x1 x3 x4 (0 : Int32) t) else k_cp (f_Pa_countAllKnowing n t x1) (fun r_2 => (if r_2 = (t.1 24 3) then some (true, t) else some (false, t))))
theorem m_Pa_leadsOn_45 {p : Program} (l : Launch) {e : Env} {s : State} {m : MethodId} {args : Array Value} {below : List Frame} {meth : Method} {c : Code} (G : k_G) (a : Nat → Nat) (tl : Value) (n : Nat) {w0 : va_W} {r : Bool} {t' : k_St} (d : Nat) (hA : k_Amb p s m args meth c cX4_leadsOn 6 "TaleShares$Park" G (va_A w0 s.heap.size)) (hr : meth.sig.returnType = (some .boolean)) (self : Int64 → Int32 → Int32 → k_St → Option (Bool × k_St)) (hself : ∀ (x1 : Int64) (x3 : Int32) (x4 : Int32) (t : k_St) (r : Bool) (t' : k_St), self x1 x3 x4 t = some (r, t') → k_CI l G yX4_leadsOn cX4_leadsOn 6 (some .boolean) (d + 3) (k_WX G.2.1 a tl t) [.ref (a 24), .long x1, .int x3, .int x4] (k_b r) (k_WX G.2.1 a tl t')) : ∀ (k : Nat) (x1 : Int64) (x3 : Int32) (x4 : Int32) (x5 : Int32) (t : k_St), f_Pa_leadsOn_45 n self k x1 x3 x4 x5 t = some (r, t') → k_Go p l e (k_rm (d + 1 + 3)) s m args below meth c (k_QI G w0 (k_b r) (k_WX G.2.1 a tl t') args s below) 6 G (va_A w0 s.heap.size) (k_WX G.2.1 a tl t) 45 [(0, .ref (a 24)), (1, .long x1), (3, .int x3), (4, .int x4), (5, .int x5)] [] := by
  intro k
  induction k with
  | zero => intro x1 x3 x4 x5 t hf; cases hf
  | succ k ih =>
  intro x1 x3 x4 x5 t hf
  rw [f_Pa_leadsOn_45] at hf
  refine k_iload hA dX4_leadsOn_45 4 rfl ?_
  refine k_aload_n (i := 0) hA dX4_leadsOn_47 rfl 0 rfl ?_
  refine gt_X_24_2 hA wd_325 dX4_leadsOn_48 ?_
  refine k_icmp_ge (tgt := 89) hA dX4_leadsOn_51 rfl (fun hc => ?_) (fun hc => ?_)
  · have hf := k_ift hc hf
    obtain ⟨rfl, rfl⟩ := k_r2 hf
    refine k_iconst hA dX4_leadsOn_89 kc_i_0 ?_
    exact k_iret hA hr (k_narB (k_b01 _)) dX4_leadsOn_90
  have hf := k_iff hc hf
  obtain ⟨hi_1, hf⟩ := k_gi_e hf
  obtain ⟨t_2, et_2, hf⟩ := k_lt_e hf
  obtain ⟨r_3, hr_3, hf⟩ := k_cp_e hf
  obtain ⟨r_5, t_4, ht_4, hf⟩ := k_cl_e hf
  refine k_aload_n (i := 0) hA dX4_leadsOn_54 rfl 0 rfl ?_
  refine gt_X_24_1 hA wd_324 dX4_leadsOn_55 ?_
  refine k_iload_n (i := 3) hA dX4_leadsOn_58 rfl 2 rfl ?_
  refine k_iload hA dX4_leadsOn_59 4 rfl ?_
  refine sr_X_26 hA hi_1 et_2 dX4_leadsOn_61 ?_
  refine k_aload_n (i := 0) hA dX4_leadsOn_62 rfl 0 rfl ?_
  refine k_aload_n (i := 0) hA dX4_leadsOn_63 rfl 0 rfl ?_
  refine k_lload_n (i := 1) hA dX4_leadsOn_64 rfl 1 rfl ?_
  refine k_iload hA dX4_leadsOn_65 4 rfl ?_
  refine k_callVl (As := [.long x1, .int x5]) (rest := [.ref (a 24)]) hA (m_Pa_behindRound l G a tl n t_2 x1 x5 hr_3) cd_X4_behindRound wd_931 (hc_X_24 G.2.1 a tl t_2) rfl rfl (by omega) rfl rfl (Nat.le_of_ble_eq_true rfl) dX4_leadsOn_67 ?_
  refine k_iload_n (i := 3) hA dX4_leadsOn_70 rfl 2 rfl ?_
  refine k_iconst hA dX4_leadsOn_71 kc_i_1 ?_
  refine k_iadd hA dX4_leadsOn_72 ?_
  refine k_iload hA dX4_leadsOn_73 3 rfl ?_
  refine k_callVi (As := [.long r_3, .int (x3 + (1 : Int32)), .int x4]) (rest := []) hA (hself r_3 (x3 + (1 : Int32)) x4 t_2 _ _ ht_4) cd_X4_leadsOn wd_918 (hc_X_24 G.2.1 a tl t_2) rfl rfl (by omega) rfl rfl (Nat.le_of_ble_eq_true rfl) dX4_leadsOn_75 ?_
  refine k_if_eq (tgt := 83) hA dX4_leadsOn_78 rfl (fun hc => ?_) (fun hc => ?_)
  · have hf := k_ift hc hf
    obtain ⟨x5_6, ex5_6, hf⟩ := k_lt_e hf
    refine k_iinc (j := 4) (v := x5_6) (lv' := [(5, .int x5_6), (0, .ref (a 24)), (1, .long x1), (3, .int x3), (4, .int x4)]) hA dX4_leadsOn_83 rfl (k_inc ex5_6 kc_i_1) (Nat.le_of_ble_eq_true rfl) rfl ?_
    refine k_goto (tgt := 45) hA dX4_leadsOn_86 rfl ?_
    refine k_pick (lv' := [(0, .ref (a 24)), (1, .long x1), (3, .int x3), (4, .int x4), (5, .int x5_6)]) [1, 2, 3, 4, 0] rfl ?_
    exact ih x1 x3 x4 x5_6 t_4 hf
  have hf := k_iff hc hf
  obtain ⟨rfl, rfl⟩ := k_r2 hf
  refine k_iconst hA dX4_leadsOn_81 kc_i_1 ?_
  exact k_iret hA hr (k_narB (k_b01 _)) dX4_leadsOn_82

theorem m_Pa_leadsOn (l : Launch) (G : k_G) (a : Nat → Nat) (tl : Value) (n : Nat) : ∀ (d : Nat) (x1 : Int64) (x3 : Int32) (x4 : Int32) (t : k_St) (r : Bool) (t' : k_St), f_Pa_leadsOn n d x1 x3 x4 t = some (r, t') → k_CI l G yX4_leadsOn cX4_leadsOn 6 (some .boolean) (d + 3) (k_WX G.2.1 a tl t) [.ref (a 24), .long x1, .int x3, .int x4] (k_b r) (k_WX G.2.1 a tl t') := by
  intro d
  induction d with
  | zero => intro x1 x3 x4 t r t' hf; cases hf
  | succ d m_ih =>
  intro x1 x3 x4 t r t' hf
  refine k_startI (lv := [(0, .ref (a 24)), (1, .long x1), (3, .int x3), (4, .int x4)]) (by decide +kernel) (Nat.le_of_ble_eq_true rfl) rfl ?_
  intro p e s m args below meth c hA hr
  have hA : k_Amb p s m args meth c cX4_leadsOn 6 "TaleShares$Park" G _ := hA
  rw [f_Pa_leadsOn] at hf
  refine k_iload_n (i := 3) hA dX4_leadsOn_0 rfl 2 rfl ?_
  refine k_iload hA dX4_leadsOn_1 3 rfl ?_
  refine k_icmp_lt (tgt := 24) hA dX4_leadsOn_3 rfl (fun hc => ?_) (fun hc => ?_)
  · have hf := k_ift hc hf
    refine k_iload_n (i := 3) hA dX4_leadsOn_24 rfl 2 rfl ?_
    refine k_iconst hA dX4_leadsOn_25 kc_i_1 ?_
    refine k_iadd hA dX4_leadsOn_26 ?_
    refine k_iload hA dX4_leadsOn_27 3 rfl ?_
    refine k_icmp_ne (tgt := 42) hA dX4_leadsOn_29 rfl (fun hc => ?_) (fun hc => ?_)
    · have hf := k_iff hc hf
      refine k_iconst hA dX4_leadsOn_42 kc_i_0 ?_
      refine k_istore (lv' := [(5, .int (0 : Int32)), (0, .ref (a 24)), (1, .long x1), (3, .int x3), (4, .int x4)]) hA dX4_leadsOn_43 rfl (Nat.le_of_ble_eq_true rfl) rfl ?_
      refine k_pick (lv' := [(0, .ref (a 24)), (1, .long x1), (3, .int x3), (4, .int x4), (5, .int (0 : Int32))]) [1, 2, 3, 4, 0] rfl ?_
      exact m_Pa_leadsOn_45 l G a tl n d hA hr (f_Pa_leadsOn n d) m_ih n x1 x3 x4 (0 : Int32) t hf
    have hf := k_ift hc hf
    obtain ⟨r_1, hr_1, hf⟩ := k_cp_e hf
    refine k_aload_n (i := 0) hA dX4_leadsOn_32 rfl 0 rfl ?_
    refine k_lload_n (i := 1) hA dX4_leadsOn_33 rfl 1 rfl ?_
    refine k_callVi (As := [.long x1]) (rest := []) hA (m_Pa_isTooFar l G a tl n t x1 hr_1) cd_X4_isTooFar wd_927 (hc_X_24 G.2.1 a tl t) rfl rfl (by omega) rfl rfl (Nat.le_of_ble_eq_true rfl) dX4_leadsOn_34 ?_
    refine k_if_eq (tgt := 42) hA dX4_leadsOn_37 rfl (fun hc => ?_) (fun hc => ?_)
    · have hf := k_ift hc hf
      refine k_iconst hA dX4_leadsOn_42 kc_i_0 ?_
      refine k_istore (lv' := [(5, .int (0 : Int32)), (0, .ref (a 24)), (1, .long x1), (3, .int x3), (4, .int x4)]) hA dX4_leadsOn_43 rfl (Nat.le_of_ble_eq_true rfl) rfl ?_
      refine k_pick (lv' := [(0, .ref (a 24)), (1, .long x1), (3, .int x3), (4, .int x4), (5, .int (0 : Int32))]) [1, 2, 3, 4, 0] rfl ?_
      exact m_Pa_leadsOn_45 l G a tl n d hA hr (f_Pa_leadsOn n d) m_ih n x1 x3 x4 (0 : Int32) t hf
    have hf := k_iff hc hf
    obtain ⟨rfl, rfl⟩ := k_r2 hf
    refine k_iconst hA dX4_leadsOn_40 kc_i_0 ?_
    exact k_iret hA hr (k_narB (k_b01 _)) dX4_leadsOn_41
  have hf := k_iff hc hf
  obtain ⟨r_2, hr_2, hf⟩ := k_cp_e hf
  refine k_aload_n (i := 0) hA dX4_leadsOn_6 rfl 0 rfl ?_
  refine k_lload_n (i := 1) hA dX4_leadsOn_7 rfl 1 rfl ?_
  refine k_callVi (As := [.long x1]) (rest := []) hA (m_Pa_countAllKnowing l G a tl n t x1 hr_2) cd_X4_countAllKnowing wd_922 (hc_X_24 G.2.1 a tl t) rfl rfl (by omega) rfl rfl (Nat.le_of_ble_eq_true rfl) dX4_leadsOn_8 ?_
  refine k_aload_n (i := 0) hA dX4_leadsOn_11 rfl 0 rfl ?_
  refine gt_X_24_3 hA wd_326 dX4_leadsOn_12 ?_
  refine k_icmp_ne (tgt := 22) hA dX4_leadsOn_15 rfl (fun hc => ?_) (fun hc => ?_)
  · have hf := k_iff hc hf
    obtain ⟨rfl, rfl⟩ := k_r2 hf
    refine k_iconst hA dX4_leadsOn_22 kc_i_0 ?_
    exact k_iret hA hr (k_narB (k_b01 _)) dX4_leadsOn_23
  have hf := k_ift hc hf
  obtain ⟨rfl, rfl⟩ := k_r2 hf
  refine k_iconst hA dX4_leadsOn_18 kc_i_1 ?_
  refine k_goto (tgt := 23) hA dX4_leadsOn_19 rfl ?_
  exact k_iret hA hr (k_narB (k_b01 _)) dX4_leadsOn_23

def f_Pa_fewestRounds_10 (n : Nat) : Nat → Int64 → Int32 → k_St → Option (Int32 × k_St)
  | 0, _, _, _ => none
  | k + 1, x1, x3, t => (if (3 : Int32) < x3 then some ((-2 : Int32), t) else k_cl (f_Pa_leadsOn n (4 : Nat) x1 (0 : Int32) x3 t) (fun r_2 t_1 => (if (k_b r_2) = 0 then k_lt (x3 + (1 : Int32)) (fun x3_3 => f_Pa_fewestRounds_10 n k x1 x3_3 t_1) else some (x3, t_1))))
def f_Pa_fewestRounds (n : Nat) (x1 : Int64) (t : k_St) : Option (Int32 × k_St) := k_cp (f_X_unionOf n x1) (fun r_1 => k_lt (k_sI t 24 5 r_1) (fun t_2 => f_Pa_fewestRounds_10 n n x1 (0 : Int32) t_2))
theorem m_Pa_fewestRounds_10 {p : Program} (l : Launch) {e : Env} {s : State} {m : MethodId} {args : Array Value} {below : List Frame} {meth : Method} {c : Code} (G : k_G) (a : Nat → Nat) (tl : Value) (n : Nat) {w0 : va_W} {r : Int32} {t' : k_St} (hA : k_Amb p s m args meth c cX4_fewestRounds 4 "TaleShares$Park" G (va_A w0 s.heap.size)) (hr : meth.sig.returnType = (some .int)) : ∀ (k : Nat) (x1 : Int64) (x3 : Int32) (t : k_St), f_Pa_fewestRounds_10 n k x1 x3 t = some (r, t') → k_Go p l e (k_rm 8) s m args below meth c (k_QI G w0 r (k_WX G.2.1 a tl t') args s below) 4 G (va_A w0 s.heap.size) (k_WX G.2.1 a tl t) 10 [(0, .ref (a 24)), (1, .long x1), (3, .int x3)] [] := by
  intro k
  induction k with
  | zero => intro x1 x3 t hf; cases hf
  | succ k ih =>
  intro x1 x3 t hf
  rw [f_Pa_fewestRounds_10] at hf
  refine k_iload_n (i := 3) hA dX4_fewestRounds_10 rfl 2 rfl ?_
  refine k_iconst hA dX4_fewestRounds_11 kc_i_3 ?_
  refine k_icmp_gt (tgt := 33) hA dX4_fewestRounds_12 rfl (fun hc => ?_) (fun hc => ?_)
  · have hf := k_ift hc hf
    obtain ⟨rfl, rfl⟩ := k_r2 hf
    refine k_bipush hA dX4_fewestRounds_33 kc_b_m2 ?_
    exact k_iret hA hr rfl dX4_fewestRounds_35
  have hf := k_iff hc hf
  obtain ⟨r_2, t_1, ht_1, hf⟩ := k_cl_e hf
  refine k_aload_n (i := 0) hA dX4_fewestRounds_15 rfl 0 rfl ?_
  refine k_lload_n (i := 1) hA dX4_fewestRounds_16 rfl 1 rfl ?_
  refine k_iconst hA dX4_fewestRounds_17 kc_i_0 ?_
  refine k_iload_n (i := 3) hA dX4_fewestRounds_18 rfl 2 rfl ?_
  refine k_callVi (As := [.long x1, .int (0 : Int32), .int x3]) (rest := []) hA (m_Pa_leadsOn l G a tl n (4 : Nat) x1 (0 : Int32) x3 t _ _ ht_1) cd_X4_leadsOn wd_918 (hc_X_24 G.2.1 a tl t) rfl rfl (Nat.le_of_ble_eq_true rfl) rfl rfl (Nat.le_of_ble_eq_true rfl) dX4_fewestRounds_19 ?_
  refine k_if_eq (tgt := 27) hA dX4_fewestRounds_22 rfl (fun hc => ?_) (fun hc => ?_)
  · have hf := k_ift hc hf
    obtain ⟨x3_3, ex3_3, hf⟩ := k_lt_e hf
    refine k_iinc (j := 2) (v := x3_3) (lv' := [(3, .int x3_3), (0, .ref (a 24)), (1, .long x1)]) hA dX4_fewestRounds_27 rfl (k_inc ex3_3 kc_i_1) (Nat.le_of_ble_eq_true rfl) rfl ?_
    refine k_goto (tgt := 10) hA dX4_fewestRounds_30 rfl ?_
    refine k_pick (lv' := [(0, .ref (a 24)), (1, .long x1), (3, .int x3_3)]) [1, 2, 0] rfl ?_
    exact ih x1 x3_3 t_1 hf
  have hf := k_iff hc hf
  obtain ⟨rfl, rfl⟩ := k_r2 hf
  refine k_iload_n (i := 3) hA dX4_fewestRounds_25 rfl 2 rfl ?_
  exact k_iret hA hr rfl dX4_fewestRounds_26

theorem m_Pa_fewestRounds (l : Launch) (G : k_G) (a : Nat → Nat) (tl : Value) (n : Nat) (x1 : Int64) (t : k_St) {r : Int32} {t' : k_St} (hf : f_Pa_fewestRounds n x1 t = some (r, t')) : k_CI l G yX4_fewestRounds cX4_fewestRounds 4 (some .int) 8 (k_WX G.2.1 a tl t) [.ref (a 24), .long x1] r (k_WX G.2.1 a tl t') := by
  refine k_startI (lv := [(0, .ref (a 24)), (1, .long x1)]) (by decide +kernel) (Nat.le_of_ble_eq_true rfl) rfl ?_
  intro p e s m args below meth c hA hr
  have hA : k_Amb p s m args meth c cX4_fewestRounds 4 "TaleShares$Park" G _ := hA
  unfold f_Pa_fewestRounds at hf
  obtain ⟨r_1, hr_1, hf⟩ := k_cp_e hf
  obtain ⟨t_2, et_2, hf⟩ := k_lt_e hf
  refine k_aload_n (i := 0) hA dX4_fewestRounds_0 rfl 0 rfl ?_
  refine k_lload_n (i := 1) hA dX4_fewestRounds_1 rfl 1 rfl ?_
  refine k_callSNi (As := [.long x1]) (rest := [.ref (a 24)]) hA (m_X_unionOf l G (k_WX G.2.1 a tl t) n x1 hr_1) cd_X10_unionOf nm_RX4_40 (Nat.le_of_ble_eq_true rfl) rfl rfl (Nat.le_of_ble_eq_true rfl) dX4_fewestRounds_2 ?_
  refine pt_X_24_5 hA wd_328 et_2 dX4_fewestRounds_5 ?_
  refine k_iconst hA dX4_fewestRounds_8 kc_i_0 ?_
  refine k_istore_n (i := 3) (lv' := [(3, .int (0 : Int32)), (0, .ref (a 24)), (1, .long x1)]) hA dX4_fewestRounds_9 rfl rfl (Nat.le_of_ble_eq_true rfl) rfl ?_
  refine k_pick (lv' := [(0, .ref (a 24)), (1, .long x1), (3, .int (0 : Int32))]) [1, 2, 0] rfl ?_
  exact m_Pa_fewestRounds_10 l G a tl n hA hr n x1 (0 : Int32) t_2 hf

def f_X_soonest (n : Nat) (t : k_St) : Option (Int32 × k_St) := (if (t.1 0 10) = 0 then k_lt (f_X_refuse (1 : Int32) t) (fun q_1 => some (q_1.1, q_1.2)) else k_cl (f_Pa_fewestRounds n (t.2 34 0) t) (fun r_3 t_2 => k_lt (f_X_answer r_3 t_2) (fun q_4 => some (q_4.1, q_4.2))))
theorem m_X_soonest (l : Launch) (G : k_G) (a : Nat → Nat) (tl : Value) (n : Nat) (t : k_St) {r : Int32} {t' : k_St} (hf : f_X_soonest n t = some (r, t')) : k_CI l G yX10_soonest cX10_soonest 1 (some .int) 9 (k_WX G.2.1 a tl t) [.ref (a 0)] r (k_WX G.2.1 a tl t') := by
  refine k_startI (lv := [(0, .ref (a 0))]) (by decide +kernel) (Nat.le_of_ble_eq_true rfl) rfl ?_
  intro p e s m args below meth c hA hr
  have hA : k_Amb p s m args meth c cX10_soonest 1 "TaleShares" G _ := hA
  unfold f_X_soonest at hf
  refine k_aload_n (i := 0) hA dX10_soonest_0 rfl 0 rfl ?_
  refine gt_X_0_8 hA wd_445 dX10_soonest_1 ?_
  refine k_if_eq (tgt := 28) hA dX10_soonest_4 rfl (fun hc => ?_) (fun hc => ?_)
  · have hf := k_ift hc hf
    obtain ⟨⟨rq_1, tq_1⟩, hq_1, hf⟩ := k_lt_e hf
    dsimp only at hf
    obtain ⟨rfl, rfl⟩ := k_r2 hf
    refine k_aload_n (i := 0) hA dX10_soonest_28 rfl 0 rfl ?_
    refine k_iconst hA dX10_soonest_29 kc_i_1 ?_
    refine k_callVi (As := [.int (1 : Int32)]) (rest := []) hA (m_X_refuse l G a tl (1 : Int32) t hq_1.symm) cd_X10_refuse wd_480 (hc_X_0 G.2.1 a tl t) rfl rfl (Nat.le_of_ble_eq_true rfl) rfl rfl (Nat.le_of_ble_eq_true rfl) dX10_soonest_30 ?_
    exact k_iret hA hr rfl dX10_soonest_33
  have hf := k_iff hc hf
  obtain ⟨r_3, t_2, ht_2, hf⟩ := k_cl_e hf
  obtain ⟨⟨rq_4, tq_4⟩, hq_4, hf⟩ := k_lt_e hf
  dsimp only at hf
  obtain ⟨rfl, rfl⟩ := k_r2 hf
  refine k_aload_n (i := 0) hA dX10_soonest_7 rfl 0 rfl ?_
  refine k_aload_n (i := 0) hA dX10_soonest_8 rfl 0 rfl ?_
  refine gt_X_0_2 hA wd_439 dX10_soonest_9 ?_
  refine k_aload_n (i := 0) hA dX10_soonest_12 rfl 0 rfl ?_
  refine gt_X_0_6 hA wd_443 dX10_soonest_13 ?_
  refine gt_X_34_0 hA wd_412 dX10_soonest_16 ?_
  refine k_callVi (As := [.long (t.2 34 0)]) (rest := [.ref (a 0)]) hA (m_Pa_fewestRounds l G a tl n (t.2 34 0) t ht_2) cd_X4_fewestRounds wd_913 (hc_X_24 G.2.1 a tl t) rfl rfl (Nat.le_of_ble_eq_true rfl) rfl rfl (Nat.le_of_ble_eq_true rfl) dX10_soonest_19 ?_
  refine k_callVi (As := [.int r_3]) (rest := []) hA (m_X_answer l G a tl r_3 t_2 hq_4.symm) cd_X10_answer wd_732 (hc_X_0 G.2.1 a tl t_2) rfl rfl (Nat.le_of_ble_eq_true rfl) rfl rfl (Nat.le_of_ble_eq_true rfl) dX10_soonest_22 ?_
  refine k_goto (tgt := 33) hA dX10_soonest_25 rfl ?_
  exact k_iret hA hr rfl dX10_soonest_33

def f_Pa_partnerOnWay (t : k_St) (x1 : Int32) (x2 : Int32) : Option Int32 := k_gi x1 3 (k_cp (f_Pa_partnerBy t (t.1 26 x1.toNatClampNeg) x2) (fun r_2 => (if r_2 = (15 : Int32) then some (-2 : Int32) else some r_2)))
theorem m_Pa_partnerOnWay (l : Launch) (G : k_G) (a : Nat → Nat) (tl : Value) (t : k_St) (x1 : Int32) (x2 : Int32) {r : Int32} (hf : f_Pa_partnerOnWay t x1 x2 = some r) : k_CI l G yX4_partnerOnWay cX4_partnerOnWay 4 (some .int) 2 (k_WX G.2.1 a tl t) [.ref (a 24), .int x1, .int x2] r (k_WX G.2.1 a tl t) := by
  refine k_startI (lv := [(0, .ref (a 24)), (1, .int x1), (2, .int x2)]) (by decide +kernel) (Nat.le_of_ble_eq_true rfl) rfl ?_
  intro p e s m args below meth c hA hr
  have hA : k_Amb p s m args meth c cX4_partnerOnWay 4 "TaleShares$Park" G _ := hA
  unfold f_Pa_partnerOnWay at hf
  obtain ⟨hi_1, hf⟩ := k_gi_e hf
  obtain ⟨r_2, hr_2, hf⟩ := k_cp_e hf
  refine k_aload_n (i := 0) hA dX4_partnerOnWay_0 rfl 0 rfl ?_
  refine k_aload_n (i := 0) hA dX4_partnerOnWay_1 rfl 0 rfl ?_
  refine gt_X_24_1 hA wd_324 dX4_partnerOnWay_2 ?_
  refine k_iload_n (i := 1) hA dX4_partnerOnWay_5 rfl 1 rfl ?_
  refine ld_X_26 hA hi_1 dX4_partnerOnWay_6 ?_
  refine k_iload_n (i := 2) hA dX4_partnerOnWay_7 rfl 2 rfl ?_
  refine k_callVi (As := [.int (t.1 26 x1.toNatClampNeg), .int x2]) (rest := []) hA (m_Pa_partnerBy l G a tl t (t.1 26 x1.toNatClampNeg) x2 hr_2) cd_X4_partnerBy wd_935 (hc_X_24 G.2.1 a tl t) rfl rfl (Nat.le_of_ble_eq_true rfl) rfl rfl (Nat.le_of_ble_eq_true rfl) dX4_partnerOnWay_8 ?_
  refine k_istore_n (i := 3) (lv' := [(3, .int r_2), (0, .ref (a 24)), (1, .int x1), (2, .int x2)]) hA dX4_partnerOnWay_11 rfl rfl (Nat.le_of_ble_eq_true rfl) rfl ?_
  refine k_iload_n (i := 3) hA dX4_partnerOnWay_12 rfl 0 rfl ?_
  refine k_bipush hA dX4_partnerOnWay_13 kc_b_15 ?_
  refine k_icmp_ne (tgt := 23) hA dX4_partnerOnWay_15 rfl (fun hc => ?_) (fun hc => ?_)
  · have hf := k_iff hc hf
    obtain rfl := k_r1 hf
    refine k_iload_n (i := 3) hA dX4_partnerOnWay_23 rfl 0 rfl ?_
    exact k_iret hA hr rfl dX4_partnerOnWay_24
  have hf := k_ift hc hf
  obtain rfl := k_r1 hf
  refine k_bipush hA dX4_partnerOnWay_18 kc_b_m2 ?_
  refine k_goto (tgt := 24) hA dX4_partnerOnWay_20 rfl ?_
  exact k_iret hA hr rfl dX4_partnerOnWay_24

def f_X_meets (n : Nat) (x1 : Int32) (x2 : Int32) (t : k_St) : Option (Int32 × k_St) := (if (k_b (f_X_noHouse t x2)) = 0 then (if x1 < 0 then k_lt (f_X_refuse (1 : Int32) t) (fun q_2 => some (q_2.1, q_2.2)) else k_cl (f_Pa_fewestRounds n (t.2 34 0) t) (fun r_4 t_3 => (if x1 < r_4 then k_cp (f_Pa_partnerOnWay t_3 x1 x2) (fun r_5 => k_lt (f_X_answer r_5 t_3) (fun q_6 => some (q_6.1, q_6.2))) else k_lt (f_X_refuse (1 : Int32) t_3) (fun q_7 => some (q_7.1, q_7.2))))) else k_lt (f_X_refuse (1 : Int32) t) (fun q_1 => some (q_1.1, q_1.2)))
theorem m_X_meets (l : Launch) (G : k_G) (a : Nat → Nat) (tl : Value) (n : Nat) (x1 : Int32) (x2 : Int32) (t : k_St) {r : Int32} {t' : k_St} (hf : f_X_meets n x1 x2 t = some (r, t')) : k_CI l G yX10_meets cX10_meets 3 (some .int) 9 (k_WX G.2.1 a tl t) [.ref (a 0), .int x1, .int x2] r (k_WX G.2.1 a tl t') := by
  refine k_startI (lv := [(0, .ref (a 0)), (1, .int x1), (2, .int x2)]) (by decide +kernel) (Nat.le_of_ble_eq_true rfl) rfl ?_
  intro p e s m args below meth c hA hr
  have hA : k_Amb p s m args meth c cX10_meets 3 "TaleShares" G _ := hA
  unfold f_X_meets at hf
  refine k_aload_n (i := 0) hA dX10_meets_0 rfl 0 rfl ?_
  refine k_iload_n (i := 2) hA dX10_meets_1 rfl 2 rfl ?_
  refine k_callVi (As := [.int x2]) (rest := []) hA (m_X_noHouse l G a tl t x2 rfl) cd_X10_noHouse wd_776 (hc_X_0 G.2.1 a tl t) rfl rfl (Nat.le_of_ble_eq_true rfl) rfl rfl (Nat.le_of_ble_eq_true rfl) dX10_meets_2 ?_
  refine k_if_ne (tgt := 30) hA dX10_meets_5 rfl (fun hc => ?_) (fun hc => ?_)
  · have hf := k_iff hc hf
    obtain ⟨⟨rq_1, tq_1⟩, hq_1, hf⟩ := k_lt_e hf
    dsimp only at hf
    obtain ⟨rfl, rfl⟩ := k_r2 hf
    refine k_aload_n (i := 0) hA dX10_meets_30 rfl 0 rfl ?_
    refine k_iconst hA dX10_meets_31 kc_i_1 ?_
    refine k_callVi (As := [.int (1 : Int32)]) (rest := []) hA (m_X_refuse l G a tl (1 : Int32) t hq_1.symm) cd_X10_refuse wd_480 (hc_X_0 G.2.1 a tl t) rfl rfl (Nat.le_of_ble_eq_true rfl) rfl rfl (Nat.le_of_ble_eq_true rfl) dX10_meets_32 ?_
    exact k_iret hA hr rfl dX10_meets_35
  have hf := k_ift hc hf
  refine k_iload_n (i := 1) hA dX10_meets_8 rfl 1 rfl ?_
  refine k_if_lt (tgt := 30) hA dX10_meets_9 rfl (fun hc => ?_) (fun hc => ?_)
  · have hf := k_ift hc hf
    obtain ⟨⟨rq_2, tq_2⟩, hq_2, hf⟩ := k_lt_e hf
    dsimp only at hf
    obtain ⟨rfl, rfl⟩ := k_r2 hf
    refine k_aload_n (i := 0) hA dX10_meets_30 rfl 0 rfl ?_
    refine k_iconst hA dX10_meets_31 kc_i_1 ?_
    refine k_callVi (As := [.int (1 : Int32)]) (rest := []) hA (m_X_refuse l G a tl (1 : Int32) t hq_2.symm) cd_X10_refuse wd_480 (hc_X_0 G.2.1 a tl t) rfl rfl (Nat.le_of_ble_eq_true rfl) rfl rfl (Nat.le_of_ble_eq_true rfl) dX10_meets_32 ?_
    exact k_iret hA hr rfl dX10_meets_35
  have hf := k_iff hc hf
  obtain ⟨r_4, t_3, ht_3, hf⟩ := k_cl_e hf
  refine k_iload_n (i := 1) hA dX10_meets_12 rfl 1 rfl ?_
  refine k_aload_n (i := 0) hA dX10_meets_13 rfl 0 rfl ?_
  refine gt_X_0_2 hA wd_439 dX10_meets_14 ?_
  refine k_aload_n (i := 0) hA dX10_meets_17 rfl 0 rfl ?_
  refine gt_X_0_6 hA wd_443 dX10_meets_18 ?_
  refine gt_X_34_0 hA wd_412 dX10_meets_21 ?_
  refine k_callVi (As := [.long (t.2 34 0)]) (rest := [.int x1]) hA (m_Pa_fewestRounds l G a tl n (t.2 34 0) t ht_3) cd_X4_fewestRounds wd_913 (hc_X_24 G.2.1 a tl t) rfl rfl (Nat.le_of_ble_eq_true rfl) rfl rfl (Nat.le_of_ble_eq_true rfl) dX10_meets_24 ?_
  refine k_icmp_lt (tgt := 36) hA dX10_meets_27 rfl (fun hc => ?_) (fun hc => ?_)
  · have hf := k_ift hc hf
    obtain ⟨r_5, hr_5, hf⟩ := k_cp_e hf
    obtain ⟨⟨rq_6, tq_6⟩, hq_6, hf⟩ := k_lt_e hf
    dsimp only at hf
    obtain ⟨rfl, rfl⟩ := k_r2 hf
    refine k_aload_n (i := 0) hA dX10_meets_36 rfl 0 rfl ?_
    refine k_aload_n (i := 0) hA dX10_meets_37 rfl 0 rfl ?_
    refine gt_X_0_2 hA wd_439 dX10_meets_38 ?_
    refine k_iload_n (i := 1) hA dX10_meets_41 rfl 1 rfl ?_
    refine k_iload_n (i := 2) hA dX10_meets_42 rfl 2 rfl ?_
    refine k_callVi (As := [.int x1, .int x2]) (rest := [.ref (a 0)]) hA (m_Pa_partnerOnWay l G a tl t_3 x1 x2 hr_5) cd_X4_partnerOnWay wd_944 (hc_X_24 G.2.1 a tl t_3) rfl rfl (Nat.le_of_ble_eq_true rfl) rfl rfl (Nat.le_of_ble_eq_true rfl) dX10_meets_43 ?_
    refine k_callVi (As := [.int r_5]) (rest := []) hA (m_X_answer l G a tl r_5 t_3 hq_6.symm) cd_X10_answer wd_732 (hc_X_0 G.2.1 a tl t_3) rfl rfl (Nat.le_of_ble_eq_true rfl) rfl rfl (Nat.le_of_ble_eq_true rfl) dX10_meets_46 ?_
    exact k_iret hA hr rfl dX10_meets_49
  have hf := k_iff hc hf
  obtain ⟨⟨rq_7, tq_7⟩, hq_7, hf⟩ := k_lt_e hf
  dsimp only at hf
  obtain ⟨rfl, rfl⟩ := k_r2 hf
  refine k_aload_n (i := 0) hA dX10_meets_30 rfl 0 rfl ?_
  refine k_iconst hA dX10_meets_31 kc_i_1 ?_
  refine k_callVi (As := [.int (1 : Int32)]) (rest := []) hA (m_X_refuse l G a tl (1 : Int32) t_3 hq_7.symm) cd_X10_refuse wd_480 (hc_X_0 G.2.1 a tl t_3) rfl rfl (Nat.le_of_ble_eq_true rfl) rfl rfl (Nat.le_of_ble_eq_true rfl) dX10_meets_32 ?_
  exact k_iret hA hr rfl dX10_meets_35

def f_Pa_mostFrom_16 (n : Nat) (t : k_St) (self : Int64 → Int32 → Option Int32) : Nat → Int64 → Int32 → Int32 → Int32 → Option Int32
  | 0, _, _, _, _ => none
  | k + 1, x1, x3, x4, x5 => (if (t.1 24 2) ≤ x5 then some x4 else k_cp (f_Pa_behindRound n t x1 x5) (fun r_1 => k_cp (self r_1 (x3 - (1 : Int32))) (fun r_2 => k_lt (if x4 < r_2 then r_2 else x4) (fun x4_3 => k_lt (x5 + (1 : Int32)) (fun x5_4 => f_Pa_mostFrom_16 n t self k x1 x3 x4_3 x5_4)))))
def f_Pa_mostFrom (n : Nat) (t : k_St) : Nat → Int64 → Int32 → Option Int32
  | 0, _, _ => none
  | d + 1, x1, x3 => (if 0 < x3 then f_Pa_mostFrom_16 n t (f_Pa_mostFrom n t d) n x1 x3 (0 : Int32) (0 : Int32) else k_cp (f_Pa_countAllKnowing n t x1) (fun r_1 => some r_1))
theorem m_Pa_mostFrom_16 {p : Program} (l : Launch) {e : Env} {s : State} {m : MethodId} {args : Array Value} {below : List Frame} {meth : Method} {c : Code} (G : k_G) (a : Nat → Nat) (tl : Value) (n : Nat) (t : k_St) {w0 : va_W} {r : Int32} (d : Nat) (hA : k_Amb p s m args meth c cX4_mostFrom 6 "TaleShares$Park" G (va_A w0 s.heap.size)) (hr : meth.sig.returnType = (some .int)) (self : Int64 → Int32 → Option Int32) (hself : ∀ (x1 : Int64) (x3 : Int32) (r : Int32), self x1 x3 = some r → k_CI l G yX4_mostFrom cX4_mostFrom 6 (some .int) (d + 3) (k_WX G.2.1 a tl t) [.ref (a 24), .long x1, .int x3] r (k_WX G.2.1 a tl t)) : ∀ (k : Nat) (x1 : Int64) (x3 : Int32) (x4 : Int32) (x5 : Int32), f_Pa_mostFrom_16 n t self k x1 x3 x4 x5 = some r → k_Go p l e (k_rm (d + 1 + 3)) s m args below meth c (k_QI G w0 r (k_WX G.2.1 a tl t) args s below) 6 G (va_A w0 s.heap.size) (k_WX G.2.1 a tl t) 16 [(0, .ref (a 24)), (1, .long x1), (3, .int x3), (4, .int x4), (5, .int x5)] [] := by
  intro k
  induction k with
  | zero => intro x1 x3 x4 x5 hf; cases hf
  | succ k ih =>
  intro x1 x3 x4 x5 hf
  rw [f_Pa_mostFrom_16] at hf
  refine k_iload hA dX4_mostFrom_16 4 rfl ?_
  refine k_aload_n (i := 0) hA dX4_mostFrom_18 rfl 0 rfl ?_
  refine gt_X_24_2 hA wd_325 dX4_mostFrom_19 ?_
  refine k_icmp_ge (tgt := 52) hA dX4_mostFrom_22 rfl (fun hc => ?_) (fun hc => ?_)
  · have hf := k_ift hc hf
    obtain rfl := k_r1 hf
    refine k_iload hA dX4_mostFrom_52 3 rfl ?_
    exact k_iret hA hr rfl dX4_mostFrom_54
  have hf := k_iff hc hf
  obtain ⟨r_1, hr_1, hf⟩ := k_cp_e hf
  obtain ⟨r_2, hr_2, hf⟩ := k_cp_e hf
  obtain ⟨x4_3, ex4_3, hf⟩ := k_lt_e hf
  obtain ⟨x5_4, ex5_4, hf⟩ := k_lt_e hf
  refine k_iload hA dX4_mostFrom_25 3 rfl ?_
  refine k_aload_n (i := 0) hA dX4_mostFrom_27 rfl 0 rfl ?_
  refine k_aload_n (i := 0) hA dX4_mostFrom_28 rfl 0 rfl ?_
  refine k_lload_n (i := 1) hA dX4_mostFrom_29 rfl 1 rfl ?_
  refine k_iload hA dX4_mostFrom_30 4 rfl ?_
  refine k_callVl (As := [.long x1, .int x5]) (rest := [.ref (a 24), .int x4]) hA (m_Pa_behindRound l G a tl n t x1 x5 hr_1) cd_X4_behindRound wd_931 (hc_X_24 G.2.1 a tl t) rfl rfl (by omega) rfl rfl (Nat.le_of_ble_eq_true rfl) dX4_mostFrom_32 ?_
  refine k_iload_n (i := 3) hA dX4_mostFrom_35 rfl 2 rfl ?_
  refine k_iconst hA dX4_mostFrom_36 kc_i_1 ?_
  refine k_isub hA dX4_mostFrom_37 ?_
  refine k_callVi (As := [.long r_1, .int (x3 - (1 : Int32))]) (rest := [.int x4]) hA (hself r_1 (x3 - (1 : Int32)) _ hr_2) cd_X4_mostFrom wd_956 (hc_X_24 G.2.1 a tl t) rfl rfl (by omega) rfl rfl (Nat.le_of_ble_eq_true rfl) dX4_mostFrom_38 ?_
  refine k_mmax hA wd_960 wd_702 wd_129 wd_703 (by omega) (Nat.le_of_ble_eq_true rfl) dX4_mostFrom_41 ?_
  refine k_istore (lv' := [(4, .int x4_3), (0, .ref (a 24)), (1, .long x1), (3, .int x3), (5, .int x5)]) hA dX4_mostFrom_44 ex4_3 (Nat.le_of_ble_eq_true rfl) rfl ?_
  refine k_iinc (j := 4) (v := x5_4) (lv' := [(5, .int x5_4), (4, .int x4_3), (0, .ref (a 24)), (1, .long x1), (3, .int x3)]) hA dX4_mostFrom_46 rfl (k_inc ex5_4 kc_i_1) (Nat.le_of_ble_eq_true rfl) rfl ?_
  refine k_goto (tgt := 16) hA dX4_mostFrom_49 rfl ?_
  refine k_pick (lv' := [(0, .ref (a 24)), (1, .long x1), (3, .int x3), (4, .int x4_3), (5, .int x5_4)]) [2, 3, 4, 1, 0] rfl ?_
  exact ih x1 x3 x4_3 x5_4 hf

theorem m_Pa_mostFrom (l : Launch) (G : k_G) (a : Nat → Nat) (tl : Value) (n : Nat) (t : k_St) : ∀ (d : Nat) (x1 : Int64) (x3 : Int32) (r : Int32), f_Pa_mostFrom n t d x1 x3 = some r → k_CI l G yX4_mostFrom cX4_mostFrom 6 (some .int) (d + 3) (k_WX G.2.1 a tl t) [.ref (a 24), .long x1, .int x3] r (k_WX G.2.1 a tl t) := by
  intro d
  induction d with
  | zero => intro x1 x3 r hf; cases hf
  | succ d m_ih =>
  intro x1 x3 r hf
  refine k_startI (lv := [(0, .ref (a 24)), (1, .long x1), (3, .int x3)]) (by decide +kernel) (Nat.le_of_ble_eq_true rfl) rfl ?_
  intro p e s m args below meth c hA hr
  have hA : k_Amb p s m args meth c cX4_mostFrom 6 "TaleShares$Park" G _ := hA
  rw [f_Pa_mostFrom] at hf
  refine k_iload_n (i := 3) hA dX4_mostFrom_0 rfl 2 rfl ?_
  refine k_if_gt (tgt := 10) hA dX4_mostFrom_1 rfl (fun hc => ?_) (fun hc => ?_)
  · have hf := k_ift hc hf
    refine k_iconst hA dX4_mostFrom_10 kc_i_0 ?_
    refine k_istore (lv' := [(4, .int (0 : Int32)), (0, .ref (a 24)), (1, .long x1), (3, .int x3)]) hA dX4_mostFrom_11 rfl (Nat.le_of_ble_eq_true rfl) rfl ?_
    refine k_iconst hA dX4_mostFrom_13 kc_i_0 ?_
    refine k_istore (lv' := [(5, .int (0 : Int32)), (4, .int (0 : Int32)), (0, .ref (a 24)), (1, .long x1), (3, .int x3)]) hA dX4_mostFrom_14 rfl (Nat.le_of_ble_eq_true rfl) rfl ?_
    refine k_pick (lv' := [(0, .ref (a 24)), (1, .long x1), (3, .int x3), (4, .int (0 : Int32)), (5, .int (0 : Int32))]) [2, 3, 4, 1, 0] rfl ?_
    exact m_Pa_mostFrom_16 l G a tl n t d hA hr (f_Pa_mostFrom n t d) m_ih n x1 x3 (0 : Int32) (0 : Int32) hf
  have hf := k_iff hc hf
  obtain ⟨r_1, hr_1, hf⟩ := k_cp_e hf
  obtain rfl := k_r1 hf
  refine k_aload_n (i := 0) hA dX4_mostFrom_4 rfl 0 rfl ?_
  refine k_lload_n (i := 1) hA dX4_mostFrom_5 rfl 1 rfl ?_
  refine k_callVi (As := [.long x1]) (rest := []) hA (m_Pa_countAllKnowing l G a tl n t x1 hr_1) cd_X4_countAllKnowing wd_922 (hc_X_24 G.2.1 a tl t) rfl rfl (by omega) rfl rfl (Nat.le_of_ble_eq_true rfl) dX4_mostFrom_6 ?_
  exact k_iret hA hr rfl dX4_mostFrom_9

def f_Pa_mostThatKnowAll (n : Nat) (x1 : Int64) (x3 : Int32) (t : k_St) : Option (Int32 × k_St) := k_cp (f_X_unionOf n x1) (fun r_1 => k_lt (k_sI t 24 5 r_1) (fun t_2 => k_cp (f_Pa_mostFrom n t_2 (3 : Nat) x1 x3) (fun r_3 => some (r_3, t_2))))
theorem m_Pa_mostThatKnowAll (l : Launch) (G : k_G) (a : Nat → Nat) (tl : Value) (n : Nat) (x1 : Int64) (x3 : Int32) (t : k_St) {r : Int32} {t' : k_St} (hf : f_Pa_mostThatKnowAll n x1 x3 t = some (r, t')) : k_CI l G yX4_mostThatKnowAll cX4_mostThatKnowAll 4 (some .int) 7 (k_WX G.2.1 a tl t) [.ref (a 24), .long x1, .int x3] r (k_WX G.2.1 a tl t') := by
  refine k_startI (lv := [(0, .ref (a 24)), (1, .long x1), (3, .int x3)]) (by decide +kernel) (Nat.le_of_ble_eq_true rfl) rfl ?_
  intro p e s m args below meth c hA hr
  have hA : k_Amb p s m args meth c cX4_mostThatKnowAll 4 "TaleShares$Park" G _ := hA
  unfold f_Pa_mostThatKnowAll at hf
  obtain ⟨r_1, hr_1, hf⟩ := k_cp_e hf
  obtain ⟨t_2, et_2, hf⟩ := k_lt_e hf
  obtain ⟨r_3, hr_3, hf⟩ := k_cp_e hf
  obtain ⟨rfl, rfl⟩ := k_r2 hf
  refine k_aload_n (i := 0) hA dX4_mostThatKnowAll_0 rfl 0 rfl ?_
  refine k_lload_n (i := 1) hA dX4_mostThatKnowAll_1 rfl 1 rfl ?_
  refine k_callSNi (As := [.long x1]) (rest := [.ref (a 24)]) hA (m_X_unionOf l G (k_WX G.2.1 a tl t) n x1 hr_1) cd_X10_unionOf nm_RX4_40 (Nat.le_of_ble_eq_true rfl) rfl rfl (Nat.le_of_ble_eq_true rfl) dX4_mostThatKnowAll_2 ?_
  refine pt_X_24_5 hA wd_328 et_2 dX4_mostThatKnowAll_5 ?_
  refine k_aload_n (i := 0) hA dX4_mostThatKnowAll_8 rfl 0 rfl ?_
  refine k_lload_n (i := 1) hA dX4_mostThatKnowAll_9 rfl 1 rfl ?_
  refine k_iload_n (i := 3) hA dX4_mostThatKnowAll_10 rfl 2 rfl ?_
  refine k_callVi (As := [.long x1, .int x3]) (rest := []) hA (m_Pa_mostFrom l G a tl n t_2 (3 : Nat) x1 x3 _ hr_3) cd_X4_mostFrom wd_956 (hc_X_24 G.2.1 a tl t_2) rfl rfl (Nat.le_of_ble_eq_true rfl) rfl rfl (Nat.le_of_ble_eq_true rfl) dX4_mostThatKnowAll_11 ?_
  exact k_iret hA hr rfl dX4_mostThatKnowAll_14

def f_X_mostBehind (n : Nat) (x1 : Int32) (t : k_St) : Option (Int32 × k_St) := (if (t.1 0 10) = 0 then k_lt (f_X_refuse (1 : Int32) t) (fun q_6 => some (q_6.1, q_6.2)) else (if x1 < 0 then k_lt (f_X_refuse (2 : Int32) t) (fun q_1 => some (q_1.1, q_1.2)) else (if x1 < (3 : Int32) then k_cl (f_Pa_mostThatKnowAll n (t.2 34 0) x1 t) (fun r_3 t_2 => k_lt (f_X_answer r_3 t_2) (fun q_4 => some (q_4.1, q_4.2))) else k_lt (f_X_refuse (2 : Int32) t) (fun q_5 => some (q_5.1, q_5.2)))))
theorem m_X_mostBehind (l : Launch) (G : k_G) (a : Nat → Nat) (tl : Value) (n : Nat) (x1 : Int32) (t : k_St) {r : Int32} {t' : k_St} (hf : f_X_mostBehind n x1 t = some (r, t')) : k_CI l G yX10_mostBehind cX10_mostBehind 2 (some .int) 8 (k_WX G.2.1 a tl t) [.ref (a 0), .int x1] r (k_WX G.2.1 a tl t') := by
  refine k_startI (lv := [(0, .ref (a 0)), (1, .int x1)]) (by decide +kernel) (Nat.le_of_ble_eq_true rfl) rfl ?_
  intro p e s m args below meth c hA hr
  have hA : k_Amb p s m args meth c cX10_mostBehind 2 "TaleShares" G _ := hA
  unfold f_X_mostBehind at hf
  refine k_aload_n (i := 0) hA dX10_mostBehind_0 rfl 0 rfl ?_
  refine gt_X_0_8 hA wd_445 dX10_mostBehind_1 ?_
  refine k_if_ne (tgt := 13) hA dX10_mostBehind_4 rfl (fun hc => ?_) (fun hc => ?_)
  · have hf := k_iff hc hf
    refine k_iload_n (i := 1) hA dX10_mostBehind_13 rfl 1 rfl ?_
    refine k_if_lt (tgt := 22) hA dX10_mostBehind_14 rfl (fun hc => ?_) (fun hc => ?_)
    · have hf := k_ift hc hf
      obtain ⟨⟨rq_1, tq_1⟩, hq_1, hf⟩ := k_lt_e hf
      dsimp only at hf
      obtain ⟨rfl, rfl⟩ := k_r2 hf
      refine k_aload_n (i := 0) hA dX10_mostBehind_22 rfl 0 rfl ?_
      refine k_iconst hA dX10_mostBehind_23 kc_i_2 ?_
      refine k_callVi (As := [.int (2 : Int32)]) (rest := []) hA (m_X_refuse l G a tl (2 : Int32) t hq_1.symm) cd_X10_refuse wd_480 (hc_X_0 G.2.1 a tl t) rfl rfl (Nat.le_of_ble_eq_true rfl) rfl rfl (Nat.le_of_ble_eq_true rfl) dX10_mostBehind_24 ?_
      exact k_iret hA hr rfl dX10_mostBehind_27
    have hf := k_iff hc hf
    refine k_iload_n (i := 1) hA dX10_mostBehind_17 rfl 1 rfl ?_
    refine k_iconst hA dX10_mostBehind_18 kc_i_3 ?_
    refine k_icmp_lt (tgt := 28) hA dX10_mostBehind_19 rfl (fun hc => ?_) (fun hc => ?_)
    · have hf := k_ift hc hf
      obtain ⟨r_3, t_2, ht_2, hf⟩ := k_cl_e hf
      obtain ⟨⟨rq_4, tq_4⟩, hq_4, hf⟩ := k_lt_e hf
      dsimp only at hf
      obtain ⟨rfl, rfl⟩ := k_r2 hf
      refine k_aload_n (i := 0) hA dX10_mostBehind_28 rfl 0 rfl ?_
      refine k_aload_n (i := 0) hA dX10_mostBehind_29 rfl 0 rfl ?_
      refine gt_X_0_2 hA wd_439 dX10_mostBehind_30 ?_
      refine k_aload_n (i := 0) hA dX10_mostBehind_33 rfl 0 rfl ?_
      refine gt_X_0_6 hA wd_443 dX10_mostBehind_34 ?_
      refine gt_X_34_0 hA wd_412 dX10_mostBehind_37 ?_
      refine k_iload_n (i := 1) hA dX10_mostBehind_40 rfl 1 rfl ?_
      refine k_callVi (As := [.long (t.2 34 0), .int x1]) (rest := [.ref (a 0)]) hA (m_Pa_mostThatKnowAll l G a tl n (t.2 34 0) x1 t ht_2) cd_X4_mostThatKnowAll wd_952 (hc_X_24 G.2.1 a tl t) rfl rfl (Nat.le_of_ble_eq_true rfl) rfl rfl (Nat.le_of_ble_eq_true rfl) dX10_mostBehind_41 ?_
      refine k_callVi (As := [.int r_3]) (rest := []) hA (m_X_answer l G a tl r_3 t_2 hq_4.symm) cd_X10_answer wd_732 (hc_X_0 G.2.1 a tl t_2) rfl rfl (Nat.le_of_ble_eq_true rfl) rfl rfl (Nat.le_of_ble_eq_true rfl) dX10_mostBehind_44 ?_
      exact k_iret hA hr rfl dX10_mostBehind_47
    have hf := k_iff hc hf
    obtain ⟨⟨rq_5, tq_5⟩, hq_5, hf⟩ := k_lt_e hf
    dsimp only at hf
    obtain ⟨rfl, rfl⟩ := k_r2 hf
    refine k_aload_n (i := 0) hA dX10_mostBehind_22 rfl 0 rfl ?_
    refine k_iconst hA dX10_mostBehind_23 kc_i_2 ?_
    refine k_callVi (As := [.int (2 : Int32)]) (rest := []) hA (m_X_refuse l G a tl (2 : Int32) t hq_5.symm) cd_X10_refuse wd_480 (hc_X_0 G.2.1 a tl t) rfl rfl (Nat.le_of_ble_eq_true rfl) rfl rfl (Nat.le_of_ble_eq_true rfl) dX10_mostBehind_24 ?_
    exact k_iret hA hr rfl dX10_mostBehind_27
  have hf := k_ift hc hf
  obtain ⟨⟨rq_6, tq_6⟩, hq_6, hf⟩ := k_lt_e hf
  dsimp only at hf
  obtain ⟨rfl, rfl⟩ := k_r2 hf
  refine k_aload_n (i := 0) hA dX10_mostBehind_7 rfl 0 rfl ?_
  refine k_iconst hA dX10_mostBehind_8 kc_i_1 ?_
  refine k_callVi (As := [.int (1 : Int32)]) (rest := []) hA (m_X_refuse l G a tl (1 : Int32) t hq_6.symm) cd_X10_refuse wd_480 (hc_X_0 G.2.1 a tl t) rfl rfl (Nat.le_of_ble_eq_true rfl) rfl rfl (Nat.le_of_ble_eq_true rfl) dX10_mostBehind_9 ?_
  exact k_iret hA hr rfl dX10_mostBehind_12

def f_X_walks (t : k_St) : Int32 × k_St := (if (t.1 0 10) = 0 then k_lt (f_X_refuse (1 : Int32) t) (fun q_3 => (q_3.1, q_3.2)) else (if (t.1 2 4) = 0 then k_lt (f_X_refuse (6 : Int32) t) (fun q_2 => (q_2.1, q_2.2)) else k_lt (f_X_answer (t.1 27 0) t) (fun q_1 => (q_1.1, q_1.2))))
theorem m_X_walks (l : Launch) (G : k_G) (a : Nat → Nat) (tl : Value) (t : k_St) {r : Int32} {t' : k_St} (hf : f_X_walks t = (r, t')) : k_CI l G yX10_walks cX10_walks 1 (some .int) 2 (k_WX G.2.1 a tl t) [.ref (a 0)] r (k_WX G.2.1 a tl t') := by
  refine k_startI (lv := [(0, .ref (a 0))]) (by decide +kernel) (Nat.le_of_ble_eq_true rfl) rfl ?_
  intro p e s m args below meth c hA hr
  have hA : k_Amb p s m args meth c cX10_walks 1 "TaleShares" G _ := hA
  unfold f_X_walks at hf
  refine k_aload_n (i := 0) hA dX10_walks_0 rfl 0 rfl ?_
  refine gt_X_0_8 hA wd_445 dX10_walks_1 ?_
  refine k_if_ne (tgt := 13) hA dX10_walks_4 rfl (fun hc => ?_) (fun hc => ?_)
  · have hf := k_iff hc hf
    refine k_aload_n (i := 0) hA dX10_walks_13 rfl 0 rfl ?_
    refine gt_X_0_7 hA wd_444 dX10_walks_14 ?_
    refine gt_X_2_4 hA wd_177 dX10_walks_17 ?_
    refine k_if_ne (tgt := 32) hA dX10_walks_20 rfl (fun hc => ?_) (fun hc => ?_)
    · have hf := k_iff hc hf
      obtain ⟨⟨rq_1, tq_1⟩, hq_1, hf⟩ := k_lt_e hf
      dsimp only at hf
      obtain ⟨rfl, rfl⟩ := k_p2 hf
      refine k_aload_n (i := 0) hA dX10_walks_32 rfl 0 rfl ?_
      refine k_aload_n (i := 0) hA dX10_walks_33 rfl 0 rfl ?_
      refine gt_X_0_3 hA wd_440 dX10_walks_34 ?_
      refine gt_X_27_0 hA wd_349 dX10_walks_37 ?_
      refine k_callVi (As := [.int (t.1 27 0)]) (rest := []) hA (m_X_answer l G a tl (t.1 27 0) t hq_1.symm) cd_X10_answer wd_732 (hc_X_0 G.2.1 a tl t) rfl rfl (Nat.le_of_ble_eq_true rfl) rfl rfl (Nat.le_of_ble_eq_true rfl) dX10_walks_40 ?_
      exact k_iret hA hr rfl dX10_walks_43
    have hf := k_ift hc hf
    obtain ⟨⟨rq_2, tq_2⟩, hq_2, hf⟩ := k_lt_e hf
    dsimp only at hf
    obtain ⟨rfl, rfl⟩ := k_p2 hf
    refine k_aload_n (i := 0) hA dX10_walks_23 rfl 0 rfl ?_
    refine k_bipush hA dX10_walks_24 kc_b_6 ?_
    refine k_callVi (As := [.int (6 : Int32)]) (rest := []) hA (m_X_refuse l G a tl (6 : Int32) t hq_2.symm) cd_X10_refuse wd_480 (hc_X_0 G.2.1 a tl t) rfl rfl (Nat.le_of_ble_eq_true rfl) rfl rfl (Nat.le_of_ble_eq_true rfl) dX10_walks_26 ?_
    refine k_goto (tgt := 43) hA dX10_walks_29 rfl ?_
    exact k_iret hA hr rfl dX10_walks_43
  have hf := k_ift hc hf
  obtain ⟨⟨rq_3, tq_3⟩, hq_3, hf⟩ := k_lt_e hf
  dsimp only at hf
  obtain ⟨rfl, rfl⟩ := k_p2 hf
  refine k_aload_n (i := 0) hA dX10_walks_7 rfl 0 rfl ?_
  refine k_iconst hA dX10_walks_8 kc_i_1 ?_
  refine k_callVi (As := [.int (1 : Int32)]) (rest := []) hA (m_X_refuse l G a tl (1 : Int32) t hq_3.symm) cd_X10_refuse wd_480 (hc_X_0 G.2.1 a tl t) rfl rfl (Nat.le_of_ble_eq_true rfl) rfl rfl (Nat.le_of_ble_eq_true rfl) dX10_walks_9 ?_
  exact k_iret hA hr rfl dX10_walks_12

def f_X_visit (x1 : Int32) (t : k_St) : Option (Int32 × k_St) := (if (k_b (f_X_noHouse t x1)) = 0 then (if (t.1 27 1) = 0 then k_lt (f_X_refuse (1 : Int32) t) (fun q_4 => some (q_4.1, q_4.2)) else k_gi x1 5 (k_lt (f_X_answer (t.1 28 x1.toNatClampNeg) t) (fun q_3 => some (q_3.1, q_3.2)))) else k_lt (f_X_refuse (1 : Int32) t) (fun q_1 => some (q_1.1, q_1.2)))
theorem m_X_visit (l : Launch) (G : k_G) (a : Nat → Nat) (tl : Value) (x1 : Int32) (t : k_St) {r : Int32} {t' : k_St} (hf : f_X_visit x1 t = some (r, t')) : k_CI l G yX10_visit cX10_visit 2 (some .int) 2 (k_WX G.2.1 a tl t) [.ref (a 0), .int x1] r (k_WX G.2.1 a tl t') := by
  refine k_startI (lv := [(0, .ref (a 0)), (1, .int x1)]) (by decide +kernel) (Nat.le_of_ble_eq_true rfl) rfl ?_
  intro p e s m args below meth c hA hr
  have hA : k_Amb p s m args meth c cX10_visit 2 "TaleShares" G _ := hA
  unfold f_X_visit at hf
  refine k_aload_n (i := 0) hA dX10_visit_0 rfl 0 rfl ?_
  refine k_iload_n (i := 1) hA dX10_visit_1 rfl 1 rfl ?_
  refine k_callVi (As := [.int x1]) (rest := []) hA (m_X_noHouse l G a tl t x1 rfl) cd_X10_noHouse wd_776 (hc_X_0 G.2.1 a tl t) rfl rfl (Nat.le_of_ble_eq_true rfl) rfl rfl (Nat.le_of_ble_eq_true rfl) dX10_visit_2 ?_
  refine k_if_ne (tgt := 18) hA dX10_visit_5 rfl (fun hc => ?_) (fun hc => ?_)
  · have hf := k_iff hc hf
    obtain ⟨⟨rq_1, tq_1⟩, hq_1, hf⟩ := k_lt_e hf
    dsimp only at hf
    obtain ⟨rfl, rfl⟩ := k_r2 hf
    refine k_aload_n (i := 0) hA dX10_visit_18 rfl 0 rfl ?_
    refine k_iconst hA dX10_visit_19 kc_i_1 ?_
    refine k_callVi (As := [.int (1 : Int32)]) (rest := []) hA (m_X_refuse l G a tl (1 : Int32) t hq_1.symm) cd_X10_refuse wd_480 (hc_X_0 G.2.1 a tl t) rfl rfl (Nat.le_of_ble_eq_true rfl) rfl rfl (Nat.le_of_ble_eq_true rfl) dX10_visit_20 ?_
    exact k_iret hA hr rfl dX10_visit_23
  have hf := k_ift hc hf
  refine k_aload_n (i := 0) hA dX10_visit_8 rfl 0 rfl ?_
  refine gt_X_0_3 hA wd_440 dX10_visit_9 ?_
  refine gt_X_27_1 hA wd_351 dX10_visit_12 ?_
  refine k_if_ne (tgt := 24) hA dX10_visit_15 rfl (fun hc => ?_) (fun hc => ?_)
  · have hf := k_iff hc hf
    obtain ⟨hi_2, hf⟩ := k_gi_e hf
    obtain ⟨⟨rq_3, tq_3⟩, hq_3, hf⟩ := k_lt_e hf
    dsimp only at hf
    obtain ⟨rfl, rfl⟩ := k_r2 hf
    refine k_aload_n (i := 0) hA dX10_visit_24 rfl 0 rfl ?_
    refine k_aload_n (i := 0) hA dX10_visit_25 rfl 0 rfl ?_
    refine gt_X_0_3 hA wd_440 dX10_visit_26 ?_
    refine gt_X_27_2 hA wd_353 dX10_visit_29 ?_
    refine k_iload_n (i := 1) hA dX10_visit_32 rfl 1 rfl ?_
    refine ld_X_28 hA hi_2 dX10_visit_33 ?_
    refine k_callVi (As := [.int (t.1 28 x1.toNatClampNeg)]) (rest := []) hA (m_X_answer l G a tl (t.1 28 x1.toNatClampNeg) t hq_3.symm) cd_X10_answer wd_732 (hc_X_0 G.2.1 a tl t) rfl rfl (Nat.le_of_ble_eq_true rfl) rfl rfl (Nat.le_of_ble_eq_true rfl) dX10_visit_34 ?_
    exact k_iret hA hr rfl dX10_visit_37
  have hf := k_ift hc hf
  obtain ⟨⟨rq_4, tq_4⟩, hq_4, hf⟩ := k_lt_e hf
  dsimp only at hf
  obtain ⟨rfl, rfl⟩ := k_r2 hf
  refine k_aload_n (i := 0) hA dX10_visit_18 rfl 0 rfl ?_
  refine k_iconst hA dX10_visit_19 kc_i_1 ?_
  refine k_callVi (As := [.int (1 : Int32)]) (rest := []) hA (m_X_refuse l G a tl (1 : Int32) t hq_4.symm) cd_X10_refuse wd_480 (hc_X_0 G.2.1 a tl t) rfl rfl (Nat.le_of_ble_eq_true rfl) rfl rfl (Nat.le_of_ble_eq_true rfl) dX10_visit_20 ?_
  exact k_iret hA hr rfl dX10_visit_23

def f_X_hourOf (x1 : Int32) (t : k_St) : Option (Int32 × k_St) := (if (k_b (f_X_noHouse t x1)) = 0 then (if (t.1 27 1) = 0 then k_lt (f_X_answer (-2 : Int32) t) (fun q_3 => some (q_3.1, q_3.2)) else k_gi x1 5 (k_lt (f_X_answer (t.1 29 x1.toNatClampNeg) t) (fun q_2 => some (q_2.1, q_2.2)))) else k_lt (f_X_refuse (1 : Int32) t) (fun q_4 => some (q_4.1, q_4.2)))
theorem m_X_hourOf (l : Launch) (G : k_G) (a : Nat → Nat) (tl : Value) (x1 : Int32) (t : k_St) {r : Int32} {t' : k_St} (hf : f_X_hourOf x1 t = some (r, t')) : k_CI l G yX10_hourOf cX10_hourOf 2 (some .int) 2 (k_WX G.2.1 a tl t) [.ref (a 0), .int x1] r (k_WX G.2.1 a tl t') := by
  refine k_startI (lv := [(0, .ref (a 0)), (1, .int x1)]) (by decide +kernel) (Nat.le_of_ble_eq_true rfl) rfl ?_
  intro p e s m args below meth c hA hr
  have hA : k_Amb p s m args meth c cX10_hourOf 2 "TaleShares" G _ := hA
  unfold f_X_hourOf at hf
  refine k_aload_n (i := 0) hA dX10_hourOf_0 rfl 0 rfl ?_
  refine k_iload_n (i := 1) hA dX10_hourOf_1 rfl 1 rfl ?_
  refine k_callVi (As := [.int x1]) (rest := []) hA (m_X_noHouse l G a tl t x1 rfl) cd_X10_noHouse wd_776 (hc_X_0 G.2.1 a tl t) rfl rfl (Nat.le_of_ble_eq_true rfl) rfl rfl (Nat.le_of_ble_eq_true rfl) dX10_hourOf_2 ?_
  refine k_if_eq (tgt := 14) hA dX10_hourOf_5 rfl (fun hc => ?_) (fun hc => ?_)
  · have hf := k_ift hc hf
    refine k_aload_n (i := 0) hA dX10_hourOf_14 rfl 0 rfl ?_
    refine k_aload_n (i := 0) hA dX10_hourOf_15 rfl 0 rfl ?_
    refine gt_X_0_3 hA wd_440 dX10_hourOf_16 ?_
    refine gt_X_27_1 hA wd_351 dX10_hourOf_19 ?_
    refine k_if_ne (tgt := 30) hA dX10_hourOf_22 rfl (fun hc => ?_) (fun hc => ?_)
    · have hf := k_iff hc hf
      obtain ⟨hi_1, hf⟩ := k_gi_e hf
      obtain ⟨⟨rq_2, tq_2⟩, hq_2, hf⟩ := k_lt_e hf
      dsimp only at hf
      obtain ⟨rfl, rfl⟩ := k_r2 hf
      refine k_aload_n (i := 0) hA dX10_hourOf_30 rfl 0 rfl ?_
      refine gt_X_0_3 hA wd_440 dX10_hourOf_31 ?_
      refine gt_X_27_3 hA wd_355 dX10_hourOf_34 ?_
      refine k_iload_n (i := 1) hA dX10_hourOf_37 rfl 1 rfl ?_
      refine ld_X_29 hA hi_1 dX10_hourOf_38 ?_
      refine k_callVi (As := [.int (t.1 29 x1.toNatClampNeg)]) (rest := []) hA (m_X_answer l G a tl (t.1 29 x1.toNatClampNeg) t hq_2.symm) cd_X10_answer wd_732 (hc_X_0 G.2.1 a tl t) rfl rfl (Nat.le_of_ble_eq_true rfl) rfl rfl (Nat.le_of_ble_eq_true rfl) dX10_hourOf_39 ?_
      exact k_iret hA hr rfl dX10_hourOf_42
    have hf := k_ift hc hf
    obtain ⟨⟨rq_3, tq_3⟩, hq_3, hf⟩ := k_lt_e hf
    dsimp only at hf
    obtain ⟨rfl, rfl⟩ := k_r2 hf
    refine k_bipush hA dX10_hourOf_25 kc_b_m2 ?_
    refine k_goto (tgt := 39) hA dX10_hourOf_27 rfl ?_
    refine k_callVi (As := [.int (-2 : Int32)]) (rest := []) hA (m_X_answer l G a tl (-2 : Int32) t hq_3.symm) cd_X10_answer wd_732 (hc_X_0 G.2.1 a tl t) rfl rfl (Nat.le_of_ble_eq_true rfl) rfl rfl (Nat.le_of_ble_eq_true rfl) dX10_hourOf_39 ?_
    exact k_iret hA hr rfl dX10_hourOf_42
  have hf := k_iff hc hf
  obtain ⟨⟨rq_4, tq_4⟩, hq_4, hf⟩ := k_lt_e hf
  dsimp only at hf
  obtain ⟨rfl, rfl⟩ := k_r2 hf
  refine k_aload_n (i := 0) hA dX10_hourOf_8 rfl 0 rfl ?_
  refine k_iconst hA dX10_hourOf_9 kc_i_1 ?_
  refine k_callVi (As := [.int (1 : Int32)]) (rest := []) hA (m_X_refuse l G a tl (1 : Int32) t hq_4.symm) cd_X10_refuse wd_480 (hc_X_0 G.2.1 a tl t) rfl rfl (Nat.le_of_ble_eq_true rfl) rfl rfl (Nat.le_of_ble_eq_true rfl) dX10_hourOf_10 ?_
  exact k_iret hA hr rfl dX10_hourOf_13

def f_X_orders (t : k_St) : Int32 × k_St := (if (t.1 0 10) = 0 then k_lt (f_X_refuse (1 : Int32) t) (fun q_3 => (q_3.1, q_3.2)) else (if (t.1 2 4) = 0 then k_lt (f_X_refuse (6 : Int32) t) (fun q_2 => (q_2.1, q_2.2)) else k_lt (f_X_answer (t.1 27 1) t) (fun q_1 => (q_1.1, q_1.2))))
theorem m_X_orders (l : Launch) (G : k_G) (a : Nat → Nat) (tl : Value) (t : k_St) {r : Int32} {t' : k_St} (hf : f_X_orders t = (r, t')) : k_CI l G yX10_orders cX10_orders 1 (some .int) 2 (k_WX G.2.1 a tl t) [.ref (a 0)] r (k_WX G.2.1 a tl t') := by
  refine k_startI (lv := [(0, .ref (a 0))]) (by decide +kernel) (Nat.le_of_ble_eq_true rfl) rfl ?_
  intro p e s m args below meth c hA hr
  have hA : k_Amb p s m args meth c cX10_orders 1 "TaleShares" G _ := hA
  unfold f_X_orders at hf
  refine k_aload_n (i := 0) hA dX10_orders_0 rfl 0 rfl ?_
  refine gt_X_0_8 hA wd_445 dX10_orders_1 ?_
  refine k_if_ne (tgt := 13) hA dX10_orders_4 rfl (fun hc => ?_) (fun hc => ?_)
  · have hf := k_iff hc hf
    refine k_aload_n (i := 0) hA dX10_orders_13 rfl 0 rfl ?_
    refine gt_X_0_7 hA wd_444 dX10_orders_14 ?_
    refine gt_X_2_4 hA wd_177 dX10_orders_17 ?_
    refine k_if_ne (tgt := 32) hA dX10_orders_20 rfl (fun hc => ?_) (fun hc => ?_)
    · have hf := k_iff hc hf
      obtain ⟨⟨rq_1, tq_1⟩, hq_1, hf⟩ := k_lt_e hf
      dsimp only at hf
      obtain ⟨rfl, rfl⟩ := k_p2 hf
      refine k_aload_n (i := 0) hA dX10_orders_32 rfl 0 rfl ?_
      refine k_aload_n (i := 0) hA dX10_orders_33 rfl 0 rfl ?_
      refine gt_X_0_3 hA wd_440 dX10_orders_34 ?_
      refine gt_X_27_1 hA wd_351 dX10_orders_37 ?_
      refine k_callVi (As := [.int (t.1 27 1)]) (rest := []) hA (m_X_answer l G a tl (t.1 27 1) t hq_1.symm) cd_X10_answer wd_732 (hc_X_0 G.2.1 a tl t) rfl rfl (Nat.le_of_ble_eq_true rfl) rfl rfl (Nat.le_of_ble_eq_true rfl) dX10_orders_40 ?_
      exact k_iret hA hr rfl dX10_orders_43
    have hf := k_ift hc hf
    obtain ⟨⟨rq_2, tq_2⟩, hq_2, hf⟩ := k_lt_e hf
    dsimp only at hf
    obtain ⟨rfl, rfl⟩ := k_p2 hf
    refine k_aload_n (i := 0) hA dX10_orders_23 rfl 0 rfl ?_
    refine k_bipush hA dX10_orders_24 kc_b_6 ?_
    refine k_callVi (As := [.int (6 : Int32)]) (rest := []) hA (m_X_refuse l G a tl (6 : Int32) t hq_2.symm) cd_X10_refuse wd_480 (hc_X_0 G.2.1 a tl t) rfl rfl (Nat.le_of_ble_eq_true rfl) rfl rfl (Nat.le_of_ble_eq_true rfl) dX10_orders_26 ?_
    refine k_goto (tgt := 43) hA dX10_orders_29 rfl ?_
    exact k_iret hA hr rfl dX10_orders_43
  have hf := k_ift hc hf
  obtain ⟨⟨rq_3, tq_3⟩, hq_3, hf⟩ := k_lt_e hf
  dsimp only at hf
  obtain ⟨rfl, rfl⟩ := k_p2 hf
  refine k_aload_n (i := 0) hA dX10_orders_7 rfl 0 rfl ?_
  refine k_iconst hA dX10_orders_8 kc_i_1 ?_
  refine k_callVi (As := [.int (1 : Int32)]) (rest := []) hA (m_X_refuse l G a tl (1 : Int32) t hq_3.symm) cd_X10_refuse wd_480 (hc_X_0 G.2.1 a tl t) rfl rfl (Nat.le_of_ble_eq_true rfl) rfl rfl (Nat.le_of_ble_eq_true rfl) dX10_orders_9 ?_
  exact k_iret hA hr rfl dX10_orders_12

def f_X_noMixed (t : k_St) : Bool := (if (t.1 2 7) = 0 then true else false)
theorem m_X_noMixed (l : Launch) (G : k_G) (a : Nat → Nat) (tl : Value) (t : k_St) {r : Bool} (hf : f_X_noMixed t = r) : k_CI l G yX10_noMixed cX10_noMixed 1 (some .boolean) 1 (k_WX G.2.1 a tl t) [.ref (a 0)] (k_b r) (k_WX G.2.1 a tl t) := by
  refine k_startI (lv := [(0, .ref (a 0))]) (by decide +kernel) (Nat.le_of_ble_eq_true rfl) rfl ?_
  intro p e s m args below meth c hA hr
  have hA : k_Amb p s m args meth c cX10_noMixed 1 "TaleShares" G _ := hA
  unfold f_X_noMixed at hf
  refine k_aload_n (i := 0) hA dX10_noMixed_0 rfl 0 rfl ?_
  refine gt_X_0_7 hA wd_444 dX10_noMixed_1 ?_
  refine gt_X_2_7 hA wd_188 dX10_noMixed_4 ?_
  refine k_if_ne (tgt := 14) hA dX10_noMixed_7 rfl (fun hc => ?_) (fun hc => ?_)
  · have hf := k_iff hc hf
    subst hf
    refine k_iconst hA dX10_noMixed_14 kc_i_0 ?_
    exact k_iret hA hr (k_narB (k_b01 _)) dX10_noMixed_15
  have hf := k_ift hc hf
  subst hf
  refine k_iconst hA dX10_noMixed_10 kc_i_1 ?_
  refine k_goto (tgt := 15) hA dX10_noMixed_11 rfl ?_
  exact k_iret hA hr (k_narB (k_b01 _)) dX10_noMixed_15

def f_X_whyNoMixed (t : k_St) : Int32 := (if (t.1 0 10) = 0 then (1 : Int32) else (6 : Int32))
theorem m_X_whyNoMixed (l : Launch) (G : k_G) (a : Nat → Nat) (tl : Value) (t : k_St) {r : Int32} (hf : f_X_whyNoMixed t = r) : k_CI l G yX10_whyNoMixed cX10_whyNoMixed 1 (some .int) 1 (k_WX G.2.1 a tl t) [.ref (a 0)] r (k_WX G.2.1 a tl t) := by
  refine k_startI (lv := [(0, .ref (a 0))]) (by decide +kernel) (Nat.le_of_ble_eq_true rfl) rfl ?_
  intro p e s m args below meth c hA hr
  have hA : k_Amb p s m args meth c cX10_whyNoMixed 1 "TaleShares" G _ := hA
  unfold f_X_whyNoMixed at hf
  refine k_aload_n (i := 0) hA dX10_whyNoMixed_0 rfl 0 rfl ?_
  refine gt_X_0_8 hA wd_445 dX10_whyNoMixed_1 ?_
  refine k_if_eq (tgt := 12) hA dX10_whyNoMixed_4 rfl (fun hc => ?_) (fun hc => ?_)
  · have hf := k_ift hc hf
    subst hf
    refine k_iconst hA dX10_whyNoMixed_12 kc_i_1 ?_
    exact k_iret hA hr rfl dX10_whyNoMixed_13
  have hf := k_iff hc hf
  subst hf
  refine k_bipush hA dX10_whyNoMixed_7 kc_b_6 ?_
  refine k_goto (tgt := 13) hA dX10_whyNoMixed_9 rfl ?_
  exact k_iret hA hr rfl dX10_whyNoMixed_13

def f_X_slips (t : k_St) : Int32 × k_St := (if (k_b (f_X_noMixed t)) = 0 then k_lt (f_X_answer (t.1 31 0) t) (fun q_1 => (q_1.1, q_1.2)) else k_lt (f_X_refuse (f_X_whyNoMixed t) t) (fun q_2 => (q_2.1, q_2.2)))
theorem m_X_slips (l : Launch) (G : k_G) (a : Nat → Nat) (tl : Value) (t : k_St) {r : Int32} {t' : k_St} (hf : f_X_slips t = (r, t')) : k_CI l G yX10_slips cX10_slips 1 (some .int) 2 (k_WX G.2.1 a tl t) [.ref (a 0)] r (k_WX G.2.1 a tl t') := by
  refine k_startI (lv := [(0, .ref (a 0))]) (by decide +kernel) (Nat.le_of_ble_eq_true rfl) rfl ?_
  intro p e s m args below meth c hA hr
  have hA : k_Amb p s m args meth c cX10_slips 1 "TaleShares" G _ := hA
  unfold f_X_slips at hf
  refine k_aload_n (i := 0) hA dX10_slips_0 rfl 0 rfl ?_
  refine k_callVi (As := []) (rest := []) hA (m_X_noMixed l G a tl t rfl) cd_X10_noMixed wd_981 (hc_X_0 G.2.1 a tl t) rfl rfl (Nat.le_of_ble_eq_true rfl) rfl rfl (Nat.le_of_ble_eq_true rfl) dX10_slips_1 ?_
  refine k_if_eq (tgt := 18) hA dX10_slips_4 rfl (fun hc => ?_) (fun hc => ?_)
  · have hf := k_ift hc hf
    obtain ⟨⟨rq_1, tq_1⟩, hq_1, hf⟩ := k_lt_e hf
    dsimp only at hf
    obtain ⟨rfl, rfl⟩ := k_p2 hf
    refine k_aload_n (i := 0) hA dX10_slips_18 rfl 0 rfl ?_
    refine k_aload_n (i := 0) hA dX10_slips_19 rfl 0 rfl ?_
    refine gt_X_0_4 hA wd_441 dX10_slips_20 ?_
    refine gt_X_31_0 hA wd_375 dX10_slips_23 ?_
    refine k_callVi (As := [.int (t.1 31 0)]) (rest := []) hA (m_X_answer l G a tl (t.1 31 0) t hq_1.symm) cd_X10_answer wd_732 (hc_X_0 G.2.1 a tl t) rfl rfl (Nat.le_of_ble_eq_true rfl) rfl rfl (Nat.le_of_ble_eq_true rfl) dX10_slips_26 ?_
    exact k_iret hA hr rfl dX10_slips_29
  have hf := k_iff hc hf
  obtain ⟨⟨rq_2, tq_2⟩, hq_2, hf⟩ := k_lt_e hf
  dsimp only at hf
  obtain ⟨rfl, rfl⟩ := k_p2 hf
  refine k_aload_n (i := 0) hA dX10_slips_7 rfl 0 rfl ?_
  refine k_aload_n (i := 0) hA dX10_slips_8 rfl 0 rfl ?_
  refine k_callVi (As := []) (rest := [.ref (a 0)]) hA (m_X_whyNoMixed l G a tl t rfl) cd_X10_whyNoMixed wd_985 (hc_X_0 G.2.1 a tl t) rfl rfl (Nat.le_of_ble_eq_true rfl) rfl rfl (Nat.le_of_ble_eq_true rfl) dX10_slips_9 ?_
  refine k_callVi (As := [.int (f_X_whyNoMixed t)]) (rest := []) hA (m_X_refuse l G a tl (f_X_whyNoMixed t) t hq_2.symm) cd_X10_refuse wd_480 (hc_X_0 G.2.1 a tl t) rfl rfl (Nat.le_of_ble_eq_true rfl) rfl rfl (Nat.le_of_ble_eq_true rfl) dX10_slips_12 ?_
  refine k_goto (tgt := 29) hA dX10_slips_15 rfl ?_
  exact k_iret hA hr rfl dX10_slips_29

