theorem dX12_flaw_0 : decode cX12_flaw 0 = .ok (.aload_n 0, 1) := by decide +kernel
theorem dX12_flaw_1 : decode cX12_flaw 1 = .ok (.getfield 98, 3) := by decide +kernel
theorem dX12_flaw_4 : decode cX12_flaw 4 = .ok (.bipush 6, 2) := by decide +kernel
theorem dX12_flaw_6 : decode cX12_flaw 6 = .ok (.if_icmp .ne 4, 3) := by decide +kernel
theorem dX12_flaw_9 : decode cX12_flaw 9 = .ok (.return_, 1) := by decide +kernel
theorem dX12_flaw_10 : decode cX12_flaw 10 = .ok (.aload_n 0, 1) := by decide +kernel
theorem dX12_flaw_11 : decode cX12_flaw 11 = .ok (.iload_n 1, 1) := by decide +kernel
theorem dX12_flaw_12 : decode cX12_flaw 12 = .ok (.putfield 124, 3) := by decide +kernel
theorem dX12_flaw_15 : decode cX12_flaw 15 = .ok (.aload_n 0, 1) := by decide +kernel
theorem dX12_flaw_16 : decode cX12_flaw 16 = .ok (.aload_n 0, 1) := by decide +kernel
theorem dX12_flaw_17 : decode cX12_flaw 17 = .ok (.getfield 107, 3) := by decide +kernel
theorem dX12_flaw_20 : decode cX12_flaw 20 = .ok (.putfield 127, 3) := by decide +kernel
theorem dX12_flaw_23 : decode cX12_flaw 23 = .ok (.aload_n 0, 1) := by decide +kernel
theorem dX12_flaw_24 : decode cX12_flaw 24 = .ok (.bipush 6, 2) := by decide +kernel
theorem dX12_flaw_26 : decode cX12_flaw 26 = .ok (.putfield 98, 3) := by decide +kernel
theorem dX12_flaw_29 : decode cX12_flaw 29 = .ok (.return_, 1) := by decide +kernel
theorem dX12_isWord_0 : decode cX12_isWord 0 = .ok (.aload_n 0, 1) := by decide +kernel
theorem dX12_isWord_1 : decode cX12_isWord 1 = .ok (.getfield 98, 3) := by decide +kernel
theorem dX12_isWord_4 : decode cX12_isWord 4 = .ok (.iconst 2, 1) := by decide +kernel
theorem dX12_isWord_5 : decode cX12_isWord 5 = .ok (.if_icmp .ne 19, 3) := by decide +kernel
theorem dX12_isWord_8 : decode cX12_isWord 8 = .ok (.aload_n 0, 1) := by decide +kernel
theorem dX12_isWord_9 : decode cX12_isWord 9 = .ok (.getfield 114, 3) := by decide +kernel
theorem dX12_isWord_12 : decode cX12_isWord 12 = .ok (.aload_n 1, 1) := by decide +kernel
theorem dX12_isWord_13 : decode cX12_isWord 13 = .ok (.invokestatic 130, 3) := by decide +kernel
theorem dX12_isWord_16 : decode cX12_isWord 16 = .ok (.lcmp, 1) := by decide +kernel
theorem dX12_isWord_17 : decode cX12_isWord 17 = .ok (.ifCond .ne 7, 3) := by decide +kernel
theorem dX12_isWord_20 : decode cX12_isWord 20 = .ok (.iconst 1, 1) := by decide +kernel
theorem dX12_isWord_21 : decode cX12_isWord 21 = .ok (.goto 4, 3) := by decide +kernel
theorem dX12_isWord_24 : decode cX12_isWord 24 = .ok (.iconst 0, 1) := by decide +kernel
theorem dX12_isWord_25 : decode cX12_isWord 25 = .ok (.ireturn, 1) := by decide +kernel
theorem dX12_packed_0 : decode cX12_packed 0 = .ok (.lconst 0, 1) := by decide +kernel
theorem dX12_packed_1 : decode cX12_packed 1 = .ok (.lstore_n 1, 1) := by decide +kernel
theorem dX12_packed_2 : decode cX12_packed 2 = .ok (.iconst 0, 1) := by decide +kernel
theorem dX12_packed_3 : decode cX12_packed 3 = .ok (.istore_n 3, 1) := by decide +kernel
theorem dX12_packed_4 : decode cX12_packed 4 = .ok (.iload_n 3, 1) := by decide +kernel
theorem dX12_packed_5 : decode cX12_packed 5 = .ok (.aload_n 0, 1) := by decide +kernel
theorem dX12_packed_6 : decode cX12_packed 6 = .ok (.invokevirtual 86, 3) := by decide +kernel
theorem dX12_packed_9 : decode cX12_packed 9 = .ok (.if_icmp .ge 27, 3) := by decide +kernel
theorem dX12_packed_12 : decode cX12_packed 12 = .ok (.ldc2_w 92, 3) := by decide +kernel
theorem dX12_packed_15 : decode cX12_packed 15 = .ok (.lload_n 1, 1) := by decide +kernel
theorem dX12_packed_16 : decode cX12_packed 16 = .ok (.lmul, 1) := by decide +kernel
theorem dX12_packed_17 : decode cX12_packed 17 = .ok (.aload_n 0, 1) := by decide +kernel
theorem dX12_packed_18 : decode cX12_packed 18 = .ok (.iload_n 3, 1) := by decide +kernel
theorem dX12_packed_19 : decode cX12_packed 19 = .ok (.invokevirtual 94, 3) := by decide +kernel
theorem dX12_packed_22 : decode cX12_packed 22 = .ok (.bipush 97, 2) := by decide +kernel
theorem dX12_packed_24 : decode cX12_packed 24 = .ok (.isub, 1) := by decide +kernel
theorem dX12_packed_25 : decode cX12_packed 25 = .ok (.iconst 1, 1) := by decide +kernel
theorem dX12_packed_26 : decode cX12_packed 26 = .ok (.iadd, 1) := by decide +kernel
theorem dX12_packed_27 : decode cX12_packed 27 = .ok (.i2l, 1) := by decide +kernel
theorem dX12_packed_28 : decode cX12_packed 28 = .ok (.ladd, 1) := by decide +kernel
theorem dX12_packed_29 : decode cX12_packed 29 = .ok (.lstore_n 1, 1) := by decide +kernel
theorem dX12_packed_30 : decode cX12_packed 30 = .ok (.iinc 3 1, 3) := by decide +kernel
theorem dX12_packed_33 : decode cX12_packed 33 = .ok (.goto (-29), 3) := by decide +kernel
theorem dX12_packed_36 : decode cX12_packed 36 = .ok (.lload_n 1, 1) := by decide +kernel
theorem dX12_packed_37 : decode cX12_packed 37 = .ok (.lreturn, 1) := by decide +kernel
theorem dX12_readMixed_0 : decode cX12_readMixed 0 = .ok (.aload_n 0, 1) := by decide +kernel
theorem dX12_readMixed_1 : decode cX12_readMixed 1 = .ok (.getfield 171, 3) := by decide +kernel
theorem dX12_readMixed_4 : decode cX12_readMixed 4 = .ok (.getfield 299, 3) := by decide +kernel
theorem dX12_readMixed_7 : decode cX12_readMixed 7 = .ok (.ifCond .le 8, 3) := by decide +kernel
theorem dX12_readMixed_10 : decode cX12_readMixed 10 = .ok (.aload_n 0, 1) := by decide +kernel
theorem dX12_readMixed_11 : decode cX12_readMixed 11 = .ok (.iconst 3, 1) := by decide +kernel
theorem dX12_readMixed_12 : decode cX12_readMixed 12 = .ok (.invokevirtual 141, 3) := by decide +kernel
theorem dX12_readMixed_15 : decode cX12_readMixed 15 = .ok (.aload_n 0, 1) := by decide +kernel
theorem dX12_readMixed_16 : decode cX12_readMixed 16 = .ok (.iconst 0, 1) := by decide +kernel
theorem dX12_readMixed_17 : decode cX12_readMixed 17 = .ok (.iconst 1, 1) := by decide +kernel
theorem dX12_readMixed_18 : decode cX12_readMixed 18 = .ok (.invokevirtual 243, 3) := by decide +kernel
theorem dX12_readMixed_21 : decode cX12_readMixed 21 = .ok (.iconst 0, 1) := by decide +kernel
theorem dX12_readMixed_22 : decode cX12_readMixed 22 = .ok (.istore_n 1, 1) := by decide +kernel
theorem dX12_readMixed_23 : decode cX12_readMixed 23 = .ok (.iconst 1, 1) := by decide +kernel
theorem dX12_readMixed_24 : decode cX12_readMixed 24 = .ok (.istore_n 2, 1) := by decide +kernel
theorem dX12_readMixed_25 : decode cX12_readMixed 25 = .ok (.iload_n 2, 1) := by decide +kernel
theorem dX12_readMixed_26 : decode cX12_readMixed 26 = .ok (.ifCond .eq 56, 3) := by decide +kernel
theorem dX12_readMixed_29 : decode cX12_readMixed 29 = .ok (.aload_n 0, 1) := by decide +kernel
theorem dX12_readMixed_30 : decode cX12_readMixed 30 = .ok (.iconst 0, 1) := by decide +kernel
theorem dX12_readMixed_31 : decode cX12_readMixed 31 = .ok (.invokevirtual 201, 3) := by decide +kernel
theorem dX12_readMixed_34 : decode cX12_readMixed 34 = .ok (.istore_n 3, 1) := by decide +kernel
theorem dX12_readMixed_35 : decode cX12_readMixed 35 = .ok (.iload_n 1, 1) := by decide +kernel
theorem dX12_readMixed_36 : decode cX12_readMixed 36 = .ok (.bipush 6, 2) := by decide +kernel
theorem dX12_readMixed_38 : decode cX12_readMixed 38 = .ok (.if_icmp .ne 8, 3) := by decide +kernel
theorem dX12_readMixed_41 : decode cX12_readMixed 41 = .ok (.aload_n 0, 1) := by decide +kernel
theorem dX12_readMixed_42 : decode cX12_readMixed 42 = .ok (.iconst 5, 1) := by decide +kernel
theorem dX12_readMixed_43 : decode cX12_readMixed 43 = .ok (.invokevirtual 141, 3) := by decide +kernel
theorem dX12_readMixed_46 : decode cX12_readMixed 46 = .ok (.aload_n 0, 1) := by decide +kernel
theorem dX12_readMixed_47 : decode cX12_readMixed 47 = .ok (.invokevirtual 134, 3) := by decide +kernel
theorem dX12_readMixed_50 : decode cX12_readMixed 50 = .ok (.aload_n 0, 1) := by decide +kernel
theorem dX12_readMixed_51 : decode cX12_readMixed 51 = .ok (.getfield 98, 3) := by decide +kernel
theorem dX12_readMixed_54 : decode cX12_readMixed 54 = .ok (.bipush 6, 2) := by decide +kernel
theorem dX12_readMixed_56 : decode cX12_readMixed 56 = .ok (.if_icmp .ne 4, 3) := by decide +kernel
theorem dX12_readMixed_59 : decode cX12_readMixed 59 = .ok (.return_, 1) := by decide +kernel
theorem dX12_readMixed_60 : decode cX12_readMixed 60 = .ok (.aload_n 0, 1) := by decide +kernel
theorem dX12_readMixed_61 : decode cX12_readMixed 61 = .ok (.getfield 171, 3) := by decide +kernel
theorem dX12_readMixed_64 : decode cX12_readMixed 64 = .ok (.getfield 301, 3) := by decide +kernel
theorem dX12_readMixed_67 : decode cX12_readMixed 67 = .ok (.iload_n 1, 1) := by decide +kernel
theorem dX12_readMixed_68 : decode cX12_readMixed 68 = .ok (.iload_n 3, 1) := by decide +kernel
theorem dX12_readMixed_69 : decode cX12_readMixed 69 = .ok (.iastore, 1) := by decide +kernel
theorem dX12_readMixed_70 : decode cX12_readMixed 70 = .ok (.iinc 1 1, 3) := by decide +kernel
theorem dX12_readMixed_73 : decode cX12_readMixed 73 = .ok (.aload_n 0, 1) := by decide +kernel
theorem dX12_readMixed_74 : decode cX12_readMixed 74 = .ok (.iconst 5, 1) := by decide +kernel
theorem dX12_readMixed_75 : decode cX12_readMixed 75 = .ok (.invokevirtual 207, 3) := by decide +kernel
theorem dX12_readMixed_78 : decode cX12_readMixed 78 = .ok (.istore_n 2, 1) := by decide +kernel
theorem dX12_readMixed_79 : decode cX12_readMixed 79 = .ok (.goto (-54), 3) := by decide +kernel
theorem dX12_readMixed_82 : decode cX12_readMixed 82 = .ok (.aload_n 0, 1) := by decide +kernel
theorem dX12_readMixed_83 : decode cX12_readMixed 83 = .ok (.getfield 171, 3) := by decide +kernel
theorem dX12_readMixed_86 : decode cX12_readMixed 86 = .ok (.iload_n 1, 1) := by decide +kernel
theorem dX12_readMixed_87 : decode cX12_readMixed 87 = .ok (.putfield 299, 3) := by decide +kernel
theorem dX12_readMixed_90 : decode cX12_readMixed 90 = .ok (.return_, 1) := by decide +kernel
theorem dX12_lineBegins_0 : decode cX12_lineBegins 0 = .ok (.iload_n 1, 1) := by decide +kernel
theorem dX12_lineBegins_1 : decode cX12_lineBegins 1 = .ok (.iload_n 2, 1) := by decide +kernel
theorem dX12_lineBegins_2 : decode cX12_lineBegins 2 = .ok (.if_icmp .ne 8, 3) := by decide +kernel
theorem dX12_lineBegins_5 : decode cX12_lineBegins 5 = .ok (.aload_n 0, 1) := by decide +kernel
theorem dX12_lineBegins_6 : decode cX12_lineBegins 6 = .ok (.iconst 5, 1) := by decide +kernel
theorem dX12_lineBegins_7 : decode cX12_lineBegins 7 = .ok (.invokevirtual 141, 3) := by decide +kernel
theorem dX12_lineBegins_10 : decode cX12_lineBegins 10 = .ok (.aload_n 0, 1) := by decide +kernel
theorem dX12_lineBegins_11 : decode cX12_lineBegins 11 = .ok (.getfield 171, 3) := by decide +kernel
theorem dX12_lineBegins_14 : decode cX12_lineBegins 14 = .ok (.getfield 175, 3) := by decide +kernel
theorem dX12_lineBegins_17 : decode cX12_lineBegins 17 = .ok (.iconst (-1), 1) := by decide +kernel
theorem dX12_lineBegins_18 : decode cX12_lineBegins 18 = .ok (.if_icmp .ne 9, 3) := by decide +kernel
theorem dX12_lineBegins_21 : decode cX12_lineBegins 21 = .ok (.aload_n 0, 1) := by decide +kernel
theorem dX12_lineBegins_22 : decode cX12_lineBegins 22 = .ok (.bipush 6, 2) := by decide +kernel
theorem dX12_lineBegins_24 : decode cX12_lineBegins 24 = .ok (.invokevirtual 141, 3) := by decide +kernel
theorem dX12_lineBegins_27 : decode cX12_lineBegins 27 = .ok (.aload_n 0, 1) := by decide +kernel
theorem dX12_lineBegins_28 : decode cX12_lineBegins 28 = .ok (.invokevirtual 134, 3) := by decide +kernel
theorem dX12_lineBegins_31 : decode cX12_lineBegins 31 = .ok (.return_, 1) := by decide +kernel
theorem dX12_goesOn_0 : decode cX12_goesOn 0 = .ok (.aload_n 0, 1) := by decide +kernel
theorem dX12_goesOn_1 : decode cX12_goesOn 1 = .ok (.getfield 98, 3) := by decide +kernel
theorem dX12_goesOn_4 : decode cX12_goesOn 4 = .ok (.bipush 6, 2) := by decide +kernel
theorem dX12_goesOn_6 : decode cX12_goesOn 6 = .ok (.if_icmp .ne 4, 3) := by decide +kernel
theorem dX12_goesOn_9 : decode cX12_goesOn 9 = .ok (.return_, 1) := by decide +kernel
theorem dX12_goesOn_10 : decode cX12_goesOn 10 = .ok (.aload_n 0, 1) := by decide +kernel
theorem dX12_goesOn_11 : decode cX12_goesOn 11 = .ok (.aload_n 0, 1) := by decide +kernel
theorem dX12_goesOn_12 : decode cX12_goesOn 12 = .ok (.getfield 101, 3) := by decide +kernel
theorem dX12_goesOn_15 : decode cX12_goesOn 15 = .ok (.invokevirtual 104, 3) := by decide +kernel
theorem dX12_goesOn_18 : decode cX12_goesOn 18 = .ok (.bipush 32, 2) := by decide +kernel
theorem dX12_goesOn_20 : decode cX12_goesOn 20 = .ok (.if_icmp .ne 16, 3) := by decide +kernel
theorem dX12_goesOn_23 : decode cX12_goesOn 23 = .ok (.aload_n 0, 1) := by decide +kernel
theorem dX12_goesOn_24 : decode cX12_goesOn 24 = .ok (.dup, 1) := by decide +kernel
theorem dX12_goesOn_25 : decode cX12_goesOn 25 = .ok (.getfield 101, 3) := by decide +kernel
theorem dX12_goesOn_28 : decode cX12_goesOn 28 = .ok (.iconst 1, 1) := by decide +kernel
theorem dX12_goesOn_29 : decode cX12_goesOn 29 = .ok (.iadd, 1) := by decide +kernel
theorem dX12_goesOn_30 : decode cX12_goesOn 30 = .ok (.putfield 101, 3) := by decide +kernel
theorem dX12_goesOn_33 : decode cX12_goesOn 33 = .ok (.goto (-23), 3) := by decide +kernel
theorem dX12_goesOn_36 : decode cX12_goesOn 36 = .ok (.aload_n 0, 1) := by decide +kernel
theorem dX12_goesOn_37 : decode cX12_goesOn 37 = .ok (.aload_n 0, 1) := by decide +kernel
theorem dX12_goesOn_38 : decode cX12_goesOn 38 = .ok (.getfield 101, 3) := by decide +kernel
theorem dX12_goesOn_41 : decode cX12_goesOn 41 = .ok (.putfield 107, 3) := by decide +kernel
theorem dX12_goesOn_44 : decode cX12_goesOn 44 = .ok (.aload_n 0, 1) := by decide +kernel
theorem dX12_goesOn_45 : decode cX12_goesOn 45 = .ok (.iconst 0, 1) := by decide +kernel
theorem dX12_goesOn_46 : decode cX12_goesOn 46 = .ok (.putfield 98, 3) := by decide +kernel
theorem dX12_goesOn_49 : decode cX12_goesOn 49 = .ok (.aload_n 0, 1) := by decide +kernel
theorem dX12_goesOn_50 : decode cX12_goesOn 50 = .ok (.aload_n 0, 1) := by decide +kernel
theorem dX12_goesOn_51 : decode cX12_goesOn 51 = .ok (.getfield 101, 3) := by decide +kernel
theorem dX12_goesOn_54 : decode cX12_goesOn 54 = .ok (.invokevirtual 104, 3) := by decide +kernel
theorem dX12_goesOn_57 : decode cX12_goesOn 57 = .ok (.istore_n 1, 1) := by decide +kernel
theorem dX12_goesOn_58 : decode cX12_goesOn 58 = .ok (.iconst 0, 1) := by decide +kernel
theorem dX12_goesOn_59 : decode cX12_goesOn 59 = .ok (.istore_n 2, 1) := by decide +kernel
theorem dX12_goesOn_60 : decode cX12_goesOn 60 = .ok (.iload_n 1, 1) := by decide +kernel
theorem dX12_goesOn_61 : decode cX12_goesOn 61 = .ok (.iconst (-1), 1) := by decide +kernel
theorem dX12_goesOn_62 : decode cX12_goesOn 62 = .ok (.if_icmp .ne 11, 3) := by decide +kernel
theorem dX12_goesOn_65 : decode cX12_goesOn 65 = .ok (.aload_n 0, 1) := by decide +kernel
theorem dX12_goesOn_66 : decode cX12_goesOn 66 = .ok (.iconst 1, 1) := by decide +kernel
theorem dX12_goesOn_67 : decode cX12_goesOn 67 = .ok (.putfield 98, 3) := by decide +kernel
theorem dX12_goesOn_70 : decode cX12_goesOn 70 = .ok (.goto 212, 3) := by decide +kernel
theorem dX12_goesOn_73 : decode cX12_goesOn 73 = .ok (.iload_n 1, 1) := by decide +kernel
theorem dX12_goesOn_74 : decode cX12_goesOn 74 = .ok (.invokestatic 110, 3) := by decide +kernel
theorem dX12_goesOn_77 : decode cX12_goesOn 77 = .ok (.ifCond .eq 85, 3) := by decide +kernel
theorem dX12_goesOn_80 : decode cX12_goesOn 80 = .ok (.aload_n 0, 1) := by decide +kernel
theorem dX12_goesOn_81 : decode cX12_goesOn 81 = .ok (.lconst 0, 1) := by decide +kernel
theorem dX12_goesOn_82 : decode cX12_goesOn 82 = .ok (.putfield 114, 3) := by decide +kernel
theorem dX12_goesOn_85 : decode cX12_goesOn 85 = .ok (.aload_n 0, 1) := by decide +kernel
theorem dX12_goesOn_86 : decode cX12_goesOn 86 = .ok (.aload_n 0, 1) := by decide +kernel
theorem dX12_goesOn_87 : decode cX12_goesOn 87 = .ok (.getfield 101, 3) := by decide +kernel
theorem dX12_goesOn_90 : decode cX12_goesOn 90 = .ok (.invokevirtual 104, 3) := by decide +kernel
theorem dX12_goesOn_93 : decode cX12_goesOn 93 = .ok (.invokestatic 110, 3) := by decide +kernel
theorem dX12_goesOn_96 : decode cX12_goesOn 96 = .ok (.ifCond .eq 52, 3) := by decide +kernel
theorem dX12_goesOn_99 : decode cX12_goesOn 99 = .ok (.iload_n 2, 1) := by decide +kernel
theorem dX12_goesOn_100 : decode cX12_goesOn 100 = .ok (.bipush 8, 2) := by decide +kernel
theorem dX12_goesOn_102 : decode cX12_goesOn 102 = .ok (.if_icmp .ge 30, 3) := by decide +kernel
theorem dX12_goesOn_105 : decode cX12_goesOn 105 = .ok (.aload_n 0, 1) := by decide +kernel
theorem dX12_goesOn_106 : decode cX12_goesOn 106 = .ok (.ldc2_w 92, 3) := by decide +kernel
theorem dX12_goesOn_109 : decode cX12_goesOn 109 = .ok (.aload_n 0, 1) := by decide +kernel
theorem dX12_goesOn_110 : decode cX12_goesOn 110 = .ok (.getfield 114, 3) := by decide +kernel
theorem dX12_goesOn_113 : decode cX12_goesOn 113 = .ok (.lmul, 1) := by decide +kernel
theorem dX12_goesOn_114 : decode cX12_goesOn 114 = .ok (.aload_n 0, 1) := by decide +kernel
theorem dX12_goesOn_115 : decode cX12_goesOn 115 = .ok (.aload_n 0, 1) := by decide +kernel
theorem dX12_goesOn_116 : decode cX12_goesOn 116 = .ok (.getfield 101, 3) := by decide +kernel
theorem dX12_goesOn_119 : decode cX12_goesOn 119 = .ok (.invokevirtual 104, 3) := by decide +kernel
theorem dX12_goesOn_122 : decode cX12_goesOn 122 = .ok (.bipush 97, 2) := by decide +kernel
theorem dX12_goesOn_124 : decode cX12_goesOn 124 = .ok (.isub, 1) := by decide +kernel
theorem dX12_goesOn_125 : decode cX12_goesOn 125 = .ok (.iconst 1, 1) := by decide +kernel
theorem dX12_goesOn_126 : decode cX12_goesOn 126 = .ok (.iadd, 1) := by decide +kernel
theorem dX12_goesOn_127 : decode cX12_goesOn 127 = .ok (.i2l, 1) := by decide +kernel
theorem dX12_goesOn_128 : decode cX12_goesOn 128 = .ok (.ladd, 1) := by decide +kernel
theorem dX12_goesOn_129 : decode cX12_goesOn 129 = .ok (.putfield 114, 3) := by decide +kernel
theorem dX12_goesOn_132 : decode cX12_goesOn 132 = .ok (.iinc 2 1, 3) := by decide +kernel
theorem dX12_goesOn_135 : decode cX12_goesOn 135 = .ok (.aload_n 0, 1) := by decide +kernel
theorem dX12_goesOn_136 : decode cX12_goesOn 136 = .ok (.dup, 1) := by decide +kernel
theorem dX12_goesOn_137 : decode cX12_goesOn 137 = .ok (.getfield 101, 3) := by decide +kernel
theorem dX12_goesOn_140 : decode cX12_goesOn 140 = .ok (.iconst 1, 1) := by decide +kernel
theorem dX12_goesOn_141 : decode cX12_goesOn 141 = .ok (.iadd, 1) := by decide +kernel
theorem dX12_goesOn_142 : decode cX12_goesOn 142 = .ok (.putfield 101, 3) := by decide +kernel
theorem dX12_goesOn_145 : decode cX12_goesOn 145 = .ok (.goto (-60), 3) := by decide +kernel
theorem dX12_goesOn_148 : decode cX12_goesOn 148 = .ok (.iload_n 2, 1) := by decide +kernel
theorem dX12_goesOn_149 : decode cX12_goesOn 149 = .ok (.bipush 8, 2) := by decide +kernel
theorem dX12_goesOn_151 : decode cX12_goesOn 151 = .ok (.if_icmp .gt 131, 3) := by decide +kernel
theorem dX12_goesOn_154 : decode cX12_goesOn 154 = .ok (.aload_n 0, 1) := by decide +kernel
theorem dX12_goesOn_155 : decode cX12_goesOn 155 = .ok (.iconst 2, 1) := by decide +kernel
theorem dX12_goesOn_156 : decode cX12_goesOn 156 = .ok (.putfield 98, 3) := by decide +kernel
theorem dX12_goesOn_159 : decode cX12_goesOn 159 = .ok (.goto 123, 3) := by decide +kernel
theorem dX12_goesOn_162 : decode cX12_goesOn 162 = .ok (.iload_n 1, 1) := by decide +kernel
theorem dX12_goesOn_163 : decode cX12_goesOn 163 = .ok (.invokestatic 118, 3) := by decide +kernel
theorem dX12_goesOn_166 : decode cX12_goesOn 166 = .ok (.ifCond .eq 79, 3) := by decide +kernel
theorem dX12_goesOn_169 : decode cX12_goesOn 169 = .ok (.aload_n 0, 1) := by decide +kernel
theorem dX12_goesOn_170 : decode cX12_goesOn 170 = .ok (.iconst 0, 1) := by decide +kernel
theorem dX12_goesOn_171 : decode cX12_goesOn 171 = .ok (.putfield 121, 3) := by decide +kernel
theorem dX12_goesOn_174 : decode cX12_goesOn 174 = .ok (.aload_n 0, 1) := by decide +kernel
theorem dX12_goesOn_175 : decode cX12_goesOn 175 = .ok (.aload_n 0, 1) := by decide +kernel
theorem dX12_goesOn_176 : decode cX12_goesOn 176 = .ok (.getfield 101, 3) := by decide +kernel
theorem dX12_goesOn_179 : decode cX12_goesOn 179 = .ok (.invokevirtual 104, 3) := by decide +kernel
theorem dX12_goesOn_182 : decode cX12_goesOn 182 = .ok (.invokestatic 118, 3) := by decide +kernel
theorem dX12_goesOn_185 : decode cX12_goesOn 185 = .ok (.ifCond .eq 47, 3) := by decide +kernel
theorem dX12_goesOn_188 : decode cX12_goesOn 188 = .ok (.iload_n 2, 1) := by decide +kernel
theorem dX12_goesOn_189 : decode cX12_goesOn 189 = .ok (.iconst 3, 1) := by decide +kernel
theorem dX12_goesOn_190 : decode cX12_goesOn 190 = .ok (.if_icmp .ge 26, 3) := by decide +kernel
theorem dX12_goesOn_193 : decode cX12_goesOn 193 = .ok (.aload_n 0, 1) := by decide +kernel
theorem dX12_goesOn_194 : decode cX12_goesOn 194 = .ok (.bipush 10, 2) := by decide +kernel
theorem dX12_goesOn_196 : decode cX12_goesOn 196 = .ok (.aload_n 0, 1) := by decide +kernel
theorem dX12_goesOn_197 : decode cX12_goesOn 197 = .ok (.getfield 121, 3) := by decide +kernel
theorem dX12_goesOn_200 : decode cX12_goesOn 200 = .ok (.imul, 1) := by decide +kernel
theorem dX12_goesOn_201 : decode cX12_goesOn 201 = .ok (.aload_n 0, 1) := by decide +kernel
theorem dX12_goesOn_202 : decode cX12_goesOn 202 = .ok (.aload_n 0, 1) := by decide +kernel
theorem dX12_goesOn_203 : decode cX12_goesOn 203 = .ok (.getfield 101, 3) := by decide +kernel
theorem dX12_goesOn_206 : decode cX12_goesOn 206 = .ok (.invokevirtual 104, 3) := by decide +kernel
theorem dX12_goesOn_209 : decode cX12_goesOn 209 = .ok (.iadd, 1) := by decide +kernel
theorem dX12_goesOn_210 : decode cX12_goesOn 210 = .ok (.bipush 48, 2) := by decide +kernel
theorem dX12_goesOn_212 : decode cX12_goesOn 212 = .ok (.isub, 1) := by decide +kernel
theorem dX12_goesOn_213 : decode cX12_goesOn 213 = .ok (.putfield 121, 3) := by decide +kernel
theorem dX12_goesOn_216 : decode cX12_goesOn 216 = .ok (.iinc 2 1, 3) := by decide +kernel
theorem dX12_goesOn_219 : decode cX12_goesOn 219 = .ok (.aload_n 0, 1) := by decide +kernel
theorem dX12_goesOn_220 : decode cX12_goesOn 220 = .ok (.dup, 1) := by decide +kernel
theorem dX12_goesOn_221 : decode cX12_goesOn 221 = .ok (.getfield 101, 3) := by decide +kernel
theorem dX12_goesOn_224 : decode cX12_goesOn 224 = .ok (.iconst 1, 1) := by decide +kernel
theorem dX12_goesOn_225 : decode cX12_goesOn 225 = .ok (.iadd, 1) := by decide +kernel
theorem dX12_goesOn_226 : decode cX12_goesOn 226 = .ok (.putfield 101, 3) := by decide +kernel
theorem dX12_goesOn_229 : decode cX12_goesOn 229 = .ok (.goto (-55), 3) := by decide +kernel
theorem dX12_goesOn_232 : decode cX12_goesOn 232 = .ok (.iload_n 2, 1) := by decide +kernel
theorem dX12_goesOn_233 : decode cX12_goesOn 233 = .ok (.iconst 3, 1) := by decide +kernel
theorem dX12_goesOn_234 : decode cX12_goesOn 234 = .ok (.if_icmp .gt 48, 3) := by decide +kernel
theorem dX12_goesOn_237 : decode cX12_goesOn 237 = .ok (.aload_n 0, 1) := by decide +kernel
theorem dX12_goesOn_238 : decode cX12_goesOn 238 = .ok (.iconst 3, 1) := by decide +kernel
theorem dX12_goesOn_239 : decode cX12_goesOn 239 = .ok (.putfield 98, 3) := by decide +kernel
theorem dX12_goesOn_242 : decode cX12_goesOn 242 = .ok (.goto 40, 3) := by decide +kernel
theorem dX12_goesOn_245 : decode cX12_goesOn 245 = .ok (.iload_n 1, 1) := by decide +kernel
theorem dX12_goesOn_246 : decode cX12_goesOn 246 = .ok (.bipush 59, 2) := by decide +kernel
theorem dX12_goesOn_248 : decode cX12_goesOn 248 = .ok (.if_icmp .eq 9, 3) := by decide +kernel
theorem dX12_goesOn_251 : decode cX12_goesOn 251 = .ok (.iload_n 1, 1) := by decide +kernel
theorem dX12_goesOn_252 : decode cX12_goesOn 252 = .ok (.bipush 44, 2) := by decide +kernel
theorem dX12_goesOn_254 : decode cX12_goesOn 254 = .ok (.if_icmp .ne 28, 3) := by decide +kernel
theorem dX12_goesOn_257 : decode cX12_goesOn 257 = .ok (.aload_n 0, 1) := by decide +kernel
theorem dX12_goesOn_258 : decode cX12_goesOn 258 = .ok (.iload_n 1, 1) := by decide +kernel
theorem dX12_goesOn_259 : decode cX12_goesOn 259 = .ok (.bipush 59, 2) := by decide +kernel
theorem dX12_goesOn_261 : decode cX12_goesOn 261 = .ok (.if_icmp .ne 7, 3) := by decide +kernel
theorem dX12_goesOn_264 : decode cX12_goesOn 264 = .ok (.iconst 4, 1) := by decide +kernel
theorem dX12_goesOn_265 : decode cX12_goesOn 265 = .ok (.goto 4, 3) := by decide +kernel
theorem dX12_goesOn_268 : decode cX12_goesOn 268 = .ok (.iconst 5, 1) := by decide +kernel
theorem dX12_goesOn_269 : decode cX12_goesOn 269 = .ok (.putfield 98, 3) := by decide +kernel
theorem dX12_goesOn_272 : decode cX12_goesOn 272 = .ok (.aload_n 0, 1) := by decide +kernel
theorem dX12_goesOn_273 : decode cX12_goesOn 273 = .ok (.dup, 1) := by decide +kernel
theorem dX12_goesOn_274 : decode cX12_goesOn 274 = .ok (.getfield 101, 3) := by decide +kernel
theorem dX12_goesOn_277 : decode cX12_goesOn 277 = .ok (.iconst 1, 1) := by decide +kernel
theorem dX12_goesOn_278 : decode cX12_goesOn 278 = .ok (.iadd, 1) := by decide +kernel
theorem dX12_goesOn_279 : decode cX12_goesOn 279 = .ok (.putfield 101, 3) := by decide +kernel
theorem dX12_goesOn_282 : decode cX12_goesOn 282 = .ok (.return_, 1) := by decide +kernel
theorem dX12_byteAt_0 : decode cX12_byteAt 0 = .ok (.iload_n 1, 1) := by decide +kernel
theorem dX12_byteAt_1 : decode cX12_byteAt 1 = .ok (.aload_n 0, 1) := by decide +kernel
theorem dX12_byteAt_2 : decode cX12_byteAt 2 = .ok (.getfield 83, 3) := by decide +kernel
theorem dX12_byteAt_5 : decode cX12_byteAt 5 = .ok (.if_icmp .ge 16, 3) := by decide +kernel
theorem dX12_byteAt_8 : decode cX12_byteAt 8 = .ok (.aload_n 0, 1) := by decide +kernel
theorem dX12_byteAt_9 : decode cX12_byteAt 9 = .ok (.getfield 13, 3) := by decide +kernel
theorem dX12_byteAt_12 : decode cX12_byteAt 12 = .ok (.iload_n 1, 1) := by decide +kernel
theorem dX12_byteAt_13 : decode cX12_byteAt 13 = .ok (.baload, 1) := by decide +kernel
theorem dX12_byteAt_14 : decode cX12_byteAt 14 = .ok (.sipush 255, 3) := by decide +kernel
theorem dX12_byteAt_17 : decode cX12_byteAt 17 = .ok (.iand, 1) := by decide +kernel
theorem dX12_byteAt_18 : decode cX12_byteAt 18 = .ok (.goto 4, 3) := by decide +kernel
theorem dX12_byteAt_21 : decode cX12_byteAt 21 = .ok (.iconst (-1), 1) := by decide +kernel
theorem dX12_byteAt_22 : decode cX12_byteAt 22 = .ok (.ireturn, 1) := by decide +kernel
theorem dX12_isLetter_0 : decode cX12_isLetter 0 = .ok (.iload_n 0, 1) := by decide +kernel
theorem dX12_isLetter_1 : decode cX12_isLetter 1 = .ok (.bipush 97, 2) := by decide +kernel
theorem dX12_isLetter_3 : decode cX12_isLetter 3 = .ok (.if_icmp .lt 13, 3) := by decide +kernel
theorem dX12_isLetter_6 : decode cX12_isLetter 6 = .ok (.iload_n 0, 1) := by decide +kernel
theorem dX12_isLetter_7 : decode cX12_isLetter 7 = .ok (.bipush 122, 2) := by decide +kernel
theorem dX12_isLetter_9 : decode cX12_isLetter 9 = .ok (.if_icmp .gt 7, 3) := by decide +kernel
theorem dX12_isLetter_12 : decode cX12_isLetter 12 = .ok (.iconst 1, 1) := by decide +kernel
theorem dX12_isLetter_13 : decode cX12_isLetter 13 = .ok (.goto 4, 3) := by decide +kernel
theorem dX12_isLetter_16 : decode cX12_isLetter 16 = .ok (.iconst 0, 1) := by decide +kernel
theorem dX12_isLetter_17 : decode cX12_isLetter 17 = .ok (.ireturn, 1) := by decide +kernel
theorem dX12_isDigit_0 : decode cX12_isDigit 0 = .ok (.iload_n 0, 1) := by decide +kernel
theorem dX12_isDigit_1 : decode cX12_isDigit 1 = .ok (.bipush 48, 2) := by decide +kernel
theorem dX12_isDigit_3 : decode cX12_isDigit 3 = .ok (.if_icmp .lt 13, 3) := by decide +kernel
theorem dX12_isDigit_6 : decode cX12_isDigit 6 = .ok (.iload_n 0, 1) := by decide +kernel
theorem dX12_isDigit_7 : decode cX12_isDigit 7 = .ok (.bipush 57, 2) := by decide +kernel
theorem dX12_isDigit_9 : decode cX12_isDigit 9 = .ok (.if_icmp .gt 7, 3) := by decide +kernel
theorem dX12_isDigit_12 : decode cX12_isDigit 12 = .ok (.iconst 1, 1) := by decide +kernel
theorem dX12_isDigit_13 : decode cX12_isDigit 13 = .ok (.goto 4, 3) := by decide +kernel
theorem dX12_isDigit_16 : decode cX12_isDigit 16 = .ok (.iconst 0, 1) := by decide +kernel
theorem dX12_isDigit_17 : decode cX12_isDigit 17 = .ok (.ireturn, 1) := by decide +kernel
theorem dX12_knownOne_0 : decode cX12_knownOne 0 = .ok (.aload_n 0, 1) := by decide +kernel
theorem dX12_knownOne_1 : decode cX12_knownOne 1 = .ok (.invokevirtual 180, 3) := by decide +kernel
theorem dX12_knownOne_4 : decode cX12_knownOne 4 = .ok (.ifCond .ne 8, 3) := by decide +kernel
theorem dX12_knownOne_7 : decode cX12_knownOne 7 = .ok (.aload_n 0, 1) := by decide +kernel
theorem dX12_knownOne_8 : decode cX12_knownOne 8 = .ok (.iconst 1, 1) := by decide +kernel
theorem dX12_knownOne_9 : decode cX12_knownOne 9 = .ok (.invokevirtual 141, 3) := by decide +kernel
theorem dX12_knownOne_12 : decode cX12_knownOne 12 = .ok (.aload_n 0, 1) := by decide +kernel
theorem dX12_knownOne_13 : decode cX12_knownOne 13 = .ok (.getfield 171, 3) := by decide +kernel
theorem dX12_knownOne_16 : decode cX12_knownOne 16 = .ok (.aload_n 0, 1) := by decide +kernel
theorem dX12_knownOne_17 : decode cX12_knownOne 17 = .ok (.getfield 114, 3) := by decide +kernel
theorem dX12_knownOne_20 : decode cX12_knownOne 20 = .ok (.invokevirtual 184, 3) := by decide +kernel
theorem dX12_knownOne_23 : decode cX12_knownOne 23 = .ok (.istore_n 2, 1) := by decide +kernel
theorem dX12_knownOne_24 : decode cX12_knownOne 24 = .ok (.iload_n 2, 1) := by decide +kernel
theorem dX12_knownOne_25 : decode cX12_knownOne 25 = .ok (.iconst (-1), 1) := by decide +kernel
theorem dX12_knownOne_26 : decode cX12_knownOne 26 = .ok (.if_icmp .eq 16, 3) := by decide +kernel
theorem dX12_knownOne_29 : decode cX12_knownOne 29 = .ok (.aload_n 0, 1) := by decide +kernel
theorem dX12_knownOne_30 : decode cX12_knownOne 30 = .ok (.getfield 171, 3) := by decide +kernel
theorem dX12_knownOne_33 : decode cX12_knownOne 33 = .ok (.getfield 195, 3) := by decide +kernel
theorem dX12_knownOne_36 : decode cX12_knownOne 36 = .ok (.iload_n 2, 1) := by decide +kernel
theorem dX12_knownOne_37 : decode cX12_knownOne 37 = .ok (.iaload, 1) := by decide +kernel
theorem dX12_knownOne_38 : decode cX12_knownOne 38 = .ok (.iload_n 1, 1) := by decide +kernel
theorem dX12_knownOne_39 : decode cX12_knownOne 39 = .ok (.if_icmp .eq 8, 3) := by decide +kernel
theorem dX12_knownOne_42 : decode cX12_knownOne 42 = .ok (.aload_n 0, 1) := by decide +kernel
theorem dX12_knownOne_43 : decode cX12_knownOne 43 = .ok (.iconst 2, 1) := by decide +kernel
theorem dX12_knownOne_44 : decode cX12_knownOne 44 = .ok (.invokevirtual 141, 3) := by decide +kernel
theorem dX12_knownOne_47 : decode cX12_knownOne 47 = .ok (.aload_n 0, 1) := by decide +kernel
theorem dX12_knownOne_48 : decode cX12_knownOne 48 = .ok (.getfield 98, 3) := by decide +kernel
theorem dX12_knownOne_51 : decode cX12_knownOne 51 = .ok (.bipush 6, 2) := by decide +kernel
theorem dX12_knownOne_53 : decode cX12_knownOne 53 = .ok (.if_icmp .ne 7, 3) := by decide +kernel
theorem dX12_knownOne_56 : decode cX12_knownOne 56 = .ok (.iconst 0, 1) := by decide +kernel
theorem dX12_knownOne_57 : decode cX12_knownOne 57 = .ok (.goto 12, 3) := by decide +kernel
theorem dX12_knownOne_60 : decode cX12_knownOne 60 = .ok (.aload_n 0, 1) := by decide +kernel
theorem dX12_knownOne_61 : decode cX12_knownOne 61 = .ok (.getfield 171, 3) := by decide +kernel
theorem dX12_knownOne_64 : decode cX12_knownOne 64 = .ok (.getfield 198, 3) := by decide +kernel
theorem dX12_knownOne_67 : decode cX12_knownOne 67 = .ok (.iload_n 2, 1) := by decide +kernel
theorem dX12_knownOne_68 : decode cX12_knownOne 68 = .ok (.iaload, 1) := by decide +kernel
theorem dX12_knownOne_69 : decode cX12_knownOne 69 = .ok (.ireturn, 1) := by decide +kernel
theorem dX12_isName_0 : decode cX12_isName 0 = .ok (.aload_n 0, 1) := by decide +kernel
theorem dX12_isName_1 : decode cX12_isName 1 = .ok (.getfield 98, 3) := by decide +kernel
theorem dX12_isName_4 : decode cX12_isName 4 = .ok (.iconst 2, 1) := by decide +kernel
theorem dX12_isName_5 : decode cX12_isName 5 = .ok (.if_icmp .ne 39, 3) := by decide +kernel
theorem dX12_isName_8 : decode cX12_isName 8 = .ok (.aload_n 0, 1) := by decide +kernel
theorem dX12_isName_9 : decode cX12_isName 9 = .ok (.ldc 157, 2) := by decide +kernel
theorem dX12_isName_11 : decode cX12_isName 11 = .ok (.invokevirtual 137, 3) := by decide +kernel
theorem dX12_isName_14 : decode cX12_isName 14 = .ok (.ifCond .ne 30, 3) := by decide +kernel
theorem dX12_isName_17 : decode cX12_isName 17 = .ok (.aload_n 0, 1) := by decide +kernel
theorem dX12_isName_18 : decode cX12_isName 18 = .ok (.ldc 159, 2) := by decide +kernel
theorem dX12_isName_20 : decode cX12_isName 20 = .ok (.invokevirtual 137, 3) := by decide +kernel
theorem dX12_isName_23 : decode cX12_isName 23 = .ok (.ifCond .ne 21, 3) := by decide +kernel
theorem dX12_isName_26 : decode cX12_isName 26 = .ok (.aload_n 0, 1) := by decide +kernel
theorem dX12_isName_27 : decode cX12_isName 27 = .ok (.ldc 161, 2) := by decide +kernel
theorem dX12_isName_29 : decode cX12_isName 29 = .ok (.invokevirtual 137, 3) := by decide +kernel
theorem dX12_isName_32 : decode cX12_isName 32 = .ok (.ifCond .ne 12, 3) := by decide +kernel
theorem dX12_isName_35 : decode cX12_isName 35 = .ok (.aload_n 0, 1) := by decide +kernel
theorem dX12_isName_36 : decode cX12_isName 36 = .ok (.ldc 163, 2) := by decide +kernel
theorem dX12_isName_38 : decode cX12_isName 38 = .ok (.invokevirtual 137, 3) := by decide +kernel
theorem dX12_isName_41 : decode cX12_isName 41 = .ok (.ifCond .eq 5, 3) := by decide +kernel
theorem dX12_isName_44 : decode cX12_isName 44 = .ok (.iconst 0, 1) := by decide +kernel
theorem dX12_isName_45 : decode cX12_isName 45 = .ok (.ireturn, 1) := by decide +kernel
theorem dX12_isName_46 : decode cX12_isName 46 = .ok (.aload_n 0, 1) := by decide +kernel
theorem dX12_isName_47 : decode cX12_isName 47 = .ok (.ldc 165, 2) := by decide +kernel
theorem dX12_isName_49 : decode cX12_isName 49 = .ok (.invokevirtual 137, 3) := by decide +kernel
theorem dX12_isName_52 : decode cX12_isName 52 = .ok (.ifCond .ne 25, 3) := by decide +kernel
theorem dX12_isName_55 : decode cX12_isName 55 = .ok (.aload_n 0, 1) := by decide +kernel
theorem dX12_isName_56 : decode cX12_isName 56 = .ok (.ldc 167, 2) := by decide +kernel
theorem dX12_isName_58 : decode cX12_isName 58 = .ok (.invokevirtual 137, 3) := by decide +kernel
theorem dX12_isName_61 : decode cX12_isName 61 = .ok (.ifCond .ne 16, 3) := by decide +kernel
theorem dX12_isName_64 : decode cX12_isName 64 = .ok (.aload_n 0, 1) := by decide +kernel
theorem dX12_isName_65 : decode cX12_isName 65 = .ok (.ldc 169, 2) := by decide +kernel
theorem dX12_isName_67 : decode cX12_isName 67 = .ok (.invokevirtual 137, 3) := by decide +kernel
theorem dX12_isName_70 : decode cX12_isName 70 = .ok (.ifCond .ne 7, 3) := by decide +kernel
theorem dX12_isName_73 : decode cX12_isName 73 = .ok (.iconst 1, 1) := by decide +kernel
theorem dX12_isName_74 : decode cX12_isName 74 = .ok (.goto 4, 3) := by decide +kernel
theorem dX12_isName_77 : decode cX12_isName 77 = .ok (.iconst 0, 1) := by decide +kernel
theorem dX12_isName_78 : decode cX12_isName 78 = .ok (.ireturn, 1) := by decide +kernel
theorem dX11_find_0 : decode cX11_find 0 = .ok (.iconst 0, 1) := by decide +kernel
theorem dX11_find_1 : decode cX11_find 1 = .ok (.istore_n 3, 1) := by decide +kernel
theorem dX11_find_2 : decode cX11_find 2 = .ok (.iload_n 3, 1) := by decide +kernel
theorem dX11_find_3 : decode cX11_find 3 = .ok (.aload_n 0, 1) := by decide +kernel
theorem dX11_find_4 : decode cX11_find 4 = .ok (.getfield 47, 3) := by decide +kernel
theorem dX11_find_7 : decode cX11_find 7 = .ok (.if_icmp .ge 22, 3) := by decide +kernel
theorem dX11_find_10 : decode cX11_find 10 = .ok (.aload_n 0, 1) := by decide +kernel
theorem dX11_find_11 : decode cX11_find 11 = .ok (.getfield 37, 3) := by decide +kernel
theorem dX11_find_14 : decode cX11_find 14 = .ok (.iload_n 3, 1) := by decide +kernel
theorem dX11_find_15 : decode cX11_find 15 = .ok (.laload, 1) := by decide +kernel
theorem dX11_find_16 : decode cX11_find 16 = .ok (.lload_n 1, 1) := by decide +kernel
theorem dX11_find_17 : decode cX11_find 17 = .ok (.lcmp, 1) := by decide +kernel
theorem dX11_find_18 : decode cX11_find 18 = .ok (.ifCond .ne 5, 3) := by decide +kernel
theorem dX11_find_21 : decode cX11_find 21 = .ok (.iload_n 3, 1) := by decide +kernel
theorem dX11_find_22 : decode cX11_find 22 = .ok (.ireturn, 1) := by decide +kernel
theorem dX11_find_23 : decode cX11_find 23 = .ok (.iinc 3 1, 3) := by decide +kernel
theorem dX11_find_26 : decode cX11_find 26 = .ok (.goto (-24), 3) := by decide +kernel
theorem dX11_find_29 : decode cX11_find 29 = .ok (.iconst (-1), 1) := by decide +kernel
theorem dX11_find_30 : decode cX11_find 30 = .ok (.ireturn, 1) := by decide +kernel
theorem dX12_eats_0 : decode cX12_eats 0 = .ok (.aload_n 0, 1) := by decide +kernel
theorem dX12_eats_1 : decode cX12_eats 1 = .ok (.getfield 98, 3) := by decide +kernel
theorem dX12_eats_4 : decode cX12_eats 4 = .ok (.iload_n 1, 1) := by decide +kernel
theorem dX12_eats_5 : decode cX12_eats 5 = .ok (.if_icmp .ne 7, 3) := by decide +kernel
theorem dX12_eats_8 : decode cX12_eats 8 = .ok (.iconst 1, 1) := by decide +kernel
theorem dX12_eats_9 : decode cX12_eats 9 = .ok (.goto 4, 3) := by decide +kernel
theorem dX12_eats_12 : decode cX12_eats 12 = .ok (.iconst 0, 1) := by decide +kernel
theorem dX12_eats_13 : decode cX12_eats 13 = .ok (.istore_n 2, 1) := by decide +kernel
theorem dX12_eats_14 : decode cX12_eats 14 = .ok (.iload_n 2, 1) := by decide +kernel
theorem dX12_eats_15 : decode cX12_eats 15 = .ok (.ifCond .eq 7, 3) := by decide +kernel
theorem dX12_eats_18 : decode cX12_eats 18 = .ok (.aload_n 0, 1) := by decide +kernel
theorem dX12_eats_19 : decode cX12_eats 19 = .ok (.invokevirtual 134, 3) := by decide +kernel
theorem dX12_eats_22 : decode cX12_eats 22 = .ok (.iload_n 2, 1) := by decide +kernel
theorem dX12_eats_23 : decode cX12_eats 23 = .ok (.ireturn, 1) := by decide +kernel
theorem dX12_readSilent_0 : decode cX12_readSilent 0 = .ok (.aload_n 0, 1) := by decide +kernel
theorem dX12_readSilent_1 : decode cX12_readSilent 1 = .ok (.iconst 0, 1) := by decide +kernel
theorem dX12_readSilent_2 : decode cX12_readSilent 2 = .ok (.iconst 1, 1) := by decide +kernel
theorem dX12_readSilent_3 : decode cX12_readSilent 3 = .ok (.invokevirtual 243, 3) := by decide +kernel
theorem dX12_readSilent_6 : decode cX12_readSilent 6 = .ok (.aload_n 0, 1) := by decide +kernel
theorem dX12_readSilent_7 : decode cX12_readSilent 7 = .ok (.iconst 1, 1) := by decide +kernel
theorem dX12_readSilent_8 : decode cX12_readSilent 8 = .ok (.invokevirtual 201, 3) := by decide +kernel
theorem dX12_readSilent_11 : decode cX12_readSilent 11 = .ok (.istore_n 1, 1) := by decide +kernel
theorem dX12_readSilent_12 : decode cX12_readSilent 12 = .ok (.aload_n 0, 1) := by decide +kernel
theorem dX12_readSilent_13 : decode cX12_readSilent 13 = .ok (.getfield 98, 3) := by decide +kernel
theorem dX12_readSilent_16 : decode cX12_readSilent 16 = .ok (.bipush 6, 2) := by decide +kernel
theorem dX12_readSilent_18 : decode cX12_readSilent 18 = .ok (.if_icmp .eq 22, 3) := by decide +kernel
theorem dX12_readSilent_21 : decode cX12_readSilent 21 = .ok (.aload_n 0, 1) := by decide +kernel
theorem dX12_readSilent_22 : decode cX12_readSilent 22 = .ok (.getfield 171, 3) := by decide +kernel
theorem dX12_readSilent_25 : decode cX12_readSilent 25 = .ok (.getfield 297, 3) := by decide +kernel
theorem dX12_readSilent_28 : decode cX12_readSilent 28 = .ok (.iload_n 1, 1) := by decide +kernel
theorem dX12_readSilent_29 : decode cX12_readSilent 29 = .ok (.invokestatic 273, 3) := by decide +kernel
theorem dX12_readSilent_32 : decode cX12_readSilent 32 = .ok (.ifCond .eq 8, 3) := by decide +kernel
theorem dX12_readSilent_35 : decode cX12_readSilent 35 = .ok (.aload_n 0, 1) := by decide +kernel
theorem dX12_readSilent_36 : decode cX12_readSilent 36 = .ok (.iconst 3, 1) := by decide +kernel
theorem dX12_readSilent_37 : decode cX12_readSilent 37 = .ok (.invokevirtual 141, 3) := by decide +kernel
theorem dX12_readSilent_40 : decode cX12_readSilent 40 = .ok (.aload_n 0, 1) := by decide +kernel
theorem dX12_readSilent_41 : decode cX12_readSilent 41 = .ok (.invokevirtual 134, 3) := by decide +kernel
theorem dX12_readSilent_44 : decode cX12_readSilent 44 = .ok (.aload_n 0, 1) := by decide +kernel
theorem dX12_readSilent_45 : decode cX12_readSilent 45 = .ok (.getfield 98, 3) := by decide +kernel
theorem dX12_readSilent_48 : decode cX12_readSilent 48 = .ok (.bipush 6, 2) := by decide +kernel
theorem dX12_readSilent_50 : decode cX12_readSilent 50 = .ok (.if_icmp .eq 18, 3) := by decide +kernel
theorem dX12_readSilent_53 : decode cX12_readSilent 53 = .ok (.aload_n 0, 1) := by decide +kernel
theorem dX12_readSilent_54 : decode cX12_readSilent 54 = .ok (.getfield 171, 3) := by decide +kernel
theorem dX12_readSilent_57 : decode cX12_readSilent 57 = .ok (.dup, 1) := by decide +kernel
theorem dX12_readSilent_58 : decode cX12_readSilent 58 = .ok (.getfield 297, 3) := by decide +kernel
theorem dX12_readSilent_61 : decode cX12_readSilent 61 = .ok (.iconst 1, 1) := by decide +kernel
theorem dX12_readSilent_62 : decode cX12_readSilent 62 = .ok (.iload_n 1, 1) := by decide +kernel
theorem dX12_readSilent_63 : decode cX12_readSilent 63 = .ok (.ishl, 1) := by decide +kernel
theorem dX12_readSilent_64 : decode cX12_readSilent 64 = .ok (.ior, 1) := by decide +kernel
theorem dX12_readSilent_65 : decode cX12_readSilent 65 = .ok (.putfield 297, 3) := by decide +kernel
theorem dX12_readSilent_68 : decode cX12_readSilent 68 = .ok (.return_, 1) := by decide +kernel
theorem dX12_bit_0 : decode cX12_bit 0 = .ok (.iload_n 0, 1) := by decide +kernel
theorem dX12_bit_1 : decode cX12_bit 1 = .ok (.iload_n 1, 1) := by decide +kernel
theorem dX12_bit_2 : decode cX12_bit 2 = .ok (.ishr, 1) := by decide +kernel
theorem dX12_bit_3 : decode cX12_bit 3 = .ok (.iconst 1, 1) := by decide +kernel
theorem dX12_bit_4 : decode cX12_bit 4 = .ok (.iand, 1) := by decide +kernel
theorem dX12_bit_5 : decode cX12_bit 5 = .ok (.iconst 1, 1) := by decide +kernel
theorem dX12_bit_6 : decode cX12_bit 6 = .ok (.if_icmp .ne 7, 3) := by decide +kernel
theorem dX12_bit_9 : decode cX12_bit 9 = .ok (.iconst 1, 1) := by decide +kernel
theorem dX12_bit_10 : decode cX12_bit 10 = .ok (.goto 4, 3) := by decide +kernel
theorem dX12_bit_13 : decode cX12_bit 13 = .ok (.iconst 0, 1) := by decide +kernel
theorem dX12_bit_14 : decode cX12_bit 14 = .ok (.ireturn, 1) := by decide +kernel
theorem dX12_readHeard_0 : decode cX12_readHeard 0 = .ok (.aload_n 0, 1) := by decide +kernel
theorem dX12_readHeard_1 : decode cX12_readHeard 1 = .ok (.aload_n 0, 1) := by decide +kernel
theorem dX12_readHeard_2 : decode cX12_readHeard 2 = .ok (.getfield 171, 3) := by decide +kernel
theorem dX12_readHeard_5 : decode cX12_readHeard 5 = .ok (.getfield 292, 3) := by decide +kernel
theorem dX12_readHeard_8 : decode cX12_readHeard 8 = .ok (.bipush 14, 2) := by decide +kernel
theorem dX12_readHeard_10 : decode cX12_readHeard 10 = .ok (.invokevirtual 243, 3) := by decide +kernel
theorem dX12_readHeard_13 : decode cX12_readHeard 13 = .ok (.aload_n 0, 1) := by decide +kernel
theorem dX12_readHeard_14 : decode cX12_readHeard 14 = .ok (.iconst 1, 1) := by decide +kernel
theorem dX12_readHeard_15 : decode cX12_readHeard 15 = .ok (.invokevirtual 267, 3) := by decide +kernel
theorem dX12_readHeard_18 : decode cX12_readHeard 18 = .ok (.istore_n 1, 1) := by decide +kernel
theorem dX12_readHeard_19 : decode cX12_readHeard 19 = .ok (.aload_n 0, 1) := by decide +kernel
theorem dX12_readHeard_20 : decode cX12_readHeard 20 = .ok (.iconst 0, 1) := by decide +kernel
theorem dX12_readHeard_21 : decode cX12_readHeard 21 = .ok (.invokevirtual 201, 3) := by decide +kernel
theorem dX12_readHeard_24 : decode cX12_readHeard 24 = .ok (.istore_n 2, 1) := by decide +kernel
theorem dX12_readHeard_25 : decode cX12_readHeard 25 = .ok (.aload_n 0, 1) := by decide +kernel
theorem dX12_readHeard_26 : decode cX12_readHeard 26 = .ok (.getfield 98, 3) := by decide +kernel
theorem dX12_readHeard_29 : decode cX12_readHeard 29 = .ok (.bipush 6, 2) := by decide +kernel
theorem dX12_readHeard_31 : decode cX12_readHeard 31 = .ok (.if_icmp .eq 24, 3) := by decide +kernel
theorem dX12_readHeard_34 : decode cX12_readHeard 34 = .ok (.aload_n 0, 1) := by decide +kernel
theorem dX12_readHeard_35 : decode cX12_readHeard 35 = .ok (.getfield 171, 3) := by decide +kernel
theorem dX12_readHeard_38 : decode cX12_readHeard 38 = .ok (.getfield 294, 3) := by decide +kernel
theorem dX12_readHeard_41 : decode cX12_readHeard 41 = .ok (.iload_n 1, 1) := by decide +kernel
theorem dX12_readHeard_42 : decode cX12_readHeard 42 = .ok (.iaload, 1) := by decide +kernel
theorem dX12_readHeard_43 : decode cX12_readHeard 43 = .ok (.iload_n 2, 1) := by decide +kernel
theorem dX12_readHeard_44 : decode cX12_readHeard 44 = .ok (.invokestatic 273, 3) := by decide +kernel
theorem dX12_readHeard_47 : decode cX12_readHeard 47 = .ok (.ifCond .eq 8, 3) := by decide +kernel
theorem dX12_readHeard_50 : decode cX12_readHeard 50 = .ok (.aload_n 0, 1) := by decide +kernel
theorem dX12_readHeard_51 : decode cX12_readHeard 51 = .ok (.iconst 3, 1) := by decide +kernel
theorem dX12_readHeard_52 : decode cX12_readHeard 52 = .ok (.invokevirtual 141, 3) := by decide +kernel
theorem dX12_readHeard_55 : decode cX12_readHeard 55 = .ok (.aload_n 0, 1) := by decide +kernel
theorem dX12_readHeard_56 : decode cX12_readHeard 56 = .ok (.invokevirtual 134, 3) := by decide +kernel
theorem dX12_readHeard_59 : decode cX12_readHeard 59 = .ok (.aload_n 0, 1) := by decide +kernel
theorem dX12_readHeard_60 : decode cX12_readHeard 60 = .ok (.getfield 98, 3) := by decide +kernel
theorem dX12_readHeard_63 : decode cX12_readHeard 63 = .ok (.bipush 6, 2) := by decide +kernel
theorem dX12_readHeard_65 : decode cX12_readHeard 65 = .ok (.if_icmp .ne 4, 3) := by decide +kernel
theorem dX12_readHeard_68 : decode cX12_readHeard 68 = .ok (.return_, 1) := by decide +kernel
theorem dX12_readHeard_69 : decode cX12_readHeard 69 = .ok (.aload_n 0, 1) := by decide +kernel
theorem dX12_readHeard_70 : decode cX12_readHeard 70 = .ok (.getfield 171, 3) := by decide +kernel
theorem dX12_readHeard_73 : decode cX12_readHeard 73 = .ok (.getfield 294, 3) := by decide +kernel
theorem dX12_readHeard_76 : decode cX12_readHeard 76 = .ok (.iload_n 1, 1) := by decide +kernel
theorem dX12_readHeard_77 : decode cX12_readHeard 77 = .ok (.dup2, 1) := by decide +kernel
theorem dX12_readHeard_78 : decode cX12_readHeard 78 = .ok (.iaload, 1) := by decide +kernel
theorem dX12_readHeard_79 : decode cX12_readHeard 79 = .ok (.iconst 1, 1) := by decide +kernel
theorem dX12_readHeard_80 : decode cX12_readHeard 80 = .ok (.iload_n 2, 1) := by decide +kernel
theorem dX12_readHeard_81 : decode cX12_readHeard 81 = .ok (.ishl, 1) := by decide +kernel
theorem dX12_readHeard_82 : decode cX12_readHeard 82 = .ok (.ior, 1) := by decide +kernel
theorem dX12_readHeard_83 : decode cX12_readHeard 83 = .ok (.iastore, 1) := by decide +kernel
theorem dX12_readHeard_84 : decode cX12_readHeard 84 = .ok (.aload_n 0, 1) := by decide +kernel
theorem dX12_readHeard_85 : decode cX12_readHeard 85 = .ok (.getfield 171, 3) := by decide +kernel
theorem dX12_readHeard_88 : decode cX12_readHeard 88 = .ok (.dup, 1) := by decide +kernel
theorem dX12_readHeard_89 : decode cX12_readHeard 89 = .ok (.getfield 292, 3) := by decide +kernel
theorem dX12_readHeard_92 : decode cX12_readHeard 92 = .ok (.iconst 1, 1) := by decide +kernel
theorem dX12_readHeard_93 : decode cX12_readHeard 93 = .ok (.iadd, 1) := by decide +kernel
theorem dX12_readHeard_94 : decode cX12_readHeard 94 = .ok (.putfield 292, 3) := by decide +kernel
theorem dX12_readHeard_97 : decode cX12_readHeard 97 = .ok (.return_, 1) := by decide +kernel
theorem dX12_readKnown_0 : decode cX12_readKnown 0 = .ok (.aload_n 0, 1) := by decide +kernel
theorem dX12_readKnown_1 : decode cX12_readKnown 1 = .ok (.iload_n 1, 1) := by decide +kernel
theorem dX12_readKnown_2 : decode cX12_readKnown 2 = .ok (.invokevirtual 201, 3) := by decide +kernel
theorem dX12_readKnown_5 : decode cX12_readKnown 5 = .ok (.istore_n 2, 1) := by decide +kernel
theorem dX12_readKnown_6 : decode cX12_readKnown 6 = .ok (.aload_n 0, 1) := by decide +kernel
theorem dX12_readKnown_7 : decode cX12_readKnown 7 = .ok (.invokevirtual 134, 3) := by decide +kernel
theorem dX12_readKnown_10 : decode cX12_readKnown 10 = .ok (.iload_n 2, 1) := by decide +kernel
theorem dX12_readKnown_11 : decode cX12_readKnown 11 = .ok (.ireturn, 1) := by decide +kernel
theorem dX12_readHouse_0 : decode cX12_readHouse 0 = .ok (.aload_n 0, 1) := by decide +kernel
theorem dX12_readHouse_1 : decode cX12_readHouse 1 = .ok (.aload_n 0, 1) := by decide +kernel
theorem dX12_readHouse_2 : decode cX12_readHouse 2 = .ok (.getfield 171, 3) := by decide +kernel
theorem dX12_readHouse_5 : decode cX12_readHouse 5 = .ok (.getfield 277, 3) := by decide +kernel
theorem dX12_readHouse_8 : decode cX12_readHouse 8 = .ok (.iconst 5, 1) := by decide +kernel
theorem dX12_readHouse_9 : decode cX12_readHouse 9 = .ok (.invokevirtual 243, 3) := by decide +kernel
theorem dX12_readHouse_12 : decode cX12_readHouse 12 = .ok (.aload_n 0, 1) := by decide +kernel
theorem dX12_readHouse_13 : decode cX12_readHouse 13 = .ok (.invokevirtual 247, 3) := by decide +kernel
theorem dX12_readHouse_16 : decode cX12_readHouse 16 = .ok (.lstore_n 1, 1) := by decide +kernel
theorem dX12_readHouse_17 : decode cX12_readHouse 17 = .ok (.aload_n 0, 1) := by decide +kernel
theorem dX12_readHouse_18 : decode cX12_readHouse 18 = .ok (.ldc_w 280, 3) := by decide +kernel
theorem dX12_readHouse_21 : decode cX12_readHouse 21 = .ok (.iconst 0, 1) := by decide +kernel
theorem dX12_readHouse_22 : decode cX12_readHouse 22 = .ok (.bipush 99, 2) := by decide +kernel
theorem dX12_readHouse_24 : decode cX12_readHouse 24 = .ok (.invokevirtual 235, 3) := by decide +kernel
theorem dX12_readHouse_27 : decode cX12_readHouse 27 = .ok (.istore_n 3, 1) := by decide +kernel
theorem dX12_readHouse_28 : decode cX12_readHouse 28 = .ok (.aload_n 0, 1) := by decide +kernel
theorem dX12_readHouse_29 : decode cX12_readHouse 29 = .ok (.ldc_w 282, 3) := by decide +kernel
theorem dX12_readHouse_32 : decode cX12_readHouse 32 = .ok (.iconst 0, 1) := by decide +kernel
theorem dX12_readHouse_33 : decode cX12_readHouse 33 = .ok (.bipush 23, 2) := by decide +kernel
theorem dX12_readHouse_35 : decode cX12_readHouse 35 = .ok (.invokevirtual 235, 3) := by decide +kernel
theorem dX12_readHouse_38 : decode cX12_readHouse 38 = .ok (.istore 4, 2) := by decide +kernel
theorem dX12_readHouse_40 : decode cX12_readHouse 40 = .ok (.aload_n 0, 1) := by decide +kernel
theorem dX12_readHouse_41 : decode cX12_readHouse 41 = .ok (.ldc_w 284, 3) := by decide +kernel
theorem dX12_readHouse_44 : decode cX12_readHouse 44 = .ok (.iload 4, 2) := by decide +kernel
theorem dX12_readHouse_46 : decode cX12_readHouse 46 = .ok (.bipush 23, 2) := by decide +kernel
theorem dX12_readHouse_48 : decode cX12_readHouse 48 = .ok (.invokevirtual 235, 3) := by decide +kernel
theorem dX12_readHouse_51 : decode cX12_readHouse 51 = .ok (.istore 5, 2) := by decide +kernel
theorem dX12_readHouse_53 : decode cX12_readHouse 53 = .ok (.aload_n 0, 1) := by decide +kernel
theorem dX12_readHouse_54 : decode cX12_readHouse 54 = .ok (.getfield 98, 3) := by decide +kernel
theorem dX12_readHouse_57 : decode cX12_readHouse 57 = .ok (.bipush 6, 2) := by decide +kernel
theorem dX12_readHouse_59 : decode cX12_readHouse 59 = .ok (.if_icmp .ne 4, 3) := by decide +kernel
theorem dX12_readHouse_62 : decode cX12_readHouse 62 = .ok (.return_, 1) := by decide +kernel
theorem dX12_readHouse_63 : decode cX12_readHouse 63 = .ok (.aload_n 0, 1) := by decide +kernel
theorem dX12_readHouse_64 : decode cX12_readHouse 64 = .ok (.lload_n 1, 1) := by decide +kernel
theorem dX12_readHouse_65 : decode cX12_readHouse 65 = .ok (.iconst 1, 1) := by decide +kernel
theorem dX12_readHouse_66 : decode cX12_readHouse 66 = .ok (.aload_n 0, 1) := by decide +kernel
theorem dX12_readHouse_67 : decode cX12_readHouse 67 = .ok (.getfield 171, 3) := by decide +kernel
theorem dX12_readHouse_70 : decode cX12_readHouse 70 = .ok (.getfield 277, 3) := by decide +kernel
theorem dX12_readHouse_73 : decode cX12_readHouse 73 = .ok (.invokevirtual 259, 3) := by decide +kernel
theorem dX12_readHouse_76 : decode cX12_readHouse 76 = .ok (.aload_n 0, 1) := by decide +kernel
theorem dX12_readHouse_77 : decode cX12_readHouse 77 = .ok (.getfield 171, 3) := by decide +kernel
theorem dX12_readHouse_80 : decode cX12_readHouse 80 = .ok (.getfield 286, 3) := by decide +kernel
theorem dX12_readHouse_83 : decode cX12_readHouse 83 = .ok (.aload_n 0, 1) := by decide +kernel
theorem dX12_readHouse_84 : decode cX12_readHouse 84 = .ok (.getfield 171, 3) := by decide +kernel
theorem dX12_readHouse_87 : decode cX12_readHouse 87 = .ok (.getfield 277, 3) := by decide +kernel
theorem dX12_readHouse_90 : decode cX12_readHouse 90 = .ok (.iload_n 3, 1) := by decide +kernel
theorem dX12_readHouse_91 : decode cX12_readHouse 91 = .ok (.iastore, 1) := by decide +kernel
theorem dX12_readHouse_92 : decode cX12_readHouse 92 = .ok (.aload_n 0, 1) := by decide +kernel
theorem dX12_readHouse_93 : decode cX12_readHouse 93 = .ok (.getfield 171, 3) := by decide +kernel
theorem dX12_readHouse_96 : decode cX12_readHouse 96 = .ok (.getfield 288, 3) := by decide +kernel
theorem dX12_readHouse_99 : decode cX12_readHouse 99 = .ok (.aload_n 0, 1) := by decide +kernel
theorem dX12_readHouse_100 : decode cX12_readHouse 100 = .ok (.getfield 171, 3) := by decide +kernel
theorem dX12_readHouse_103 : decode cX12_readHouse 103 = .ok (.getfield 277, 3) := by decide +kernel
theorem dX12_readHouse_106 : decode cX12_readHouse 106 = .ok (.iload 4, 2) := by decide +kernel
theorem dX12_readHouse_108 : decode cX12_readHouse 108 = .ok (.iastore, 1) := by decide +kernel
theorem dX12_readHouse_109 : decode cX12_readHouse 109 = .ok (.aload_n 0, 1) := by decide +kernel
theorem dX12_readHouse_110 : decode cX12_readHouse 110 = .ok (.getfield 171, 3) := by decide +kernel
theorem dX12_readHouse_113 : decode cX12_readHouse 113 = .ok (.getfield 290, 3) := by decide +kernel
theorem dX12_readHouse_116 : decode cX12_readHouse 116 = .ok (.aload_n 0, 1) := by decide +kernel
theorem dX12_readHouse_117 : decode cX12_readHouse 117 = .ok (.getfield 171, 3) := by decide +kernel
theorem dX12_readHouse_120 : decode cX12_readHouse 120 = .ok (.getfield 277, 3) := by decide +kernel
theorem dX12_readHouse_123 : decode cX12_readHouse 123 = .ok (.iload 5, 2) := by decide +kernel
theorem dX12_readHouse_125 : decode cX12_readHouse 125 = .ok (.iastore, 1) := by decide +kernel
theorem dX12_readHouse_126 : decode cX12_readHouse 126 = .ok (.aload_n 0, 1) := by decide +kernel
theorem dX12_readHouse_127 : decode cX12_readHouse 127 = .ok (.getfield 171, 3) := by decide +kernel
theorem dX12_readHouse_130 : decode cX12_readHouse 130 = .ok (.dup, 1) := by decide +kernel
theorem dX12_readHouse_131 : decode cX12_readHouse 131 = .ok (.getfield 277, 3) := by decide +kernel
theorem dX12_readHouse_134 : decode cX12_readHouse 134 = .ok (.iconst 1, 1) := by decide +kernel
theorem dX12_readHouse_135 : decode cX12_readHouse 135 = .ok (.iadd, 1) := by decide +kernel
theorem dX12_readHouse_136 : decode cX12_readHouse 136 = .ok (.putfield 277, 3) := by decide +kernel
theorem dX12_readHouse_139 : decode cX12_readHouse 139 = .ok (.return_, 1) := by decide +kernel
theorem dX12_readFresh_0 : decode cX12_readFresh 0 = .ok (.aload_n 0, 1) := by decide +kernel
theorem dX12_readFresh_1 : decode cX12_readFresh 1 = .ok (.invokevirtual 180, 3) := by decide +kernel
theorem dX12_readFresh_4 : decode cX12_readFresh 4 = .ok (.ifCond .ne 8, 3) := by decide +kernel
theorem dX12_readFresh_7 : decode cX12_readFresh 7 = .ok (.aload_n 0, 1) := by decide +kernel
theorem dX12_readFresh_8 : decode cX12_readFresh 8 = .ok (.iconst 1, 1) := by decide +kernel
theorem dX12_readFresh_9 : decode cX12_readFresh 9 = .ok (.invokevirtual 141, 3) := by decide +kernel
theorem dX12_readFresh_12 : decode cX12_readFresh 12 = .ok (.aload_n 0, 1) := by decide +kernel
theorem dX12_readFresh_13 : decode cX12_readFresh 13 = .ok (.getfield 171, 3) := by decide +kernel
theorem dX12_readFresh_16 : decode cX12_readFresh 16 = .ok (.aload_n 0, 1) := by decide +kernel
theorem dX12_readFresh_17 : decode cX12_readFresh 17 = .ok (.getfield 114, 3) := by decide +kernel
theorem dX12_readFresh_20 : decode cX12_readFresh 20 = .ok (.invokevirtual 184, 3) := by decide +kernel
theorem dX12_readFresh_23 : decode cX12_readFresh 23 = .ok (.iconst (-1), 1) := by decide +kernel
theorem dX12_readFresh_24 : decode cX12_readFresh 24 = .ok (.if_icmp .eq 8, 3) := by decide +kernel
theorem dX12_readFresh_27 : decode cX12_readFresh 27 = .ok (.aload_n 0, 1) := by decide +kernel
theorem dX12_readFresh_28 : decode cX12_readFresh 28 = .ok (.iconst 3, 1) := by decide +kernel
theorem dX12_readFresh_29 : decode cX12_readFresh 29 = .ok (.invokevirtual 141, 3) := by decide +kernel
theorem dX12_readFresh_32 : decode cX12_readFresh 32 = .ok (.aload_n 0, 1) := by decide +kernel
theorem dX12_readFresh_33 : decode cX12_readFresh 33 = .ok (.getfield 114, 3) := by decide +kernel
theorem dX12_readFresh_36 : decode cX12_readFresh 36 = .ok (.lstore_n 1, 1) := by decide +kernel
theorem dX12_readFresh_37 : decode cX12_readFresh 37 = .ok (.aload_n 0, 1) := by decide +kernel
theorem dX12_readFresh_38 : decode cX12_readFresh 38 = .ok (.invokevirtual 134, 3) := by decide +kernel
theorem dX12_readFresh_41 : decode cX12_readFresh 41 = .ok (.lload_n 1, 1) := by decide +kernel
theorem dX12_readFresh_42 : decode cX12_readFresh 42 = .ok (.lreturn, 1) := by decide +kernel
theorem dX12_readPart_0 : decode cX12_readPart 0 = .ok (.aload_n 0, 1) := by decide +kernel
theorem dX12_readPart_1 : decode cX12_readPart 1 = .ok (.aload_n 1, 1) := by decide +kernel
theorem dX12_readPart_2 : decode cX12_readPart 2 = .ok (.invokevirtual 149, 3) := by decide +kernel
theorem dX12_readPart_5 : decode cX12_readPart 5 = .ok (.aload_n 0, 1) := by decide +kernel
theorem dX12_readPart_6 : decode cX12_readPart 6 = .ok (.iload_n 2, 1) := by decide +kernel
theorem dX12_readPart_7 : decode cX12_readPart 7 = .ok (.iload_n 3, 1) := by decide +kernel
theorem dX12_readPart_8 : decode cX12_readPart 8 = .ok (.invokevirtual 153, 3) := by decide +kernel
theorem dX12_readPart_11 : decode cX12_readPart 11 = .ok (.ireturn, 1) := by decide +kernel
theorem dX12_needs_0 : decode cX12_needs 0 = .ok (.aload_n 0, 1) := by decide +kernel
theorem dX12_needs_1 : decode cX12_needs 1 = .ok (.aload_n 1, 1) := by decide +kernel
theorem dX12_needs_2 : decode cX12_needs 2 = .ok (.invokevirtual 137, 3) := by decide +kernel
theorem dX12_needs_5 : decode cX12_needs 5 = .ok (.ifCond .ne 8, 3) := by decide +kernel
theorem dX12_needs_8 : decode cX12_needs 8 = .ok (.aload_n 0, 1) := by decide +kernel
theorem dX12_needs_9 : decode cX12_needs 9 = .ok (.iconst 1, 1) := by decide +kernel
theorem dX12_needs_10 : decode cX12_needs 10 = .ok (.invokevirtual 141, 3) := by decide +kernel
theorem dX12_needs_13 : decode cX12_needs 13 = .ok (.aload_n 0, 1) := by decide +kernel
theorem dX12_needs_14 : decode cX12_needs 14 = .ok (.invokevirtual 134, 3) := by decide +kernel
theorem dX12_needs_17 : decode cX12_needs 17 = .ok (.return_, 1) := by decide +kernel
theorem dX12_readWhole_0 : decode cX12_readWhole 0 = .ok (.aload_n 0, 1) := by decide +kernel
theorem dX12_readWhole_1 : decode cX12_readWhole 1 = .ok (.getfield 98, 3) := by decide +kernel
theorem dX12_readWhole_4 : decode cX12_readWhole 4 = .ok (.iconst 3, 1) := by decide +kernel
theorem dX12_readWhole_5 : decode cX12_readWhole 5 = .ok (.if_icmp .eq 11, 3) := by decide +kernel
theorem dX12_readWhole_8 : decode cX12_readWhole 8 = .ok (.aload_n 0, 1) := by decide +kernel
theorem dX12_readWhole_9 : decode cX12_readWhole 9 = .ok (.iconst 1, 1) := by decide +kernel
theorem dX12_readWhole_10 : decode cX12_readWhole 10 = .ok (.invokevirtual 141, 3) := by decide +kernel
theorem dX12_readWhole_13 : decode cX12_readWhole 13 = .ok (.goto 20, 3) := by decide +kernel
theorem dX12_readWhole_16 : decode cX12_readWhole 16 = .ok (.aload_n 0, 1) := by decide +kernel
theorem dX12_readWhole_17 : decode cX12_readWhole 17 = .ok (.getfield 121, 3) := by decide +kernel
theorem dX12_readWhole_20 : decode cX12_readWhole 20 = .ok (.iload_n 1, 1) := by decide +kernel
theorem dX12_readWhole_21 : decode cX12_readWhole 21 = .ok (.iload_n 2, 1) := by decide +kernel
theorem dX12_readWhole_22 : decode cX12_readWhole 22 = .ok (.invokestatic 145, 3) := by decide +kernel
theorem dX12_readWhole_25 : decode cX12_readWhole 25 = .ok (.ifCond .ne 8, 3) := by decide +kernel
theorem dX12_readWhole_28 : decode cX12_readWhole 28 = .ok (.aload_n 0, 1) := by decide +kernel
theorem dX12_readWhole_29 : decode cX12_readWhole 29 = .ok (.iconst 4, 1) := by decide +kernel
theorem dX12_readWhole_30 : decode cX12_readWhole 30 = .ok (.invokevirtual 141, 3) := by decide +kernel
theorem dX12_readWhole_33 : decode cX12_readWhole 33 = .ok (.aload_n 0, 1) := by decide +kernel
theorem dX12_readWhole_34 : decode cX12_readWhole 34 = .ok (.getfield 98, 3) := by decide +kernel
theorem dX12_readWhole_37 : decode cX12_readWhole 37 = .ok (.bipush 6, 2) := by decide +kernel
theorem dX12_readWhole_39 : decode cX12_readWhole 39 = .ok (.if_icmp .ne 7, 3) := by decide +kernel
theorem dX12_readWhole_42 : decode cX12_readWhole 42 = .ok (.iload_n 1, 1) := by decide +kernel
theorem dX12_readWhole_43 : decode cX12_readWhole 43 = .ok (.goto 7, 3) := by decide +kernel
theorem dX12_readWhole_46 : decode cX12_readWhole 46 = .ok (.aload_n 0, 1) := by decide +kernel
theorem dX12_readWhole_47 : decode cX12_readWhole 47 = .ok (.getfield 121, 3) := by decide +kernel
theorem dX12_readWhole_50 : decode cX12_readWhole 50 = .ok (.istore_n 3, 1) := by decide +kernel
theorem dX12_readWhole_51 : decode cX12_readWhole 51 = .ok (.aload_n 0, 1) := by decide +kernel
theorem dX12_readWhole_52 : decode cX12_readWhole 52 = .ok (.invokevirtual 134, 3) := by decide +kernel
theorem dX12_readWhole_55 : decode cX12_readWhole 55 = .ok (.iload_n 3, 1) := by decide +kernel
theorem dX12_readWhole_56 : decode cX12_readWhole 56 = .ok (.ireturn, 1) := by decide +kernel
theorem dX12_in_0 : decode cX12_in 0 = .ok (.iload_n 0, 1) := by decide +kernel
theorem dX12_in_1 : decode cX12_in 1 = .ok (.iload_n 1, 1) := by decide +kernel
theorem dX12_in_2 : decode cX12_in 2 = .ok (.if_icmp .lt 12, 3) := by decide +kernel
theorem dX12_in_5 : decode cX12_in 5 = .ok (.iload_n 0, 1) := by decide +kernel
theorem dX12_in_6 : decode cX12_in 6 = .ok (.iload_n 2, 1) := by decide +kernel
theorem dX12_in_7 : decode cX12_in 7 = .ok (.if_icmp .gt 7, 3) := by decide +kernel
theorem dX12_in_10 : decode cX12_in 10 = .ok (.iconst 1, 1) := by decide +kernel
theorem dX12_in_11 : decode cX12_in 11 = .ok (.goto 4, 3) := by decide +kernel
theorem dX12_in_14 : decode cX12_in 14 = .ok (.iconst 0, 1) := by decide +kernel
theorem dX12_in_15 : decode cX12_in 15 = .ok (.ireturn, 1) := by decide +kernel
theorem dX12_names_0 : decode cX12_names 0 = .ok (.aload_n 0, 1) := by decide +kernel
theorem dX12_names_1 : decode cX12_names 1 = .ok (.getfield 171, 3) := by decide +kernel
theorem dX12_names_4 : decode cX12_names 4 = .ok (.getfield 188, 3) := by decide +kernel
theorem dX12_names_7 : decode cX12_names 7 = .ok (.aload_n 0, 1) := by decide +kernel
theorem dX12_names_8 : decode cX12_names 8 = .ok (.getfield 171, 3) := by decide +kernel
theorem dX12_names_11 : decode cX12_names 11 = .ok (.getfield 192, 3) := by decide +kernel
theorem dX12_names_14 : decode cX12_names 14 = .ok (.lload_n 1, 1) := by decide +kernel
theorem dX12_names_15 : decode cX12_names 15 = .ok (.lastore, 1) := by decide +kernel
theorem dX12_names_16 : decode cX12_names 16 = .ok (.aload_n 0, 1) := by decide +kernel
theorem dX12_names_17 : decode cX12_names 17 = .ok (.getfield 171, 3) := by decide +kernel
theorem dX12_names_20 : decode cX12_names 20 = .ok (.getfield 195, 3) := by decide +kernel
theorem dX12_names_23 : decode cX12_names 23 = .ok (.aload_n 0, 1) := by decide +kernel
theorem dX12_names_24 : decode cX12_names 24 = .ok (.getfield 171, 3) := by decide +kernel
theorem dX12_names_27 : decode cX12_names 27 = .ok (.getfield 192, 3) := by decide +kernel
theorem dX12_names_30 : decode cX12_names 30 = .ok (.iload_n 3, 1) := by decide +kernel
theorem dX12_names_31 : decode cX12_names 31 = .ok (.iastore, 1) := by decide +kernel
theorem dX12_names_32 : decode cX12_names 32 = .ok (.aload_n 0, 1) := by decide +kernel
theorem dX12_names_33 : decode cX12_names 33 = .ok (.getfield 171, 3) := by decide +kernel
theorem dX12_names_36 : decode cX12_names 36 = .ok (.getfield 198, 3) := by decide +kernel
theorem dX12_names_39 : decode cX12_names 39 = .ok (.aload_n 0, 1) := by decide +kernel
theorem dX12_names_40 : decode cX12_names 40 = .ok (.getfield 171, 3) := by decide +kernel
theorem dX12_names_43 : decode cX12_names 43 = .ok (.getfield 192, 3) := by decide +kernel
theorem dX12_names_46 : decode cX12_names 46 = .ok (.iload 4, 2) := by decide +kernel
theorem dX12_names_48 : decode cX12_names 48 = .ok (.iastore, 1) := by decide +kernel
theorem dX12_names_49 : decode cX12_names 49 = .ok (.aload_n 0, 1) := by decide +kernel
theorem dX12_names_50 : decode cX12_names 50 = .ok (.getfield 171, 3) := by decide +kernel
theorem dX12_names_53 : decode cX12_names 53 = .ok (.dup, 1) := by decide +kernel
theorem dX12_names_54 : decode cX12_names 54 = .ok (.getfield 192, 3) := by decide +kernel
theorem dX12_names_57 : decode cX12_names 57 = .ok (.iconst 1, 1) := by decide +kernel
theorem dX12_names_58 : decode cX12_names 58 = .ok (.iadd, 1) := by decide +kernel
theorem dX12_names_59 : decode cX12_names 59 = .ok (.putfield 192, 3) := by decide +kernel
theorem dX12_names_62 : decode cX12_names 62 = .ok (.return_, 1) := by decide +kernel
theorem dX12_readFollows_0 : decode cX12_readFollows 0 = .ok (.aload_n 0, 1) := by decide +kernel
theorem dX12_readFollows_1 : decode cX12_readFollows 1 = .ok (.aload_n 0, 1) := by decide +kernel
theorem dX12_readFollows_2 : decode cX12_readFollows 2 = .ok (.getfield 171, 3) := by decide +kernel
theorem dX12_readFollows_5 : decode cX12_readFollows 5 = .ok (.getfield 265, 3) := by decide +kernel
theorem dX12_readFollows_8 : decode cX12_readFollows 8 = .ok (.bipush 14, 2) := by decide +kernel
theorem dX12_readFollows_10 : decode cX12_readFollows 10 = .ok (.invokevirtual 243, 3) := by decide +kernel
theorem dX12_readFollows_13 : decode cX12_readFollows 13 = .ok (.aload_n 0, 1) := by decide +kernel
theorem dX12_readFollows_14 : decode cX12_readFollows 14 = .ok (.iconst 0, 1) := by decide +kernel
theorem dX12_readFollows_15 : decode cX12_readFollows 15 = .ok (.invokevirtual 267, 3) := by decide +kernel
theorem dX12_readFollows_18 : decode cX12_readFollows 18 = .ok (.istore_n 1, 1) := by decide +kernel
theorem dX12_readFollows_19 : decode cX12_readFollows 19 = .ok (.aload_n 0, 1) := by decide +kernel
theorem dX12_readFollows_20 : decode cX12_readFollows 20 = .ok (.iconst 0, 1) := by decide +kernel
theorem dX12_readFollows_21 : decode cX12_readFollows 21 = .ok (.invokevirtual 201, 3) := by decide +kernel
theorem dX12_readFollows_24 : decode cX12_readFollows 24 = .ok (.istore_n 2, 1) := by decide +kernel
theorem dX12_readFollows_25 : decode cX12_readFollows 25 = .ok (.aload_n 0, 1) := by decide +kernel
theorem dX12_readFollows_26 : decode cX12_readFollows 26 = .ok (.getfield 98, 3) := by decide +kernel
theorem dX12_readFollows_29 : decode cX12_readFollows 29 = .ok (.bipush 6, 2) := by decide +kernel
theorem dX12_readFollows_31 : decode cX12_readFollows 31 = .ok (.if_icmp .eq 29, 3) := by decide +kernel
theorem dX12_readFollows_34 : decode cX12_readFollows 34 = .ok (.iload_n 1, 1) := by decide +kernel
theorem dX12_readFollows_35 : decode cX12_readFollows 35 = .ok (.iload_n 2, 1) := by decide +kernel
theorem dX12_readFollows_36 : decode cX12_readFollows 36 = .ok (.if_icmp .eq 19, 3) := by decide +kernel
theorem dX12_readFollows_39 : decode cX12_readFollows 39 = .ok (.aload_n 0, 1) := by decide +kernel
theorem dX12_readFollows_40 : decode cX12_readFollows 40 = .ok (.getfield 171, 3) := by decide +kernel
theorem dX12_readFollows_43 : decode cX12_readFollows 43 = .ok (.getfield 270, 3) := by decide +kernel
theorem dX12_readFollows_46 : decode cX12_readFollows 46 = .ok (.iload_n 1, 1) := by decide +kernel
theorem dX12_readFollows_47 : decode cX12_readFollows 47 = .ok (.iaload, 1) := by decide +kernel
theorem dX12_readFollows_48 : decode cX12_readFollows 48 = .ok (.iload_n 2, 1) := by decide +kernel
theorem dX12_readFollows_49 : decode cX12_readFollows 49 = .ok (.invokestatic 273, 3) := by decide +kernel
theorem dX12_readFollows_52 : decode cX12_readFollows 52 = .ok (.ifCond .eq 8, 3) := by decide +kernel
theorem dX12_readFollows_55 : decode cX12_readFollows 55 = .ok (.aload_n 0, 1) := by decide +kernel
theorem dX12_readFollows_56 : decode cX12_readFollows 56 = .ok (.iconst 3, 1) := by decide +kernel
theorem dX12_readFollows_57 : decode cX12_readFollows 57 = .ok (.invokevirtual 141, 3) := by decide +kernel
theorem dX12_readFollows_60 : decode cX12_readFollows 60 = .ok (.aload_n 0, 1) := by decide +kernel
theorem dX12_readFollows_61 : decode cX12_readFollows 61 = .ok (.invokevirtual 134, 3) := by decide +kernel
theorem dX12_readFollows_64 : decode cX12_readFollows 64 = .ok (.aload_n 0, 1) := by decide +kernel
theorem dX12_readFollows_65 : decode cX12_readFollows 65 = .ok (.getfield 98, 3) := by decide +kernel
theorem dX12_readFollows_68 : decode cX12_readFollows 68 = .ok (.bipush 6, 2) := by decide +kernel
theorem dX12_readFollows_70 : decode cX12_readFollows 70 = .ok (.if_icmp .ne 4, 3) := by decide +kernel
theorem dX12_readFollows_73 : decode cX12_readFollows 73 = .ok (.return_, 1) := by decide +kernel
theorem dX12_readFollows_74 : decode cX12_readFollows 74 = .ok (.aload_n 0, 1) := by decide +kernel
theorem dX12_readFollows_75 : decode cX12_readFollows 75 = .ok (.getfield 171, 3) := by decide +kernel
theorem dX12_readFollows_78 : decode cX12_readFollows 78 = .ok (.getfield 270, 3) := by decide +kernel
theorem dX12_readFollows_81 : decode cX12_readFollows 81 = .ok (.iload_n 1, 1) := by decide +kernel
theorem dX12_readFollows_82 : decode cX12_readFollows 82 = .ok (.dup2, 1) := by decide +kernel
theorem dX12_readFollows_83 : decode cX12_readFollows 83 = .ok (.iaload, 1) := by decide +kernel
theorem dX12_readFollows_84 : decode cX12_readFollows 84 = .ok (.iconst 1, 1) := by decide +kernel
theorem dX12_readFollows_85 : decode cX12_readFollows 85 = .ok (.iload_n 2, 1) := by decide +kernel
theorem dX12_readFollows_86 : decode cX12_readFollows 86 = .ok (.ishl, 1) := by decide +kernel
theorem dX12_readFollows_87 : decode cX12_readFollows 87 = .ok (.ior, 1) := by decide +kernel
theorem dX12_readFollows_88 : decode cX12_readFollows 88 = .ok (.iastore, 1) := by decide +kernel
theorem dX12_readFollows_89 : decode cX12_readFollows 89 = .ok (.aload_n 0, 1) := by decide +kernel
theorem dX12_readFollows_90 : decode cX12_readFollows 90 = .ok (.getfield 171, 3) := by decide +kernel
theorem dX12_readFollows_93 : decode cX12_readFollows 93 = .ok (.dup, 1) := by decide +kernel
theorem dX12_readFollows_94 : decode cX12_readFollows 94 = .ok (.getfield 265, 3) := by decide +kernel
theorem dX12_readFollows_97 : decode cX12_readFollows 97 = .ok (.iconst 1, 1) := by decide +kernel
theorem dX12_readFollows_98 : decode cX12_readFollows 98 = .ok (.iadd, 1) := by decide +kernel
theorem dX12_readFollows_99 : decode cX12_readFollows 99 = .ok (.putfield 265, 3) := by decide +kernel
theorem dX12_readFollows_102 : decode cX12_readFollows 102 = .ok (.return_, 1) := by decide +kernel
theorem dX12_readPiece_0 : decode cX12_readPiece 0 = .ok (.aload_n 0, 1) := by decide +kernel
theorem dX12_readPiece_1 : decode cX12_readPiece 1 = .ok (.aload_n 0, 1) := by decide +kernel
theorem dX12_readPiece_2 : decode cX12_readPiece 2 = .ok (.getfield 171, 3) := by decide +kernel
theorem dX12_readPiece_5 : decode cX12_readPiece 5 = .ok (.getfield 210, 3) := by decide +kernel
theorem dX12_readPiece_8 : decode cX12_readPiece 8 = .ok (.bipush 8, 2) := by decide +kernel
theorem dX12_readPiece_10 : decode cX12_readPiece 10 = .ok (.invokevirtual 243, 3) := by decide +kernel
theorem dX12_readPiece_13 : decode cX12_readPiece 13 = .ok (.aload_n 0, 1) := by decide +kernel
theorem dX12_readPiece_14 : decode cX12_readPiece 14 = .ok (.invokevirtual 247, 3) := by decide +kernel
theorem dX12_readPiece_17 : decode cX12_readPiece 17 = .ok (.lstore_n 1, 1) := by decide +kernel
theorem dX12_readPiece_18 : decode cX12_readPiece 18 = .ok (.aload_n 0, 1) := by decide +kernel
theorem dX12_readPiece_19 : decode cX12_readPiece 19 = .ok (.ldc 251, 2) := by decide +kernel
theorem dX12_readPiece_21 : decode cX12_readPiece 21 = .ok (.invokevirtual 137, 3) := by decide +kernel
theorem dX12_readPiece_24 : decode cX12_readPiece 24 = .ok (.ifCond .eq 7, 3) := by decide +kernel
theorem dX12_readPiece_27 : decode cX12_readPiece 27 = .ok (.iconst 0, 1) := by decide +kernel
theorem dX12_readPiece_28 : decode cX12_readPiece 28 = .ok (.goto 44, 3) := by decide +kernel
theorem dX12_readPiece_31 : decode cX12_readPiece 31 = .ok (.aload_n 0, 1) := by decide +kernel
theorem dX12_readPiece_32 : decode cX12_readPiece 32 = .ok (.ldc 253, 2) := by decide +kernel
theorem dX12_readPiece_34 : decode cX12_readPiece 34 = .ok (.invokevirtual 137, 3) := by decide +kernel
theorem dX12_readPiece_37 : decode cX12_readPiece 37 = .ok (.ifCond .eq 7, 3) := by decide +kernel
theorem dX12_readPiece_40 : decode cX12_readPiece 40 = .ok (.iconst 1, 1) := by decide +kernel
theorem dX12_readPiece_41 : decode cX12_readPiece 41 = .ok (.goto 31, 3) := by decide +kernel
theorem dX12_readPiece_44 : decode cX12_readPiece 44 = .ok (.aload_n 0, 1) := by decide +kernel
theorem dX12_readPiece_45 : decode cX12_readPiece 45 = .ok (.ldc 255, 2) := by decide +kernel
theorem dX12_readPiece_47 : decode cX12_readPiece 47 = .ok (.invokevirtual 137, 3) := by decide +kernel
theorem dX12_readPiece_50 : decode cX12_readPiece 50 = .ok (.ifCond .eq 7, 3) := by decide +kernel
theorem dX12_readPiece_53 : decode cX12_readPiece 53 = .ok (.iconst 2, 1) := by decide +kernel
theorem dX12_readPiece_54 : decode cX12_readPiece 54 = .ok (.goto 18, 3) := by decide +kernel
theorem dX12_readPiece_57 : decode cX12_readPiece 57 = .ok (.aload_n 0, 1) := by decide +kernel
theorem dX12_readPiece_58 : decode cX12_readPiece 58 = .ok (.ldc_w 257, 3) := by decide +kernel
theorem dX12_readPiece_61 : decode cX12_readPiece 61 = .ok (.invokevirtual 137, 3) := by decide +kernel
theorem dX12_readPiece_64 : decode cX12_readPiece 64 = .ok (.ifCond .eq 7, 3) := by decide +kernel
theorem dX12_readPiece_67 : decode cX12_readPiece 67 = .ok (.iconst 3, 1) := by decide +kernel
theorem dX12_readPiece_68 : decode cX12_readPiece 68 = .ok (.goto 4, 3) := by decide +kernel
theorem dX12_readPiece_71 : decode cX12_readPiece 71 = .ok (.iconst (-1), 1) := by decide +kernel
theorem dX12_readPiece_72 : decode cX12_readPiece 72 = .ok (.istore_n 3, 1) := by decide +kernel
theorem dX12_readPiece_73 : decode cX12_readPiece 73 = .ok (.iload_n 3, 1) := by decide +kernel
theorem dX12_readPiece_74 : decode cX12_readPiece 74 = .ok (.iconst (-1), 1) := by decide +kernel
theorem dX12_readPiece_75 : decode cX12_readPiece 75 = .ok (.if_icmp .ne 8, 3) := by decide +kernel
theorem dX12_readPiece_78 : decode cX12_readPiece 78 = .ok (.aload_n 0, 1) := by decide +kernel
theorem dX12_readPiece_79 : decode cX12_readPiece 79 = .ok (.iconst 1, 1) := by decide +kernel
theorem dX12_readPiece_80 : decode cX12_readPiece 80 = .ok (.invokevirtual 141, 3) := by decide +kernel
theorem dX12_readPiece_83 : decode cX12_readPiece 83 = .ok (.aload_n 0, 1) := by decide +kernel
theorem dX12_readPiece_84 : decode cX12_readPiece 84 = .ok (.invokevirtual 134, 3) := by decide +kernel
theorem dX12_readPiece_87 : decode cX12_readPiece 87 = .ok (.aload_n 0, 1) := by decide +kernel
theorem dX12_readPiece_88 : decode cX12_readPiece 88 = .ok (.getfield 98, 3) := by decide +kernel
theorem dX12_readPiece_91 : decode cX12_readPiece 91 = .ok (.bipush 6, 2) := by decide +kernel
theorem dX12_readPiece_93 : decode cX12_readPiece 93 = .ok (.if_icmp .ne 4, 3) := by decide +kernel
theorem dX12_readPiece_96 : decode cX12_readPiece 96 = .ok (.return_, 1) := by decide +kernel
theorem dX12_readPiece_97 : decode cX12_readPiece 97 = .ok (.aload_n 0, 1) := by decide +kernel
theorem dX12_readPiece_98 : decode cX12_readPiece 98 = .ok (.lload_n 1, 1) := by decide +kernel
theorem dX12_readPiece_99 : decode cX12_readPiece 99 = .ok (.iconst 0, 1) := by decide +kernel
theorem dX12_readPiece_100 : decode cX12_readPiece 100 = .ok (.aload_n 0, 1) := by decide +kernel
theorem dX12_readPiece_101 : decode cX12_readPiece 101 = .ok (.getfield 171, 3) := by decide +kernel
theorem dX12_readPiece_104 : decode cX12_readPiece 104 = .ok (.getfield 210, 3) := by decide +kernel
theorem dX12_readPiece_107 : decode cX12_readPiece 107 = .ok (.invokevirtual 259, 3) := by decide +kernel
theorem dX12_readPiece_110 : decode cX12_readPiece 110 = .ok (.aload_n 0, 1) := by decide +kernel
theorem dX12_readPiece_111 : decode cX12_readPiece 111 = .ok (.getfield 171, 3) := by decide +kernel
theorem dX12_readPiece_114 : decode cX12_readPiece 114 = .ok (.getfield 262, 3) := by decide +kernel
theorem dX12_readPiece_117 : decode cX12_readPiece 117 = .ok (.aload_n 0, 1) := by decide +kernel
theorem dX12_readPiece_118 : decode cX12_readPiece 118 = .ok (.getfield 171, 3) := by decide +kernel
theorem dX12_readPiece_121 : decode cX12_readPiece 121 = .ok (.getfield 210, 3) := by decide +kernel
theorem dX12_readPiece_124 : decode cX12_readPiece 124 = .ok (.iload_n 3, 1) := by decide +kernel
theorem dX12_readPiece_125 : decode cX12_readPiece 125 = .ok (.iastore, 1) := by decide +kernel
theorem dX12_readPiece_126 : decode cX12_readPiece 126 = .ok (.aload_n 0, 1) := by decide +kernel
theorem dX12_readPiece_127 : decode cX12_readPiece 127 = .ok (.getfield 171, 3) := by decide +kernel
theorem dX12_readPiece_130 : decode cX12_readPiece 130 = .ok (.dup, 1) := by decide +kernel
theorem dX12_readPiece_131 : decode cX12_readPiece 131 = .ok (.getfield 210, 3) := by decide +kernel
theorem dX12_readPiece_134 : decode cX12_readPiece 134 = .ok (.iconst 1, 1) := by decide +kernel
theorem dX12_readPiece_135 : decode cX12_readPiece 135 = .ok (.iadd, 1) := by decide +kernel
theorem dX12_readPiece_136 : decode cX12_readPiece 136 = .ok (.putfield 210, 3) := by decide +kernel
theorem dX12_readPiece_139 : decode cX12_readPiece 139 = .ok (.return_, 1) := by decide +kernel
def f_M_flaw_R (x1 : Int32) (t : k_St) : k_St := (if (t.1 0 9) = (6 : Int32) then t else k_lt (k_sI t 0 12 x1) (fun t_1 => k_lt (k_sI t_1 0 13 (t_1.1 0 10)) (fun t_2 => k_lt (k_sI t_2 0 9 (6 : Int32)) (fun t_3 => t_3))))
theorem m_M_flaw_R (l : Launch) (G : k_G) (a : Nat → Nat) (tv : Value) (x1 : Int32) (t : k_St) {t' : k_St} (hf : f_M_flaw_R x1 t = t') : k_CV l G yX12_flaw cX12_flaw 2 none 1 (k_WR G.2.1 a tv t) [.ref (a 0), .int x1] (k_WR G.2.1 a tv t') := by
  refine k_startV (lv := [(0, .ref (a 0)), (1, .int x1)]) (by decide +kernel) (Nat.le_of_ble_eq_true rfl) rfl ?_
  intro p e s m args below meth c hA hr
  have hA : k_Amb p s m args meth c cX12_flaw 2 "TaleSharesModel" G _ := hA
  unfold f_M_flaw_R at hf
  refine k_aload_n (i := 0) hA dX12_flaw_0 rfl 0 rfl ?_
  refine gt_MR_0_9 hA wd_1257 dX12_flaw_1 ?_
  refine k_bipush hA dX12_flaw_4 kc_b_6 ?_
  refine k_icmp_ne (tgt := 10) hA dX12_flaw_6 rfl (fun hc => ?_) (fun hc => ?_)
  · have hf := k_iff hc hf
    obtain ⟨t_1, et_1, hf⟩ := k_lt_e hf
    obtain ⟨t_2, et_2, hf⟩ := k_lt_e hf
    obtain ⟨t_3, et_3, hf⟩ := k_lt_e hf
    subst hf
    refine k_aload_n (i := 0) hA dX12_flaw_10 rfl 0 rfl ?_
    refine k_iload_n (i := 1) hA dX12_flaw_11 rfl 1 rfl ?_
    refine pt_MR_0_12 hA wd_1260 et_1 dX12_flaw_12 ?_
    refine k_aload_n (i := 0) hA dX12_flaw_15 rfl 0 rfl ?_
    refine k_aload_n (i := 0) hA dX12_flaw_16 rfl 0 rfl ?_
    refine gt_MR_0_10 hA wd_1258 dX12_flaw_17 ?_
    refine pt_MR_0_13 hA wd_1261 et_2 dX12_flaw_20 ?_
    refine k_aload_n (i := 0) hA dX12_flaw_23 rfl 0 rfl ?_
    refine k_bipush hA dX12_flaw_24 kc_b_6 ?_
    refine pt_MR_0_9 hA wd_1257 et_3 dX12_flaw_26 ?_
    exact k_vret hA hr dX12_flaw_29
  have hf := k_ift hc hf
  subst hf
  exact k_vret hA hr dX12_flaw_9

def f_M_packed_4 (n : Nat) (q : Nat) : Nat → Int64 → Int32 → Option Int64
  | 0, _, _ => none
  | k + 1, x1, x3 => (if (k_slen q) ≤ x3 then some x1 else k_gi x3 (k_len.getD q 0) (k_lt (((32 : Int64) * x1) + ((((k_sch q x3) - (97 : Int32)) + (1 : Int32)).toInt64)) (fun x1_2 => k_lt (x3 + (1 : Int32)) (fun x3_3 => f_M_packed_4 n q k x1_2 x3_3))))
def f_M_packed (n : Nat) (q : Nat) : Option Int64 := f_M_packed_4 n q n (0 : Int64) (0 : Int32)
theorem m_M_packed_4 {p : Program} (l : Launch) {e : Env} {s : State} {m : MethodId} {args : Array Value} {below : List Frame} {meth : Method} {c : Code} (G : k_G) (w : va_W) (n : Nat) (q : Nat) (hq : q < 16) {w0 : va_W} {r : Int64} (hA : k_Amb p s m args meth c cX12_packed 4 "TaleSharesModel" G (va_A w0 s.heap.size)) (hr : meth.sig.returnType = (some .long)) : ∀ (k : Nat) (x1 : Int64) (x3 : Int32), f_M_packed_4 n q k x1 x3 = some r → k_Go p l e (k_rm 5) s m args below meth c (k_QL G w0 r w args s below) 4 G (va_A w0 s.heap.size) w 4 [(0, .ref (G.2.2.1 q)), (1, .long x1), (3, .int x3)] [] := by
  intro k
  induction k with
  | zero => intro x1 x3 hf; cases hf
  | succ k ih =>
  intro x1 x3 hf
  rw [f_M_packed_4] at hf
  refine k_iload_n (i := 3) hA dX12_packed_4 rfl 2 rfl ?_
  refine k_aload_n (i := 0) hA dX12_packed_5 rfl 0 rfl ?_
  refine k_slenR hA hq wd_1502 (Nat.le_of_ble_eq_true rfl) (Nat.le_of_ble_eq_true rfl) dX12_packed_6 ?_
  refine k_icmp_ge (tgt := 36) hA dX12_packed_9 rfl (fun hc => ?_) (fun hc => ?_)
  · have hf := k_ift hc hf
    obtain rfl := k_r1 hf
    refine k_lload_n (i := 1) hA dX12_packed_36 rfl 1 rfl ?_
    exact k_lret hA hr dX12_packed_37
  have hf := k_iff hc hf
  obtain ⟨hi_1, hf⟩ := k_gi_e hf
  obtain ⟨x1_2, ex1_2, hf⟩ := k_lt_e hf
  obtain ⟨x3_3, ex3_3, hf⟩ := k_lt_e hf
  refine k_ldc2 hA wd_1482 dX12_packed_12 ?_
  refine k_lload_n (i := 1) hA dX12_packed_15 rfl 1 rfl ?_
  refine k_lmul hA dX12_packed_16 ?_
  refine k_aload_n (i := 0) hA dX12_packed_17 rfl 0 rfl ?_
  refine k_iload_n (i := 3) hA dX12_packed_18 rfl 2 rfl ?_
  refine k_scharR hA hq hi_1 wd_1503 (Nat.le_of_ble_eq_true rfl) (Nat.le_of_ble_eq_true rfl) dX12_packed_19 ?_
  refine k_bipush hA dX12_packed_22 kc_b_97 ?_
  refine k_isub hA dX12_packed_24 ?_
  refine k_iconst hA dX12_packed_25 kc_i_1 ?_
  refine k_iadd hA dX12_packed_26 ?_
  refine k_i2l hA dX12_packed_27 ?_
  refine k_ladd hA dX12_packed_28 ?_
  refine k_lstore_n (i := 1) (lv' := [(1, .long x1_2), (0, .ref (G.2.2.1 q)), (3, .int x3)]) hA dX12_packed_29 rfl ex1_2 (Nat.le_of_ble_eq_true rfl) rfl ?_
  refine k_iinc (j := 2) (v := x3_3) (lv' := [(3, .int x3_3), (1, .long x1_2), (0, .ref (G.2.2.1 q))]) hA dX12_packed_30 rfl (k_inc ex3_3 kc_i_1) (Nat.le_of_ble_eq_true rfl) rfl ?_
  refine k_goto (tgt := 4) hA dX12_packed_33 rfl ?_
  refine k_pick (lv' := [(0, .ref (G.2.2.1 q)), (1, .long x1_2), (3, .int x3_3)]) [2, 1, 0] rfl ?_
  exact ih x1_2 x3_3 hf

theorem m_M_packed (l : Launch) (G : k_G) (w : va_W) (n : Nat) (q : Nat) (hq : q < 16) {r : Int64} (hf : f_M_packed n q = some r) : k_CL l G yX12_packed cX12_packed 4 (some .long) 5 w [.ref (G.2.2.1 q)] r w := by
  refine k_startL (lv := [(0, .ref (G.2.2.1 q))]) (by decide +kernel) (Nat.le_of_ble_eq_true rfl) rfl ?_
  intro p e s m args below meth c hA hr
  have hA : k_Amb p s m args meth c cX12_packed 4 "TaleSharesModel" G _ := hA
  unfold f_M_packed at hf
  refine k_lconst hA dX12_packed_0 kc_l_0 ?_
  refine k_lstore_n (i := 1) (lv' := [(1, .long (0 : Int64)), (0, .ref (G.2.2.1 q))]) hA dX12_packed_1 rfl rfl (Nat.le_of_ble_eq_true rfl) rfl ?_
  refine k_iconst hA dX12_packed_2 kc_i_0 ?_
  refine k_istore_n (i := 3) (lv' := [(3, .int (0 : Int32)), (1, .long (0 : Int64)), (0, .ref (G.2.2.1 q))]) hA dX12_packed_3 rfl rfl (Nat.le_of_ble_eq_true rfl) rfl ?_
  refine k_pick (lv' := [(0, .ref (G.2.2.1 q)), (1, .long (0 : Int64)), (3, .int (0 : Int32))]) [2, 1, 0] rfl ?_
  exact m_M_packed_4 l G w n q hq hA hr n (0 : Int64) (0 : Int32) hf

def f_M_isWord_R (n : Nat) (q : Nat) (t : k_St) : Option Bool := (if (t.1 0 9) = (2 : Int32) then k_cp (f_M_packed n q) (fun r_1 => (if (lg_cmp (t.2 0 14) r_1) = 0 then some true else some false)) else some false)
theorem m_M_isWord_R (l : Launch) (G : k_G) (a : Nat → Nat) (tv : Value) (n : Nat) (q : Nat) (hq : q < 16) (t : k_St) {r : Bool} (hf : f_M_isWord_R n q t = some r) : k_CI l G yX12_isWord cX12_isWord 2 (some .boolean) 6 (k_WR G.2.1 a tv t) [.ref (a 0), .ref (G.2.2.1 q)] (k_b r) (k_WR G.2.1 a tv t) := by
  refine k_startI (lv := [(0, .ref (a 0)), (1, .ref (G.2.2.1 q))]) (by decide +kernel) (Nat.le_of_ble_eq_true rfl) rfl ?_
  intro p e s m args below meth c hA hr
  have hA : k_Amb p s m args meth c cX12_isWord 2 "TaleSharesModel" G _ := hA
  unfold f_M_isWord_R at hf
  refine k_aload_n (i := 0) hA dX12_isWord_0 rfl 0 rfl ?_
  refine gt_MR_0_9 hA wd_1257 dX12_isWord_1 ?_
  refine k_iconst hA dX12_isWord_4 kc_i_2 ?_
  refine k_icmp_ne (tgt := 24) hA dX12_isWord_5 rfl (fun hc => ?_) (fun hc => ?_)
  · have hf := k_iff hc hf
    obtain rfl := k_r1 hf
    refine k_iconst hA dX12_isWord_24 kc_i_0 ?_
    exact k_iret hA hr (k_narB (k_b01 _)) dX12_isWord_25
  have hf := k_ift hc hf
  obtain ⟨r_1, hr_1, hf⟩ := k_cp_e hf
  refine k_aload_n (i := 0) hA dX12_isWord_8 rfl 0 rfl ?_
  refine gt_MR_0_14 hA wd_1262 dX12_isWord_9 ?_
  refine k_aload_n (i := 1) hA dX12_isWord_12 rfl 1 rfl ?_
  refine k_callSl (As := [.ref (G.2.2.1 q)]) (rest := [.long (t.2 0 14)]) hA (m_M_packed l G (k_WR G.2.1 a tv t) n q hq hr_1) cd_X12_packed wd_1499 (Nat.le_of_ble_eq_true rfl) rfl rfl (Nat.le_of_ble_eq_true rfl) dX12_isWord_13 ?_
  refine k_lcmp hA dX12_isWord_16 ?_
  refine k_if_ne (tgt := 24) hA dX12_isWord_17 rfl (fun hc => ?_) (fun hc => ?_)
  · have hf := k_iff hc hf
    obtain rfl := k_r1 hf
    refine k_iconst hA dX12_isWord_24 kc_i_0 ?_
    exact k_iret hA hr (k_narB (k_b01 _)) dX12_isWord_25
  have hf := k_ift hc hf
  obtain rfl := k_r1 hf
  refine k_iconst hA dX12_isWord_20 kc_i_1 ?_
  refine k_goto (tgt := 25) hA dX12_isWord_21 rfl ?_
  exact k_iret hA hr (k_narB (k_b01 _)) dX12_isWord_25

def f_M_byteAt_R (t : k_St) (x1 : Int32) : Option Int32 := (if (t.1 0 7) ≤ x1 then some (-1 : Int32) else k_gi x1 900 (some ((t.1 1 x1.toNatClampNeg) &&& (255 : Int32))))
theorem m_M_byteAt_R (l : Launch) (G : k_G) (a : Nat → Nat) (tv : Value) (t : k_St) (x1 : Int32) {r : Int32} (hf : f_M_byteAt_R t x1 = some r) : k_CI l G yX12_byteAt cX12_byteAt 2 (some .int) 1 (k_WR G.2.1 a tv t) [.ref (a 0), .int x1] r (k_WR G.2.1 a tv t) := by
  refine k_startI (lv := [(0, .ref (a 0)), (1, .int x1)]) (by decide +kernel) (Nat.le_of_ble_eq_true rfl) rfl ?_
  intro p e s m args below meth c hA hr
  have hA : k_Amb p s m args meth c cX12_byteAt 2 "TaleSharesModel" G _ := hA
  unfold f_M_byteAt_R at hf
  refine k_iload_n (i := 1) hA dX12_byteAt_0 rfl 1 rfl ?_
  refine k_aload_n (i := 0) hA dX12_byteAt_1 rfl 0 rfl ?_
  refine gt_MR_0_7 hA wd_1255 dX12_byteAt_2 ?_
  refine k_icmp_ge (tgt := 21) hA dX12_byteAt_5 rfl (fun hc => ?_) (fun hc => ?_)
  · have hf := k_ift hc hf
    obtain rfl := k_r1 hf
    refine k_iconst hA dX12_byteAt_21 kc_i_m1 ?_
    exact k_iret hA hr rfl dX12_byteAt_22
  have hf := k_iff hc hf
  obtain ⟨hi_1, hf⟩ := k_gi_e hf
  obtain rfl := k_r1 hf
  refine k_aload_n (i := 0) hA dX12_byteAt_8 rfl 0 rfl ?_
  refine gt_MR_0_5 hA wd_1253 dX12_byteAt_9 ?_
  refine k_iload_n (i := 1) hA dX12_byteAt_12 rfl 1 rfl ?_
  refine ld_MR_1 hA hi_1 dX12_byteAt_13 ?_
  refine k_sipush hA dX12_byteAt_14 kc_s_255 ?_
  refine k_iand hA dX12_byteAt_17 ?_
  refine k_goto (tgt := 22) hA dX12_byteAt_18 rfl ?_
  exact k_iret hA hr rfl dX12_byteAt_22

def f_M_isLetter (x0 : Int32) : Bool := (if x0 < (97 : Int32) then false else (if (122 : Int32) < x0 then false else true))
theorem m_M_isLetter (l : Launch) (G : k_G) (w : va_W) (x0 : Int32) {r : Bool} (hf : f_M_isLetter x0 = r) : k_CI l G yX12_isLetter cX12_isLetter 1 (some .boolean) 1 w [.int x0] (k_b r) w := by
  refine k_startI (lv := [(0, .int x0)]) (by decide +kernel) (Nat.le_of_ble_eq_true rfl) rfl ?_
  intro p e s m args below meth c hA hr
  have hA : k_Amb p s m args meth c cX12_isLetter 1 "TaleSharesModel" G _ := hA
  unfold f_M_isLetter at hf
  refine k_iload_n (i := 0) hA dX12_isLetter_0 rfl 0 rfl ?_
  refine k_bipush hA dX12_isLetter_1 kc_b_97 ?_
  refine k_icmp_lt (tgt := 16) hA dX12_isLetter_3 rfl (fun hc => ?_) (fun hc => ?_)
  · have hf := k_ift hc hf
    subst hf
    refine k_iconst hA dX12_isLetter_16 kc_i_0 ?_
    exact k_iret hA hr (k_narB (k_b01 _)) dX12_isLetter_17
  have hf := k_iff hc hf
  refine k_iload_n (i := 0) hA dX12_isLetter_6 rfl 0 rfl ?_
  refine k_bipush hA dX12_isLetter_7 kc_b_122 ?_
  refine k_icmp_gt (tgt := 16) hA dX12_isLetter_9 rfl (fun hc => ?_) (fun hc => ?_)
  · have hf := k_ift hc hf
    subst hf
    refine k_iconst hA dX12_isLetter_16 kc_i_0 ?_
    exact k_iret hA hr (k_narB (k_b01 _)) dX12_isLetter_17
  have hf := k_iff hc hf
  subst hf
  refine k_iconst hA dX12_isLetter_12 kc_i_1 ?_
  refine k_goto (tgt := 17) hA dX12_isLetter_13 rfl ?_
  exact k_iret hA hr (k_narB (k_b01 _)) dX12_isLetter_17

def f_M_isDigit (x0 : Int32) : Bool := (if x0 < (48 : Int32) then false else (if (57 : Int32) < x0 then false else true))
theorem m_M_isDigit (l : Launch) (G : k_G) (w : va_W) (x0 : Int32) {r : Bool} (hf : f_M_isDigit x0 = r) : k_CI l G yX12_isDigit cX12_isDigit 1 (some .boolean) 1 w [.int x0] (k_b r) w := by
  refine k_startI (lv := [(0, .int x0)]) (by decide +kernel) (Nat.le_of_ble_eq_true rfl) rfl ?_
  intro p e s m args below meth c hA hr
  have hA : k_Amb p s m args meth c cX12_isDigit 1 "TaleSharesModel" G _ := hA
  unfold f_M_isDigit at hf
  refine k_iload_n (i := 0) hA dX12_isDigit_0 rfl 0 rfl ?_
  refine k_bipush hA dX12_isDigit_1 kc_b_48 ?_
  refine k_icmp_lt (tgt := 16) hA dX12_isDigit_3 rfl (fun hc => ?_) (fun hc => ?_)
  · have hf := k_ift hc hf
    subst hf
    refine k_iconst hA dX12_isDigit_16 kc_i_0 ?_
    exact k_iret hA hr (k_narB (k_b01 _)) dX12_isDigit_17
  have hf := k_iff hc hf
  refine k_iload_n (i := 0) hA dX12_isDigit_6 rfl 0 rfl ?_
  refine k_bipush hA dX12_isDigit_7 kc_b_57 ?_
  refine k_icmp_gt (tgt := 16) hA dX12_isDigit_9 rfl (fun hc => ?_) (fun hc => ?_)
  · have hf := k_ift hc hf
    subst hf
    refine k_iconst hA dX12_isDigit_16 kc_i_0 ?_
    exact k_iret hA hr (k_narB (k_b01 _)) dX12_isDigit_17
  have hf := k_iff hc hf
  subst hf
  refine k_iconst hA dX12_isDigit_12 kc_i_1 ?_
  refine k_goto (tgt := 17) hA dX12_isDigit_13 rfl ?_
  exact k_iret hA hr (k_narB (k_b01 _)) dX12_isDigit_17

def f_M_goesOn_R_257 (n : Nat) (x1 : Int32) (t : k_St) : Option k_St := (if x1 = (59 : Int32) then k_lt (k_sI t 0 9 (4 : Int32)) (fun t_3 => k_lt (k_sI t_3 0 8 ((t_3.1 0 8) + (1 : Int32))) (fun t_4 => some t_4)) else k_lt (k_sI t 0 9 (5 : Int32)) (fun t_1 => k_lt (k_sI t_1 0 8 ((t_1.1 0 8) + (1 : Int32))) (fun t_2 => some t_2)))
def f_M_goesOn_R_174 (n : Nat) : Nat → Int32 → k_St → Option k_St
  | 0, _, _ => none
  | k + 1, x2, t => k_cp (f_M_byteAt_R t (t.1 0 8)) (fun r_1 => (if (k_b (f_M_isDigit r_1)) = 0 then (if (3 : Int32) < x2 then some t else k_lt (k_sI t 0 9 (3 : Int32)) (fun t_2 => some t_2)) else (if (3 : Int32) ≤ x2 then k_lt (x2 + (1 : Int32)) (fun x2_3 => k_lt (k_sI t 0 8 ((t.1 0 8) + (1 : Int32))) (fun t_4 => f_M_goesOn_R_174 n k x2_3 t_4)) else k_cp (f_M_byteAt_R t (t.1 0 8)) (fun r_5 => k_lt (k_sI t 0 11 ((((10 : Int32) * (t.1 0 11)) + r_5) - (48 : Int32))) (fun t_6 => k_lt (x2 + (1 : Int32)) (fun x2_7 => k_lt (k_sI t_6 0 8 ((t_6.1 0 8) + (1 : Int32))) (fun t_8 => f_M_goesOn_R_174 n k x2_7 t_8)))))))
def f_M_goesOn_R_85 (n : Nat) : Nat → Int32 → k_St → Option k_St
  | 0, _, _ => none
  | k + 1, x2, t => k_cp (f_M_byteAt_R t (t.1 0 8)) (fun r_1 => (if (k_b (f_M_isLetter r_1)) = 0 then (if (8 : Int32) < x2 then some t else k_lt (k_sI t 0 9 (2 : Int32)) (fun t_2 => some t_2)) else (if (8 : Int32) ≤ x2 then k_lt (x2 + (1 : Int32)) (fun x2_3 => k_lt (k_sI t 0 8 ((t.1 0 8) + (1 : Int32))) (fun t_4 => f_M_goesOn_R_85 n k x2_3 t_4)) else k_cp (f_M_byteAt_R t (t.1 0 8)) (fun r_5 => k_lt (k_sL t 0 14 (((32 : Int64) * (t.2 0 14)) + (((r_5 - (97 : Int32)) + (1 : Int32)).toInt64))) (fun t_6 => k_lt (x2 + (1 : Int32)) (fun x2_7 => k_lt (k_sI t_6 0 8 ((t_6.1 0 8) + (1 : Int32))) (fun t_8 => f_M_goesOn_R_85 n k x2_7 t_8)))))))
def f_M_goesOn_R_10 (n : Nat) : Nat → k_St → Option k_St
  | 0, _ => none
  | k + 1, t => k_cp (f_M_byteAt_R t (t.1 0 8)) (fun r_1 => (if r_1 = (32 : Int32) then k_lt (k_sI t 0 8 ((t.1 0 8) + (1 : Int32))) (fun t_8 => f_M_goesOn_R_10 n k t_8) else k_lt (k_sI t 0 10 (t.1 0 8)) (fun t_2 => k_lt (k_sI t_2 0 9 (0 : Int32)) (fun t_3 => k_cp (f_M_byteAt_R t_3 (t_3.1 0 8)) (fun r_4 => (if r_4 = (-1 : Int32) then k_lt (k_sI t_3 0 9 (1 : Int32)) (fun t_7 => some t_7) else (if (k_b (f_M_isLetter r_4)) = 0 then (if (k_b (f_M_isDigit r_4)) = 0 then (if r_4 = (59 : Int32) then f_M_goesOn_R_257 n r_4 t_3 else (if r_4 = (44 : Int32) then f_M_goesOn_R_257 n r_4 t_3 else some t_3)) else k_lt (k_sI t_3 0 11 (0 : Int32)) (fun t_5 => f_M_goesOn_R_174 n n (0 : Int32) t_5)) else k_lt (k_sL t_3 0 14 (0 : Int64)) (fun t_6 => f_M_goesOn_R_85 n n (0 : Int32) t_6))))))))
def f_M_goesOn_R (n : Nat) (t : k_St) : Option k_St := (if (t.1 0 9) = (6 : Int32) then some t else f_M_goesOn_R_10 n n t)
theorem m_M_goesOn_R_257 {p : Program} (l : Launch) {e : Env} {s : State} {m : MethodId} {args : Array Value} {below : List Frame} {meth : Method} {c : Code} (G : k_G) (a : Nat → Nat) (tv : Value) (n : Nat) {w0 : va_W} {t' : k_St} (hA : k_Amb p s m args meth c cX12_goesOn 3 "TaleSharesModel" G (va_A w0 s.heap.size)) (hr : meth.sig.returnType = none) : ∀ (x1 : Int32) (t : k_St), f_M_goesOn_R_257 n x1 t = some t' → k_Go p l e (k_rm 2) s m args below meth c (k_QV G w0 (k_WR G.2.1 a tv t') args s below) 3 G (va_A w0 s.heap.size) (k_WR G.2.1 a tv t) 257 [(0, .ref (a 0)), (1, .int x1)] [] := by
  intro x1 t hf
  unfold f_M_goesOn_R_257 at hf
  refine k_aload_n (i := 0) hA dX12_goesOn_257 rfl 0 rfl ?_
  refine k_iload_n (i := 1) hA dX12_goesOn_258 rfl 1 rfl ?_
  refine k_bipush hA dX12_goesOn_259 kc_b_59 ?_
  refine k_icmp_ne (tgt := 268) hA dX12_goesOn_261 rfl (fun hc => ?_) (fun hc => ?_)
  · have hf := k_iff hc hf
    obtain ⟨t_1, et_1, hf⟩ := k_lt_e hf
    obtain ⟨t_2, et_2, hf⟩ := k_lt_e hf
    obtain rfl := k_r1 hf
    refine k_iconst hA dX12_goesOn_268 kc_i_5 ?_
    refine pt_MR_0_9 hA wd_1257 et_1 dX12_goesOn_269 ?_
    refine k_aload_n (i := 0) hA dX12_goesOn_272 rfl 0 rfl ?_
    refine k_dup hA dX12_goesOn_273 rfl ?_
    refine gt_MR_0_8 hA wd_1256 dX12_goesOn_274 ?_
    refine k_iconst hA dX12_goesOn_277 kc_i_1 ?_
    refine k_iadd hA dX12_goesOn_278 ?_
    refine pt_MR_0_8 hA wd_1256 et_2 dX12_goesOn_279 ?_
    exact k_vret hA hr dX12_goesOn_282
  have hf := k_ift hc hf
  obtain ⟨t_3, et_3, hf⟩ := k_lt_e hf
  obtain ⟨t_4, et_4, hf⟩ := k_lt_e hf
  obtain rfl := k_r1 hf
  refine k_iconst hA dX12_goesOn_264 kc_i_4 ?_
  refine k_goto (tgt := 269) hA dX12_goesOn_265 rfl ?_
  refine pt_MR_0_9 hA wd_1257 et_3 dX12_goesOn_269 ?_
  refine k_aload_n (i := 0) hA dX12_goesOn_272 rfl 0 rfl ?_
  refine k_dup hA dX12_goesOn_273 rfl ?_
  refine gt_MR_0_8 hA wd_1256 dX12_goesOn_274 ?_
  refine k_iconst hA dX12_goesOn_277 kc_i_1 ?_
  refine k_iadd hA dX12_goesOn_278 ?_
  refine pt_MR_0_8 hA wd_1256 et_4 dX12_goesOn_279 ?_
  exact k_vret hA hr dX12_goesOn_282

theorem m_M_goesOn_R_174 {p : Program} (l : Launch) {e : Env} {s : State} {m : MethodId} {args : Array Value} {below : List Frame} {meth : Method} {c : Code} (G : k_G) (a : Nat → Nat) (tv : Value) (n : Nat) {w0 : va_W} {t' : k_St} (hA : k_Amb p s m args meth c cX12_goesOn 3 "TaleSharesModel" G (va_A w0 s.heap.size)) (hr : meth.sig.returnType = none) : ∀ (k : Nat) (x2 : Int32) (t : k_St), f_M_goesOn_R_174 n k x2 t = some t' → k_Go p l e (k_rm 2) s m args below meth c (k_QV G w0 (k_WR G.2.1 a tv t') args s below) 3 G (va_A w0 s.heap.size) (k_WR G.2.1 a tv t) 174 [(0, .ref (a 0)), (2, .int x2)] [] := by
  intro k
  induction k with
  | zero => intro x2 t hf; cases hf
  | succ k ih =>
  intro x2 t hf
  rw [f_M_goesOn_R_174] at hf
  obtain ⟨r_1, hr_1, hf⟩ := k_cp_e hf
  refine k_aload_n (i := 0) hA dX12_goesOn_174 rfl 0 rfl ?_
  refine k_aload_n (i := 0) hA dX12_goesOn_175 rfl 0 rfl ?_
  refine gt_MR_0_8 hA wd_1256 dX12_goesOn_176 ?_
  refine k_callVi (As := [.int (t.1 0 8)]) (rest := []) hA (m_M_byteAt_R l G a tv t (t.1 0 8) hr_1) cd_X12_byteAt wd_1475 (hc_MR_0 G.2.1 a tv t) rfl rfl (Nat.le_of_ble_eq_true rfl) rfl rfl (Nat.le_of_ble_eq_true rfl) dX12_goesOn_179 ?_
  refine k_callSi (As := [.int r_1]) (rest := []) hA (m_M_isDigit l G (k_WR G.2.1 a tv t) r_1 rfl) cd_X12_isDigit wd_1483 (Nat.le_of_ble_eq_true rfl) rfl rfl (Nat.le_of_ble_eq_true rfl) dX12_goesOn_182 ?_
  refine k_if_eq (tgt := 232) hA dX12_goesOn_185 rfl (fun hc => ?_) (fun hc => ?_)
  · have hf := k_ift hc hf
    refine k_iload_n (i := 2) hA dX12_goesOn_232 rfl 1 rfl ?_
    refine k_iconst hA dX12_goesOn_233 kc_i_3 ?_
    refine k_icmp_gt (tgt := 282) hA dX12_goesOn_234 rfl (fun hc => ?_) (fun hc => ?_)
    · have hf := k_ift hc hf
      obtain rfl := k_r1 hf
      exact k_vret hA hr dX12_goesOn_282
    have hf := k_iff hc hf
    obtain ⟨t_2, et_2, hf⟩ := k_lt_e hf
    obtain rfl := k_r1 hf
    refine k_aload_n (i := 0) hA dX12_goesOn_237 rfl 0 rfl ?_
    refine k_iconst hA dX12_goesOn_238 kc_i_3 ?_
    refine pt_MR_0_9 hA wd_1257 et_2 dX12_goesOn_239 ?_
    refine k_goto (tgt := 282) hA dX12_goesOn_242 rfl ?_
    exact k_vret hA hr dX12_goesOn_282
  have hf := k_iff hc hf
  refine k_iload_n (i := 2) hA dX12_goesOn_188 rfl 1 rfl ?_
  refine k_iconst hA dX12_goesOn_189 kc_i_3 ?_
  refine k_icmp_ge (tgt := 216) hA dX12_goesOn_190 rfl (fun hc => ?_) (fun hc => ?_)
  · have hf := k_ift hc hf
    obtain ⟨x2_3, ex2_3, hf⟩ := k_lt_e hf
    obtain ⟨t_4, et_4, hf⟩ := k_lt_e hf
    refine k_iinc (j := 1) (v := x2_3) (lv' := [(2, .int x2_3), (0, .ref (a 0))]) hA dX12_goesOn_216 rfl (k_inc ex2_3 kc_i_1) (Nat.le_of_ble_eq_true rfl) rfl ?_
    refine k_aload_n (i := 0) hA dX12_goesOn_219 rfl 1 rfl ?_
    refine k_dup hA dX12_goesOn_220 rfl ?_
    refine gt_MR_0_8 hA wd_1256 dX12_goesOn_221 ?_
    refine k_iconst hA dX12_goesOn_224 kc_i_1 ?_
    refine k_iadd hA dX12_goesOn_225 ?_
    refine pt_MR_0_8 hA wd_1256 et_4 dX12_goesOn_226 ?_
    refine k_goto (tgt := 174) hA dX12_goesOn_229 rfl ?_
    refine k_pick (lv' := [(0, .ref (a 0)), (2, .int x2_3)]) [1, 0] rfl ?_
    exact ih x2_3 t_4 hf
  have hf := k_iff hc hf
  obtain ⟨r_5, hr_5, hf⟩ := k_cp_e hf
  obtain ⟨t_6, et_6, hf⟩ := k_lt_e hf
  obtain ⟨x2_7, ex2_7, hf⟩ := k_lt_e hf
  obtain ⟨t_8, et_8, hf⟩ := k_lt_e hf
  refine k_aload_n (i := 0) hA dX12_goesOn_193 rfl 0 rfl ?_
  refine k_bipush hA dX12_goesOn_194 kc_b_10 ?_
  refine k_aload_n (i := 0) hA dX12_goesOn_196 rfl 0 rfl ?_
  refine gt_MR_0_11 hA wd_1259 dX12_goesOn_197 ?_
  refine k_imul hA dX12_goesOn_200 ?_
  refine k_aload_n (i := 0) hA dX12_goesOn_201 rfl 0 rfl ?_
  refine k_aload_n (i := 0) hA dX12_goesOn_202 rfl 0 rfl ?_
  refine gt_MR_0_8 hA wd_1256 dX12_goesOn_203 ?_
  refine k_callVi (As := [.int (t.1 0 8)]) (rest := [.int ((10 : Int32) * (t.1 0 11)), .ref (a 0)]) hA (m_M_byteAt_R l G a tv t (t.1 0 8) hr_5) cd_X12_byteAt wd_1475 (hc_MR_0 G.2.1 a tv t) rfl rfl (Nat.le_of_ble_eq_true rfl) rfl rfl (Nat.le_of_ble_eq_true rfl) dX12_goesOn_206 ?_
  refine k_iadd hA dX12_goesOn_209 ?_
  refine k_bipush hA dX12_goesOn_210 kc_b_48 ?_
  refine k_isub hA dX12_goesOn_212 ?_
  refine pt_MR_0_11 hA wd_1259 et_6 dX12_goesOn_213 ?_
  refine k_iinc (j := 1) (v := x2_7) (lv' := [(2, .int x2_7), (0, .ref (a 0))]) hA dX12_goesOn_216 rfl (k_inc ex2_7 kc_i_1) (Nat.le_of_ble_eq_true rfl) rfl ?_
  refine k_aload_n (i := 0) hA dX12_goesOn_219 rfl 1 rfl ?_
  refine k_dup hA dX12_goesOn_220 rfl ?_
  refine gt_MR_0_8 hA wd_1256 dX12_goesOn_221 ?_
  refine k_iconst hA dX12_goesOn_224 kc_i_1 ?_
  refine k_iadd hA dX12_goesOn_225 ?_
  refine pt_MR_0_8 hA wd_1256 et_8 dX12_goesOn_226 ?_
  refine k_goto (tgt := 174) hA dX12_goesOn_229 rfl ?_
  refine k_pick (lv' := [(0, .ref (a 0)), (2, .int x2_7)]) [1, 0] rfl ?_
  exact ih x2_7 t_8 hf

theorem m_M_goesOn_R_85 {p : Program} (l : Launch) {e : Env} {s : State} {m : MethodId} {args : Array Value} {below : List Frame} {meth : Method} {c : Code} (G : k_G) (a : Nat → Nat) (tv : Value) (n : Nat) {w0 : va_W} {t' : k_St} (hA : k_Amb p s m args meth c cX12_goesOn 3 "TaleSharesModel" G (va_A w0 s.heap.size)) (hr : meth.sig.returnType = none) : ∀ (k : Nat) (x2 : Int32) (t : k_St), f_M_goesOn_R_85 n k x2 t = some t' → k_Go p l e (k_rm 2) s m args below meth c (k_QV G w0 (k_WR G.2.1 a tv t') args s below) 3 G (va_A w0 s.heap.size) (k_WR G.2.1 a tv t) 85 [(0, .ref (a 0)), (2, .int x2)] [] := by
  intro k
  induction k with
  | zero => intro x2 t hf; cases hf
  | succ k ih =>
  intro x2 t hf
  rw [f_M_goesOn_R_85] at hf
  obtain ⟨r_1, hr_1, hf⟩ := k_cp_e hf
  refine k_aload_n (i := 0) hA dX12_goesOn_85 rfl 0 rfl ?_
  refine k_aload_n (i := 0) hA dX12_goesOn_86 rfl 0 rfl ?_
  refine gt_MR_0_8 hA wd_1256 dX12_goesOn_87 ?_
  refine k_callVi (As := [.int (t.1 0 8)]) (rest := []) hA (m_M_byteAt_R l G a tv t (t.1 0 8) hr_1) cd_X12_byteAt wd_1475 (hc_MR_0 G.2.1 a tv t) rfl rfl (Nat.le_of_ble_eq_true rfl) rfl rfl (Nat.le_of_ble_eq_true rfl) dX12_goesOn_90 ?_
  refine k_callSi (As := [.int r_1]) (rest := []) hA (m_M_isLetter l G (k_WR G.2.1 a tv t) r_1 rfl) cd_X12_isLetter wd_1479 (Nat.le_of_ble_eq_true rfl) rfl rfl (Nat.le_of_ble_eq_true rfl) dX12_goesOn_93 ?_
  refine k_if_eq (tgt := 148) hA dX12_goesOn_96 rfl (fun hc => ?_) (fun hc => ?_)
  · have hf := k_ift hc hf
    refine k_iload_n (i := 2) hA dX12_goesOn_148 rfl 1 rfl ?_
    refine k_bipush hA dX12_goesOn_149 kc_b_8 ?_
    refine k_icmp_gt (tgt := 282) hA dX12_goesOn_151 rfl (fun hc => ?_) (fun hc => ?_)
    · have hf := k_ift hc hf
      obtain rfl := k_r1 hf
      exact k_vret hA hr dX12_goesOn_282
    have hf := k_iff hc hf
    obtain ⟨t_2, et_2, hf⟩ := k_lt_e hf
    obtain rfl := k_r1 hf
    refine k_aload_n (i := 0) hA dX12_goesOn_154 rfl 0 rfl ?_
    refine k_iconst hA dX12_goesOn_155 kc_i_2 ?_
    refine pt_MR_0_9 hA wd_1257 et_2 dX12_goesOn_156 ?_
    refine k_goto (tgt := 282) hA dX12_goesOn_159 rfl ?_
    exact k_vret hA hr dX12_goesOn_282
  have hf := k_iff hc hf
  refine k_iload_n (i := 2) hA dX12_goesOn_99 rfl 1 rfl ?_
  refine k_bipush hA dX12_goesOn_100 kc_b_8 ?_
  refine k_icmp_ge (tgt := 132) hA dX12_goesOn_102 rfl (fun hc => ?_) (fun hc => ?_)
  · have hf := k_ift hc hf
    obtain ⟨x2_3, ex2_3, hf⟩ := k_lt_e hf
    obtain ⟨t_4, et_4, hf⟩ := k_lt_e hf
    refine k_iinc (j := 1) (v := x2_3) (lv' := [(2, .int x2_3), (0, .ref (a 0))]) hA dX12_goesOn_132 rfl (k_inc ex2_3 kc_i_1) (Nat.le_of_ble_eq_true rfl) rfl ?_
    refine k_aload_n (i := 0) hA dX12_goesOn_135 rfl 1 rfl ?_
    refine k_dup hA dX12_goesOn_136 rfl ?_
    refine gt_MR_0_8 hA wd_1256 dX12_goesOn_137 ?_
    refine k_iconst hA dX12_goesOn_140 kc_i_1 ?_
    refine k_iadd hA dX12_goesOn_141 ?_
    refine pt_MR_0_8 hA wd_1256 et_4 dX12_goesOn_142 ?_
    refine k_goto (tgt := 85) hA dX12_goesOn_145 rfl ?_
    refine k_pick (lv' := [(0, .ref (a 0)), (2, .int x2_3)]) [1, 0] rfl ?_
    exact ih x2_3 t_4 hf
  have hf := k_iff hc hf
  obtain ⟨r_5, hr_5, hf⟩ := k_cp_e hf
  obtain ⟨t_6, et_6, hf⟩ := k_lt_e hf
  obtain ⟨x2_7, ex2_7, hf⟩ := k_lt_e hf
  obtain ⟨t_8, et_8, hf⟩ := k_lt_e hf
  refine k_aload_n (i := 0) hA dX12_goesOn_105 rfl 0 rfl ?_
  refine k_ldc2 hA wd_1482 dX12_goesOn_106 ?_
  refine k_aload_n (i := 0) hA dX12_goesOn_109 rfl 0 rfl ?_
  refine gt_MR_0_14 hA wd_1262 dX12_goesOn_110 ?_
  refine k_lmul hA dX12_goesOn_113 ?_
  refine k_aload_n (i := 0) hA dX12_goesOn_114 rfl 0 rfl ?_
  refine k_aload_n (i := 0) hA dX12_goesOn_115 rfl 0 rfl ?_
  refine gt_MR_0_8 hA wd_1256 dX12_goesOn_116 ?_
  refine k_callVi (As := [.int (t.1 0 8)]) (rest := [.long ((32 : Int64) * (t.2 0 14)), .ref (a 0)]) hA (m_M_byteAt_R l G a tv t (t.1 0 8) hr_5) cd_X12_byteAt wd_1475 (hc_MR_0 G.2.1 a tv t) rfl rfl (Nat.le_of_ble_eq_true rfl) rfl rfl (Nat.le_of_ble_eq_true rfl) dX12_goesOn_119 ?_
  refine k_bipush hA dX12_goesOn_122 kc_b_97 ?_
  refine k_isub hA dX12_goesOn_124 ?_
  refine k_iconst hA dX12_goesOn_125 kc_i_1 ?_
  refine k_iadd hA dX12_goesOn_126 ?_
  refine k_i2l hA dX12_goesOn_127 ?_
  refine k_ladd hA dX12_goesOn_128 ?_
  refine pt_MR_0_14 hA wd_1262 et_6 dX12_goesOn_129 ?_
  refine k_iinc (j := 1) (v := x2_7) (lv' := [(2, .int x2_7), (0, .ref (a 0))]) hA dX12_goesOn_132 rfl (k_inc ex2_7 kc_i_1) (Nat.le_of_ble_eq_true rfl) rfl ?_
  refine k_aload_n (i := 0) hA dX12_goesOn_135 rfl 1 rfl ?_
  refine k_dup hA dX12_goesOn_136 rfl ?_
  refine gt_MR_0_8 hA wd_1256 dX12_goesOn_137 ?_
  refine k_iconst hA dX12_goesOn_140 kc_i_1 ?_
  refine k_iadd hA dX12_goesOn_141 ?_
  refine pt_MR_0_8 hA wd_1256 et_8 dX12_goesOn_142 ?_
  refine k_goto (tgt := 85) hA dX12_goesOn_145 rfl ?_
  refine k_pick (lv' := [(0, .ref (a 0)), (2, .int x2_7)]) [1, 0] rfl ?_
  exact ih x2_7 t_8 hf

theorem m_M_goesOn_R_10 {p : Program} (l : Launch) {e : Env} {s : State} {m : MethodId} {args : Array Value} {below : List Frame} {meth : Method} {c : Code} (G : k_G) (a : Nat → Nat) (tv : Value) (n : Nat) {w0 : va_W} {t' : k_St} (hA : k_Amb p s m args meth c cX12_goesOn 3 "TaleSharesModel" G (va_A w0 s.heap.size)) (hr : meth.sig.returnType = none) : ∀ (k : Nat) (t : k_St), f_M_goesOn_R_10 n k t = some t' → k_Go p l e (k_rm 2) s m args below meth c (k_QV G w0 (k_WR G.2.1 a tv t') args s below) 3 G (va_A w0 s.heap.size) (k_WR G.2.1 a tv t) 10 [(0, .ref (a 0))] [] := by
  intro k
  induction k with
  | zero => intro t hf; cases hf
  | succ k ih =>
  intro t hf
  rw [f_M_goesOn_R_10] at hf
  obtain ⟨r_1, hr_1, hf⟩ := k_cp_e hf
  refine k_aload_n (i := 0) hA dX12_goesOn_10 rfl 0 rfl ?_
  refine k_aload_n (i := 0) hA dX12_goesOn_11 rfl 0 rfl ?_
  refine gt_MR_0_8 hA wd_1256 dX12_goesOn_12 ?_
  refine k_callVi (As := [.int (t.1 0 8)]) (rest := []) hA (m_M_byteAt_R l G a tv t (t.1 0 8) hr_1) cd_X12_byteAt wd_1475 (hc_MR_0 G.2.1 a tv t) rfl rfl (Nat.le_of_ble_eq_true rfl) rfl rfl (Nat.le_of_ble_eq_true rfl) dX12_goesOn_15 ?_
  refine k_bipush hA dX12_goesOn_18 kc_b_32 ?_
  refine k_icmp_ne (tgt := 36) hA dX12_goesOn_20 rfl (fun hc => ?_) (fun hc => ?_)
  · have hf := k_iff hc hf
    obtain ⟨t_2, et_2, hf⟩ := k_lt_e hf
    obtain ⟨t_3, et_3, hf⟩ := k_lt_e hf
    obtain ⟨r_4, hr_4, hf⟩ := k_cp_e hf
    refine k_aload_n (i := 0) hA dX12_goesOn_36 rfl 0 rfl ?_
    refine k_aload_n (i := 0) hA dX12_goesOn_37 rfl 0 rfl ?_
    refine gt_MR_0_8 hA wd_1256 dX12_goesOn_38 ?_
    refine pt_MR_0_10 hA wd_1258 et_2 dX12_goesOn_41 ?_
    refine k_aload_n (i := 0) hA dX12_goesOn_44 rfl 0 rfl ?_
    refine k_iconst hA dX12_goesOn_45 kc_i_0 ?_
    refine pt_MR_0_9 hA wd_1257 et_3 dX12_goesOn_46 ?_
    refine k_aload_n (i := 0) hA dX12_goesOn_49 rfl 0 rfl ?_
    refine k_aload_n (i := 0) hA dX12_goesOn_50 rfl 0 rfl ?_
    refine gt_MR_0_8 hA wd_1256 dX12_goesOn_51 ?_
    refine k_callVi (As := [.int (t_3.1 0 8)]) (rest := []) hA (m_M_byteAt_R l G a tv t_3 (t_3.1 0 8) hr_4) cd_X12_byteAt wd_1475 (hc_MR_0 G.2.1 a tv t_3) rfl rfl (Nat.le_of_ble_eq_true rfl) rfl rfl (Nat.le_of_ble_eq_true rfl) dX12_goesOn_54 ?_
    refine k_istore_n (i := 1) (lv' := [(1, .int r_4), (0, .ref (a 0))]) hA dX12_goesOn_57 rfl rfl (Nat.le_of_ble_eq_true rfl) rfl ?_
    refine k_iconst hA dX12_goesOn_58 kc_i_0 ?_
    refine k_istore_n (i := 2) (lv' := [(2, .int (0 : Int32)), (1, .int r_4), (0, .ref (a 0))]) hA dX12_goesOn_59 rfl rfl (Nat.le_of_ble_eq_true rfl) rfl ?_
    refine k_iload_n (i := 1) hA dX12_goesOn_60 rfl 1 rfl ?_
    refine k_iconst hA dX12_goesOn_61 kc_i_m1 ?_
    refine k_icmp_ne (tgt := 73) hA dX12_goesOn_62 rfl (fun hc => ?_) (fun hc => ?_)
    · have hf := k_iff hc hf
      refine k_iload_n (i := 1) hA dX12_goesOn_73 rfl 1 rfl ?_
      refine k_callSi (As := [.int r_4]) (rest := []) hA (m_M_isLetter l G (k_WR G.2.1 a tv t_3) r_4 rfl) cd_X12_isLetter wd_1479 (Nat.le_of_ble_eq_true rfl) rfl rfl (Nat.le_of_ble_eq_true rfl) dX12_goesOn_74 ?_
      refine k_if_eq (tgt := 162) hA dX12_goesOn_77 rfl (fun hc => ?_) (fun hc => ?_)
      · have hf := k_ift hc hf
        refine k_iload_n (i := 1) hA dX12_goesOn_162 rfl 1 rfl ?_
        refine k_callSi (As := [.int r_4]) (rest := []) hA (m_M_isDigit l G (k_WR G.2.1 a tv t_3) r_4 rfl) cd_X12_isDigit wd_1483 (Nat.le_of_ble_eq_true rfl) rfl rfl (Nat.le_of_ble_eq_true rfl) dX12_goesOn_163 ?_
        refine k_if_eq (tgt := 245) hA dX12_goesOn_166 rfl (fun hc => ?_) (fun hc => ?_)
        · have hf := k_ift hc hf
          refine k_iload_n (i := 1) hA dX12_goesOn_245 rfl 1 rfl ?_
          refine k_bipush hA dX12_goesOn_246 kc_b_59 ?_
          refine k_icmp_eq (tgt := 257) hA dX12_goesOn_248 rfl (fun hc => ?_) (fun hc => ?_)
          · have hf := k_ift hc hf
            refine k_pick (lv' := [(0, .ref (a 0)), (1, .int r_4)]) [2, 1] rfl ?_
            exact m_M_goesOn_R_257 l G a tv n hA hr r_4 t_3 hf
          have hf := k_iff hc hf
          refine k_iload_n (i := 1) hA dX12_goesOn_251 rfl 1 rfl ?_
          refine k_bipush hA dX12_goesOn_252 kc_b_44 ?_
          refine k_icmp_ne (tgt := 282) hA dX12_goesOn_254 rfl (fun hc => ?_) (fun hc => ?_)
          · have hf := k_iff hc hf
            obtain rfl := k_r1 hf
            exact k_vret hA hr dX12_goesOn_282
          have hf := k_ift hc hf
          refine k_pick (lv' := [(0, .ref (a 0)), (1, .int r_4)]) [2, 1] rfl ?_
          exact m_M_goesOn_R_257 l G a tv n hA hr r_4 t_3 hf
        have hf := k_iff hc hf
        obtain ⟨t_5, et_5, hf⟩ := k_lt_e hf
        refine k_aload_n (i := 0) hA dX12_goesOn_169 rfl 2 rfl ?_
        refine k_iconst hA dX12_goesOn_170 kc_i_0 ?_
        refine pt_MR_0_11 hA wd_1259 et_5 dX12_goesOn_171 ?_
        refine k_pick (lv' := [(0, .ref (a 0)), (2, .int (0 : Int32))]) [2, 0] rfl ?_
        exact m_M_goesOn_R_174 l G a tv n hA hr n (0 : Int32) t_5 hf
      have hf := k_iff hc hf
      obtain ⟨t_6, et_6, hf⟩ := k_lt_e hf
      refine k_aload_n (i := 0) hA dX12_goesOn_80 rfl 2 rfl ?_
      refine k_lconst hA dX12_goesOn_81 kc_l_0 ?_
      refine pt_MR_0_14 hA wd_1262 et_6 dX12_goesOn_82 ?_
      refine k_pick (lv' := [(0, .ref (a 0)), (2, .int (0 : Int32))]) [2, 0] rfl ?_
      exact m_M_goesOn_R_85 l G a tv n hA hr n (0 : Int32) t_6 hf
    have hf := k_ift hc hf
    obtain ⟨t_7, et_7, hf⟩ := k_lt_e hf
    obtain rfl := k_r1 hf
    refine k_aload_n (i := 0) hA dX12_goesOn_65 rfl 2 rfl ?_
    refine k_iconst hA dX12_goesOn_66 kc_i_1 ?_
    refine pt_MR_0_9 hA wd_1257 et_7 dX12_goesOn_67 ?_
    refine k_goto (tgt := 282) hA dX12_goesOn_70 rfl ?_
    exact k_vret hA hr dX12_goesOn_282
  have hf := k_ift hc hf
  obtain ⟨t_8, et_8, hf⟩ := k_lt_e hf
  refine k_aload_n (i := 0) hA dX12_goesOn_23 rfl 0 rfl ?_
  refine k_dup hA dX12_goesOn_24 rfl ?_
  refine gt_MR_0_8 hA wd_1256 dX12_goesOn_25 ?_
  refine k_iconst hA dX12_goesOn_28 kc_i_1 ?_
  refine k_iadd hA dX12_goesOn_29 ?_
  refine pt_MR_0_8 hA wd_1256 et_8 dX12_goesOn_30 ?_
  refine k_goto (tgt := 10) hA dX12_goesOn_33 rfl ?_
  exact ih t_8 hf

theorem m_M_goesOn_R (l : Launch) (G : k_G) (a : Nat → Nat) (tv : Value) (n : Nat) (t : k_St) {t' : k_St} (hf : f_M_goesOn_R n t = some t') : k_CV l G yX12_goesOn cX12_goesOn 3 none 2 (k_WR G.2.1 a tv t) [.ref (a 0)] (k_WR G.2.1 a tv t') := by
  refine k_startV (lv := [(0, .ref (a 0))]) (by decide +kernel) (Nat.le_of_ble_eq_true rfl) rfl ?_
  intro p e s m args below meth c hA hr
  have hA : k_Amb p s m args meth c cX12_goesOn 3 "TaleSharesModel" G _ := hA
  unfold f_M_goesOn_R at hf
  refine k_aload_n (i := 0) hA dX12_goesOn_0 rfl 0 rfl ?_
  refine gt_MR_0_9 hA wd_1257 dX12_goesOn_1 ?_
  refine k_bipush hA dX12_goesOn_4 kc_b_6 ?_
  refine k_icmp_ne (tgt := 10) hA dX12_goesOn_6 rfl (fun hc => ?_) (fun hc => ?_)
  · have hf := k_iff hc hf
    exact m_M_goesOn_R_10 l G a tv n hA hr n t hf
  have hf := k_ift hc hf
  obtain rfl := k_r1 hf
  exact k_vret hA hr dX12_goesOn_9

def f_M_lineBegins_R_10 (n : Nat) (t : k_St) : Option k_St := (if (t.1 18 0) = (-1 : Int32) then k_lt (f_M_flaw_R (6 : Int32) t) (fun t_2 => k_cv (f_M_goesOn_R n t_2) (fun t_3 => some t_3)) else k_cv (f_M_goesOn_R n t) (fun t_1 => some t_1))
def f_M_lineBegins_R (n : Nat) (x1 : Int32) (x2 : Int32) (t : k_St) : Option k_St := (if x1 = x2 then k_lt (f_M_flaw_R (5 : Int32) t) (fun t_1 => f_M_lineBegins_R_10 n t_1) else f_M_lineBegins_R_10 n t)
theorem m_M_lineBegins_R_10 {p : Program} (l : Launch) {e : Env} {s : State} {m : MethodId} {args : Array Value} {below : List Frame} {meth : Method} {c : Code} (G : k_G) (a : Nat → Nat) (tv : Value) (n : Nat) {w0 : va_W} {t' : k_St} (hA : k_Amb p s m args meth c cX12_lineBegins 3 "TaleSharesModel" G (va_A w0 s.heap.size)) (hr : meth.sig.returnType = none) : ∀ (t : k_St), f_M_lineBegins_R_10 n t = some t' → k_Go p l e (k_rm 3) s m args below meth c (k_QV G w0 (k_WR G.2.1 a tv t') args s below) 3 G (va_A w0 s.heap.size) (k_WR G.2.1 a tv t) 10 [(0, .ref (a 0))] [] := by
  intro t hf
  unfold f_M_lineBegins_R_10 at hf
  refine k_aload_n (i := 0) hA dX12_lineBegins_10 rfl 0 rfl ?_
  refine gt_MR_0_4 hA wd_1252 dX12_lineBegins_11 ?_
  refine gt_MR_18_0N hA rfl nf_175 dX12_lineBegins_14 ?_
  refine k_iconst hA dX12_lineBegins_17 kc_i_m1 ?_
  refine k_icmp_ne (tgt := 27) hA dX12_lineBegins_18 rfl (fun hc => ?_) (fun hc => ?_)
  · have hf := k_iff hc hf
    obtain ⟨t_1, ht_1, hf⟩ := k_cv_e hf
    obtain rfl := k_r1 hf
    refine k_aload_n (i := 0) hA dX12_lineBegins_27 rfl 0 rfl ?_
    refine k_callVv (As := []) (rest := []) hA (m_M_goesOn_R l G a tv n t ht_1) cd_X12_goesOn wd_1471 (hc_MR_0 G.2.1 a tv t) rfl rfl (Nat.le_of_ble_eq_true rfl) rfl rfl (Nat.le_of_ble_eq_true rfl) dX12_lineBegins_28 ?_
    exact k_vret hA hr dX12_lineBegins_31
  have hf := k_ift hc hf
  obtain ⟨t_2, ht_2, hf⟩ := k_lt_e hf
  obtain ⟨t_3, ht_3, hf⟩ := k_cv_e hf
  obtain rfl := k_r1 hf
  refine k_aload_n (i := 0) hA dX12_lineBegins_21 rfl 0 rfl ?_
  refine k_bipush hA dX12_lineBegins_22 kc_b_6 ?_
  refine k_callVv (As := [.int (6 : Int32)]) (rest := []) hA (m_M_flaw_R l G a tv (6 : Int32) t ht_2.symm) cd_X12_flaw wd_1508 (hc_MR_0 G.2.1 a tv t) rfl rfl (Nat.le_of_ble_eq_true rfl) rfl rfl (Nat.le_of_ble_eq_true rfl) dX12_lineBegins_24 ?_
  refine k_aload_n (i := 0) hA dX12_lineBegins_27 rfl 0 rfl ?_
  refine k_callVv (As := []) (rest := []) hA (m_M_goesOn_R l G a tv n t_2 ht_3) cd_X12_goesOn wd_1471 (hc_MR_0 G.2.1 a tv t_2) rfl rfl (Nat.le_of_ble_eq_true rfl) rfl rfl (Nat.le_of_ble_eq_true rfl) dX12_lineBegins_28 ?_
  exact k_vret hA hr dX12_lineBegins_31

theorem m_M_lineBegins_R (l : Launch) (G : k_G) (a : Nat → Nat) (tv : Value) (n : Nat) (x1 : Int32) (x2 : Int32) (t : k_St) {t' : k_St} (hf : f_M_lineBegins_R n x1 x2 t = some t') : k_CV l G yX12_lineBegins cX12_lineBegins 3 none 3 (k_WR G.2.1 a tv t) [.ref (a 0), .int x1, .int x2] (k_WR G.2.1 a tv t') := by
  refine k_startV (lv := [(0, .ref (a 0)), (1, .int x1), (2, .int x2)]) (by decide +kernel) (Nat.le_of_ble_eq_true rfl) rfl ?_
  intro p e s m args below meth c hA hr
  have hA : k_Amb p s m args meth c cX12_lineBegins 3 "TaleSharesModel" G _ := hA
  unfold f_M_lineBegins_R at hf
  refine k_iload_n (i := 1) hA dX12_lineBegins_0 rfl 1 rfl ?_
  refine k_iload_n (i := 2) hA dX12_lineBegins_1 rfl 2 rfl ?_
  refine k_icmp_ne (tgt := 10) hA dX12_lineBegins_2 rfl (fun hc => ?_) (fun hc => ?_)
  · have hf := k_iff hc hf
    refine k_pick (lv' := [(0, .ref (a 0))]) [0] rfl ?_
    exact m_M_lineBegins_R_10 l G a tv n hA hr t hf
  have hf := k_ift hc hf
  obtain ⟨t_1, ht_1, hf⟩ := k_lt_e hf
  refine k_aload_n (i := 0) hA dX12_lineBegins_5 rfl 0 rfl ?_
  refine k_iconst hA dX12_lineBegins_6 kc_i_5 ?_
  refine k_callVv (As := [.int (5 : Int32)]) (rest := []) hA (m_M_flaw_R l G a tv (5 : Int32) t ht_1.symm) cd_X12_flaw wd_1508 (hc_MR_0 G.2.1 a tv t) rfl rfl (Nat.le_of_ble_eq_true rfl) rfl rfl (Nat.le_of_ble_eq_true rfl) dX12_lineBegins_7 ?_
  refine k_pick (lv' := [(0, .ref (a 0))]) [0] rfl ?_
  exact m_M_lineBegins_R_10 l G a tv n hA hr t_1 hf

def f_M_isName_R (n : Nat) (t : k_St) : Option Bool := (if (t.1 0 9) = (2 : Int32) then k_cp (f_M_isWord_R n 0 t) (fun r_1 => (if (k_b r_1) = 0 then k_cp (f_M_isWord_R n 1 t) (fun r_2 => (if (k_b r_2) = 0 then k_cp (f_M_isWord_R n 2 t) (fun r_3 => (if (k_b r_3) = 0 then k_cp (f_M_isWord_R n 3 t) (fun r_4 => (if (k_b r_4) = 0 then k_cp (f_M_isWord_R n 4 t) (fun r_5 => (if (k_b r_5) = 0 then k_cp (f_M_isWord_R n 5 t) (fun r_6 => (if (k_b r_6) = 0 then k_cp (f_M_isWord_R n 6 t) (fun r_7 => (if (k_b r_7) = 0 then some true else some false)) else some false)) else some false)) else some false)) else some false)) else some false)) else some false)) else some false)
theorem m_M_isName_R (l : Launch) (G : k_G) (a : Nat → Nat) (tv : Value) (n : Nat) (t : k_St) {r : Bool} (hf : f_M_isName_R n t = some r) : k_CI l G yX12_isName cX12_isName 1 (some .boolean) 7 (k_WR G.2.1 a tv t) [.ref (a 0)] (k_b r) (k_WR G.2.1 a tv t) := by
  refine k_startI (lv := [(0, .ref (a 0))]) (by decide +kernel) (Nat.le_of_ble_eq_true rfl) rfl ?_
  intro p e s m args below meth c hA hr
  have hA : k_Amb p s m args meth c cX12_isName 1 "TaleSharesModel" G _ := hA
  unfold f_M_isName_R at hf
  refine k_aload_n (i := 0) hA dX12_isName_0 rfl 0 rfl ?_
  refine gt_MR_0_9 hA wd_1257 dX12_isName_1 ?_
  refine k_iconst hA dX12_isName_4 kc_i_2 ?_
  refine k_icmp_ne (tgt := 44) hA dX12_isName_5 rfl (fun hc => ?_) (fun hc => ?_)
  · have hf := k_iff hc hf
    obtain rfl := k_r1 hf
    refine k_iconst hA dX12_isName_44 kc_i_0 ?_
    exact k_iret hA hr (k_narB (k_b01 _)) dX12_isName_45
  have hf := k_ift hc hf
  obtain ⟨r_1, hr_1, hf⟩ := k_cp_e hf
  refine k_aload_n (i := 0) hA dX12_isName_8 rfl 0 rfl ?_
  refine k_ldcS hA sq_RX12_157 dX12_isName_9 ?_
  refine k_callVi (As := [.ref (G.2.2.1 0)]) (rest := []) hA (m_M_isWord_R l G a tv n 0 (by decide) t hr_1) cd_X12_isWord wd_1495 (hc_MR_0 G.2.1 a tv t) rfl rfl (Nat.le_of_ble_eq_true rfl) rfl rfl (Nat.le_of_ble_eq_true rfl) dX12_isName_11 ?_
  refine k_if_ne (tgt := 44) hA dX12_isName_14 rfl (fun hc => ?_) (fun hc => ?_)
  · have hf := k_iff hc hf
    obtain rfl := k_r1 hf
    refine k_iconst hA dX12_isName_44 kc_i_0 ?_
    exact k_iret hA hr (k_narB (k_b01 _)) dX12_isName_45
  have hf := k_ift hc hf
  obtain ⟨r_2, hr_2, hf⟩ := k_cp_e hf
  refine k_aload_n (i := 0) hA dX12_isName_17 rfl 0 rfl ?_
  refine k_ldcS hA sq_RX12_159 dX12_isName_18 ?_
  refine k_callVi (As := [.ref (G.2.2.1 1)]) (rest := []) hA (m_M_isWord_R l G a tv n 1 (by decide) t hr_2) cd_X12_isWord wd_1495 (hc_MR_0 G.2.1 a tv t) rfl rfl (Nat.le_of_ble_eq_true rfl) rfl rfl (Nat.le_of_ble_eq_true rfl) dX12_isName_20 ?_
  refine k_if_ne (tgt := 44) hA dX12_isName_23 rfl (fun hc => ?_) (fun hc => ?_)
  · have hf := k_iff hc hf
    obtain rfl := k_r1 hf
    refine k_iconst hA dX12_isName_44 kc_i_0 ?_
    exact k_iret hA hr (k_narB (k_b01 _)) dX12_isName_45
  have hf := k_ift hc hf
  obtain ⟨r_3, hr_3, hf⟩ := k_cp_e hf
  refine k_aload_n (i := 0) hA dX12_isName_26 rfl 0 rfl ?_
  refine k_ldcS hA sq_RX12_161 dX12_isName_27 ?_
  refine k_callVi (As := [.ref (G.2.2.1 2)]) (rest := []) hA (m_M_isWord_R l G a tv n 2 (by decide) t hr_3) cd_X12_isWord wd_1495 (hc_MR_0 G.2.1 a tv t) rfl rfl (Nat.le_of_ble_eq_true rfl) rfl rfl (Nat.le_of_ble_eq_true rfl) dX12_isName_29 ?_
  refine k_if_ne (tgt := 44) hA dX12_isName_32 rfl (fun hc => ?_) (fun hc => ?_)
  · have hf := k_iff hc hf
    obtain rfl := k_r1 hf
    refine k_iconst hA dX12_isName_44 kc_i_0 ?_
    exact k_iret hA hr (k_narB (k_b01 _)) dX12_isName_45
  have hf := k_ift hc hf
  obtain ⟨r_4, hr_4, hf⟩ := k_cp_e hf
  refine k_aload_n (i := 0) hA dX12_isName_35 rfl 0 rfl ?_
  refine k_ldcS hA sq_RX12_163 dX12_isName_36 ?_
  refine k_callVi (As := [.ref (G.2.2.1 3)]) (rest := []) hA (m_M_isWord_R l G a tv n 3 (by decide) t hr_4) cd_X12_isWord wd_1495 (hc_MR_0 G.2.1 a tv t) rfl rfl (Nat.le_of_ble_eq_true rfl) rfl rfl (Nat.le_of_ble_eq_true rfl) dX12_isName_38 ?_
  refine k_if_eq (tgt := 46) hA dX12_isName_41 rfl (fun hc => ?_) (fun hc => ?_)
  · have hf := k_ift hc hf
    obtain ⟨r_5, hr_5, hf⟩ := k_cp_e hf
    refine k_aload_n (i := 0) hA dX12_isName_46 rfl 0 rfl ?_
    refine k_ldcS hA sq_RX12_165 dX12_isName_47 ?_
    refine k_callVi (As := [.ref (G.2.2.1 4)]) (rest := []) hA (m_M_isWord_R l G a tv n 4 (by decide) t hr_5) cd_X12_isWord wd_1495 (hc_MR_0 G.2.1 a tv t) rfl rfl (Nat.le_of_ble_eq_true rfl) rfl rfl (Nat.le_of_ble_eq_true rfl) dX12_isName_49 ?_
    refine k_if_ne (tgt := 77) hA dX12_isName_52 rfl (fun hc => ?_) (fun hc => ?_)
    · have hf := k_iff hc hf
      obtain rfl := k_r1 hf
      refine k_iconst hA dX12_isName_77 kc_i_0 ?_
      exact k_iret hA hr (k_narB (k_b01 _)) dX12_isName_78
    have hf := k_ift hc hf
    obtain ⟨r_6, hr_6, hf⟩ := k_cp_e hf
    refine k_aload_n (i := 0) hA dX12_isName_55 rfl 0 rfl ?_
    refine k_ldcS hA sq_RX12_167 dX12_isName_56 ?_
    refine k_callVi (As := [.ref (G.2.2.1 5)]) (rest := []) hA (m_M_isWord_R l G a tv n 5 (by decide) t hr_6) cd_X12_isWord wd_1495 (hc_MR_0 G.2.1 a tv t) rfl rfl (Nat.le_of_ble_eq_true rfl) rfl rfl (Nat.le_of_ble_eq_true rfl) dX12_isName_58 ?_
    refine k_if_ne (tgt := 77) hA dX12_isName_61 rfl (fun hc => ?_) (fun hc => ?_)
    · have hf := k_iff hc hf
      obtain rfl := k_r1 hf
      refine k_iconst hA dX12_isName_77 kc_i_0 ?_
      exact k_iret hA hr (k_narB (k_b01 _)) dX12_isName_78
    have hf := k_ift hc hf
    obtain ⟨r_7, hr_7, hf⟩ := k_cp_e hf
    refine k_aload_n (i := 0) hA dX12_isName_64 rfl 0 rfl ?_
    refine k_ldcS hA sq_RX12_169 dX12_isName_65 ?_
    refine k_callVi (As := [.ref (G.2.2.1 6)]) (rest := []) hA (m_M_isWord_R l G a tv n 6 (by decide) t hr_7) cd_X12_isWord wd_1495 (hc_MR_0 G.2.1 a tv t) rfl rfl (Nat.le_of_ble_eq_true rfl) rfl rfl (Nat.le_of_ble_eq_true rfl) dX12_isName_67 ?_
    refine k_if_ne (tgt := 77) hA dX12_isName_70 rfl (fun hc => ?_) (fun hc => ?_)
    · have hf := k_iff hc hf
      obtain rfl := k_r1 hf
      refine k_iconst hA dX12_isName_77 kc_i_0 ?_
      exact k_iret hA hr (k_narB (k_b01 _)) dX12_isName_78
    have hf := k_ift hc hf
    obtain rfl := k_r1 hf
    refine k_iconst hA dX12_isName_73 kc_i_1 ?_
    refine k_goto (tgt := 78) hA dX12_isName_74 rfl ?_
    exact k_iret hA hr (k_narB (k_b01 _)) dX12_isName_78
  have hf := k_iff hc hf
  obtain rfl := k_r1 hf
  refine k_iconst hA dX12_isName_44 kc_i_0 ?_
  exact k_iret hA hr (k_narB (k_b01 _)) dX12_isName_45

def f_Mt_find_R_2 (n : Nat) (t : k_St) : Nat → Int64 → Int32 → Option Int32
  | 0, _, _ => none
  | k + 1, x1, x3 => (if (t.1 18 8) ≤ x3 then some (-1 : Int32) else k_gi x3 13 ((if (lg_cmp (t.2 26 x3.toNatClampNeg) x1) = 0 then some x3 else k_lt (x3 + (1 : Int32)) (fun x3_2 => f_Mt_find_R_2 n t k x1 x3_2))))
def f_Mt_find_R (n : Nat) (t : k_St) (x1 : Int64) : Option Int32 := f_Mt_find_R_2 n t n x1 (0 : Int32)
theorem m_Mt_find_R_2 {p : Program} (l : Launch) {e : Env} {s : State} {m : MethodId} {args : Array Value} {below : List Frame} {meth : Method} {c : Code} (G : k_G) (a : Nat → Nat) (tv : Value) (n : Nat) (t : k_St) {w0 : va_W} {r : Int32} (hA : k_Amb p s m args meth c cX11_find 4 "TaleSharesModel$Terrace" G (va_A w0 s.heap.size)) (hr : meth.sig.returnType = (some .int)) : ∀ (k : Nat) (x1 : Int64) (x3 : Int32), f_Mt_find_R_2 n t k x1 x3 = some r → k_Go p l e (k_rm 1) s m args below meth c (k_QI G w0 r (k_WR G.2.1 a tv t) args s below) 4 G (va_A w0 s.heap.size) (k_WR G.2.1 a tv t) 2 [(0, .ref (a 18)), (1, .long x1), (3, .int x3)] [] := by
  intro k
  induction k with
  | zero => intro x1 x3 hf; cases hf
  | succ k ih =>
  intro x1 x3 hf
  rw [f_Mt_find_R_2] at hf
  refine k_iload_n (i := 3) hA dX11_find_2 rfl 2 rfl ?_
  refine k_aload_n (i := 0) hA dX11_find_3 rfl 0 rfl ?_
  refine gt_MR_18_8 hA wd_1410 dX11_find_4 ?_
  refine k_icmp_ge (tgt := 29) hA dX11_find_7 rfl (fun hc => ?_) (fun hc => ?_)
  · have hf := k_ift hc hf
    obtain rfl := k_r1 hf
    refine k_iconst hA dX11_find_29 kc_i_m1 ?_
    exact k_iret hA hr rfl dX11_find_30
  have hf := k_iff hc hf
  obtain ⟨hi_1, hf⟩ := k_gi_e hf
  refine k_aload_n (i := 0) hA dX11_find_10 rfl 0 rfl ?_
  refine gt_MR_18_16 hA wd_1426 dX11_find_11 ?_
  refine k_iload_n (i := 3) hA dX11_find_14 rfl 2 rfl ?_
  refine ld_MR_26 hA hi_1 dX11_find_15 ?_
  refine k_lload_n (i := 1) hA dX11_find_16 rfl 1 rfl ?_
  refine k_lcmp hA dX11_find_17 ?_
  refine k_if_ne (tgt := 23) hA dX11_find_18 rfl (fun hc => ?_) (fun hc => ?_)
  · have hf := k_iff hc hf
    obtain ⟨x3_2, ex3_2, hf⟩ := k_lt_e hf
    refine k_iinc (j := 2) (v := x3_2) (lv' := [(3, .int x3_2), (0, .ref (a 18)), (1, .long x1)]) hA dX11_find_23 rfl (k_inc ex3_2 kc_i_1) (Nat.le_of_ble_eq_true rfl) rfl ?_
    refine k_goto (tgt := 2) hA dX11_find_26 rfl ?_
    refine k_pick (lv' := [(0, .ref (a 18)), (1, .long x1), (3, .int x3_2)]) [1, 2, 0] rfl ?_
    exact ih x1 x3_2 hf
  have hf := k_ift hc hf
  obtain rfl := k_r1 hf
  refine k_iload_n (i := 3) hA dX11_find_21 rfl 2 rfl ?_
  exact k_iret hA hr rfl dX11_find_22

theorem m_Mt_find_R (l : Launch) (G : k_G) (a : Nat → Nat) (tv : Value) (n : Nat) (t : k_St) (x1 : Int64) {r : Int32} (hf : f_Mt_find_R n t x1 = some r) : k_CI l G yX11_find cX11_find 4 (some .int) 1 (k_WR G.2.1 a tv t) [.ref (a 18), .long x1] r (k_WR G.2.1 a tv t) := by
  refine k_startI (lv := [(0, .ref (a 18)), (1, .long x1)]) (by decide +kernel) (Nat.le_of_ble_eq_true rfl) rfl ?_
  intro p e s m args below meth c hA hr
  have hA : k_Amb p s m args meth c cX11_find 4 "TaleSharesModel$Terrace" G _ := hA
  unfold f_Mt_find_R at hf
  refine k_iconst hA dX11_find_0 kc_i_0 ?_
  refine k_istore_n (i := 3) (lv' := [(3, .int (0 : Int32)), (0, .ref (a 18)), (1, .long x1)]) hA dX11_find_1 rfl rfl (Nat.le_of_ble_eq_true rfl) rfl ?_
  refine k_pick (lv' := [(0, .ref (a 18)), (1, .long x1), (3, .int (0 : Int32))]) [1, 2, 0] rfl ?_
  exact m_Mt_find_R_2 l G a tv n t hA hr n x1 (0 : Int32) hf

def f_M_knownOne_R_47 (n : Nat) (x2 : Int32) (t : k_St) : Option (Int32 × k_St) := (if (t.1 0 9) = (6 : Int32) then some ((0 : Int32), t) else k_gi x2 13 (some ((t.1 28 x2.toNatClampNeg), t)))
def f_M_knownOne_R_42 (n : Nat) (x2 : Int32) (t : k_St) : Option (Int32 × k_St) := k_lt (f_M_flaw_R (2 : Int32) t) (fun t_1 => f_M_knownOne_R_47 n x2 t_1)
def f_M_knownOne_R_12 (n : Nat) (x1 : Int32) (t : k_St) : Option (Int32 × k_St) := k_cp (f_Mt_find_R n t (t.2 0 14)) (fun r_1 => (if r_1 = (-1 : Int32) then f_M_knownOne_R_42 n r_1 t else k_gi r_1 13 ((if (t.1 27 r_1.toNatClampNeg) = x1 then f_M_knownOne_R_47 n r_1 t else f_M_knownOne_R_42 n r_1 t))))
def f_M_knownOne_R (n : Nat) (x1 : Int32) (t : k_St) : Option (Int32 × k_St) := k_cp (f_M_isName_R n t) (fun r_1 => (if (k_b r_1) = 0 then k_lt (f_M_flaw_R (1 : Int32) t) (fun t_2 => f_M_knownOne_R_12 n x1 t_2) else f_M_knownOne_R_12 n x1 t))
theorem m_M_knownOne_R_47 {p : Program} (l : Launch) {e : Env} {s : State} {m : MethodId} {args : Array Value} {below : List Frame} {meth : Method} {c : Code} (G : k_G) (a : Nat → Nat) (tv : Value) (n : Nat) {w0 : va_W} {r : Int32} {t' : k_St} (hA : k_Amb p s m args meth c cX12_knownOne 3 "TaleSharesModel" G (va_A w0 s.heap.size)) (hr : meth.sig.returnType = (some .int)) : ∀ (x2 : Int32) (t : k_St), f_M_knownOne_R_47 n x2 t = some (r, t') → k_Go p l e (k_rm 8) s m args below meth c (k_QI G w0 r (k_WR G.2.1 a tv t') args s below) 3 G (va_A w0 s.heap.size) (k_WR G.2.1 a tv t) 47 [(0, .ref (a 0)), (2, .int x2)] [] := by
  intro x2 t hf
  unfold f_M_knownOne_R_47 at hf
  refine k_aload_n (i := 0) hA dX12_knownOne_47 rfl 0 rfl ?_
  refine gt_MR_0_9 hA wd_1257 dX12_knownOne_48 ?_
  refine k_bipush hA dX12_knownOne_51 kc_b_6 ?_
  refine k_icmp_ne (tgt := 60) hA dX12_knownOne_53 rfl (fun hc => ?_) (fun hc => ?_)
  · have hf := k_iff hc hf
    obtain ⟨hi_1, hf⟩ := k_gi_e hf
    obtain ⟨rfl, rfl⟩ := k_r2 hf
    refine k_aload_n (i := 0) hA dX12_knownOne_60 rfl 0 rfl ?_
    refine gt_MR_0_4 hA wd_1252 dX12_knownOne_61 ?_
    refine gt_MR_18_18N hA rfl nf_198 dX12_knownOne_64 ?_
    refine k_iload_n (i := 2) hA dX12_knownOne_67 rfl 1 rfl ?_
    refine ld_MR_28 hA hi_1 dX12_knownOne_68 ?_
    exact k_iret hA hr rfl dX12_knownOne_69
  have hf := k_ift hc hf
  obtain ⟨rfl, rfl⟩ := k_r2 hf
  refine k_iconst hA dX12_knownOne_56 kc_i_0 ?_
  refine k_goto (tgt := 69) hA dX12_knownOne_57 rfl ?_
  exact k_iret hA hr rfl dX12_knownOne_69

theorem m_M_knownOne_R_42 {p : Program} (l : Launch) {e : Env} {s : State} {m : MethodId} {args : Array Value} {below : List Frame} {meth : Method} {c : Code} (G : k_G) (a : Nat → Nat) (tv : Value) (n : Nat) {w0 : va_W} {r : Int32} {t' : k_St} (hA : k_Amb p s m args meth c cX12_knownOne 3 "TaleSharesModel" G (va_A w0 s.heap.size)) (hr : meth.sig.returnType = (some .int)) : ∀ (x2 : Int32) (t : k_St), f_M_knownOne_R_42 n x2 t = some (r, t') → k_Go p l e (k_rm 8) s m args below meth c (k_QI G w0 r (k_WR G.2.1 a tv t') args s below) 3 G (va_A w0 s.heap.size) (k_WR G.2.1 a tv t) 42 [(0, .ref (a 0)), (2, .int x2)] [] := by
  intro x2 t hf
  unfold f_M_knownOne_R_42 at hf
  obtain ⟨t_1, ht_1, hf⟩ := k_lt_e hf
  refine k_aload_n (i := 0) hA dX12_knownOne_42 rfl 0 rfl ?_
  refine k_iconst hA dX12_knownOne_43 kc_i_2 ?_
  refine k_callVv (As := [.int (2 : Int32)]) (rest := []) hA (m_M_flaw_R l G a tv (2 : Int32) t ht_1.symm) cd_X12_flaw wd_1508 (hc_MR_0 G.2.1 a tv t) rfl rfl (Nat.le_of_ble_eq_true rfl) rfl rfl (Nat.le_of_ble_eq_true rfl) dX12_knownOne_44 ?_
  exact m_M_knownOne_R_47 l G a tv n hA hr x2 t_1 hf

theorem m_M_knownOne_R_12 {p : Program} (l : Launch) {e : Env} {s : State} {m : MethodId} {args : Array Value} {below : List Frame} {meth : Method} {c : Code} (G : k_G) (a : Nat → Nat) (tv : Value) (n : Nat) {w0 : va_W} {r : Int32} {t' : k_St} (hA : k_Amb p s m args meth c cX12_knownOne 3 "TaleSharesModel" G (va_A w0 s.heap.size)) (hr : meth.sig.returnType = (some .int)) : ∀ (x1 : Int32) (t : k_St), f_M_knownOne_R_12 n x1 t = some (r, t') → k_Go p l e (k_rm 8) s m args below meth c (k_QI G w0 r (k_WR G.2.1 a tv t') args s below) 3 G (va_A w0 s.heap.size) (k_WR G.2.1 a tv t) 12 [(0, .ref (a 0)), (1, .int x1)] [] := by
  intro x1 t hf
  unfold f_M_knownOne_R_12 at hf
  obtain ⟨r_1, hr_1, hf⟩ := k_cp_e hf
  refine k_aload_n (i := 0) hA dX12_knownOne_12 rfl 0 rfl ?_
  refine gt_MR_0_4 hA wd_1252 dX12_knownOne_13 ?_
  refine k_aload_n (i := 0) hA dX12_knownOne_16 rfl 0 rfl ?_
  refine gt_MR_0_14 hA wd_1262 dX12_knownOne_17 ?_
  refine k_callVi (As := [.long (t.2 0 14)]) (rest := []) hA (m_Mt_find_R l G a tv n t (t.2 0 14) hr_1) cd_X11_find wd_1551 (hc_MR_18 G.2.1 a tv t) rfl rfl (Nat.le_of_ble_eq_true rfl) rfl rfl (Nat.le_of_ble_eq_true rfl) dX12_knownOne_20 ?_
  refine k_istore_n (i := 2) (lv' := [(2, .int r_1), (0, .ref (a 0)), (1, .int x1)]) hA dX12_knownOne_23 rfl rfl (Nat.le_of_ble_eq_true rfl) rfl ?_
  refine k_iload_n (i := 2) hA dX12_knownOne_24 rfl 0 rfl ?_
  refine k_iconst hA dX12_knownOne_25 kc_i_m1 ?_
  refine k_icmp_eq (tgt := 42) hA dX12_knownOne_26 rfl (fun hc => ?_) (fun hc => ?_)
  · have hf := k_ift hc hf
    refine k_pick (lv' := [(0, .ref (a 0)), (2, .int r_1)]) [1, 0] rfl ?_
    exact m_M_knownOne_R_42 l G a tv n hA hr r_1 t hf
  have hf := k_iff hc hf
  obtain ⟨hi_2, hf⟩ := k_gi_e hf
  refine k_aload_n (i := 0) hA dX12_knownOne_29 rfl 1 rfl ?_
  refine gt_MR_0_4 hA wd_1252 dX12_knownOne_30 ?_
  refine gt_MR_18_17N hA rfl nf_195 dX12_knownOne_33 ?_
  refine k_iload_n (i := 2) hA dX12_knownOne_36 rfl 0 rfl ?_
  refine ld_MR_27 hA hi_2 dX12_knownOne_37 ?_
  refine k_iload_n (i := 1) hA dX12_knownOne_38 rfl 2 rfl ?_
  refine k_icmp_eq (tgt := 47) hA dX12_knownOne_39 rfl (fun hc => ?_) (fun hc => ?_)
  · have hf := k_ift hc hf
    refine k_pick (lv' := [(0, .ref (a 0)), (2, .int r_1)]) [1, 0] rfl ?_
    exact m_M_knownOne_R_47 l G a tv n hA hr r_1 t hf
  have hf := k_iff hc hf
  refine k_pick (lv' := [(0, .ref (a 0)), (2, .int r_1)]) [1, 0] rfl ?_
  exact m_M_knownOne_R_42 l G a tv n hA hr r_1 t hf

theorem m_M_knownOne_R (l : Launch) (G : k_G) (a : Nat → Nat) (tv : Value) (n : Nat) (x1 : Int32) (t : k_St) {r : Int32} {t' : k_St} (hf : f_M_knownOne_R n x1 t = some (r, t')) : k_CI l G yX12_knownOne cX12_knownOne 3 (some .int) 8 (k_WR G.2.1 a tv t) [.ref (a 0), .int x1] r (k_WR G.2.1 a tv t') := by
  refine k_startI (lv := [(0, .ref (a 0)), (1, .int x1)]) (by decide +kernel) (Nat.le_of_ble_eq_true rfl) rfl ?_
  intro p e s m args below meth c hA hr
  have hA : k_Amb p s m args meth c cX12_knownOne 3 "TaleSharesModel" G _ := hA
  unfold f_M_knownOne_R at hf
  obtain ⟨r_1, hr_1, hf⟩ := k_cp_e hf
  refine k_aload_n (i := 0) hA dX12_knownOne_0 rfl 0 rfl ?_
  refine k_callVi (As := []) (rest := []) hA (m_M_isName_R l G a tv n t hr_1) cd_X12_isName wd_1542 (hc_MR_0 G.2.1 a tv t) rfl rfl (Nat.le_of_ble_eq_true rfl) rfl rfl (Nat.le_of_ble_eq_true rfl) dX12_knownOne_1 ?_
  refine k_if_ne (tgt := 12) hA dX12_knownOne_4 rfl (fun hc => ?_) (fun hc => ?_)
  · have hf := k_iff hc hf
    exact m_M_knownOne_R_12 l G a tv n hA hr x1 t hf
  have hf := k_ift hc hf
  obtain ⟨t_2, ht_2, hf⟩ := k_lt_e hf
  refine k_aload_n (i := 0) hA dX12_knownOne_7 rfl 0 rfl ?_
  refine k_iconst hA dX12_knownOne_8 kc_i_1 ?_
  refine k_callVv (As := [.int (1 : Int32)]) (rest := []) hA (m_M_flaw_R l G a tv (1 : Int32) t ht_2.symm) cd_X12_flaw wd_1508 (hc_MR_0 G.2.1 a tv t) rfl rfl (Nat.le_of_ble_eq_true rfl) rfl rfl (Nat.le_of_ble_eq_true rfl) dX12_knownOne_9 ?_
  exact m_M_knownOne_R_12 l G a tv n hA hr x1 t_2 hf

def f_M_eats_R (n : Nat) (x1 : Int32) (t : k_St) : Option (Bool × k_St) := (if (t.1 0 9) = x1 then (if (1 : Int32) = 0 then some (true, t) else k_cv (f_M_goesOn_R n t) (fun t_2 => some (true, t_2))) else (if (0 : Int32) = 0 then some (false, t) else k_cv (f_M_goesOn_R n t) (fun t_1 => some (false, t_1))))
theorem m_M_eats_R (l : Launch) (G : k_G) (a : Nat → Nat) (tv : Value) (n : Nat) (x1 : Int32) (t : k_St) {r : Bool} {t' : k_St} (hf : f_M_eats_R n x1 t = some (r, t')) : k_CI l G yX12_eats cX12_eats 3 (some .boolean) 3 (k_WR G.2.1 a tv t) [.ref (a 0), .int x1] (k_b r) (k_WR G.2.1 a tv t') := by
  refine k_startI (lv := [(0, .ref (a 0)), (1, .int x1)]) (by decide +kernel) (Nat.le_of_ble_eq_true rfl) rfl ?_
  intro p e s m args below meth c hA hr
  have hA : k_Amb p s m args meth c cX12_eats 3 "TaleSharesModel" G _ := hA
  unfold f_M_eats_R at hf
  refine k_aload_n (i := 0) hA dX12_eats_0 rfl 0 rfl ?_
  refine gt_MR_0_9 hA wd_1257 dX12_eats_1 ?_
  refine k_iload_n (i := 1) hA dX12_eats_4 rfl 1 rfl ?_
  refine k_icmp_ne (tgt := 12) hA dX12_eats_5 rfl (fun hc => ?_) (fun hc => ?_)
  · have hf := k_iff hc hf
    refine k_iconst hA dX12_eats_12 kc_i_0 ?_
    refine k_istore_n (i := 2) (lv' := [(2, .int (0 : Int32)), (0, .ref (a 0)), (1, .int x1)]) hA dX12_eats_13 rfl rfl (Nat.le_of_ble_eq_true rfl) rfl ?_
    refine k_iload_n (i := 2) hA dX12_eats_14 rfl 0 rfl ?_
    refine k_if_eq (tgt := 22) hA dX12_eats_15 rfl (fun hc => ?_) (fun hc => ?_)
    · have hf := k_ift hc hf
      obtain ⟨rfl, rfl⟩ := k_r2 hf
      refine k_iload_n (i := 2) hA dX12_eats_22 rfl 0 rfl ?_
      exact k_iret hA hr (k_narB (k_b01 _)) dX12_eats_23
    have hf := k_iff hc hf
    obtain ⟨t_1, ht_1, hf⟩ := k_cv_e hf
    obtain ⟨rfl, rfl⟩ := k_r2 hf
    refine k_aload_n (i := 0) hA dX12_eats_18 rfl 1 rfl ?_
    refine k_callVv (As := []) (rest := []) hA (m_M_goesOn_R l G a tv n t ht_1) cd_X12_goesOn wd_1471 (hc_MR_0 G.2.1 a tv t) rfl rfl (Nat.le_of_ble_eq_true rfl) rfl rfl (Nat.le_of_ble_eq_true rfl) dX12_eats_19 ?_
    refine k_iload_n (i := 2) hA dX12_eats_22 rfl 0 rfl ?_
    exact k_iret hA hr (k_narB (k_b01 _)) dX12_eats_23
  have hf := k_ift hc hf
  refine k_iconst hA dX12_eats_8 kc_i_1 ?_
  refine k_goto (tgt := 13) hA dX12_eats_9 rfl ?_
  refine k_istore_n (i := 2) (lv' := [(2, .int (1 : Int32)), (0, .ref (a 0)), (1, .int x1)]) hA dX12_eats_13 rfl rfl (Nat.le_of_ble_eq_true rfl) rfl ?_
  refine k_iload_n (i := 2) hA dX12_eats_14 rfl 0 rfl ?_
  refine k_if_eq (tgt := 22) hA dX12_eats_15 rfl (fun hc => ?_) (fun hc => ?_)
  · have hf := k_ift hc hf
    obtain ⟨rfl, rfl⟩ := k_r2 hf
    refine k_iload_n (i := 2) hA dX12_eats_22 rfl 0 rfl ?_
    exact k_iret hA hr (k_narB (k_b01 _)) dX12_eats_23
  have hf := k_iff hc hf
  obtain ⟨t_2, ht_2, hf⟩ := k_cv_e hf
  obtain ⟨rfl, rfl⟩ := k_r2 hf
  refine k_aload_n (i := 0) hA dX12_eats_18 rfl 1 rfl ?_
  refine k_callVv (As := []) (rest := []) hA (m_M_goesOn_R l G a tv n t ht_2) cd_X12_goesOn wd_1471 (hc_MR_0 G.2.1 a tv t) rfl rfl (Nat.le_of_ble_eq_true rfl) rfl rfl (Nat.le_of_ble_eq_true rfl) dX12_eats_19 ?_
  refine k_iload_n (i := 2) hA dX12_eats_22 rfl 0 rfl ?_
  exact k_iret hA hr (k_narB (k_b01 _)) dX12_eats_23

def f_M_readMixed_R_46 (n : Nat) (rec25 : Int32 → Int32 → k_St → Option k_St) (x1 : Int32) (x3 : Int32) (t : k_St) : Option k_St := k_cv (f_M_goesOn_R n t) (fun t_1 => (if (t_1.1 0 9) = (6 : Int32) then some t_1 else k_gi x1 6 (k_lt (k_sI t_1 25 x1.toNatClampNeg x3) (fun t_3 => k_lt (x1 + (1 : Int32)) (fun x1_4 => k_cl (f_M_eats_R n (5 : Int32) t_3) (fun r_6 t_5 => k_lt (k_b r_6) (fun x2_7 => rec25 x1_4 x2_7 t_5)))))))
def f_M_readMixed_R_25 (n : Nat) : Nat → Int32 → Int32 → k_St → Option k_St
  | 0, _, _, _ => none
  | k + 1, x1, x2, t => (if x2 = 0 then k_lt (k_sI t 18 7 x1) (fun t_1 => some t_1) else k_cl (f_M_knownOne_R n (0 : Int32) t) (fun r_3 t_2 => (if x1 = (6 : Int32) then k_lt (f_M_flaw_R (5 : Int32) t_2) (fun t_4 => f_M_readMixed_R_46 n (f_M_readMixed_R_25 n k) x1 r_3 t_4) else f_M_readMixed_R_46 n (f_M_readMixed_R_25 n k) x1 r_3 t_2)))
def f_M_readMixed_R (n : Nat) (t : k_St) : Option k_St := (if (t.1 18 7) ≤ 0 then k_cv (f_M_lineBegins_R n (0 : Int32) (1 : Int32) t) (fun t_1 => f_M_readMixed_R_25 n n (0 : Int32) (1 : Int32) t_1) else k_lt (f_M_flaw_R (3 : Int32) t) (fun t_2 => k_cv (f_M_lineBegins_R n (0 : Int32) (1 : Int32) t_2) (fun t_3 => f_M_readMixed_R_25 n n (0 : Int32) (1 : Int32) t_3)))
theorem m_M_readMixed_R_46 {p : Program} (l : Launch) {e : Env} {s : State} {m : MethodId} {args : Array Value} {below : List Frame} {meth : Method} {c : Code} (G : k_G) (a : Nat → Nat) (tv : Value) (n : Nat) {w0 : va_W} {t' : k_St} (hA : k_Amb p s m args meth c cX12_readMixed 4 "TaleSharesModel" G (va_A w0 s.heap.size)) (hr : meth.sig.returnType = none) (rec25 : Int32 → Int32 → k_St → Option k_St) (hrec25 : ∀ (x1 : Int32) (x2 : Int32) (t : k_St), rec25 x1 x2 t = some t' → k_Go p l e (k_rm 9) s m args below meth c (k_QV G w0 (k_WR G.2.1 a tv t') args s below) 4 G (va_A w0 s.heap.size) (k_WR G.2.1 a tv t) 25 [(0, .ref (a 0)), (1, .int x1), (2, .int x2)] []) : ∀ (x1 : Int32) (x3 : Int32) (t : k_St), f_M_readMixed_R_46 n rec25 x1 x3 t = some t' → k_Go p l e (k_rm 9) s m args below meth c (k_QV G w0 (k_WR G.2.1 a tv t') args s below) 4 G (va_A w0 s.heap.size) (k_WR G.2.1 a tv t) 46 [(0, .ref (a 0)), (1, .int x1), (3, .int x3)] [] := by
  intro x1 x3 t hf
  unfold f_M_readMixed_R_46 at hf
  obtain ⟨t_1, ht_1, hf⟩ := k_cv_e hf
  refine k_aload_n (i := 0) hA dX12_readMixed_46 rfl 0 rfl ?_
  refine k_callVv (As := []) (rest := []) hA (m_M_goesOn_R l G a tv n t ht_1) cd_X12_goesOn wd_1471 (hc_MR_0 G.2.1 a tv t) rfl rfl (Nat.le_of_ble_eq_true rfl) rfl rfl (Nat.le_of_ble_eq_true rfl) dX12_readMixed_47 ?_
  refine k_aload_n (i := 0) hA dX12_readMixed_50 rfl 0 rfl ?_
  refine gt_MR_0_9 hA wd_1257 dX12_readMixed_51 ?_
  refine k_bipush hA dX12_readMixed_54 kc_b_6 ?_
  refine k_icmp_ne (tgt := 60) hA dX12_readMixed_56 rfl (fun hc => ?_) (fun hc => ?_)
  · have hf := k_iff hc hf
    obtain ⟨hi_2, hf⟩ := k_gi_e hf
    obtain ⟨t_3, et_3, hf⟩ := k_lt_e hf
    obtain ⟨x1_4, ex1_4, hf⟩ := k_lt_e hf
    obtain ⟨r_6, t_5, ht_5, hf⟩ := k_cl_e hf
    obtain ⟨x2_7, ex2_7, hf⟩ := k_lt_e hf
    refine k_aload_n (i := 0) hA dX12_readMixed_60 rfl 0 rfl ?_
    refine gt_MR_0_4 hA wd_1252 dX12_readMixed_61 ?_
    refine gt_MR_18_15N hA rfl nf_301 dX12_readMixed_64 ?_
    refine k_iload_n (i := 1) hA dX12_readMixed_67 rfl 1 rfl ?_
    refine k_iload_n (i := 3) hA dX12_readMixed_68 rfl 2 rfl ?_
    refine sr_MR_25 hA hi_2 et_3 dX12_readMixed_69 ?_
    refine k_iinc (j := 1) (v := x1_4) (lv' := [(1, .int x1_4), (0, .ref (a 0)), (3, .int x3)]) hA dX12_readMixed_70 rfl (k_inc ex1_4 kc_i_1) (Nat.le_of_ble_eq_true rfl) rfl ?_
    refine k_aload_n (i := 0) hA dX12_readMixed_73 rfl 1 rfl ?_
    refine k_iconst hA dX12_readMixed_74 kc_i_5 ?_
    refine k_callVi (As := [.int (5 : Int32)]) (rest := []) hA (m_M_eats_R l G a tv n (5 : Int32) t_3 ht_5) cd_X12_eats wd_1597 (hc_MR_0 G.2.1 a tv t_3) rfl rfl (Nat.le_of_ble_eq_true rfl) rfl rfl (Nat.le_of_ble_eq_true rfl) dX12_readMixed_75 ?_
    refine k_istore_n (i := 2) (lv' := [(2, .int x2_7), (1, .int x1_4), (0, .ref (a 0)), (3, .int x3)]) hA dX12_readMixed_78 rfl ex2_7 (Nat.le_of_ble_eq_true rfl) rfl ?_
    refine k_goto (tgt := 25) hA dX12_readMixed_79 rfl ?_
    refine k_pick (lv' := [(0, .ref (a 0)), (1, .int x1_4), (2, .int x2_7)]) [2, 1, 0] rfl ?_
    exact hrec25 x1_4 x2_7 t_5 hf
  have hf := k_ift hc hf
  obtain rfl := k_r1 hf
  exact k_vret hA hr dX12_readMixed_59

theorem m_M_readMixed_R_25 {p : Program} (l : Launch) {e : Env} {s : State} {m : MethodId} {args : Array Value} {below : List Frame} {meth : Method} {c : Code} (G : k_G) (a : Nat → Nat) (tv : Value) (n : Nat) {w0 : va_W} {t' : k_St} (hA : k_Amb p s m args meth c cX12_readMixed 4 "TaleSharesModel" G (va_A w0 s.heap.size)) (hr : meth.sig.returnType = none) : ∀ (k : Nat) (x1 : Int32) (x2 : Int32) (t : k_St), f_M_readMixed_R_25 n k x1 x2 t = some t' → k_Go p l e (k_rm 9) s m args below meth c (k_QV G w0 (k_WR G.2.1 a tv t') args s below) 4 G (va_A w0 s.heap.size) (k_WR G.2.1 a tv t) 25 [(0, .ref (a 0)), (1, .int x1), (2, .int x2)] [] := by
  intro k
  induction k with
  | zero => intro x1 x2 t hf; cases hf
  | succ k ih =>
  intro x1 x2 t hf
  rw [f_M_readMixed_R_25] at hf
  refine k_iload_n (i := 2) hA dX12_readMixed_25 rfl 2 rfl ?_
  refine k_if_eq (tgt := 82) hA dX12_readMixed_26 rfl (fun hc => ?_) (fun hc => ?_)
  · have hf := k_ift hc hf
    obtain ⟨t_1, et_1, hf⟩ := k_lt_e hf
    obtain rfl := k_r1 hf
    refine k_aload_n (i := 0) hA dX12_readMixed_82 rfl 0 rfl ?_
    refine gt_MR_0_4 hA wd_1252 dX12_readMixed_83 ?_
    refine k_iload_n (i := 1) hA dX12_readMixed_86 rfl 1 rfl ?_
    refine pt_MR_18_7N hA rfl nf_299 et_1 dX12_readMixed_87 ?_
    exact k_vret hA hr dX12_readMixed_90
  have hf := k_iff hc hf
  obtain ⟨r_3, t_2, ht_2, hf⟩ := k_cl_e hf
  refine k_aload_n (i := 0) hA dX12_readMixed_29 rfl 0 rfl ?_
  refine k_iconst hA dX12_readMixed_30 kc_i_0 ?_
  refine k_callVi (As := [.int (0 : Int32)]) (rest := []) hA (m_M_knownOne_R l G a tv n (0 : Int32) t ht_2) cd_X12_knownOne wd_1571 (hc_MR_0 G.2.1 a tv t) rfl rfl (Nat.le_of_ble_eq_true rfl) rfl rfl (Nat.le_of_ble_eq_true rfl) dX12_readMixed_31 ?_
  refine k_istore_n (i := 3) (lv' := [(3, .int r_3), (0, .ref (a 0)), (1, .int x1), (2, .int x2)]) hA dX12_readMixed_34 rfl rfl (Nat.le_of_ble_eq_true rfl) rfl ?_
  refine k_iload_n (i := 1) hA dX12_readMixed_35 rfl 2 rfl ?_
  refine k_bipush hA dX12_readMixed_36 kc_b_6 ?_
  refine k_icmp_ne (tgt := 46) hA dX12_readMixed_38 rfl (fun hc => ?_) (fun hc => ?_)
  · have hf := k_iff hc hf
    refine k_pick (lv' := [(0, .ref (a 0)), (1, .int x1), (3, .int r_3)]) [1, 2, 0] rfl ?_
    exact m_M_readMixed_R_46 l G a tv n hA hr (f_M_readMixed_R_25 n k) ih x1 r_3 t_2 hf
  have hf := k_ift hc hf
  obtain ⟨t_4, ht_4, hf⟩ := k_lt_e hf
  refine k_aload_n (i := 0) hA dX12_readMixed_41 rfl 1 rfl ?_
  refine k_iconst hA dX12_readMixed_42 kc_i_5 ?_
  refine k_callVv (As := [.int (5 : Int32)]) (rest := []) hA (m_M_flaw_R l G a tv (5 : Int32) t_2 ht_4.symm) cd_X12_flaw wd_1508 (hc_MR_0 G.2.1 a tv t_2) rfl rfl (Nat.le_of_ble_eq_true rfl) rfl rfl (Nat.le_of_ble_eq_true rfl) dX12_readMixed_43 ?_
  refine k_pick (lv' := [(0, .ref (a 0)), (1, .int x1), (3, .int r_3)]) [1, 2, 0] rfl ?_
  exact m_M_readMixed_R_46 l G a tv n hA hr (f_M_readMixed_R_25 n k) ih x1 r_3 t_4 hf

theorem m_M_readMixed_R (l : Launch) (G : k_G) (a : Nat → Nat) (tv : Value) (n : Nat) (t : k_St) {t' : k_St} (hf : f_M_readMixed_R n t = some t') : k_CV l G yX12_readMixed cX12_readMixed 4 none 9 (k_WR G.2.1 a tv t) [.ref (a 0)] (k_WR G.2.1 a tv t') := by
  refine k_startV (lv := [(0, .ref (a 0))]) (by decide +kernel) (Nat.le_of_ble_eq_true rfl) rfl ?_
  intro p e s m args below meth c hA hr
  have hA : k_Amb p s m args meth c cX12_readMixed 4 "TaleSharesModel" G _ := hA
  unfold f_M_readMixed_R at hf
  refine k_aload_n (i := 0) hA dX12_readMixed_0 rfl 0 rfl ?_
  refine gt_MR_0_4 hA wd_1252 dX12_readMixed_1 ?_
  refine gt_MR_18_7N hA rfl nf_299 dX12_readMixed_4 ?_
  refine k_if_le (tgt := 15) hA dX12_readMixed_7 rfl (fun hc => ?_) (fun hc => ?_)
  · have hf := k_ift hc hf
    obtain ⟨t_1, ht_1, hf⟩ := k_cv_e hf
    refine k_aload_n (i := 0) hA dX12_readMixed_15 rfl 0 rfl ?_
    refine k_iconst hA dX12_readMixed_16 kc_i_0 ?_
    refine k_iconst hA dX12_readMixed_17 kc_i_1 ?_
    refine k_callVv (As := [.int (0 : Int32), .int (1 : Int32)]) (rest := []) hA (m_M_lineBegins_R l G a tv n (0 : Int32) (1 : Int32) t ht_1) cd_X12_lineBegins wd_1534 (hc_MR_0 G.2.1 a tv t) rfl rfl (Nat.le_of_ble_eq_true rfl) rfl rfl (Nat.le_of_ble_eq_true rfl) dX12_readMixed_18 ?_
    refine k_iconst hA dX12_readMixed_21 kc_i_0 ?_
    refine k_istore_n (i := 1) (lv' := [(1, .int (0 : Int32)), (0, .ref (a 0))]) hA dX12_readMixed_22 rfl rfl (Nat.le_of_ble_eq_true rfl) rfl ?_
    refine k_iconst hA dX12_readMixed_23 kc_i_1 ?_
    refine k_istore_n (i := 2) (lv' := [(2, .int (1 : Int32)), (1, .int (0 : Int32)), (0, .ref (a 0))]) hA dX12_readMixed_24 rfl rfl (Nat.le_of_ble_eq_true rfl) rfl ?_
    refine k_pick (lv' := [(0, .ref (a 0)), (1, .int (0 : Int32)), (2, .int (1 : Int32))]) [2, 1, 0] rfl ?_
    exact m_M_readMixed_R_25 l G a tv n hA hr n (0 : Int32) (1 : Int32) t_1 hf
  have hf := k_iff hc hf
  obtain ⟨t_2, ht_2, hf⟩ := k_lt_e hf
  obtain ⟨t_3, ht_3, hf⟩ := k_cv_e hf
  refine k_aload_n (i := 0) hA dX12_readMixed_10 rfl 0 rfl ?_
  refine k_iconst hA dX12_readMixed_11 kc_i_3 ?_
  refine k_callVv (As := [.int (3 : Int32)]) (rest := []) hA (m_M_flaw_R l G a tv (3 : Int32) t ht_2.symm) cd_X12_flaw wd_1508 (hc_MR_0 G.2.1 a tv t) rfl rfl (Nat.le_of_ble_eq_true rfl) rfl rfl (Nat.le_of_ble_eq_true rfl) dX12_readMixed_12 ?_
  refine k_aload_n (i := 0) hA dX12_readMixed_15 rfl 0 rfl ?_
  refine k_iconst hA dX12_readMixed_16 kc_i_0 ?_
  refine k_iconst hA dX12_readMixed_17 kc_i_1 ?_
  refine k_callVv (As := [.int (0 : Int32), .int (1 : Int32)]) (rest := []) hA (m_M_lineBegins_R l G a tv n (0 : Int32) (1 : Int32) t_2 ht_3) cd_X12_lineBegins wd_1534 (hc_MR_0 G.2.1 a tv t_2) rfl rfl (Nat.le_of_ble_eq_true rfl) rfl rfl (Nat.le_of_ble_eq_true rfl) dX12_readMixed_18 ?_
  refine k_iconst hA dX12_readMixed_21 kc_i_0 ?_
  refine k_istore_n (i := 1) (lv' := [(1, .int (0 : Int32)), (0, .ref (a 0))]) hA dX12_readMixed_22 rfl rfl (Nat.le_of_ble_eq_true rfl) rfl ?_
  refine k_iconst hA dX12_readMixed_23 kc_i_1 ?_
  refine k_istore_n (i := 2) (lv' := [(2, .int (1 : Int32)), (1, .int (0 : Int32)), (0, .ref (a 0))]) hA dX12_readMixed_24 rfl rfl (Nat.le_of_ble_eq_true rfl) rfl ?_
  refine k_pick (lv' := [(0, .ref (a 0)), (1, .int (0 : Int32)), (2, .int (1 : Int32))]) [2, 1, 0] rfl ?_
  exact m_M_readMixed_R_25 l G a tv n hA hr n (0 : Int32) (1 : Int32) t_3 hf

def f_M_bit (x0 : Int32) (x1 : Int32) : Bool := (if ((x0 >>> (x1 &&& 31)) &&& (1 : Int32)) = (1 : Int32) then true else false)
theorem m_M_bit (l : Launch) (G : k_G) (w : va_W) (x0 : Int32) (x1 : Int32) {r : Bool} (hf : f_M_bit x0 x1 = r) : k_CI l G yX12_bit cX12_bit 2 (some .boolean) 1 w [.int x0, .int x1] (k_b r) w := by
  refine k_startI (lv := [(0, .int x0), (1, .int x1)]) (by decide +kernel) (Nat.le_of_ble_eq_true rfl) rfl ?_
  intro p e s m args below meth c hA hr
  have hA : k_Amb p s m args meth c cX12_bit 2 "TaleSharesModel" G _ := hA
  unfold f_M_bit at hf
  refine k_iload_n (i := 0) hA dX12_bit_0 rfl 0 rfl ?_
  refine k_iload_n (i := 1) hA dX12_bit_1 rfl 1 rfl ?_
  refine k_ishr hA dX12_bit_2 ?_
  refine k_iconst hA dX12_bit_3 kc_i_1 ?_
  refine k_iand hA dX12_bit_4 ?_
  refine k_iconst hA dX12_bit_5 kc_i_1 ?_
  refine k_icmp_ne (tgt := 13) hA dX12_bit_6 rfl (fun hc => ?_) (fun hc => ?_)
  · have hf := k_iff hc hf
    subst hf
    refine k_iconst hA dX12_bit_13 kc_i_0 ?_
    exact k_iret hA hr (k_narB (k_b01 _)) dX12_bit_14
  have hf := k_ift hc hf
  subst hf
  refine k_iconst hA dX12_bit_9 kc_i_1 ?_
  refine k_goto (tgt := 14) hA dX12_bit_10 rfl ?_
  exact k_iret hA hr (k_narB (k_b01 _)) dX12_bit_14

def f_M_readSilent_R_40 (n : Nat) (x1 : Int32) (t : k_St) : Option k_St := k_cv (f_M_goesOn_R n t) (fun t_1 => (if (t_1.1 0 9) = (6 : Int32) then some t_1 else k_lt (k_sI t_1 18 6 ((t_1.1 18 6) ||| ((1 : Int32) <<< (x1 &&& 31)))) (fun t_2 => some t_2)))
def f_M_readSilent_R (n : Nat) (t : k_St) : Option k_St := k_cv (f_M_lineBegins_R n (0 : Int32) (1 : Int32) t) (fun t_1 => k_cl (f_M_knownOne_R n (1 : Int32) t_1) (fun r_3 t_2 => (if (t_2.1 0 9) = (6 : Int32) then f_M_readSilent_R_40 n r_3 t_2 else (if (k_b (f_M_bit (t_2.1 18 6) r_3)) = 0 then f_M_readSilent_R_40 n r_3 t_2 else k_lt (f_M_flaw_R (3 : Int32) t_2) (fun t_4 => f_M_readSilent_R_40 n r_3 t_4)))))
theorem m_M_readSilent_R_40 {p : Program} (l : Launch) {e : Env} {s : State} {m : MethodId} {args : Array Value} {below : List Frame} {meth : Method} {c : Code} (G : k_G) (a : Nat → Nat) (tv : Value) (n : Nat) {w0 : va_W} {t' : k_St} (hA : k_Amb p s m args meth c cX12_readSilent 2 "TaleSharesModel" G (va_A w0 s.heap.size)) (hr : meth.sig.returnType = none) : ∀ (x1 : Int32) (t : k_St), f_M_readSilent_R_40 n x1 t = some t' → k_Go p l e (k_rm 9) s m args below meth c (k_QV G w0 (k_WR G.2.1 a tv t') args s below) 2 G (va_A w0 s.heap.size) (k_WR G.2.1 a tv t) 40 [(0, .ref (a 0)), (1, .int x1)] [] := by
  intro x1 t hf
  unfold f_M_readSilent_R_40 at hf
  obtain ⟨t_1, ht_1, hf⟩ := k_cv_e hf
  refine k_aload_n (i := 0) hA dX12_readSilent_40 rfl 0 rfl ?_
  refine k_callVv (As := []) (rest := []) hA (m_M_goesOn_R l G a tv n t ht_1) cd_X12_goesOn wd_1471 (hc_MR_0 G.2.1 a tv t) rfl rfl (Nat.le_of_ble_eq_true rfl) rfl rfl (Nat.le_of_ble_eq_true rfl) dX12_readSilent_41 ?_
  refine k_aload_n (i := 0) hA dX12_readSilent_44 rfl 0 rfl ?_
  refine gt_MR_0_9 hA wd_1257 dX12_readSilent_45 ?_
  refine k_bipush hA dX12_readSilent_48 kc_b_6 ?_
  refine k_icmp_eq (tgt := 68) hA dX12_readSilent_50 rfl (fun hc => ?_) (fun hc => ?_)
  · have hf := k_ift hc hf
    obtain rfl := k_r1 hf
    exact k_vret hA hr dX12_readSilent_68
  have hf := k_iff hc hf
  obtain ⟨t_2, et_2, hf⟩ := k_lt_e hf
  obtain rfl := k_r1 hf
  refine k_aload_n (i := 0) hA dX12_readSilent_53 rfl 0 rfl ?_
  refine gt_MR_0_4 hA wd_1252 dX12_readSilent_54 ?_
  refine k_dup hA dX12_readSilent_57 rfl ?_
  refine gt_MR_18_6N hA rfl nf_297 dX12_readSilent_58 ?_
  refine k_iconst hA dX12_readSilent_61 kc_i_1 ?_
  refine k_iload_n (i := 1) hA dX12_readSilent_62 rfl 1 rfl ?_
  refine k_ishl hA dX12_readSilent_63 ?_
  refine k_ior hA dX12_readSilent_64 ?_
  refine pt_MR_18_6N hA rfl nf_297 et_2 dX12_readSilent_65 ?_
  exact k_vret hA hr dX12_readSilent_68

theorem m_M_readSilent_R (l : Launch) (G : k_G) (a : Nat → Nat) (tv : Value) (n : Nat) (t : k_St) {t' : k_St} (hf : f_M_readSilent_R n t = some t') : k_CV l G yX12_readSilent cX12_readSilent 2 none 9 (k_WR G.2.1 a tv t) [.ref (a 0)] (k_WR G.2.1 a tv t') := by
  refine k_startV (lv := [(0, .ref (a 0))]) (by decide +kernel) (Nat.le_of_ble_eq_true rfl) rfl ?_
  intro p e s m args below meth c hA hr
  have hA : k_Amb p s m args meth c cX12_readSilent 2 "TaleSharesModel" G _ := hA
  unfold f_M_readSilent_R at hf
  obtain ⟨t_1, ht_1, hf⟩ := k_cv_e hf
  obtain ⟨r_3, t_2, ht_2, hf⟩ := k_cl_e hf
  refine k_aload_n (i := 0) hA dX12_readSilent_0 rfl 0 rfl ?_
  refine k_iconst hA dX12_readSilent_1 kc_i_0 ?_
  refine k_iconst hA dX12_readSilent_2 kc_i_1 ?_
  refine k_callVv (As := [.int (0 : Int32), .int (1 : Int32)]) (rest := []) hA (m_M_lineBegins_R l G a tv n (0 : Int32) (1 : Int32) t ht_1) cd_X12_lineBegins wd_1534 (hc_MR_0 G.2.1 a tv t) rfl rfl (Nat.le_of_ble_eq_true rfl) rfl rfl (Nat.le_of_ble_eq_true rfl) dX12_readSilent_3 ?_
  refine k_aload_n (i := 0) hA dX12_readSilent_6 rfl 0 rfl ?_
  refine k_iconst hA dX12_readSilent_7 kc_i_1 ?_
  refine k_callVi (As := [.int (1 : Int32)]) (rest := []) hA (m_M_knownOne_R l G a tv n (1 : Int32) t_1 ht_2) cd_X12_knownOne wd_1571 (hc_MR_0 G.2.1 a tv t_1) rfl rfl (Nat.le_of_ble_eq_true rfl) rfl rfl (Nat.le_of_ble_eq_true rfl) dX12_readSilent_8 ?_
  refine k_istore_n (i := 1) (lv' := [(1, .int r_3), (0, .ref (a 0))]) hA dX12_readSilent_11 rfl rfl (Nat.le_of_ble_eq_true rfl) rfl ?_
  refine k_aload_n (i := 0) hA dX12_readSilent_12 rfl 1 rfl ?_
  refine gt_MR_0_9 hA wd_1257 dX12_readSilent_13 ?_
  refine k_bipush hA dX12_readSilent_16 kc_b_6 ?_
  refine k_icmp_eq (tgt := 40) hA dX12_readSilent_18 rfl (fun hc => ?_) (fun hc => ?_)
  · have hf := k_ift hc hf
    refine k_pick (lv' := [(0, .ref (a 0)), (1, .int r_3)]) [1, 0] rfl ?_
    exact m_M_readSilent_R_40 l G a tv n hA hr r_3 t_2 hf
  have hf := k_iff hc hf
  refine k_aload_n (i := 0) hA dX12_readSilent_21 rfl 1 rfl ?_
  refine gt_MR_0_4 hA wd_1252 dX12_readSilent_22 ?_
  refine gt_MR_18_6N hA rfl nf_297 dX12_readSilent_25 ?_
  refine k_iload_n (i := 1) hA dX12_readSilent_28 rfl 0 rfl ?_
  refine k_callSi (As := [.int (t_2.1 18 6), .int r_3]) (rest := []) hA (m_M_bit l G (k_WR G.2.1 a tv t_2) (t_2.1 18 6) r_3 rfl) cd_X12_bit wd_1575 (Nat.le_of_ble_eq_true rfl) rfl rfl (Nat.le_of_ble_eq_true rfl) dX12_readSilent_29 ?_
  refine k_if_eq (tgt := 40) hA dX12_readSilent_32 rfl (fun hc => ?_) (fun hc => ?_)
  · have hf := k_ift hc hf
    refine k_pick (lv' := [(0, .ref (a 0)), (1, .int r_3)]) [1, 0] rfl ?_
    exact m_M_readSilent_R_40 l G a tv n hA hr r_3 t_2 hf
  have hf := k_iff hc hf
  obtain ⟨t_4, ht_4, hf⟩ := k_lt_e hf
  refine k_aload_n (i := 0) hA dX12_readSilent_35 rfl 1 rfl ?_
  refine k_iconst hA dX12_readSilent_36 kc_i_3 ?_
  refine k_callVv (As := [.int (3 : Int32)]) (rest := []) hA (m_M_flaw_R l G a tv (3 : Int32) t_2 ht_4.symm) cd_X12_flaw wd_1508 (hc_MR_0 G.2.1 a tv t_2) rfl rfl (Nat.le_of_ble_eq_true rfl) rfl rfl (Nat.le_of_ble_eq_true rfl) dX12_readSilent_37 ?_
  refine k_pick (lv' := [(0, .ref (a 0)), (1, .int r_3)]) [1, 0] rfl ?_
  exact m_M_readSilent_R_40 l G a tv n hA hr r_3 t_4 hf

def f_M_readKnown_R (n : Nat) (x1 : Int32) (t : k_St) : Option (Int32 × k_St) := k_cl (f_M_knownOne_R n x1 t) (fun r_2 t_1 => k_cv (f_M_goesOn_R n t_1) (fun t_3 => some (r_2, t_3)))
theorem m_M_readKnown_R (l : Launch) (G : k_G) (a : Nat → Nat) (tv : Value) (n : Nat) (x1 : Int32) (t : k_St) {r : Int32} {t' : k_St} (hf : f_M_readKnown_R n x1 t = some (r, t')) : k_CI l G yX12_readKnown cX12_readKnown 3 (some .int) 9 (k_WR G.2.1 a tv t) [.ref (a 0), .int x1] r (k_WR G.2.1 a tv t') := by
  refine k_startI (lv := [(0, .ref (a 0)), (1, .int x1)]) (by decide +kernel) (Nat.le_of_ble_eq_true rfl) rfl ?_
  intro p e s m args below meth c hA hr
  have hA : k_Amb p s m args meth c cX12_readKnown 3 "TaleSharesModel" G _ := hA
  unfold f_M_readKnown_R at hf
  obtain ⟨r_2, t_1, ht_1, hf⟩ := k_cl_e hf
  obtain ⟨t_3, ht_3, hf⟩ := k_cv_e hf
  obtain ⟨rfl, rfl⟩ := k_r2 hf
  refine k_aload_n (i := 0) hA dX12_readKnown_0 rfl 0 rfl ?_
  refine k_iload_n (i := 1) hA dX12_readKnown_1 rfl 1 rfl ?_
  refine k_callVi (As := [.int x1]) (rest := []) hA (m_M_knownOne_R l G a tv n x1 t ht_1) cd_X12_knownOne wd_1571 (hc_MR_0 G.2.1 a tv t) rfl rfl (Nat.le_of_ble_eq_true rfl) rfl rfl (Nat.le_of_ble_eq_true rfl) dX12_readKnown_2 ?_
  refine k_istore_n (i := 2) (lv' := [(2, .int r_2), (0, .ref (a 0)), (1, .int x1)]) hA dX12_readKnown_5 rfl rfl (Nat.le_of_ble_eq_true rfl) rfl ?_
  refine k_aload_n (i := 0) hA dX12_readKnown_6 rfl 1 rfl ?_
  refine k_callVv (As := []) (rest := []) hA (m_M_goesOn_R l G a tv n t_1 ht_3) cd_X12_goesOn wd_1471 (hc_MR_0 G.2.1 a tv t_1) rfl rfl (Nat.le_of_ble_eq_true rfl) rfl rfl (Nat.le_of_ble_eq_true rfl) dX12_readKnown_7 ?_
  refine k_iload_n (i := 2) hA dX12_readKnown_10 rfl 0 rfl ?_
  exact k_iret hA hr rfl dX12_readKnown_11

def f_M_readHeard_R_55 (n : Nat) (x1 : Int32) (x2 : Int32) (t : k_St) : Option k_St := k_cv (f_M_goesOn_R n t) (fun t_1 => (if (t_1.1 0 9) = (6 : Int32) then some t_1 else k_gi x1 5 (k_gi x1 5 (k_lt (k_sI t_1 24 x1.toNatClampNeg ((t_1.1 24 x1.toNatClampNeg) ||| ((1 : Int32) <<< (x2 &&& 31)))) (fun t_4 => k_lt (k_sI t_4 18 5 ((t_4.1 18 5) + (1 : Int32))) (fun t_5 => some t_5))))))
def f_M_readHeard_R (n : Nat) (t : k_St) : Option k_St := k_cv (f_M_lineBegins_R n (t.1 18 5) (14 : Int32) t) (fun t_1 => k_cl (f_M_readKnown_R n (1 : Int32) t_1) (fun r_3 t_2 => k_cl (f_M_knownOne_R n (0 : Int32) t_2) (fun r_5 t_4 => (if (t_4.1 0 9) = (6 : Int32) then f_M_readHeard_R_55 n r_3 r_5 t_4 else k_gi r_3 5 ((if (k_b (f_M_bit (t_4.1 24 r_3.toNatClampNeg) r_5)) = 0 then f_M_readHeard_R_55 n r_3 r_5 t_4 else k_lt (f_M_flaw_R (3 : Int32) t_4) (fun t_7 => f_M_readHeard_R_55 n r_3 r_5 t_7)))))))
theorem m_M_readHeard_R_55 {p : Program} (l : Launch) {e : Env} {s : State} {m : MethodId} {args : Array Value} {below : List Frame} {meth : Method} {c : Code} (G : k_G) (a : Nat → Nat) (tv : Value) (n : Nat) {w0 : va_W} {t' : k_St} (hA : k_Amb p s m args meth c cX12_readHeard 3 "TaleSharesModel" G (va_A w0 s.heap.size)) (hr : meth.sig.returnType = none) : ∀ (x1 : Int32) (x2 : Int32) (t : k_St), f_M_readHeard_R_55 n x1 x2 t = some t' → k_Go p l e (k_rm 10) s m args below meth c (k_QV G w0 (k_WR G.2.1 a tv t') args s below) 3 G (va_A w0 s.heap.size) (k_WR G.2.1 a tv t) 55 [(0, .ref (a 0)), (1, .int x1), (2, .int x2)] [] := by
  intro x1 x2 t hf
  unfold f_M_readHeard_R_55 at hf
  obtain ⟨t_1, ht_1, hf⟩ := k_cv_e hf
  refine k_aload_n (i := 0) hA dX12_readHeard_55 rfl 0 rfl ?_
  refine k_callVv (As := []) (rest := []) hA (m_M_goesOn_R l G a tv n t ht_1) cd_X12_goesOn wd_1471 (hc_MR_0 G.2.1 a tv t) rfl rfl (Nat.le_of_ble_eq_true rfl) rfl rfl (Nat.le_of_ble_eq_true rfl) dX12_readHeard_56 ?_
  refine k_aload_n (i := 0) hA dX12_readHeard_59 rfl 0 rfl ?_
  refine gt_MR_0_9 hA wd_1257 dX12_readHeard_60 ?_
  refine k_bipush hA dX12_readHeard_63 kc_b_6 ?_
  refine k_icmp_ne (tgt := 69) hA dX12_readHeard_65 rfl (fun hc => ?_) (fun hc => ?_)
  · have hf := k_iff hc hf
    obtain ⟨hi_2, hf⟩ := k_gi_e hf
    obtain ⟨hi_3, hf⟩ := k_gi_e hf
    obtain ⟨t_4, et_4, hf⟩ := k_lt_e hf
    obtain ⟨t_5, et_5, hf⟩ := k_lt_e hf
    obtain rfl := k_r1 hf
    refine k_aload_n (i := 0) hA dX12_readHeard_69 rfl 0 rfl ?_
    refine gt_MR_0_4 hA wd_1252 dX12_readHeard_70 ?_
    refine gt_MR_18_14N hA rfl nf_294 dX12_readHeard_73 ?_
    refine k_iload_n (i := 1) hA dX12_readHeard_76 rfl 1 rfl ?_
    refine k_dup2_11 hA dX12_readHeard_77 rfl rfl ?_
    refine ld_MR_24 hA hi_2 dX12_readHeard_78 ?_
    refine k_iconst hA dX12_readHeard_79 kc_i_1 ?_
    refine k_iload_n (i := 2) hA dX12_readHeard_80 rfl 2 rfl ?_
    refine k_ishl hA dX12_readHeard_81 ?_
    refine k_ior hA dX12_readHeard_82 ?_
    refine sr_MR_24 hA hi_3 et_4 dX12_readHeard_83 ?_
    refine k_aload_n (i := 0) hA dX12_readHeard_84 rfl 0 rfl ?_
    refine gt_MR_0_4 hA wd_1252 dX12_readHeard_85 ?_
    refine k_dup hA dX12_readHeard_88 rfl ?_
    refine gt_MR_18_5N hA rfl nf_292 dX12_readHeard_89 ?_
    refine k_iconst hA dX12_readHeard_92 kc_i_1 ?_
    refine k_iadd hA dX12_readHeard_93 ?_
    refine pt_MR_18_5N hA rfl nf_292 et_5 dX12_readHeard_94 ?_
    exact k_vret hA hr dX12_readHeard_97
  have hf := k_ift hc hf
  obtain rfl := k_r1 hf
  exact k_vret hA hr dX12_readHeard_68

theorem m_M_readHeard_R (l : Launch) (G : k_G) (a : Nat → Nat) (tv : Value) (n : Nat) (t : k_St) {t' : k_St} (hf : f_M_readHeard_R n t = some t') : k_CV l G yX12_readHeard cX12_readHeard 3 none 10 (k_WR G.2.1 a tv t) [.ref (a 0)] (k_WR G.2.1 a tv t') := by
  refine k_startV (lv := [(0, .ref (a 0))]) (by decide +kernel) (Nat.le_of_ble_eq_true rfl) rfl ?_
  intro p e s m args below meth c hA hr
  have hA : k_Amb p s m args meth c cX12_readHeard 3 "TaleSharesModel" G _ := hA
  unfold f_M_readHeard_R at hf
  obtain ⟨t_1, ht_1, hf⟩ := k_cv_e hf
  obtain ⟨r_3, t_2, ht_2, hf⟩ := k_cl_e hf
  obtain ⟨r_5, t_4, ht_4, hf⟩ := k_cl_e hf
  refine k_aload_n (i := 0) hA dX12_readHeard_0 rfl 0 rfl ?_
  refine k_aload_n (i := 0) hA dX12_readHeard_1 rfl 0 rfl ?_
  refine gt_MR_0_4 hA wd_1252 dX12_readHeard_2 ?_
  refine gt_MR_18_5N hA rfl nf_292 dX12_readHeard_5 ?_
  refine k_bipush hA dX12_readHeard_8 kc_b_14 ?_
  refine k_callVv (As := [.int (t.1 18 5), .int (14 : Int32)]) (rest := []) hA (m_M_lineBegins_R l G a tv n (t.1 18 5) (14 : Int32) t ht_1) cd_X12_lineBegins wd_1534 (hc_MR_0 G.2.1 a tv t) rfl rfl (Nat.le_of_ble_eq_true rfl) rfl rfl (Nat.le_of_ble_eq_true rfl) dX12_readHeard_10 ?_
  refine k_aload_n (i := 0) hA dX12_readHeard_13 rfl 0 rfl ?_
  refine k_iconst hA dX12_readHeard_14 kc_i_1 ?_
  refine k_callVi (As := [.int (1 : Int32)]) (rest := []) hA (m_M_readKnown_R l G a tv n (1 : Int32) t_1 ht_2) cd_X12_readKnown wd_1567 (hc_MR_0 G.2.1 a tv t_1) rfl rfl (Nat.le_of_ble_eq_true rfl) rfl rfl (Nat.le_of_ble_eq_true rfl) dX12_readHeard_15 ?_
  refine k_istore_n (i := 1) (lv' := [(1, .int r_3), (0, .ref (a 0))]) hA dX12_readHeard_18 rfl rfl (Nat.le_of_ble_eq_true rfl) rfl ?_
  refine k_aload_n (i := 0) hA dX12_readHeard_19 rfl 1 rfl ?_
  refine k_iconst hA dX12_readHeard_20 kc_i_0 ?_
  refine k_callVi (As := [.int (0 : Int32)]) (rest := []) hA (m_M_knownOne_R l G a tv n (0 : Int32) t_2 ht_4) cd_X12_knownOne wd_1571 (hc_MR_0 G.2.1 a tv t_2) rfl rfl (Nat.le_of_ble_eq_true rfl) rfl rfl (Nat.le_of_ble_eq_true rfl) dX12_readHeard_21 ?_
  refine k_istore_n (i := 2) (lv' := [(2, .int r_5), (1, .int r_3), (0, .ref (a 0))]) hA dX12_readHeard_24 rfl rfl (Nat.le_of_ble_eq_true rfl) rfl ?_
  refine k_aload_n (i := 0) hA dX12_readHeard_25 rfl 2 rfl ?_
  refine gt_MR_0_9 hA wd_1257 dX12_readHeard_26 ?_
  refine k_bipush hA dX12_readHeard_29 kc_b_6 ?_
  refine k_icmp_eq (tgt := 55) hA dX12_readHeard_31 rfl (fun hc => ?_) (fun hc => ?_)
  · have hf := k_ift hc hf
    refine k_pick (lv' := [(0, .ref (a 0)), (1, .int r_3), (2, .int r_5)]) [2, 1, 0] rfl ?_
    exact m_M_readHeard_R_55 l G a tv n hA hr r_3 r_5 t_4 hf
  have hf := k_iff hc hf
  obtain ⟨hi_6, hf⟩ := k_gi_e hf
  refine k_aload_n (i := 0) hA dX12_readHeard_34 rfl 2 rfl ?_
  refine gt_MR_0_4 hA wd_1252 dX12_readHeard_35 ?_
  refine gt_MR_18_14N hA rfl nf_294 dX12_readHeard_38 ?_
  refine k_iload_n (i := 1) hA dX12_readHeard_41 rfl 1 rfl ?_
  refine ld_MR_24 hA hi_6 dX12_readHeard_42 ?_
  refine k_iload_n (i := 2) hA dX12_readHeard_43 rfl 0 rfl ?_
  refine k_callSi (As := [.int (t_4.1 24 r_3.toNatClampNeg), .int r_5]) (rest := []) hA (m_M_bit l G (k_WR G.2.1 a tv t_4) (t_4.1 24 r_3.toNatClampNeg) r_5 rfl) cd_X12_bit wd_1575 (Nat.le_of_ble_eq_true rfl) rfl rfl (Nat.le_of_ble_eq_true rfl) dX12_readHeard_44 ?_
  refine k_if_eq (tgt := 55) hA dX12_readHeard_47 rfl (fun hc => ?_) (fun hc => ?_)
  · have hf := k_ift hc hf
    refine k_pick (lv' := [(0, .ref (a 0)), (1, .int r_3), (2, .int r_5)]) [2, 1, 0] rfl ?_
    exact m_M_readHeard_R_55 l G a tv n hA hr r_3 r_5 t_4 hf
  have hf := k_iff hc hf
  obtain ⟨t_7, ht_7, hf⟩ := k_lt_e hf
  refine k_aload_n (i := 0) hA dX12_readHeard_50 rfl 2 rfl ?_
  refine k_iconst hA dX12_readHeard_51 kc_i_3 ?_
  refine k_callVv (As := [.int (3 : Int32)]) (rest := []) hA (m_M_flaw_R l G a tv (3 : Int32) t_4 ht_7.symm) cd_X12_flaw wd_1508 (hc_MR_0 G.2.1 a tv t_4) rfl rfl (Nat.le_of_ble_eq_true rfl) rfl rfl (Nat.le_of_ble_eq_true rfl) dX12_readHeard_52 ?_
  refine k_pick (lv' := [(0, .ref (a 0)), (1, .int r_3), (2, .int r_5)]) [2, 1, 0] rfl ?_
  exact m_M_readHeard_R_55 l G a tv n hA hr r_3 r_5 t_7 hf

def f_M_readFresh_R_12 (n : Nat) (t : k_St) : Option (Int64 × k_St) := k_cp (f_Mt_find_R n t (t.2 0 14)) (fun r_1 => (if r_1 = (-1 : Int32) then k_lt (t.2 0 14) (fun x1_2 => k_cv (f_M_goesOn_R n t) (fun t_3 => some (x1_2, t_3))) else k_lt (f_M_flaw_R (3 : Int32) t) (fun t_4 => k_lt (t_4.2 0 14) (fun x1_5 => k_cv (f_M_goesOn_R n t_4) (fun t_6 => some (x1_5, t_6))))))
def f_M_readFresh_R (n : Nat) (t : k_St) : Option (Int64 × k_St) := k_cp (f_M_isName_R n t) (fun r_1 => (if (k_b r_1) = 0 then k_lt (f_M_flaw_R (1 : Int32) t) (fun t_2 => f_M_readFresh_R_12 n t_2) else f_M_readFresh_R_12 n t))
theorem m_M_readFresh_R_12 {p : Program} (l : Launch) {e : Env} {s : State} {m : MethodId} {args : Array Value} {below : List Frame} {meth : Method} {c : Code} (G : k_G) (a : Nat → Nat) (tv : Value) (n : Nat) {w0 : va_W} {r : Int64} {t' : k_St} (hA : k_Amb p s m args meth c cX12_readFresh 3 "TaleSharesModel" G (va_A w0 s.heap.size)) (hr : meth.sig.returnType = (some .long)) : ∀ (t : k_St), f_M_readFresh_R_12 n t = some (r, t') → k_Go p l e (k_rm 8) s m args below meth c (k_QL G w0 r (k_WR G.2.1 a tv t') args s below) 3 G (va_A w0 s.heap.size) (k_WR G.2.1 a tv t) 12 [(0, .ref (a 0))] [] := by
  intro t hf
  unfold f_M_readFresh_R_12 at hf
  obtain ⟨r_1, hr_1, hf⟩ := k_cp_e hf
  refine k_aload_n (i := 0) hA dX12_readFresh_12 rfl 0 rfl ?_
  refine gt_MR_0_4 hA wd_1252 dX12_readFresh_13 ?_
  refine k_aload_n (i := 0) hA dX12_readFresh_16 rfl 0 rfl ?_
  refine gt_MR_0_14 hA wd_1262 dX12_readFresh_17 ?_
  refine k_callVi (As := [.long (t.2 0 14)]) (rest := []) hA (m_Mt_find_R l G a tv n t (t.2 0 14) hr_1) cd_X11_find wd_1551 (hc_MR_18 G.2.1 a tv t) rfl rfl (Nat.le_of_ble_eq_true rfl) rfl rfl (Nat.le_of_ble_eq_true rfl) dX12_readFresh_20 ?_
  refine k_iconst hA dX12_readFresh_23 kc_i_m1 ?_
  refine k_icmp_eq (tgt := 32) hA dX12_readFresh_24 rfl (fun hc => ?_) (fun hc => ?_)
  · have hf := k_ift hc hf
    obtain ⟨x1_2, ex1_2, hf⟩ := k_lt_e hf
    obtain ⟨t_3, ht_3, hf⟩ := k_cv_e hf
    obtain ⟨rfl, rfl⟩ := k_r2 hf
    refine k_aload_n (i := 0) hA dX12_readFresh_32 rfl 0 rfl ?_
    refine gt_MR_0_14 hA wd_1262 dX12_readFresh_33 ?_
    refine k_lstore_n (i := 1) (lv' := [(1, .long x1_2), (0, .ref (a 0))]) hA dX12_readFresh_36 rfl ex1_2 (Nat.le_of_ble_eq_true rfl) rfl ?_
    refine k_aload_n (i := 0) hA dX12_readFresh_37 rfl 1 rfl ?_
    refine k_callVv (As := []) (rest := []) hA (m_M_goesOn_R l G a tv n t ht_3) cd_X12_goesOn wd_1471 (hc_MR_0 G.2.1 a tv t) rfl rfl (Nat.le_of_ble_eq_true rfl) rfl rfl (Nat.le_of_ble_eq_true rfl) dX12_readFresh_38 ?_
    refine k_lload_n (i := 1) hA dX12_readFresh_41 rfl 0 rfl ?_
    exact k_lret hA hr dX12_readFresh_42
  have hf := k_iff hc hf
  obtain ⟨t_4, ht_4, hf⟩ := k_lt_e hf
  obtain ⟨x1_5, ex1_5, hf⟩ := k_lt_e hf
  obtain ⟨t_6, ht_6, hf⟩ := k_cv_e hf
  obtain ⟨rfl, rfl⟩ := k_r2 hf
  refine k_aload_n (i := 0) hA dX12_readFresh_27 rfl 0 rfl ?_
  refine k_iconst hA dX12_readFresh_28 kc_i_3 ?_
  refine k_callVv (As := [.int (3 : Int32)]) (rest := []) hA (m_M_flaw_R l G a tv (3 : Int32) t ht_4.symm) cd_X12_flaw wd_1508 (hc_MR_0 G.2.1 a tv t) rfl rfl (Nat.le_of_ble_eq_true rfl) rfl rfl (Nat.le_of_ble_eq_true rfl) dX12_readFresh_29 ?_
  refine k_aload_n (i := 0) hA dX12_readFresh_32 rfl 0 rfl ?_
  refine gt_MR_0_14 hA wd_1262 dX12_readFresh_33 ?_
  refine k_lstore_n (i := 1) (lv' := [(1, .long x1_5), (0, .ref (a 0))]) hA dX12_readFresh_36 rfl ex1_5 (Nat.le_of_ble_eq_true rfl) rfl ?_
  refine k_aload_n (i := 0) hA dX12_readFresh_37 rfl 1 rfl ?_
  refine k_callVv (As := []) (rest := []) hA (m_M_goesOn_R l G a tv n t_4 ht_6) cd_X12_goesOn wd_1471 (hc_MR_0 G.2.1 a tv t_4) rfl rfl (Nat.le_of_ble_eq_true rfl) rfl rfl (Nat.le_of_ble_eq_true rfl) dX12_readFresh_38 ?_
  refine k_lload_n (i := 1) hA dX12_readFresh_41 rfl 0 rfl ?_
  exact k_lret hA hr dX12_readFresh_42

theorem m_M_readFresh_R (l : Launch) (G : k_G) (a : Nat → Nat) (tv : Value) (n : Nat) (t : k_St) {r : Int64} {t' : k_St} (hf : f_M_readFresh_R n t = some (r, t')) : k_CL l G yX12_readFresh cX12_readFresh 3 (some .long) 8 (k_WR G.2.1 a tv t) [.ref (a 0)] r (k_WR G.2.1 a tv t') := by
  refine k_startL (lv := [(0, .ref (a 0))]) (by decide +kernel) (Nat.le_of_ble_eq_true rfl) rfl ?_
  intro p e s m args below meth c hA hr
  have hA : k_Amb p s m args meth c cX12_readFresh 3 "TaleSharesModel" G _ := hA
  unfold f_M_readFresh_R at hf
  obtain ⟨r_1, hr_1, hf⟩ := k_cp_e hf
  refine k_aload_n (i := 0) hA dX12_readFresh_0 rfl 0 rfl ?_
  refine k_callVi (As := []) (rest := []) hA (m_M_isName_R l G a tv n t hr_1) cd_X12_isName wd_1542 (hc_MR_0 G.2.1 a tv t) rfl rfl (Nat.le_of_ble_eq_true rfl) rfl rfl (Nat.le_of_ble_eq_true rfl) dX12_readFresh_1 ?_
  refine k_if_ne (tgt := 12) hA dX12_readFresh_4 rfl (fun hc => ?_) (fun hc => ?_)
  · have hf := k_iff hc hf
    exact m_M_readFresh_R_12 l G a tv n hA hr t hf
  have hf := k_ift hc hf
  obtain ⟨t_2, ht_2, hf⟩ := k_lt_e hf
  refine k_aload_n (i := 0) hA dX12_readFresh_7 rfl 0 rfl ?_
  refine k_iconst hA dX12_readFresh_8 kc_i_1 ?_
  refine k_callVv (As := [.int (1 : Int32)]) (rest := []) hA (m_M_flaw_R l G a tv (1 : Int32) t ht_2.symm) cd_X12_flaw wd_1508 (hc_MR_0 G.2.1 a tv t) rfl rfl (Nat.le_of_ble_eq_true rfl) rfl rfl (Nat.le_of_ble_eq_true rfl) dX12_readFresh_9 ?_
  exact m_M_readFresh_R_12 l G a tv n hA hr t_2 hf

def f_M_needs_R (n : Nat) (q : Nat) (t : k_St) : Option k_St := k_cp (f_M_isWord_R n q t) (fun r_1 => (if (k_b r_1) = 0 then k_lt (f_M_flaw_R (1 : Int32) t) (fun t_3 => k_cv (f_M_goesOn_R n t_3) (fun t_4 => some t_4)) else k_cv (f_M_goesOn_R n t) (fun t_2 => some t_2)))
theorem m_M_needs_R (l : Launch) (G : k_G) (a : Nat → Nat) (tv : Value) (n : Nat) (q : Nat) (hq : q < 16) (t : k_St) {t' : k_St} (hf : f_M_needs_R n q t = some t') : k_CV l G yX12_needs cX12_needs 2 none 7 (k_WR G.2.1 a tv t) [.ref (a 0), .ref (G.2.2.1 q)] (k_WR G.2.1 a tv t') := by
  refine k_startV (lv := [(0, .ref (a 0)), (1, .ref (G.2.2.1 q))]) (by decide +kernel) (Nat.le_of_ble_eq_true rfl) rfl ?_
  intro p e s m args below meth c hA hr
  have hA : k_Amb p s m args meth c cX12_needs 2 "TaleSharesModel" G _ := hA
  unfold f_M_needs_R at hf
  obtain ⟨r_1, hr_1, hf⟩ := k_cp_e hf
  refine k_aload_n (i := 0) hA dX12_needs_0 rfl 0 rfl ?_
  refine k_aload_n (i := 1) hA dX12_needs_1 rfl 1 rfl ?_
  refine k_callVi (As := [.ref (G.2.2.1 q)]) (rest := []) hA (m_M_isWord_R l G a tv n q hq t hr_1) cd_X12_isWord wd_1495 (hc_MR_0 G.2.1 a tv t) rfl rfl (Nat.le_of_ble_eq_true rfl) rfl rfl (Nat.le_of_ble_eq_true rfl) dX12_needs_2 ?_
  refine k_if_ne (tgt := 13) hA dX12_needs_5 rfl (fun hc => ?_) (fun hc => ?_)
  · have hf := k_iff hc hf
    obtain ⟨t_2, ht_2, hf⟩ := k_cv_e hf
    obtain rfl := k_r1 hf
    refine k_aload_n (i := 0) hA dX12_needs_13 rfl 0 rfl ?_
    refine k_callVv (As := []) (rest := []) hA (m_M_goesOn_R l G a tv n t ht_2) cd_X12_goesOn wd_1471 (hc_MR_0 G.2.1 a tv t) rfl rfl (Nat.le_of_ble_eq_true rfl) rfl rfl (Nat.le_of_ble_eq_true rfl) dX12_needs_14 ?_
    exact k_vret hA hr dX12_needs_17
  have hf := k_ift hc hf
  obtain ⟨t_3, ht_3, hf⟩ := k_lt_e hf
  obtain ⟨t_4, ht_4, hf⟩ := k_cv_e hf
  obtain rfl := k_r1 hf
  refine k_aload_n (i := 0) hA dX12_needs_8 rfl 0 rfl ?_
  refine k_iconst hA dX12_needs_9 kc_i_1 ?_
  refine k_callVv (As := [.int (1 : Int32)]) (rest := []) hA (m_M_flaw_R l G a tv (1 : Int32) t ht_3.symm) cd_X12_flaw wd_1508 (hc_MR_0 G.2.1 a tv t) rfl rfl (Nat.le_of_ble_eq_true rfl) rfl rfl (Nat.le_of_ble_eq_true rfl) dX12_needs_10 ?_
  refine k_aload_n (i := 0) hA dX12_needs_13 rfl 0 rfl ?_
  refine k_callVv (As := []) (rest := []) hA (m_M_goesOn_R l G a tv n t_3 ht_4) cd_X12_goesOn wd_1471 (hc_MR_0 G.2.1 a tv t_3) rfl rfl (Nat.le_of_ble_eq_true rfl) rfl rfl (Nat.le_of_ble_eq_true rfl) dX12_needs_14 ?_
  exact k_vret hA hr dX12_needs_17

def f_M_in (x0 : Int32) (x1 : Int32) (x2 : Int32) : Bool := (if x0 < x1 then false else (if x2 < x0 then false else true))
theorem m_M_in (l : Launch) (G : k_G) (w : va_W) (x0 : Int32) (x1 : Int32) (x2 : Int32) {r : Bool} (hf : f_M_in x0 x1 x2 = r) : k_CI l G yX12_in cX12_in 3 (some .boolean) 1 w [.int x0, .int x1, .int x2] (k_b r) w := by
  refine k_startI (lv := [(0, .int x0), (1, .int x1), (2, .int x2)]) (by decide +kernel) (Nat.le_of_ble_eq_true rfl) rfl ?_
  intro p e s m args below meth c hA hr
  have hA : k_Amb p s m args meth c cX12_in 3 "TaleSharesModel" G _ := hA
  unfold f_M_in at hf
  refine k_iload_n (i := 0) hA dX12_in_0 rfl 0 rfl ?_
  refine k_iload_n (i := 1) hA dX12_in_1 rfl 1 rfl ?_
  refine k_icmp_lt (tgt := 14) hA dX12_in_2 rfl (fun hc => ?_) (fun hc => ?_)
  · have hf := k_ift hc hf
    subst hf
    refine k_iconst hA dX12_in_14 kc_i_0 ?_
    exact k_iret hA hr (k_narB (k_b01 _)) dX12_in_15
  have hf := k_iff hc hf
  refine k_iload_n (i := 0) hA dX12_in_5 rfl 0 rfl ?_
  refine k_iload_n (i := 2) hA dX12_in_6 rfl 2 rfl ?_
  refine k_icmp_gt (tgt := 14) hA dX12_in_7 rfl (fun hc => ?_) (fun hc => ?_)
  · have hf := k_ift hc hf
    subst hf
    refine k_iconst hA dX12_in_14 kc_i_0 ?_
    exact k_iret hA hr (k_narB (k_b01 _)) dX12_in_15
  have hf := k_iff hc hf
  subst hf
  refine k_iconst hA dX12_in_10 kc_i_1 ?_
  refine k_goto (tgt := 15) hA dX12_in_11 rfl ?_
  exact k_iret hA hr (k_narB (k_b01 _)) dX12_in_15

def f_M_readWhole_R_33 (n : Nat) (x1 : Int32) (t : k_St) : Option (Int32 × k_St) := (if (t.1 0 9) = (6 : Int32) then k_cv (f_M_goesOn_R n t) (fun t_3 => some (x1, t_3)) else k_lt (t.1 0 11) (fun x3_1 => k_cv (f_M_goesOn_R n t) (fun t_2 => some (x3_1, t_2))))
def f_M_readWhole_R (n : Nat) (x1 : Int32) (x2 : Int32) (t : k_St) : Option (Int32 × k_St) := (if (t.1 0 9) = (3 : Int32) then (if (k_b (f_M_in (t.1 0 11) x1 x2)) = 0 then k_lt (f_M_flaw_R (4 : Int32) t) (fun t_1 => f_M_readWhole_R_33 n x1 t_1) else f_M_readWhole_R_33 n x1 t) else k_lt (f_M_flaw_R (1 : Int32) t) (fun t_2 => f_M_readWhole_R_33 n x1 t_2))
theorem m_M_readWhole_R_33 {p : Program} (l : Launch) {e : Env} {s : State} {m : MethodId} {args : Array Value} {below : List Frame} {meth : Method} {c : Code} (G : k_G) (a : Nat → Nat) (tv : Value) (n : Nat) {w0 : va_W} {r : Int32} {t' : k_St} (hA : k_Amb p s m args meth c cX12_readWhole 4 "TaleSharesModel" G (va_A w0 s.heap.size)) (hr : meth.sig.returnType = (some .int)) : ∀ (x1 : Int32) (t : k_St), f_M_readWhole_R_33 n x1 t = some (r, t') → k_Go p l e (k_rm 3) s m args below meth c (k_QI G w0 r (k_WR G.2.1 a tv t') args s below) 4 G (va_A w0 s.heap.size) (k_WR G.2.1 a tv t) 33 [(0, .ref (a 0)), (1, .int x1)] [] := by
  intro x1 t hf
  unfold f_M_readWhole_R_33 at hf
  refine k_aload_n (i := 0) hA dX12_readWhole_33 rfl 0 rfl ?_
  refine gt_MR_0_9 hA wd_1257 dX12_readWhole_34 ?_
  refine k_bipush hA dX12_readWhole_37 kc_b_6 ?_
  refine k_icmp_ne (tgt := 46) hA dX12_readWhole_39 rfl (fun hc => ?_) (fun hc => ?_)
  · have hf := k_iff hc hf
    obtain ⟨x3_1, ex3_1, hf⟩ := k_lt_e hf
    obtain ⟨t_2, ht_2, hf⟩ := k_cv_e hf
    obtain ⟨rfl, rfl⟩ := k_r2 hf
    refine k_aload_n (i := 0) hA dX12_readWhole_46 rfl 0 rfl ?_
    refine gt_MR_0_11 hA wd_1259 dX12_readWhole_47 ?_
    refine k_istore_n (i := 3) (lv' := [(3, .int x3_1), (0, .ref (a 0)), (1, .int x1)]) hA dX12_readWhole_50 rfl ex3_1 (Nat.le_of_ble_eq_true rfl) rfl ?_
    refine k_aload_n (i := 0) hA dX12_readWhole_51 rfl 1 rfl ?_
    refine k_callVv (As := []) (rest := []) hA (m_M_goesOn_R l G a tv n t ht_2) cd_X12_goesOn wd_1471 (hc_MR_0 G.2.1 a tv t) rfl rfl (Nat.le_of_ble_eq_true rfl) rfl rfl (Nat.le_of_ble_eq_true rfl) dX12_readWhole_52 ?_
    refine k_iload_n (i := 3) hA dX12_readWhole_55 rfl 0 rfl ?_
    exact k_iret hA hr rfl dX12_readWhole_56
  have hf := k_ift hc hf
  obtain ⟨t_3, ht_3, hf⟩ := k_cv_e hf
  obtain ⟨rfl, rfl⟩ := k_r2 hf
  refine k_iload_n (i := 1) hA dX12_readWhole_42 rfl 1 rfl ?_
  refine k_goto (tgt := 50) hA dX12_readWhole_43 rfl ?_
  refine k_istore_n (i := 3) (lv' := [(3, .int x1), (0, .ref (a 0)), (1, .int x1)]) hA dX12_readWhole_50 rfl rfl (Nat.le_of_ble_eq_true rfl) rfl ?_
  refine k_aload_n (i := 0) hA dX12_readWhole_51 rfl 1 rfl ?_
  refine k_callVv (As := []) (rest := []) hA (m_M_goesOn_R l G a tv n t ht_3) cd_X12_goesOn wd_1471 (hc_MR_0 G.2.1 a tv t) rfl rfl (Nat.le_of_ble_eq_true rfl) rfl rfl (Nat.le_of_ble_eq_true rfl) dX12_readWhole_52 ?_
  refine k_iload_n (i := 3) hA dX12_readWhole_55 rfl 0 rfl ?_
  exact k_iret hA hr rfl dX12_readWhole_56

theorem m_M_readWhole_R (l : Launch) (G : k_G) (a : Nat → Nat) (tv : Value) (n : Nat) (x1 : Int32) (x2 : Int32) (t : k_St) {r : Int32} {t' : k_St} (hf : f_M_readWhole_R n x1 x2 t = some (r, t')) : k_CI l G yX12_readWhole cX12_readWhole 4 (some .int) 3 (k_WR G.2.1 a tv t) [.ref (a 0), .int x1, .int x2] r (k_WR G.2.1 a tv t') := by
  refine k_startI (lv := [(0, .ref (a 0)), (1, .int x1), (2, .int x2)]) (by decide +kernel) (Nat.le_of_ble_eq_true rfl) rfl ?_
  intro p e s m args below meth c hA hr
  have hA : k_Amb p s m args meth c cX12_readWhole 4 "TaleSharesModel" G _ := hA
  unfold f_M_readWhole_R at hf
  refine k_aload_n (i := 0) hA dX12_readWhole_0 rfl 0 rfl ?_
  refine gt_MR_0_9 hA wd_1257 dX12_readWhole_1 ?_
  refine k_iconst hA dX12_readWhole_4 kc_i_3 ?_
  refine k_icmp_eq (tgt := 16) hA dX12_readWhole_5 rfl (fun hc => ?_) (fun hc => ?_)
  · have hf := k_ift hc hf
    refine k_aload_n (i := 0) hA dX12_readWhole_16 rfl 0 rfl ?_
    refine gt_MR_0_11 hA wd_1259 dX12_readWhole_17 ?_
    refine k_iload_n (i := 1) hA dX12_readWhole_20 rfl 1 rfl ?_
    refine k_iload_n (i := 2) hA dX12_readWhole_21 rfl 2 rfl ?_
    refine k_callSi (As := [.int (t.1 0 11), .int x1, .int x2]) (rest := []) hA (m_M_in l G (k_WR G.2.1 a tv t) (t.1 0 11) x1 x2 rfl) cd_X12_in wd_1525 (Nat.le_of_ble_eq_true rfl) rfl rfl (Nat.le_of_ble_eq_true rfl) dX12_readWhole_22 ?_
    refine k_if_ne (tgt := 33) hA dX12_readWhole_25 rfl (fun hc => ?_) (fun hc => ?_)
    · have hf := k_iff hc hf
      refine k_pick (lv' := [(0, .ref (a 0)), (1, .int x1)]) [0, 1] rfl ?_
      exact m_M_readWhole_R_33 l G a tv n hA hr x1 t hf
    have hf := k_ift hc hf
    obtain ⟨t_1, ht_1, hf⟩ := k_lt_e hf
    refine k_aload_n (i := 0) hA dX12_readWhole_28 rfl 0 rfl ?_
    refine k_iconst hA dX12_readWhole_29 kc_i_4 ?_
    refine k_callVv (As := [.int (4 : Int32)]) (rest := []) hA (m_M_flaw_R l G a tv (4 : Int32) t ht_1.symm) cd_X12_flaw wd_1508 (hc_MR_0 G.2.1 a tv t) rfl rfl (Nat.le_of_ble_eq_true rfl) rfl rfl (Nat.le_of_ble_eq_true rfl) dX12_readWhole_30 ?_
    refine k_pick (lv' := [(0, .ref (a 0)), (1, .int x1)]) [0, 1] rfl ?_
    exact m_M_readWhole_R_33 l G a tv n hA hr x1 t_1 hf
  have hf := k_iff hc hf
  obtain ⟨t_2, ht_2, hf⟩ := k_lt_e hf
  refine k_aload_n (i := 0) hA dX12_readWhole_8 rfl 0 rfl ?_
  refine k_iconst hA dX12_readWhole_9 kc_i_1 ?_
  refine k_callVv (As := [.int (1 : Int32)]) (rest := []) hA (m_M_flaw_R l G a tv (1 : Int32) t ht_2.symm) cd_X12_flaw wd_1508 (hc_MR_0 G.2.1 a tv t) rfl rfl (Nat.le_of_ble_eq_true rfl) rfl rfl (Nat.le_of_ble_eq_true rfl) dX12_readWhole_10 ?_
  refine k_goto (tgt := 33) hA dX12_readWhole_13 rfl ?_
  refine k_pick (lv' := [(0, .ref (a 0)), (1, .int x1)]) [0, 1] rfl ?_
  exact m_M_readWhole_R_33 l G a tv n hA hr x1 t_2 hf

def f_M_readPart_R (n : Nat) (q : Nat) (x2 : Int32) (x3 : Int32) (t : k_St) : Option (Int32 × k_St) := k_cv (f_M_needs_R n q t) (fun t_1 => k_cl (f_M_readWhole_R n x2 x3 t_1) (fun r_3 t_2 => some (r_3, t_2)))
theorem m_M_readPart_R (l : Launch) (G : k_G) (a : Nat → Nat) (tv : Value) (n : Nat) (q : Nat) (hq : q < 16) (x2 : Int32) (x3 : Int32) (t : k_St) {r : Int32} {t' : k_St} (hf : f_M_readPart_R n q x2 x3 t = some (r, t')) : k_CI l G yX12_readPart cX12_readPart 4 (some .int) 8 (k_WR G.2.1 a tv t) [.ref (a 0), .ref (G.2.2.1 q), .int x2, .int x3] r (k_WR G.2.1 a tv t') := by
  refine k_startI (lv := [(0, .ref (a 0)), (1, .ref (G.2.2.1 q)), (2, .int x2), (3, .int x3)]) (by decide +kernel) (Nat.le_of_ble_eq_true rfl) rfl ?_
  intro p e s m args below meth c hA hr
  have hA : k_Amb p s m args meth c cX12_readPart 4 "TaleSharesModel" G _ := hA
  unfold f_M_readPart_R at hf
  obtain ⟨t_1, ht_1, hf⟩ := k_cv_e hf
  obtain ⟨r_3, t_2, ht_2, hf⟩ := k_cl_e hf
  obtain ⟨rfl, rfl⟩ := k_r2 hf
  refine k_aload_n (i := 0) hA dX12_readPart_0 rfl 0 rfl ?_
  refine k_aload_n (i := 1) hA dX12_readPart_1 rfl 1 rfl ?_
  refine k_callVv (As := [.ref (G.2.2.1 q)]) (rest := []) hA (m_M_needs_R l G a tv n q hq t ht_1) cd_X12_needs wd_1517 (hc_MR_0 G.2.1 a tv t) rfl rfl (Nat.le_of_ble_eq_true rfl) rfl rfl (Nat.le_of_ble_eq_true rfl) dX12_readPart_2 ?_
  refine k_aload_n (i := 0) hA dX12_readPart_5 rfl 0 rfl ?_
  refine k_iload_n (i := 2) hA dX12_readPart_6 rfl 2 rfl ?_
  refine k_iload_n (i := 3) hA dX12_readPart_7 rfl 3 rfl ?_
  refine k_callVi (As := [.int x2, .int x3]) (rest := []) hA (m_M_readWhole_R l G a tv n x2 x3 t_1 ht_2) cd_X12_readWhole wd_1521 (hc_MR_0 G.2.1 a tv t_1) rfl rfl (Nat.le_of_ble_eq_true rfl) rfl rfl (Nat.le_of_ble_eq_true rfl) dX12_readPart_8 ?_
  exact k_iret hA hr rfl dX12_readPart_11

def f_M_names_R (x1 : Int64) (x3 : Int32) (x4 : Int32) (t : k_St) : Option k_St := k_gi (t.1 18 8) 13 (k_lt (k_sL t 26 (t.1 18 8).toNatClampNeg x1) (fun t_2 => k_gi (t_2.1 18 8) 13 (k_lt (k_sI t_2 27 (t_2.1 18 8).toNatClampNeg x3) (fun t_4 => k_gi (t_4.1 18 8) 13 (k_lt (k_sI t_4 28 (t_4.1 18 8).toNatClampNeg x4) (fun t_6 => k_lt (k_sI t_6 18 8 ((t_6.1 18 8) + (1 : Int32))) (fun t_7 => some t_7)))))))
theorem m_M_names_R (l : Launch) (G : k_G) (a : Nat → Nat) (tv : Value) (x1 : Int64) (x3 : Int32) (x4 : Int32) (t : k_St) {t' : k_St} (hf : f_M_names_R x1 x3 x4 t = some t') : k_CV l G yX12_names cX12_names 5 none 1 (k_WR G.2.1 a tv t) [.ref (a 0), .long x1, .int x3, .int x4] (k_WR G.2.1 a tv t') := by
  refine k_startV (lv := [(0, .ref (a 0)), (1, .long x1), (3, .int x3), (4, .int x4)]) (by decide +kernel) (Nat.le_of_ble_eq_true rfl) rfl ?_
  intro p e s m args below meth c hA hr
  have hA : k_Amb p s m args meth c cX12_names 5 "TaleSharesModel" G _ := hA
  unfold f_M_names_R at hf
  obtain ⟨hi_1, hf⟩ := k_gi_e hf
  obtain ⟨t_2, et_2, hf⟩ := k_lt_e hf
  obtain ⟨hi_3, hf⟩ := k_gi_e hf
  obtain ⟨t_4, et_4, hf⟩ := k_lt_e hf
  obtain ⟨hi_5, hf⟩ := k_gi_e hf
  obtain ⟨t_6, et_6, hf⟩ := k_lt_e hf
  obtain ⟨t_7, et_7, hf⟩ := k_lt_e hf
  obtain rfl := k_r1 hf
  refine k_aload_n (i := 0) hA dX12_names_0 rfl 0 rfl ?_
  refine gt_MR_0_4 hA wd_1252 dX12_names_1 ?_
  refine gt_MR_18_16N hA rfl nf_188 dX12_names_4 ?_
  refine k_aload_n (i := 0) hA dX12_names_7 rfl 0 rfl ?_
  refine gt_MR_0_4 hA wd_1252 dX12_names_8 ?_
  refine gt_MR_18_8N hA rfl nf_192 dX12_names_11 ?_
  refine k_lload_n (i := 1) hA dX12_names_14 rfl 1 rfl ?_
  refine sr_MR_26 hA hi_1 et_2 dX12_names_15 ?_
  refine k_aload_n (i := 0) hA dX12_names_16 rfl 0 rfl ?_
  refine gt_MR_0_4 hA wd_1252 dX12_names_17 ?_
  refine gt_MR_18_17N hA rfl nf_195 dX12_names_20 ?_
  refine k_aload_n (i := 0) hA dX12_names_23 rfl 0 rfl ?_
  refine gt_MR_0_4 hA wd_1252 dX12_names_24 ?_
  refine gt_MR_18_8N hA rfl nf_192 dX12_names_27 ?_
  refine k_iload_n (i := 3) hA dX12_names_30 rfl 2 rfl ?_
  refine sr_MR_27 hA hi_3 et_4 dX12_names_31 ?_
  refine k_aload_n (i := 0) hA dX12_names_32 rfl 0 rfl ?_
  refine gt_MR_0_4 hA wd_1252 dX12_names_33 ?_
  refine gt_MR_18_18N hA rfl nf_198 dX12_names_36 ?_
  refine k_aload_n (i := 0) hA dX12_names_39 rfl 0 rfl ?_
  refine gt_MR_0_4 hA wd_1252 dX12_names_40 ?_
  refine gt_MR_18_8N hA rfl nf_192 dX12_names_43 ?_
  refine k_iload hA dX12_names_46 3 rfl ?_
  refine sr_MR_28 hA hi_5 et_6 dX12_names_48 ?_
  refine k_aload_n (i := 0) hA dX12_names_49 rfl 0 rfl ?_
  refine gt_MR_0_4 hA wd_1252 dX12_names_50 ?_
  refine k_dup hA dX12_names_53 rfl ?_
  refine gt_MR_18_8N hA rfl nf_192 dX12_names_54 ?_
  refine k_iconst hA dX12_names_57 kc_i_1 ?_
  refine k_iadd hA dX12_names_58 ?_
  refine pt_MR_18_8N hA rfl nf_192 et_7 dX12_names_59 ?_
  exact k_vret hA hr dX12_names_62

def f_M_readHouse_R (n : Nat) (t : k_St) : Option k_St := k_cv (f_M_lineBegins_R n (t.1 18 4) (5 : Int32) t) (fun t_1 => k_cl (f_M_readFresh_R n t_1) (fun r_3 t_2 => k_cl (f_M_readPart_R n 13 (0 : Int32) (99 : Int32) t_2) (fun r_5 t_4 => k_cl (f_M_readPart_R n 14 (0 : Int32) (23 : Int32) t_4) (fun r_7 t_6 => k_cl (f_M_readPart_R n 15 r_7 (23 : Int32) t_6) (fun r_9 t_8 => (if (t_8.1 0 9) = (6 : Int32) then some t_8 else k_cv (f_M_names_R r_3 (1 : Int32) (t_8.1 18 4) t_8) (fun t_10 => k_gi (t_10.1 18 4) 5 (k_lt (k_sI t_10 21 (t_10.1 18 4).toNatClampNeg r_5) (fun t_12 => k_gi (t_12.1 18 4) 5 (k_lt (k_sI t_12 22 (t_12.1 18 4).toNatClampNeg r_7) (fun t_14 => k_gi (t_14.1 18 4) 5 (k_lt (k_sI t_14 23 (t_14.1 18 4).toNatClampNeg r_9) (fun t_16 => k_lt (k_sI t_16 18 4 ((t_16.1 18 4) + (1 : Int32))) (fun t_17 => some t_17))))))))))))))
theorem m_M_readHouse_R (l : Launch) (G : k_G) (a : Nat → Nat) (tv : Value) (n : Nat) (t : k_St) {t' : k_St} (hf : f_M_readHouse_R n t = some t') : k_CV l G yX12_readHouse cX12_readHouse 6 none 9 (k_WR G.2.1 a tv t) [.ref (a 0)] (k_WR G.2.1 a tv t') := by
  refine k_startV (lv := [(0, .ref (a 0))]) (by decide +kernel) (Nat.le_of_ble_eq_true rfl) rfl ?_
  intro p e s m args below meth c hA hr
  have hA : k_Amb p s m args meth c cX12_readHouse 6 "TaleSharesModel" G _ := hA
  unfold f_M_readHouse_R at hf
  obtain ⟨t_1, ht_1, hf⟩ := k_cv_e hf
  obtain ⟨r_3, t_2, ht_2, hf⟩ := k_cl_e hf
  obtain ⟨r_5, t_4, ht_4, hf⟩ := k_cl_e hf
  obtain ⟨r_7, t_6, ht_6, hf⟩ := k_cl_e hf
  obtain ⟨r_9, t_8, ht_8, hf⟩ := k_cl_e hf
  refine k_aload_n (i := 0) hA dX12_readHouse_0 rfl 0 rfl ?_
  refine k_aload_n (i := 0) hA dX12_readHouse_1 rfl 0 rfl ?_
  refine gt_MR_0_4 hA wd_1252 dX12_readHouse_2 ?_
  refine gt_MR_18_4N hA rfl nf_277 dX12_readHouse_5 ?_
  refine k_iconst hA dX12_readHouse_8 kc_i_5 ?_
  refine k_callVv (As := [.int (t.1 18 4), .int (5 : Int32)]) (rest := []) hA (m_M_lineBegins_R l G a tv n (t.1 18 4) (5 : Int32) t ht_1) cd_X12_lineBegins wd_1534 (hc_MR_0 G.2.1 a tv t) rfl rfl (Nat.le_of_ble_eq_true rfl) rfl rfl (Nat.le_of_ble_eq_true rfl) dX12_readHouse_9 ?_
  refine k_aload_n (i := 0) hA dX12_readHouse_12 rfl 0 rfl ?_
  refine k_callVl (As := []) (rest := []) hA (m_M_readFresh_R l G a tv n t_1 ht_2) cd_X12_readFresh wd_1538 (hc_MR_0 G.2.1 a tv t_1) rfl rfl (Nat.le_of_ble_eq_true rfl) rfl rfl (Nat.le_of_ble_eq_true rfl) dX12_readHouse_13 ?_
  refine k_lstore_n (i := 1) (lv' := [(1, .long r_3), (0, .ref (a 0))]) hA dX12_readHouse_16 rfl rfl (Nat.le_of_ble_eq_true rfl) rfl ?_
  refine k_aload_n (i := 0) hA dX12_readHouse_17 rfl 1 rfl ?_
  refine k_ldcSw hA sq_RX12_280 dX12_readHouse_18 ?_
  refine k_iconst hA dX12_readHouse_21 kc_i_0 ?_
  refine k_bipush hA dX12_readHouse_22 kc_b_99 ?_
  refine k_callVi (As := [.ref (G.2.2.1 13), .int (0 : Int32), .int (99 : Int32)]) (rest := []) hA (m_M_readPart_R l G a tv n 13 (by decide) (0 : Int32) (99 : Int32) t_2 ht_4) cd_X12_readPart wd_1513 (hc_MR_0 G.2.1 a tv t_2) rfl rfl (Nat.le_of_ble_eq_true rfl) rfl rfl (Nat.le_of_ble_eq_true rfl) dX12_readHouse_24 ?_
  refine k_istore_n (i := 3) (lv' := [(3, .int r_5), (1, .long r_3), (0, .ref (a 0))]) hA dX12_readHouse_27 rfl rfl (Nat.le_of_ble_eq_true rfl) rfl ?_
  refine k_aload_n (i := 0) hA dX12_readHouse_28 rfl 2 rfl ?_
  refine k_ldcSw hA sq_RX12_282 dX12_readHouse_29 ?_
  refine k_iconst hA dX12_readHouse_32 kc_i_0 ?_
  refine k_bipush hA dX12_readHouse_33 kc_b_23 ?_
  refine k_callVi (As := [.ref (G.2.2.1 14), .int (0 : Int32), .int (23 : Int32)]) (rest := []) hA (m_M_readPart_R l G a tv n 14 (by decide) (0 : Int32) (23 : Int32) t_4 ht_6) cd_X12_readPart wd_1513 (hc_MR_0 G.2.1 a tv t_4) rfl rfl (Nat.le_of_ble_eq_true rfl) rfl rfl (Nat.le_of_ble_eq_true rfl) dX12_readHouse_35 ?_
  refine k_istore (lv' := [(4, .int r_7), (3, .int r_5), (1, .long r_3), (0, .ref (a 0))]) hA dX12_readHouse_38 rfl (Nat.le_of_ble_eq_true rfl) rfl ?_
  refine k_aload_n (i := 0) hA dX12_readHouse_40 rfl 3 rfl ?_
  refine k_ldcSw hA sq_RX12_284 dX12_readHouse_41 ?_
  refine k_iload hA dX12_readHouse_44 0 rfl ?_
  refine k_bipush hA dX12_readHouse_46 kc_b_23 ?_
  refine k_callVi (As := [.ref (G.2.2.1 15), .int r_7, .int (23 : Int32)]) (rest := []) hA (m_M_readPart_R l G a tv n 15 (by decide) r_7 (23 : Int32) t_6 ht_8) cd_X12_readPart wd_1513 (hc_MR_0 G.2.1 a tv t_6) rfl rfl (Nat.le_of_ble_eq_true rfl) rfl rfl (Nat.le_of_ble_eq_true rfl) dX12_readHouse_48 ?_
  refine k_istore (lv' := [(5, .int r_9), (4, .int r_7), (3, .int r_5), (1, .long r_3), (0, .ref (a 0))]) hA dX12_readHouse_51 rfl (Nat.le_of_ble_eq_true rfl) rfl ?_
  refine k_aload_n (i := 0) hA dX12_readHouse_53 rfl 4 rfl ?_
  refine gt_MR_0_9 hA wd_1257 dX12_readHouse_54 ?_
  refine k_bipush hA dX12_readHouse_57 kc_b_6 ?_
  refine k_icmp_ne (tgt := 63) hA dX12_readHouse_59 rfl (fun hc => ?_) (fun hc => ?_)
  · have hf := k_iff hc hf
    obtain ⟨t_10, ht_10, hf⟩ := k_cv_e hf
    obtain ⟨hi_11, hf⟩ := k_gi_e hf
    obtain ⟨t_12, et_12, hf⟩ := k_lt_e hf
    obtain ⟨hi_13, hf⟩ := k_gi_e hf
    obtain ⟨t_14, et_14, hf⟩ := k_lt_e hf
    obtain ⟨hi_15, hf⟩ := k_gi_e hf
    obtain ⟨t_16, et_16, hf⟩ := k_lt_e hf
    obtain ⟨t_17, et_17, hf⟩ := k_lt_e hf
    obtain rfl := k_r1 hf
    refine k_aload_n (i := 0) hA dX12_readHouse_63 rfl 4 rfl ?_
    refine k_lload_n (i := 1) hA dX12_readHouse_64 rfl 3 rfl ?_
    refine k_iconst hA dX12_readHouse_65 kc_i_1 ?_
    refine k_aload_n (i := 0) hA dX12_readHouse_66 rfl 4 rfl ?_
    refine gt_MR_0_4 hA wd_1252 dX12_readHouse_67 ?_
    refine gt_MR_18_4N hA rfl nf_277 dX12_readHouse_70 ?_
    refine k_callVv (As := [.long r_3, .int (1 : Int32), .int (t_8.1 18 4)]) (rest := []) hA (m_M_names_R l G a tv r_3 (1 : Int32) (t_8.1 18 4) t_8 ht_10) cd_X12_names wd_1559 (hc_MR_0 G.2.1 a tv t_8) rfl rfl (Nat.le_of_ble_eq_true rfl) rfl rfl (Nat.le_of_ble_eq_true rfl) dX12_readHouse_73 ?_
    refine k_aload_n (i := 0) hA dX12_readHouse_76 rfl 4 rfl ?_
    refine gt_MR_0_4 hA wd_1252 dX12_readHouse_77 ?_
    refine gt_MR_18_11N hA rfl nf_286 dX12_readHouse_80 ?_
    refine k_aload_n (i := 0) hA dX12_readHouse_83 rfl 4 rfl ?_
    refine gt_MR_0_4 hA wd_1252 dX12_readHouse_84 ?_
    refine gt_MR_18_4N hA rfl nf_277 dX12_readHouse_87 ?_
    refine k_iload_n (i := 3) hA dX12_readHouse_90 rfl 2 rfl ?_
    refine sr_MR_21 hA hi_11 et_12 dX12_readHouse_91 ?_
    refine k_aload_n (i := 0) hA dX12_readHouse_92 rfl 4 rfl ?_
    refine gt_MR_0_4 hA wd_1252 dX12_readHouse_93 ?_
    refine gt_MR_18_12N hA rfl nf_288 dX12_readHouse_96 ?_
    refine k_aload_n (i := 0) hA dX12_readHouse_99 rfl 4 rfl ?_
    refine gt_MR_0_4 hA wd_1252 dX12_readHouse_100 ?_
    refine gt_MR_18_4N hA rfl nf_277 dX12_readHouse_103 ?_
    refine k_iload hA dX12_readHouse_106 1 rfl ?_
    refine sr_MR_22 hA hi_13 et_14 dX12_readHouse_108 ?_
    refine k_aload_n (i := 0) hA dX12_readHouse_109 rfl 4 rfl ?_
    refine gt_MR_0_4 hA wd_1252 dX12_readHouse_110 ?_
    refine gt_MR_18_13N hA rfl nf_290 dX12_readHouse_113 ?_
    refine k_aload_n (i := 0) hA dX12_readHouse_116 rfl 4 rfl ?_
    refine gt_MR_0_4 hA wd_1252 dX12_readHouse_117 ?_
    refine gt_MR_18_4N hA rfl nf_277 dX12_readHouse_120 ?_
    refine k_iload hA dX12_readHouse_123 0 rfl ?_
    refine sr_MR_23 hA hi_15 et_16 dX12_readHouse_125 ?_
    refine k_aload_n (i := 0) hA dX12_readHouse_126 rfl 4 rfl ?_
    refine gt_MR_0_4 hA wd_1252 dX12_readHouse_127 ?_
    refine k_dup hA dX12_readHouse_130 rfl ?_
    refine gt_MR_18_4N hA rfl nf_277 dX12_readHouse_131 ?_
    refine k_iconst hA dX12_readHouse_134 kc_i_1 ?_
    refine k_iadd hA dX12_readHouse_135 ?_
    refine pt_MR_18_4N hA rfl nf_277 et_17 dX12_readHouse_136 ?_
    exact k_vret hA hr dX12_readHouse_139
  have hf := k_ift hc hf
  obtain rfl := k_r1 hf
  exact k_vret hA hr dX12_readHouse_62

def f_M_readFollows_R_60 (n : Nat) (x1 : Int32) (x2 : Int32) (t : k_St) : Option k_St := k_cv (f_M_goesOn_R n t) (fun t_1 => (if (t_1.1 0 9) = (6 : Int32) then some t_1 else k_gi x1 8 (k_gi x1 8 (k_lt (k_sI t_1 20 x1.toNatClampNeg ((t_1.1 20 x1.toNatClampNeg) ||| ((1 : Int32) <<< (x2 &&& 31)))) (fun t_4 => k_lt (k_sI t_4 18 3 ((t_4.1 18 3) + (1 : Int32))) (fun t_5 => some t_5))))))
def f_M_readFollows_R_55 (n : Nat) (x1 : Int32) (x2 : Int32) (t : k_St) : Option k_St := k_lt (f_M_flaw_R (3 : Int32) t) (fun t_1 => f_M_readFollows_R_60 n x1 x2 t_1)
def f_M_readFollows_R (n : Nat) (t : k_St) : Option k_St := k_cv (f_M_lineBegins_R n (t.1 18 3) (14 : Int32) t) (fun t_1 => k_cl (f_M_readKnown_R n (0 : Int32) t_1) (fun r_3 t_2 => k_cl (f_M_knownOne_R n (0 : Int32) t_2) (fun r_5 t_4 => (if (t_4.1 0 9) = (6 : Int32) then f_M_readFollows_R_60 n r_3 r_5 t_4 else (if r_3 = r_5 then f_M_readFollows_R_55 n r_3 r_5 t_4 else k_gi r_3 8 ((if (k_b (f_M_bit (t_4.1 20 r_3.toNatClampNeg) r_5)) = 0 then f_M_readFollows_R_60 n r_3 r_5 t_4 else f_M_readFollows_R_55 n r_3 r_5 t_4)))))))
theorem m_M_readFollows_R_60 {p : Program} (l : Launch) {e : Env} {s : State} {m : MethodId} {args : Array Value} {below : List Frame} {meth : Method} {c : Code} (G : k_G) (a : Nat → Nat) (tv : Value) (n : Nat) {w0 : va_W} {t' : k_St} (hA : k_Amb p s m args meth c cX12_readFollows 3 "TaleSharesModel" G (va_A w0 s.heap.size)) (hr : meth.sig.returnType = none) : ∀ (x1 : Int32) (x2 : Int32) (t : k_St), f_M_readFollows_R_60 n x1 x2 t = some t' → k_Go p l e (k_rm 10) s m args below meth c (k_QV G w0 (k_WR G.2.1 a tv t') args s below) 3 G (va_A w0 s.heap.size) (k_WR G.2.1 a tv t) 60 [(0, .ref (a 0)), (1, .int x1), (2, .int x2)] [] := by
  intro x1 x2 t hf
  unfold f_M_readFollows_R_60 at hf
  obtain ⟨t_1, ht_1, hf⟩ := k_cv_e hf
  refine k_aload_n (i := 0) hA dX12_readFollows_60 rfl 0 rfl ?_
  refine k_callVv (As := []) (rest := []) hA (m_M_goesOn_R l G a tv n t ht_1) cd_X12_goesOn wd_1471 (hc_MR_0 G.2.1 a tv t) rfl rfl (Nat.le_of_ble_eq_true rfl) rfl rfl (Nat.le_of_ble_eq_true rfl) dX12_readFollows_61 ?_
  refine k_aload_n (i := 0) hA dX12_readFollows_64 rfl 0 rfl ?_
  refine gt_MR_0_9 hA wd_1257 dX12_readFollows_65 ?_
  refine k_bipush hA dX12_readFollows_68 kc_b_6 ?_
  refine k_icmp_ne (tgt := 74) hA dX12_readFollows_70 rfl (fun hc => ?_) (fun hc => ?_)
  · have hf := k_iff hc hf
    obtain ⟨hi_2, hf⟩ := k_gi_e hf
    obtain ⟨hi_3, hf⟩ := k_gi_e hf
    obtain ⟨t_4, et_4, hf⟩ := k_lt_e hf
    obtain ⟨t_5, et_5, hf⟩ := k_lt_e hf
    obtain rfl := k_r1 hf
    refine k_aload_n (i := 0) hA dX12_readFollows_74 rfl 0 rfl ?_
    refine gt_MR_0_4 hA wd_1252 dX12_readFollows_75 ?_
    refine gt_MR_18_10N hA rfl nf_270 dX12_readFollows_78 ?_
    refine k_iload_n (i := 1) hA dX12_readFollows_81 rfl 1 rfl ?_
    refine k_dup2_11 hA dX12_readFollows_82 rfl rfl ?_
    refine ld_MR_20 hA hi_2 dX12_readFollows_83 ?_
    refine k_iconst hA dX12_readFollows_84 kc_i_1 ?_
    refine k_iload_n (i := 2) hA dX12_readFollows_85 rfl 2 rfl ?_
    refine k_ishl hA dX12_readFollows_86 ?_
    refine k_ior hA dX12_readFollows_87 ?_
    refine sr_MR_20 hA hi_3 et_4 dX12_readFollows_88 ?_
    refine k_aload_n (i := 0) hA dX12_readFollows_89 rfl 0 rfl ?_
    refine gt_MR_0_4 hA wd_1252 dX12_readFollows_90 ?_
    refine k_dup hA dX12_readFollows_93 rfl ?_
    refine gt_MR_18_3N hA rfl nf_265 dX12_readFollows_94 ?_
    refine k_iconst hA dX12_readFollows_97 kc_i_1 ?_
    refine k_iadd hA dX12_readFollows_98 ?_
    refine pt_MR_18_3N hA rfl nf_265 et_5 dX12_readFollows_99 ?_
    exact k_vret hA hr dX12_readFollows_102
  have hf := k_ift hc hf
  obtain rfl := k_r1 hf
  exact k_vret hA hr dX12_readFollows_73

theorem m_M_readFollows_R_55 {p : Program} (l : Launch) {e : Env} {s : State} {m : MethodId} {args : Array Value} {below : List Frame} {meth : Method} {c : Code} (G : k_G) (a : Nat → Nat) (tv : Value) (n : Nat) {w0 : va_W} {t' : k_St} (hA : k_Amb p s m args meth c cX12_readFollows 3 "TaleSharesModel" G (va_A w0 s.heap.size)) (hr : meth.sig.returnType = none) : ∀ (x1 : Int32) (x2 : Int32) (t : k_St), f_M_readFollows_R_55 n x1 x2 t = some t' → k_Go p l e (k_rm 10) s m args below meth c (k_QV G w0 (k_WR G.2.1 a tv t') args s below) 3 G (va_A w0 s.heap.size) (k_WR G.2.1 a tv t) 55 [(0, .ref (a 0)), (1, .int x1), (2, .int x2)] [] := by
  intro x1 x2 t hf
  unfold f_M_readFollows_R_55 at hf
  obtain ⟨t_1, ht_1, hf⟩ := k_lt_e hf
  refine k_aload_n (i := 0) hA dX12_readFollows_55 rfl 0 rfl ?_
  refine k_iconst hA dX12_readFollows_56 kc_i_3 ?_
  refine k_callVv (As := [.int (3 : Int32)]) (rest := []) hA (m_M_flaw_R l G a tv (3 : Int32) t ht_1.symm) cd_X12_flaw wd_1508 (hc_MR_0 G.2.1 a tv t) rfl rfl (Nat.le_of_ble_eq_true rfl) rfl rfl (Nat.le_of_ble_eq_true rfl) dX12_readFollows_57 ?_
  exact m_M_readFollows_R_60 l G a tv n hA hr x1 x2 t_1 hf

theorem m_M_readFollows_R (l : Launch) (G : k_G) (a : Nat → Nat) (tv : Value) (n : Nat) (t : k_St) {t' : k_St} (hf : f_M_readFollows_R n t = some t') : k_CV l G yX12_readFollows cX12_readFollows 3 none 10 (k_WR G.2.1 a tv t) [.ref (a 0)] (k_WR G.2.1 a tv t') := by
  refine k_startV (lv := [(0, .ref (a 0))]) (by decide +kernel) (Nat.le_of_ble_eq_true rfl) rfl ?_
  intro p e s m args below meth c hA hr
  have hA : k_Amb p s m args meth c cX12_readFollows 3 "TaleSharesModel" G _ := hA
  unfold f_M_readFollows_R at hf
  obtain ⟨t_1, ht_1, hf⟩ := k_cv_e hf
  obtain ⟨r_3, t_2, ht_2, hf⟩ := k_cl_e hf
  obtain ⟨r_5, t_4, ht_4, hf⟩ := k_cl_e hf
  refine k_aload_n (i := 0) hA dX12_readFollows_0 rfl 0 rfl ?_
  refine k_aload_n (i := 0) hA dX12_readFollows_1 rfl 0 rfl ?_
  refine gt_MR_0_4 hA wd_1252 dX12_readFollows_2 ?_
  refine gt_MR_18_3N hA rfl nf_265 dX12_readFollows_5 ?_
  refine k_bipush hA dX12_readFollows_8 kc_b_14 ?_
  refine k_callVv (As := [.int (t.1 18 3), .int (14 : Int32)]) (rest := []) hA (m_M_lineBegins_R l G a tv n (t.1 18 3) (14 : Int32) t ht_1) cd_X12_lineBegins wd_1534 (hc_MR_0 G.2.1 a tv t) rfl rfl (Nat.le_of_ble_eq_true rfl) rfl rfl (Nat.le_of_ble_eq_true rfl) dX12_readFollows_10 ?_
  refine k_aload_n (i := 0) hA dX12_readFollows_13 rfl 0 rfl ?_
  refine k_iconst hA dX12_readFollows_14 kc_i_0 ?_
  refine k_callVi (As := [.int (0 : Int32)]) (rest := []) hA (m_M_readKnown_R l G a tv n (0 : Int32) t_1 ht_2) cd_X12_readKnown wd_1567 (hc_MR_0 G.2.1 a tv t_1) rfl rfl (Nat.le_of_ble_eq_true rfl) rfl rfl (Nat.le_of_ble_eq_true rfl) dX12_readFollows_15 ?_
  refine k_istore_n (i := 1) (lv' := [(1, .int r_3), (0, .ref (a 0))]) hA dX12_readFollows_18 rfl rfl (Nat.le_of_ble_eq_true rfl) rfl ?_
  refine k_aload_n (i := 0) hA dX12_readFollows_19 rfl 1 rfl ?_
  refine k_iconst hA dX12_readFollows_20 kc_i_0 ?_
  refine k_callVi (As := [.int (0 : Int32)]) (rest := []) hA (m_M_knownOne_R l G a tv n (0 : Int32) t_2 ht_4) cd_X12_knownOne wd_1571 (hc_MR_0 G.2.1 a tv t_2) rfl rfl (Nat.le_of_ble_eq_true rfl) rfl rfl (Nat.le_of_ble_eq_true rfl) dX12_readFollows_21 ?_
  refine k_istore_n (i := 2) (lv' := [(2, .int r_5), (1, .int r_3), (0, .ref (a 0))]) hA dX12_readFollows_24 rfl rfl (Nat.le_of_ble_eq_true rfl) rfl ?_
  refine k_aload_n (i := 0) hA dX12_readFollows_25 rfl 2 rfl ?_
  refine gt_MR_0_9 hA wd_1257 dX12_readFollows_26 ?_
  refine k_bipush hA dX12_readFollows_29 kc_b_6 ?_
  refine k_icmp_eq (tgt := 60) hA dX12_readFollows_31 rfl (fun hc => ?_) (fun hc => ?_)
  · have hf := k_ift hc hf
    refine k_pick (lv' := [(0, .ref (a 0)), (1, .int r_3), (2, .int r_5)]) [2, 1, 0] rfl ?_
    exact m_M_readFollows_R_60 l G a tv n hA hr r_3 r_5 t_4 hf
  have hf := k_iff hc hf
  refine k_iload_n (i := 1) hA dX12_readFollows_34 rfl 1 rfl ?_
  refine k_iload_n (i := 2) hA dX12_readFollows_35 rfl 0 rfl ?_
  refine k_icmp_eq (tgt := 55) hA dX12_readFollows_36 rfl (fun hc => ?_) (fun hc => ?_)
  · have hf := k_ift hc hf
    refine k_pick (lv' := [(0, .ref (a 0)), (1, .int r_3), (2, .int r_5)]) [2, 1, 0] rfl ?_
    exact m_M_readFollows_R_55 l G a tv n hA hr r_3 r_5 t_4 hf
  have hf := k_iff hc hf
  obtain ⟨hi_6, hf⟩ := k_gi_e hf
  refine k_aload_n (i := 0) hA dX12_readFollows_39 rfl 2 rfl ?_
  refine gt_MR_0_4 hA wd_1252 dX12_readFollows_40 ?_
  refine gt_MR_18_10N hA rfl nf_270 dX12_readFollows_43 ?_
  refine k_iload_n (i := 1) hA dX12_readFollows_46 rfl 1 rfl ?_
  refine ld_MR_20 hA hi_6 dX12_readFollows_47 ?_
  refine k_iload_n (i := 2) hA dX12_readFollows_48 rfl 0 rfl ?_
  refine k_callSi (As := [.int (t_4.1 20 r_3.toNatClampNeg), .int r_5]) (rest := []) hA (m_M_bit l G (k_WR G.2.1 a tv t_4) (t_4.1 20 r_3.toNatClampNeg) r_5 rfl) cd_X12_bit wd_1575 (Nat.le_of_ble_eq_true rfl) rfl rfl (Nat.le_of_ble_eq_true rfl) dX12_readFollows_49 ?_
  refine k_if_eq (tgt := 60) hA dX12_readFollows_52 rfl (fun hc => ?_) (fun hc => ?_)
  · have hf := k_ift hc hf
    refine k_pick (lv' := [(0, .ref (a 0)), (1, .int r_3), (2, .int r_5)]) [2, 1, 0] rfl ?_
    exact m_M_readFollows_R_60 l G a tv n hA hr r_3 r_5 t_4 hf
  have hf := k_iff hc hf
  refine k_pick (lv' := [(0, .ref (a 0)), (1, .int r_3), (2, .int r_5)]) [2, 1, 0] rfl ?_
  exact m_M_readFollows_R_55 l G a tv n hA hr r_3 r_5 t_4 hf

def f_M_readPiece_R_83 (n : Nat) (x1 : Int64) (x3 : Int32) (t : k_St) : Option k_St := k_cv (f_M_goesOn_R n t) (fun t_1 => (if (t_1.1 0 9) = (6 : Int32) then some t_1 else k_cv (f_M_names_R x1 (0 : Int32) (t_1.1 18 2) t_1) (fun t_2 => k_gi (t_2.1 18 2) 8 (k_lt (k_sI t_2 19 (t_2.1 18 2).toNatClampNeg x3) (fun t_4 => k_lt (k_sI t_4 18 2 ((t_4.1 18 2) + (1 : Int32))) (fun t_5 => some t_5))))))
def f_M_readPiece_R_72 (n : Nat) (x1 : Int64) (s0 : Int32) (t : k_St) : Option k_St := (if s0 = (-1 : Int32) then k_lt (f_M_flaw_R (1 : Int32) t) (fun t_1 => f_M_readPiece_R_83 n x1 s0 t_1) else f_M_readPiece_R_83 n x1 s0 t)
def f_M_readPiece_R (n : Nat) (t : k_St) : Option k_St := k_cv (f_M_lineBegins_R n (t.1 18 2) (8 : Int32) t) (fun t_1 => k_cl (f_M_readFresh_R n t_1) (fun r_3 t_2 => k_cp (f_M_isWord_R n 9 t_2) (fun r_4 => (if (k_b r_4) = 0 then k_cp (f_M_isWord_R n 10 t_2) (fun r_5 => (if (k_b r_5) = 0 then k_cp (f_M_isWord_R n 11 t_2) (fun r_6 => (if (k_b r_6) = 0 then k_cp (f_M_isWord_R n 12 t_2) (fun r_7 => (if (k_b r_7) = 0 then f_M_readPiece_R_72 n r_3 (-1 : Int32) t_2 else f_M_readPiece_R_72 n r_3 (3 : Int32) t_2)) else f_M_readPiece_R_72 n r_3 (2 : Int32) t_2)) else f_M_readPiece_R_72 n r_3 (1 : Int32) t_2)) else f_M_readPiece_R_72 n r_3 (0 : Int32) t_2))))
theorem m_M_readPiece_R_83 {p : Program} (l : Launch) {e : Env} {s : State} {m : MethodId} {args : Array Value} {below : List Frame} {meth : Method} {c : Code} (G : k_G) (a : Nat → Nat) (tv : Value) (n : Nat) {w0 : va_W} {t' : k_St} (hA : k_Amb p s m args meth c cX12_readPiece 4 "TaleSharesModel" G (va_A w0 s.heap.size)) (hr : meth.sig.returnType = none) : ∀ (x1 : Int64) (x3 : Int32) (t : k_St), f_M_readPiece_R_83 n x1 x3 t = some t' → k_Go p l e (k_rm 9) s m args below meth c (k_QV G w0 (k_WR G.2.1 a tv t') args s below) 4 G (va_A w0 s.heap.size) (k_WR G.2.1 a tv t) 83 [(0, .ref (a 0)), (1, .long x1), (3, .int x3)] [] := by
  intro x1 x3 t hf
  unfold f_M_readPiece_R_83 at hf
  obtain ⟨t_1, ht_1, hf⟩ := k_cv_e hf
  refine k_aload_n (i := 0) hA dX12_readPiece_83 rfl 0 rfl ?_
  refine k_callVv (As := []) (rest := []) hA (m_M_goesOn_R l G a tv n t ht_1) cd_X12_goesOn wd_1471 (hc_MR_0 G.2.1 a tv t) rfl rfl (Nat.le_of_ble_eq_true rfl) rfl rfl (Nat.le_of_ble_eq_true rfl) dX12_readPiece_84 ?_
  refine k_aload_n (i := 0) hA dX12_readPiece_87 rfl 0 rfl ?_
  refine gt_MR_0_9 hA wd_1257 dX12_readPiece_88 ?_
  refine k_bipush hA dX12_readPiece_91 kc_b_6 ?_
  refine k_icmp_ne (tgt := 97) hA dX12_readPiece_93 rfl (fun hc => ?_) (fun hc => ?_)
  · have hf := k_iff hc hf
    obtain ⟨t_2, ht_2, hf⟩ := k_cv_e hf
    obtain ⟨hi_3, hf⟩ := k_gi_e hf
    obtain ⟨t_4, et_4, hf⟩ := k_lt_e hf
    obtain ⟨t_5, et_5, hf⟩ := k_lt_e hf
    obtain rfl := k_r1 hf
    refine k_aload_n (i := 0) hA dX12_readPiece_97 rfl 0 rfl ?_
    refine k_lload_n (i := 1) hA dX12_readPiece_98 rfl 1 rfl ?_
    refine k_iconst hA dX12_readPiece_99 kc_i_0 ?_
    refine k_aload_n (i := 0) hA dX12_readPiece_100 rfl 0 rfl ?_
    refine gt_MR_0_4 hA wd_1252 dX12_readPiece_101 ?_
    refine gt_MR_18_2N hA rfl nf_210 dX12_readPiece_104 ?_
    refine k_callVv (As := [.long x1, .int (0 : Int32), .int (t_1.1 18 2)]) (rest := []) hA (m_M_names_R l G a tv x1 (0 : Int32) (t_1.1 18 2) t_1 ht_2) cd_X12_names wd_1559 (hc_MR_0 G.2.1 a tv t_1) rfl rfl (Nat.le_of_ble_eq_true rfl) rfl rfl (Nat.le_of_ble_eq_true rfl) dX12_readPiece_107 ?_
    refine k_aload_n (i := 0) hA dX12_readPiece_110 rfl 0 rfl ?_
    refine gt_MR_0_4 hA wd_1252 dX12_readPiece_111 ?_
    refine gt_MR_18_9N hA rfl nf_262 dX12_readPiece_114 ?_
    refine k_aload_n (i := 0) hA dX12_readPiece_117 rfl 0 rfl ?_
    refine gt_MR_0_4 hA wd_1252 dX12_readPiece_118 ?_
    refine gt_MR_18_2N hA rfl nf_210 dX12_readPiece_121 ?_
    refine k_iload_n (i := 3) hA dX12_readPiece_124 rfl 2 rfl ?_
    refine sr_MR_19 hA hi_3 et_4 dX12_readPiece_125 ?_
    refine k_aload_n (i := 0) hA dX12_readPiece_126 rfl 0 rfl ?_
    refine gt_MR_0_4 hA wd_1252 dX12_readPiece_127 ?_
    refine k_dup hA dX12_readPiece_130 rfl ?_
    refine gt_MR_18_2N hA rfl nf_210 dX12_readPiece_131 ?_
    refine k_iconst hA dX12_readPiece_134 kc_i_1 ?_
    refine k_iadd hA dX12_readPiece_135 ?_
    refine pt_MR_18_2N hA rfl nf_210 et_5 dX12_readPiece_136 ?_
    exact k_vret hA hr dX12_readPiece_139
  have hf := k_ift hc hf
  obtain rfl := k_r1 hf
  exact k_vret hA hr dX12_readPiece_96

theorem m_M_readPiece_R_72 {p : Program} (l : Launch) {e : Env} {s : State} {m : MethodId} {args : Array Value} {below : List Frame} {meth : Method} {c : Code} (G : k_G) (a : Nat → Nat) (tv : Value) (n : Nat) {w0 : va_W} {t' : k_St} (hA : k_Amb p s m args meth c cX12_readPiece 4 "TaleSharesModel" G (va_A w0 s.heap.size)) (hr : meth.sig.returnType = none) : ∀ (x1 : Int64) (s0 : Int32) (t : k_St), f_M_readPiece_R_72 n x1 s0 t = some t' → k_Go p l e (k_rm 9) s m args below meth c (k_QV G w0 (k_WR G.2.1 a tv t') args s below) 4 G (va_A w0 s.heap.size) (k_WR G.2.1 a tv t) 72 [(0, .ref (a 0)), (1, .long x1)] [.int s0] := by
  intro x1 s0 t hf
  unfold f_M_readPiece_R_72 at hf
  refine k_istore_n (i := 3) (lv' := [(3, .int s0), (0, .ref (a 0)), (1, .long x1)]) hA dX12_readPiece_72 rfl rfl (Nat.le_of_ble_eq_true rfl) rfl ?_
  refine k_iload_n (i := 3) hA dX12_readPiece_73 rfl 0 rfl ?_
  refine k_iconst hA dX12_readPiece_74 kc_i_m1 ?_
  refine k_icmp_ne (tgt := 83) hA dX12_readPiece_75 rfl (fun hc => ?_) (fun hc => ?_)
  · have hf := k_iff hc hf
    refine k_pick (lv' := [(0, .ref (a 0)), (1, .long x1), (3, .int s0)]) [1, 2, 0] rfl ?_
    exact m_M_readPiece_R_83 l G a tv n hA hr x1 s0 t hf
  have hf := k_ift hc hf
  obtain ⟨t_1, ht_1, hf⟩ := k_lt_e hf
  refine k_aload_n (i := 0) hA dX12_readPiece_78 rfl 1 rfl ?_
  refine k_iconst hA dX12_readPiece_79 kc_i_1 ?_
  refine k_callVv (As := [.int (1 : Int32)]) (rest := []) hA (m_M_flaw_R l G a tv (1 : Int32) t ht_1.symm) cd_X12_flaw wd_1508 (hc_MR_0 G.2.1 a tv t) rfl rfl (Nat.le_of_ble_eq_true rfl) rfl rfl (Nat.le_of_ble_eq_true rfl) dX12_readPiece_80 ?_
  refine k_pick (lv' := [(0, .ref (a 0)), (1, .long x1), (3, .int s0)]) [1, 2, 0] rfl ?_
  exact m_M_readPiece_R_83 l G a tv n hA hr x1 s0 t_1 hf

theorem m_M_readPiece_R (l : Launch) (G : k_G) (a : Nat → Nat) (tv : Value) (n : Nat) (t : k_St) {t' : k_St} (hf : f_M_readPiece_R n t = some t') : k_CV l G yX12_readPiece cX12_readPiece 4 none 9 (k_WR G.2.1 a tv t) [.ref (a 0)] (k_WR G.2.1 a tv t') := by
  refine k_startV (lv := [(0, .ref (a 0))]) (by decide +kernel) (Nat.le_of_ble_eq_true rfl) rfl ?_
  intro p e s m args below meth c hA hr
  have hA : k_Amb p s m args meth c cX12_readPiece 4 "TaleSharesModel" G _ := hA
  unfold f_M_readPiece_R at hf
  obtain ⟨t_1, ht_1, hf⟩ := k_cv_e hf
  obtain ⟨r_3, t_2, ht_2, hf⟩ := k_cl_e hf
  obtain ⟨r_4, hr_4, hf⟩ := k_cp_e hf
  refine k_aload_n (i := 0) hA dX12_readPiece_0 rfl 0 rfl ?_
  refine k_aload_n (i := 0) hA dX12_readPiece_1 rfl 0 rfl ?_
  refine gt_MR_0_4 hA wd_1252 dX12_readPiece_2 ?_
  refine gt_MR_18_2N hA rfl nf_210 dX12_readPiece_5 ?_
  refine k_bipush hA dX12_readPiece_8 kc_b_8 ?_
  refine k_callVv (As := [.int (t.1 18 2), .int (8 : Int32)]) (rest := []) hA (m_M_lineBegins_R l G a tv n (t.1 18 2) (8 : Int32) t ht_1) cd_X12_lineBegins wd_1534 (hc_MR_0 G.2.1 a tv t) rfl rfl (Nat.le_of_ble_eq_true rfl) rfl rfl (Nat.le_of_ble_eq_true rfl) dX12_readPiece_10 ?_
  refine k_aload_n (i := 0) hA dX12_readPiece_13 rfl 0 rfl ?_
  refine k_callVl (As := []) (rest := []) hA (m_M_readFresh_R l G a tv n t_1 ht_2) cd_X12_readFresh wd_1538 (hc_MR_0 G.2.1 a tv t_1) rfl rfl (Nat.le_of_ble_eq_true rfl) rfl rfl (Nat.le_of_ble_eq_true rfl) dX12_readPiece_14 ?_
  refine k_lstore_n (i := 1) (lv' := [(1, .long r_3), (0, .ref (a 0))]) hA dX12_readPiece_17 rfl rfl (Nat.le_of_ble_eq_true rfl) rfl ?_
  refine k_aload_n (i := 0) hA dX12_readPiece_18 rfl 1 rfl ?_
  refine k_ldcS hA sq_RX12_251 dX12_readPiece_19 ?_
  refine k_callVi (As := [.ref (G.2.2.1 9)]) (rest := []) hA (m_M_isWord_R l G a tv n 9 (by decide) t_2 hr_4) cd_X12_isWord wd_1495 (hc_MR_0 G.2.1 a tv t_2) rfl rfl (Nat.le_of_ble_eq_true rfl) rfl rfl (Nat.le_of_ble_eq_true rfl) dX12_readPiece_21 ?_
  refine k_if_eq (tgt := 31) hA dX12_readPiece_24 rfl (fun hc => ?_) (fun hc => ?_)
  · have hf := k_ift hc hf
    obtain ⟨r_5, hr_5, hf⟩ := k_cp_e hf
    refine k_aload_n (i := 0) hA dX12_readPiece_31 rfl 1 rfl ?_
    refine k_ldcS hA sq_RX12_253 dX12_readPiece_32 ?_
    refine k_callVi (As := [.ref (G.2.2.1 10)]) (rest := []) hA (m_M_isWord_R l G a tv n 10 (by decide) t_2 hr_5) cd_X12_isWord wd_1495 (hc_MR_0 G.2.1 a tv t_2) rfl rfl (Nat.le_of_ble_eq_true rfl) rfl rfl (Nat.le_of_ble_eq_true rfl) dX12_readPiece_34 ?_
    refine k_if_eq (tgt := 44) hA dX12_readPiece_37 rfl (fun hc => ?_) (fun hc => ?_)
    · have hf := k_ift hc hf
      obtain ⟨r_6, hr_6, hf⟩ := k_cp_e hf
      refine k_aload_n (i := 0) hA dX12_readPiece_44 rfl 1 rfl ?_
      refine k_ldcS hA sq_RX12_255 dX12_readPiece_45 ?_
      refine k_callVi (As := [.ref (G.2.2.1 11)]) (rest := []) hA (m_M_isWord_R l G a tv n 11 (by decide) t_2 hr_6) cd_X12_isWord wd_1495 (hc_MR_0 G.2.1 a tv t_2) rfl rfl (Nat.le_of_ble_eq_true rfl) rfl rfl (Nat.le_of_ble_eq_true rfl) dX12_readPiece_47 ?_
      refine k_if_eq (tgt := 57) hA dX12_readPiece_50 rfl (fun hc => ?_) (fun hc => ?_)
      · have hf := k_ift hc hf
        obtain ⟨r_7, hr_7, hf⟩ := k_cp_e hf
        refine k_aload_n (i := 0) hA dX12_readPiece_57 rfl 1 rfl ?_
        refine k_ldcSw hA sq_RX12_257 dX12_readPiece_58 ?_
        refine k_callVi (As := [.ref (G.2.2.1 12)]) (rest := []) hA (m_M_isWord_R l G a tv n 12 (by decide) t_2 hr_7) cd_X12_isWord wd_1495 (hc_MR_0 G.2.1 a tv t_2) rfl rfl (Nat.le_of_ble_eq_true rfl) rfl rfl (Nat.le_of_ble_eq_true rfl) dX12_readPiece_61 ?_
        refine k_if_eq (tgt := 71) hA dX12_readPiece_64 rfl (fun hc => ?_) (fun hc => ?_)
        · have hf := k_ift hc hf
          refine k_iconst hA dX12_readPiece_71 kc_i_m1 ?_
          refine k_pick (lv' := [(0, .ref (a 0)), (1, .long r_3)]) [1, 0] rfl ?_
          exact m_M_readPiece_R_72 l G a tv n hA hr r_3 (-1 : Int32) t_2 hf
        have hf := k_iff hc hf
        refine k_iconst hA dX12_readPiece_67 kc_i_3 ?_
        refine k_goto (tgt := 72) hA dX12_readPiece_68 rfl ?_
        refine k_pick (lv' := [(0, .ref (a 0)), (1, .long r_3)]) [1, 0] rfl ?_
        exact m_M_readPiece_R_72 l G a tv n hA hr r_3 (3 : Int32) t_2 hf
      have hf := k_iff hc hf
      refine k_iconst hA dX12_readPiece_53 kc_i_2 ?_
      refine k_goto (tgt := 72) hA dX12_readPiece_54 rfl ?_
      refine k_pick (lv' := [(0, .ref (a 0)), (1, .long r_3)]) [1, 0] rfl ?_
      exact m_M_readPiece_R_72 l G a tv n hA hr r_3 (2 : Int32) t_2 hf
    have hf := k_iff hc hf
    refine k_iconst hA dX12_readPiece_40 kc_i_1 ?_
    refine k_goto (tgt := 72) hA dX12_readPiece_41 rfl ?_
    refine k_pick (lv' := [(0, .ref (a 0)), (1, .long r_3)]) [1, 0] rfl ?_
    exact m_M_readPiece_R_72 l G a tv n hA hr r_3 (1 : Int32) t_2 hf
  have hf := k_iff hc hf
  refine k_iconst hA dX12_readPiece_27 kc_i_0 ?_
  refine k_goto (tgt := 72) hA dX12_readPiece_28 rfl ?_
  refine k_pick (lv' := [(0, .ref (a 0)), (1, .long r_3)]) [1, 0] rfl ?_
  exact m_M_readPiece_R_72 l G a tv n hA hr r_3 (0 : Int32) t_2 hf

