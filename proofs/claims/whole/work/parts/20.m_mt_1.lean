theorem dX12_leftOver_0 : decode cX12_leftOver 0 = .ok (.aload_n 0, 1) := by decide +kernel
theorem dX12_leftOver_1 : decode cX12_leftOver 1 = .ok (.iconst 0, 1) := by decide +kernel
theorem dX12_leftOver_2 : decode cX12_leftOver 2 = .ok (.putfield 66, 3) := by decide +kernel
theorem dX12_leftOver_5 : decode cX12_leftOver 5 = .ok (.aload_n 0, 1) := by decide +kernel
theorem dX12_leftOver_6 : decode cX12_leftOver 6 = .ok (.iload_n 1, 1) := by decide +kernel
theorem dX12_leftOver_7 : decode cX12_leftOver 7 = .ok (.invokevirtual 362, 3) := by decide +kernel
theorem dX12_leftOver_10 : decode cX12_leftOver 10 = .ok (.ifCond .eq 20, 3) := by decide +kernel
theorem dX12_leftOver_13 : decode cX12_leftOver 13 = .ok (.aload_n 0, 1) := by decide +kernel
theorem dX12_leftOver_14 : decode cX12_leftOver 14 = .ok (.iload_n 1, 1) := by decide +kernel
theorem dX12_leftOver_15 : decode cX12_leftOver 15 = .ok (.invokestatic 371, 3) := by decide +kernel
theorem dX12_leftOver_18 : decode cX12_leftOver 18 = .ok (.aload_n 0, 1) := by decide +kernel
theorem dX12_leftOver_19 : decode cX12_leftOver 19 = .ok (.iload_n 1, 1) := by decide +kernel
theorem dX12_leftOver_20 : decode cX12_leftOver 20 = .ok (.invokevirtual 368, 3) := by decide +kernel
theorem dX12_leftOver_23 : decode cX12_leftOver 23 = .ok (.isub, 1) := by decide +kernel
theorem dX12_leftOver_24 : decode cX12_leftOver 24 = .ok (.invokevirtual 76, 3) := by decide +kernel
theorem dX12_leftOver_27 : decode cX12_leftOver 27 = .ok (.goto 8, 3) := by decide +kernel
theorem dX12_leftOver_30 : decode cX12_leftOver 30 = .ok (.aload_n 0, 1) := by decide +kernel
theorem dX12_leftOver_31 : decode cX12_leftOver 31 = .ok (.iconst 1, 1) := by decide +kernel
theorem dX12_leftOver_32 : decode cX12_leftOver 32 = .ok (.invokevirtual 72, 3) := by decide +kernel
theorem dX12_leftOver_35 : decode cX12_leftOver 35 = .ok (.ireturn, 1) := by decide +kernel
theorem dX12_bits_0 : decode cX12_bits 0 = .ok (.iconst 0, 1) := by decide +kernel
theorem dX12_bits_1 : decode cX12_bits 1 = .ok (.istore_n 1, 1) := by decide +kernel
theorem dX12_bits_2 : decode cX12_bits 2 = .ok (.iload_n 0, 1) := by decide +kernel
theorem dX12_bits_3 : decode cX12_bits 3 = .ok (.istore_n 2, 1) := by decide +kernel
theorem dX12_bits_4 : decode cX12_bits 4 = .ok (.iload_n 2, 1) := by decide +kernel
theorem dX12_bits_5 : decode cX12_bits 5 = .ok (.ifCond .eq 15, 3) := by decide +kernel
theorem dX12_bits_8 : decode cX12_bits 8 = .ok (.iinc 1 1, 3) := by decide +kernel
theorem dX12_bits_11 : decode cX12_bits 11 = .ok (.iload_n 2, 1) := by decide +kernel
theorem dX12_bits_12 : decode cX12_bits 12 = .ok (.iload_n 2, 1) := by decide +kernel
theorem dX12_bits_13 : decode cX12_bits 13 = .ok (.iconst 1, 1) := by decide +kernel
theorem dX12_bits_14 : decode cX12_bits 14 = .ok (.isub, 1) := by decide +kernel
theorem dX12_bits_15 : decode cX12_bits 15 = .ok (.iand, 1) := by decide +kernel
theorem dX12_bits_16 : decode cX12_bits 16 = .ok (.istore_n 2, 1) := by decide +kernel
theorem dX12_bits_17 : decode cX12_bits 17 = .ok (.goto (-13), 3) := by decide +kernel
theorem dX12_bits_20 : decode cX12_bits 20 = .ok (.iload_n 1, 1) := by decide +kernel
theorem dX12_bits_21 : decode cX12_bits 21 = .ok (.ireturn, 1) := by decide +kernel
theorem dX12_isTale_0 : decode cX12_isTale 0 = .ok (.aload_n 0, 1) := by decide +kernel
theorem dX12_isTale_1 : decode cX12_isTale 1 = .ok (.iconst 0, 1) := by decide +kernel
theorem dX12_isTale_2 : decode cX12_isTale 2 = .ok (.putfield 66, 3) := by decide +kernel
theorem dX12_isTale_5 : decode cX12_isTale 5 = .ok (.aload_n 0, 1) := by decide +kernel
theorem dX12_isTale_6 : decode cX12_isTale 6 = .ok (.getfield 311, 3) := by decide +kernel
theorem dX12_isTale_9 : decode cX12_isTale 9 = .ok (.ifnonnull 9, 3) := by decide +kernel
theorem dX12_isTale_12 : decode cX12_isTale 12 = .ok (.aload_n 0, 1) := by decide +kernel
theorem dX12_isTale_13 : decode cX12_isTale 13 = .ok (.iconst 1, 1) := by decide +kernel
theorem dX12_isTale_14 : decode cX12_isTale 14 = .ok (.invokevirtual 72, 3) := by decide +kernel
theorem dX12_isTale_17 : decode cX12_isTale 17 = .ok (.ireturn, 1) := by decide +kernel
theorem dX12_isTale_18 : decode cX12_isTale 18 = .ok (.iload_n 1, 1) := by decide +kernel
theorem dX12_isTale_19 : decode cX12_isTale 19 = .ok (.iconst 1, 1) := by decide +kernel
theorem dX12_isTale_20 : decode cX12_isTale 20 = .ok (.if_icmp .ge 9, 3) := by decide +kernel
theorem dX12_isTale_23 : decode cX12_isTale 23 = .ok (.aload_n 0, 1) := by decide +kernel
theorem dX12_isTale_24 : decode cX12_isTale 24 = .ok (.iconst 2, 1) := by decide +kernel
theorem dX12_isTale_25 : decode cX12_isTale 25 = .ok (.invokevirtual 72, 3) := by decide +kernel
theorem dX12_isTale_28 : decode cX12_isTale 28 = .ok (.ireturn, 1) := by decide +kernel
theorem dX12_isTale_29 : decode cX12_isTale 29 = .ok (.iload_n 1, 1) := by decide +kernel
theorem dX12_isTale_30 : decode cX12_isTale 30 = .ok (.istore_n 2, 1) := by decide +kernel
theorem dX12_isTale_31 : decode cX12_isTale 31 = .ok (.iload_n 2, 1) := by decide +kernel
theorem dX12_isTale_32 : decode cX12_isTale 32 = .ok (.ifCond .le 35, 3) := by decide +kernel
theorem dX12_isTale_35 : decode cX12_isTale 35 = .ok (.iload_n 2, 1) := by decide +kernel
theorem dX12_isTale_36 : decode cX12_isTale 36 = .ok (.bipush 10, 2) := by decide +kernel
theorem dX12_isTale_38 : decode cX12_isTale 38 = .ok (.irem, 1) := by decide +kernel
theorem dX12_isTale_39 : decode cX12_isTale 39 = .ok (.iconst 1, 1) := by decide +kernel
theorem dX12_isTale_40 : decode cX12_isTale 40 = .ok (.aload_n 0, 1) := by decide +kernel
theorem dX12_isTale_41 : decode cX12_isTale 41 = .ok (.getfield 311, 3) := by decide +kernel
theorem dX12_isTale_44 : decode cX12_isTale 44 = .ok (.getfield 210, 3) := by decide +kernel
theorem dX12_isTale_47 : decode cX12_isTale 47 = .ok (.invokestatic 145, 3) := by decide +kernel
theorem dX12_isTale_50 : decode cX12_isTale 50 = .ok (.ifCond .ne 9, 3) := by decide +kernel
theorem dX12_isTale_53 : decode cX12_isTale 53 = .ok (.aload_n 0, 1) := by decide +kernel
theorem dX12_isTale_54 : decode cX12_isTale 54 = .ok (.iconst 2, 1) := by decide +kernel
theorem dX12_isTale_55 : decode cX12_isTale 55 = .ok (.invokevirtual 72, 3) := by decide +kernel
theorem dX12_isTale_58 : decode cX12_isTale 58 = .ok (.ireturn, 1) := by decide +kernel
theorem dX12_isTale_59 : decode cX12_isTale 59 = .ok (.iload_n 2, 1) := by decide +kernel
theorem dX12_isTale_60 : decode cX12_isTale 60 = .ok (.bipush 10, 2) := by decide +kernel
theorem dX12_isTale_62 : decode cX12_isTale 62 = .ok (.idiv, 1) := by decide +kernel
theorem dX12_isTale_63 : decode cX12_isTale 63 = .ok (.istore_n 2, 1) := by decide +kernel
theorem dX12_isTale_64 : decode cX12_isTale 64 = .ok (.goto (-33), 3) := by decide +kernel
theorem dX12_isTale_67 : decode cX12_isTale 67 = .ok (.aload_n 0, 1) := by decide +kernel
theorem dX12_isTale_68 : decode cX12_isTale 68 = .ok (.aload_n 0, 1) := by decide +kernel
theorem dX12_isTale_69 : decode cX12_isTale 69 = .ok (.iload_n 1, 1) := by decide +kernel
theorem dX12_isTale_70 : decode cX12_isTale 70 = .ok (.invokevirtual 374, 3) := by decide +kernel
theorem dX12_isTale_73 : decode cX12_isTale 73 = .ok (.ifCond .eq 7, 3) := by decide +kernel
theorem dX12_isTale_76 : decode cX12_isTale 76 = .ok (.iconst 1, 1) := by decide +kernel
theorem dX12_isTale_77 : decode cX12_isTale 77 = .ok (.goto 4, 3) := by decide +kernel
theorem dX12_isTale_80 : decode cX12_isTale 80 = .ok (.iconst 0, 1) := by decide +kernel
theorem dX12_isTale_81 : decode cX12_isTale 81 = .ok (.invokevirtual 76, 3) := by decide +kernel
theorem dX12_isTale_84 : decode cX12_isTale 84 = .ok (.ireturn, 1) := by decide +kernel
theorem dX12_isRow_0 : decode cX12_isRow 0 = .ok (.iconst 0, 1) := by decide +kernel
theorem dX12_isRow_1 : decode cX12_isRow 1 = .ok (.istore_n 2, 1) := by decide +kernel
theorem dX12_isRow_2 : decode cX12_isRow 2 = .ok (.iload_n 1, 1) := by decide +kernel
theorem dX12_isRow_3 : decode cX12_isRow 3 = .ok (.istore_n 3, 1) := by decide +kernel
theorem dX12_isRow_4 : decode cX12_isRow 4 = .ok (.iload_n 3, 1) := by decide +kernel
theorem dX12_isRow_5 : decode cX12_isRow 5 = .ok (.ifCond .le 14, 3) := by decide +kernel
theorem dX12_isRow_8 : decode cX12_isRow 8 = .ok (.iinc 2 1, 3) := by decide +kernel
theorem dX12_isRow_11 : decode cX12_isRow 11 = .ok (.iload_n 3, 1) := by decide +kernel
theorem dX12_isRow_12 : decode cX12_isRow 12 = .ok (.bipush 10, 2) := by decide +kernel
theorem dX12_isRow_14 : decode cX12_isRow 14 = .ok (.idiv, 1) := by decide +kernel
theorem dX12_isRow_15 : decode cX12_isRow 15 = .ok (.istore_n 3, 1) := by decide +kernel
theorem dX12_isRow_16 : decode cX12_isRow 16 = .ok (.goto (-12), 3) := by decide +kernel
theorem dX12_isRow_19 : decode cX12_isRow 19 = .ok (.aload_n 0, 1) := by decide +kernel
theorem dX12_isRow_20 : decode cX12_isRow 20 = .ok (.aload_n 0, 1) := by decide +kernel
theorem dX12_isRow_21 : decode cX12_isRow 21 = .ok (.getfield 311, 3) := by decide +kernel
theorem dX12_isRow_24 : decode cX12_isRow 24 = .ok (.invokevirtual 359, 3) := by decide +kernel
theorem dX12_isRow_27 : decode cX12_isRow 27 = .ok (.invokevirtual 341, 3) := by decide +kernel
theorem dX12_isRow_30 : decode cX12_isRow 30 = .ok (.iload_n 2, 1) := by decide +kernel
theorem dX12_isRow_31 : decode cX12_isRow 31 = .ok (.bipush 8, 2) := by decide +kernel
theorem dX12_isRow_33 : decode cX12_isRow 33 = .ok (.if_icmp .gt 7, 3) := by decide +kernel
theorem dX12_isRow_36 : decode cX12_isRow 36 = .ok (.iconst 1, 1) := by decide +kernel
theorem dX12_isRow_37 : decode cX12_isRow 37 = .ok (.goto 4, 3) := by decide +kernel
theorem dX12_isRow_40 : decode cX12_isRow 40 = .ok (.iconst 0, 1) := by decide +kernel
theorem dX12_isRow_41 : decode cX12_isRow 41 = .ok (.istore_n 3, 1) := by decide +kernel
theorem dX12_isRow_42 : decode cX12_isRow 42 = .ok (.iload_n 2, 1) := by decide +kernel
theorem dX12_isRow_43 : decode cX12_isRow 43 = .ok (.iconst 1, 1) := by decide +kernel
theorem dX12_isRow_44 : decode cX12_isRow 44 = .ok (.isub, 1) := by decide +kernel
theorem dX12_isRow_45 : decode cX12_isRow 45 = .ok (.istore 4, 2) := by decide +kernel
theorem dX12_isRow_47 : decode cX12_isRow 47 = .ok (.iload 4, 2) := by decide +kernel
theorem dX12_isRow_49 : decode cX12_isRow 49 = .ok (.ifCond .lt 139, 3) := by decide +kernel
theorem dX12_isRow_52 : decode cX12_isRow 52 = .ok (.iload_n 3, 1) := by decide +kernel
theorem dX12_isRow_53 : decode cX12_isRow 53 = .ok (.ifCond .eq 135, 3) := by decide +kernel
theorem dX12_isRow_56 : decode cX12_isRow 56 = .ok (.iload_n 1, 1) := by decide +kernel
theorem dX12_isRow_57 : decode cX12_isRow 57 = .ok (.istore 5, 2) := by decide +kernel
theorem dX12_isRow_59 : decode cX12_isRow 59 = .ok (.iconst 0, 1) := by decide +kernel
theorem dX12_isRow_60 : decode cX12_isRow 60 = .ok (.istore 6, 2) := by decide +kernel
theorem dX12_isRow_62 : decode cX12_isRow 62 = .ok (.iload 6, 2) := by decide +kernel
theorem dX12_isRow_64 : decode cX12_isRow 64 = .ok (.iload 4, 2) := by decide +kernel
theorem dX12_isRow_66 : decode cX12_isRow 66 = .ok (.if_icmp .ge 16, 3) := by decide +kernel
theorem dX12_isRow_69 : decode cX12_isRow 69 = .ok (.iload 5, 2) := by decide +kernel
theorem dX12_isRow_71 : decode cX12_isRow 71 = .ok (.bipush 10, 2) := by decide +kernel
theorem dX12_isRow_73 : decode cX12_isRow 73 = .ok (.idiv, 1) := by decide +kernel
theorem dX12_isRow_74 : decode cX12_isRow 74 = .ok (.istore 5, 2) := by decide +kernel
theorem dX12_isRow_76 : decode cX12_isRow 76 = .ok (.iinc 6 1, 3) := by decide +kernel
theorem dX12_isRow_79 : decode cX12_isRow 79 = .ok (.goto (-17), 3) := by decide +kernel
theorem dX12_isRow_82 : decode cX12_isRow 82 = .ok (.iload 5, 2) := by decide +kernel
theorem dX12_isRow_84 : decode cX12_isRow 84 = .ok (.bipush 10, 2) := by decide +kernel
theorem dX12_isRow_86 : decode cX12_isRow 86 = .ok (.irem, 1) := by decide +kernel
theorem dX12_isRow_87 : decode cX12_isRow 87 = .ok (.iconst 1, 1) := by decide +kernel
theorem dX12_isRow_88 : decode cX12_isRow 88 = .ok (.isub, 1) := by decide +kernel
theorem dX12_isRow_89 : decode cX12_isRow 89 = .ok (.istore 6, 2) := by decide +kernel
theorem dX12_isRow_91 : decode cX12_isRow 91 = .ok (.aload_n 0, 1) := by decide +kernel
theorem dX12_isRow_92 : decode cX12_isRow 92 = .ok (.invokevirtual 332, 3) := by decide +kernel
theorem dX12_isRow_95 : decode cX12_isRow 95 = .ok (.ifCond .ne 16, 3) := by decide +kernel
theorem dX12_isRow_98 : decode cX12_isRow 98 = .ok (.aload_n 0, 1) := by decide +kernel
theorem dX12_isRow_99 : decode cX12_isRow 99 = .ok (.iload 6, 2) := by decide +kernel
theorem dX12_isRow_101 : decode cX12_isRow 101 = .ok (.invokevirtual 338, 3) := by decide +kernel
theorem dX12_isRow_104 : decode cX12_isRow 104 = .ok (.ifCond .eq 7, 3) := by decide +kernel
theorem dX12_isRow_107 : decode cX12_isRow 107 = .ok (.iconst 1, 1) := by decide +kernel
theorem dX12_isRow_108 : decode cX12_isRow 108 = .ok (.goto 4, 3) := by decide +kernel
theorem dX12_isRow_111 : decode cX12_isRow 111 = .ok (.iconst 0, 1) := by decide +kernel
theorem dX12_isRow_112 : decode cX12_isRow 112 = .ok (.istore_n 3, 1) := by decide +kernel
theorem dX12_isRow_113 : decode cX12_isRow 113 = .ok (.iload_n 3, 1) := by decide +kernel
theorem dX12_isRow_114 : decode cX12_isRow 114 = .ok (.ifCond .ne 6, 3) := by decide +kernel
theorem dX12_isRow_117 : decode cX12_isRow 117 = .ok (.goto 65, 3) := by decide +kernel
theorem dX12_isRow_120 : decode cX12_isRow 120 = .ok (.aload_n 0, 1) := by decide +kernel
theorem dX12_isRow_121 : decode cX12_isRow 121 = .ok (.getfield 30, 3) := by decide +kernel
theorem dX12_isRow_124 : decode cX12_isRow 124 = .ok (.aload_n 0, 1) := by decide +kernel
theorem dX12_isRow_125 : decode cX12_isRow 125 = .ok (.getfield 323, 3) := by decide +kernel
theorem dX12_isRow_128 : decode cX12_isRow 128 = .ok (.iload 6, 2) := by decide +kernel
theorem dX12_isRow_130 : decode cX12_isRow 130 = .ok (.iastore, 1) := by decide +kernel
theorem dX12_isRow_131 : decode cX12_isRow 131 = .ok (.aload_n 0, 1) := by decide +kernel
theorem dX12_isRow_132 : decode cX12_isRow 132 = .ok (.dup, 1) := by decide +kernel
theorem dX12_isRow_133 : decode cX12_isRow 133 = .ok (.getfield 326, 3) := by decide +kernel
theorem dX12_isRow_136 : decode cX12_isRow 136 = .ok (.iconst 1, 1) := by decide +kernel
theorem dX12_isRow_137 : decode cX12_isRow 137 = .ok (.iload 6, 2) := by decide +kernel
theorem dX12_isRow_139 : decode cX12_isRow 139 = .ok (.ishl, 1) := by decide +kernel
theorem dX12_isRow_140 : decode cX12_isRow 140 = .ok (.ior, 1) := by decide +kernel
theorem dX12_isRow_141 : decode cX12_isRow 141 = .ok (.putfield 326, 3) := by decide +kernel
theorem dX12_isRow_144 : decode cX12_isRow 144 = .ok (.aload_n 0, 1) := by decide +kernel
theorem dX12_isRow_145 : decode cX12_isRow 145 = .ok (.dup, 1) := by decide +kernel
theorem dX12_isRow_146 : decode cX12_isRow 146 = .ok (.getfield 329, 3) := by decide +kernel
theorem dX12_isRow_149 : decode cX12_isRow 149 = .ok (.aload_n 0, 1) := by decide +kernel
theorem dX12_isRow_150 : decode cX12_isRow 150 = .ok (.getfield 311, 3) := by decide +kernel
theorem dX12_isRow_153 : decode cX12_isRow 153 = .ok (.getfield 262, 3) := by decide +kernel
theorem dX12_isRow_156 : decode cX12_isRow 156 = .ok (.iload 6, 2) := by decide +kernel
theorem dX12_isRow_158 : decode cX12_isRow 158 = .ok (.iaload, 1) := by decide +kernel
theorem dX12_isRow_159 : decode cX12_isRow 159 = .ok (.iconst 2, 1) := by decide +kernel
theorem dX12_isRow_160 : decode cX12_isRow 160 = .ok (.if_icmp .ne 7, 3) := by decide +kernel
theorem dX12_isRow_163 : decode cX12_isRow 163 = .ok (.iconst 1, 1) := by decide +kernel
theorem dX12_isRow_164 : decode cX12_isRow 164 = .ok (.goto 4, 3) := by decide +kernel
theorem dX12_isRow_167 : decode cX12_isRow 167 = .ok (.iconst 0, 1) := by decide +kernel
theorem dX12_isRow_168 : decode cX12_isRow 168 = .ok (.iadd, 1) := by decide +kernel
theorem dX12_isRow_169 : decode cX12_isRow 169 = .ok (.putfield 329, 3) := by decide +kernel
theorem dX12_isRow_172 : decode cX12_isRow 172 = .ok (.aload_n 0, 1) := by decide +kernel
theorem dX12_isRow_173 : decode cX12_isRow 173 = .ok (.dup, 1) := by decide +kernel
theorem dX12_isRow_174 : decode cX12_isRow 174 = .ok (.getfield 323, 3) := by decide +kernel
theorem dX12_isRow_177 : decode cX12_isRow 177 = .ok (.iconst 1, 1) := by decide +kernel
theorem dX12_isRow_178 : decode cX12_isRow 178 = .ok (.iadd, 1) := by decide +kernel
theorem dX12_isRow_179 : decode cX12_isRow 179 = .ok (.putfield 323, 3) := by decide +kernel
theorem dX12_isRow_182 : decode cX12_isRow 182 = .ok (.iinc 4 (-1), 3) := by decide +kernel
theorem dX12_isRow_185 : decode cX12_isRow 185 = .ok (.goto (-138), 3) := by decide +kernel
theorem dX12_isRow_188 : decode cX12_isRow 188 = .ok (.iload_n 3, 1) := by decide +kernel
theorem dX12_isRow_189 : decode cX12_isRow 189 = .ok (.ifCond .eq 14, 3) := by decide +kernel
theorem dX12_isRow_192 : decode cX12_isRow 192 = .ok (.aload_n 0, 1) := by decide +kernel
theorem dX12_isRow_193 : decode cX12_isRow 193 = .ok (.invokevirtual 332, 3) := by decide +kernel
theorem dX12_isRow_196 : decode cX12_isRow 196 = .ok (.ifCond .eq 7, 3) := by decide +kernel
theorem dX12_isRow_199 : decode cX12_isRow 199 = .ok (.iconst 1, 1) := by decide +kernel
theorem dX12_isRow_200 : decode cX12_isRow 200 = .ok (.goto 4, 3) := by decide +kernel
theorem dX12_isRow_203 : decode cX12_isRow 203 = .ok (.iconst 0, 1) := by decide +kernel
theorem dX12_isRow_204 : decode cX12_isRow 204 = .ok (.ireturn, 1) := by decide +kernel
theorem dX12_talesOf_0 : decode cX12_talesOf 0 = .ok (.aload_n 0, 1) := by decide +kernel
theorem dX12_talesOf_1 : decode cX12_talesOf 1 = .ok (.iconst 0, 1) := by decide +kernel
theorem dX12_talesOf_2 : decode cX12_talesOf 2 = .ok (.putfield 66, 3) := by decide +kernel
theorem dX12_talesOf_5 : decode cX12_talesOf 5 = .ok (.aload_n 0, 1) := by decide +kernel
theorem dX12_talesOf_6 : decode cX12_talesOf 6 = .ok (.iload_n 1, 1) := by decide +kernel
theorem dX12_talesOf_7 : decode cX12_talesOf 7 = .ok (.invokevirtual 350, 3) := by decide +kernel
theorem dX12_talesOf_10 : decode cX12_talesOf 10 = .ok (.ifCond .eq 20, 3) := by decide +kernel
theorem dX12_talesOf_13 : decode cX12_talesOf 13 = .ok (.aload_n 0, 1) := by decide +kernel
theorem dX12_talesOf_14 : decode cX12_talesOf 14 = .ok (.aload_n 0, 1) := by decide +kernel
theorem dX12_talesOf_15 : decode cX12_talesOf 15 = .ok (.aload_n 0, 1) := by decide +kernel
theorem dX12_talesOf_16 : decode cX12_talesOf 16 = .ok (.getfield 17, 3) := by decide +kernel
theorem dX12_talesOf_19 : decode cX12_talesOf 19 = .ok (.iload_n 1, 1) := by decide +kernel
theorem dX12_talesOf_20 : decode cX12_talesOf 20 = .ok (.iaload, 1) := by decide +kernel
theorem dX12_talesOf_21 : decode cX12_talesOf 21 = .ok (.invokevirtual 365, 3) := by decide +kernel
theorem dX12_talesOf_24 : decode cX12_talesOf 24 = .ok (.invokevirtual 76, 3) := by decide +kernel
theorem dX12_talesOf_27 : decode cX12_talesOf 27 = .ok (.goto 8, 3) := by decide +kernel
theorem dX12_talesOf_30 : decode cX12_talesOf 30 = .ok (.aload_n 0, 1) := by decide +kernel
theorem dX12_talesOf_31 : decode cX12_talesOf 31 = .ok (.iconst 1, 1) := by decide +kernel
theorem dX12_talesOf_32 : decode cX12_talesOf 32 = .ok (.invokevirtual 72, 3) := by decide +kernel
theorem dX12_talesOf_35 : decode cX12_talesOf 35 = .ok (.ireturn, 1) := by decide +kernel
theorem dX12_wanted_0 : decode cX12_wanted 0 = .ok (.aload_n 0, 1) := by decide +kernel
theorem dX12_wanted_1 : decode cX12_wanted 1 = .ok (.iconst 0, 1) := by decide +kernel
theorem dX12_wanted_2 : decode cX12_wanted 2 = .ok (.putfield 66, 3) := by decide +kernel
theorem dX12_wanted_5 : decode cX12_wanted 5 = .ok (.aload_n 0, 1) := by decide +kernel
theorem dX12_wanted_6 : decode cX12_wanted 6 = .ok (.iload_n 1, 1) := by decide +kernel
theorem dX12_wanted_7 : decode cX12_wanted 7 = .ok (.invokevirtual 350, 3) := by decide +kernel
theorem dX12_wanted_10 : decode cX12_wanted 10 = .ok (.ifCond .ne 9, 3) := by decide +kernel
theorem dX12_wanted_13 : decode cX12_wanted 13 = .ok (.aload_n 0, 1) := by decide +kernel
theorem dX12_wanted_14 : decode cX12_wanted 14 = .ok (.iconst 1, 1) := by decide +kernel
theorem dX12_wanted_15 : decode cX12_wanted 15 = .ok (.invokevirtual 72, 3) := by decide +kernel
theorem dX12_wanted_18 : decode cX12_wanted 18 = .ok (.ireturn, 1) := by decide +kernel
theorem dX12_wanted_19 : decode cX12_wanted 19 = .ok (.aload_n 0, 1) := by decide +kernel
theorem dX12_wanted_20 : decode cX12_wanted 20 = .ok (.aload_n 0, 1) := by decide +kernel
theorem dX12_wanted_21 : decode cX12_wanted 21 = .ok (.getfield 17, 3) := by decide +kernel
theorem dX12_wanted_24 : decode cX12_wanted 24 = .ok (.iload_n 1, 1) := by decide +kernel
theorem dX12_wanted_25 : decode cX12_wanted 25 = .ok (.iaload, 1) := by decide +kernel
theorem dX12_wanted_26 : decode cX12_wanted 26 = .ok (.invokevirtual 365, 3) := by decide +kernel
theorem dX12_wanted_29 : decode cX12_wanted 29 = .ok (.istore_n 2, 1) := by decide +kernel
theorem dX12_wanted_30 : decode cX12_wanted 30 = .ok (.bipush (-2), 2) := by decide +kernel
theorem dX12_wanted_32 : decode cX12_wanted 32 = .ok (.istore_n 3, 1) := by decide +kernel
theorem dX12_wanted_33 : decode cX12_wanted 33 = .ok (.iconst 0, 1) := by decide +kernel
theorem dX12_wanted_34 : decode cX12_wanted 34 = .ok (.istore 4, 2) := by decide +kernel
theorem dX12_wanted_36 : decode cX12_wanted 36 = .ok (.iload 4, 2) := by decide +kernel
theorem dX12_wanted_38 : decode cX12_wanted 38 = .ok (.aload_n 0, 1) := by decide +kernel
theorem dX12_wanted_39 : decode cX12_wanted 39 = .ok (.getfield 311, 3) := by decide +kernel
theorem dX12_wanted_42 : decode cX12_wanted 42 = .ok (.getfield 210, 3) := by decide +kernel
theorem dX12_wanted_45 : decode cX12_wanted 45 = .ok (.if_icmp .ge 41, 3) := by decide +kernel
theorem dX12_wanted_48 : decode cX12_wanted 48 = .ok (.aload_n 0, 1) := by decide +kernel
theorem dX12_wanted_49 : decode cX12_wanted 49 = .ok (.aload_n 0, 1) := by decide +kernel
theorem dX12_wanted_50 : decode cX12_wanted 50 = .ok (.getfield 17, 3) := by decide +kernel
theorem dX12_wanted_53 : decode cX12_wanted 53 = .ok (.iload_n 1, 1) := by decide +kernel
theorem dX12_wanted_54 : decode cX12_wanted 54 = .ok (.iaload, 1) := by decide +kernel
theorem dX12_wanted_55 : decode cX12_wanted 55 = .ok (.iconst 1, 1) := by decide +kernel
theorem dX12_wanted_56 : decode cX12_wanted 56 = .ok (.iload 4, 2) := by decide +kernel
theorem dX12_wanted_58 : decode cX12_wanted 58 = .ok (.ishl, 1) := by decide +kernel
theorem dX12_wanted_59 : decode cX12_wanted 59 = .ok (.ior, 1) := by decide +kernel
theorem dX12_wanted_60 : decode cX12_wanted 60 = .ok (.invokevirtual 365, 3) := by decide +kernel
theorem dX12_wanted_63 : decode cX12_wanted 63 = .ok (.istore 5, 2) := by decide +kernel
theorem dX12_wanted_65 : decode cX12_wanted 65 = .ok (.iload 5, 2) := by decide +kernel
theorem dX12_wanted_67 : decode cX12_wanted 67 = .ok (.iload_n 2, 1) := by decide +kernel
theorem dX12_wanted_68 : decode cX12_wanted 68 = .ok (.if_icmp .gt 6, 3) := by decide +kernel
theorem dX12_wanted_71 : decode cX12_wanted 71 = .ok (.goto 9, 3) := by decide +kernel
theorem dX12_wanted_74 : decode cX12_wanted 74 = .ok (.iload 5, 2) := by decide +kernel
theorem dX12_wanted_76 : decode cX12_wanted 76 = .ok (.istore_n 2, 1) := by decide +kernel
theorem dX12_wanted_77 : decode cX12_wanted 77 = .ok (.iload 4, 2) := by decide +kernel
theorem dX12_wanted_79 : decode cX12_wanted 79 = .ok (.istore_n 3, 1) := by decide +kernel
theorem dX12_wanted_80 : decode cX12_wanted 80 = .ok (.iinc 4 1, 3) := by decide +kernel
theorem dX12_wanted_83 : decode cX12_wanted 83 = .ok (.goto (-47), 3) := by decide +kernel
theorem dX12_wanted_86 : decode cX12_wanted 86 = .ok (.aload_n 0, 1) := by decide +kernel
theorem dX12_wanted_87 : decode cX12_wanted 87 = .ok (.iload_n 3, 1) := by decide +kernel
theorem dX12_wanted_88 : decode cX12_wanted 88 = .ok (.invokevirtual 76, 3) := by decide +kernel
theorem dX12_wanted_91 : decode cX12_wanted 91 = .ok (.ireturn, 1) := by decide +kernel
theorem dX12_ask_0 : decode cX12_ask 0 = .ok (.aload_n 0, 1) := by decide +kernel
theorem dX12_ask_1 : decode cX12_ask 1 = .ok (.iconst 0, 1) := by decide +kernel
theorem dX12_ask_2 : decode cX12_ask 2 = .ok (.putfield 66, 3) := by decide +kernel
theorem dX12_ask_5 : decode cX12_ask 5 = .ok (.aload_n 0, 1) := by decide +kernel
theorem dX12_ask_6 : decode cX12_ask 6 = .ok (.iload_n 1, 1) := by decide +kernel
theorem dX12_ask_7 : decode cX12_ask 7 = .ok (.invokevirtual 350, 3) := by decide +kernel
theorem dX12_ask_10 : decode cX12_ask 10 = .ok (.ifCond .ne 9, 3) := by decide +kernel
theorem dX12_ask_13 : decode cX12_ask 13 = .ok (.aload_n 0, 1) := by decide +kernel
theorem dX12_ask_14 : decode cX12_ask 14 = .ok (.iconst 1, 1) := by decide +kernel
theorem dX12_ask_15 : decode cX12_ask 15 = .ok (.invokevirtual 72, 3) := by decide +kernel
theorem dX12_ask_18 : decode cX12_ask 18 = .ok (.ireturn, 1) := by decide +kernel
theorem dX12_ask_19 : decode cX12_ask 19 = .ok (.aload_n 0, 1) := by decide +kernel
theorem dX12_ask_20 : decode cX12_ask 20 = .ok (.aload_n 0, 1) := by decide +kernel
theorem dX12_ask_21 : decode cX12_ask 21 = .ok (.getfield 17, 3) := by decide +kernel
theorem dX12_ask_24 : decode cX12_ask 24 = .ok (.iload_n 1, 1) := by decide +kernel
theorem dX12_ask_25 : decode cX12_ask 25 = .ok (.iaload, 1) := by decide +kernel
theorem dX12_ask_26 : decode cX12_ask 26 = .ok (.invokevirtual 365, 3) := by decide +kernel
theorem dX12_ask_29 : decode cX12_ask 29 = .ok (.istore_n 2, 1) := by decide +kernel
theorem dX12_ask_30 : decode cX12_ask 30 = .ok (.bipush (-2), 2) := by decide +kernel
theorem dX12_ask_32 : decode cX12_ask 32 = .ok (.istore_n 3, 1) := by decide +kernel
theorem dX12_ask_33 : decode cX12_ask 33 = .ok (.iconst 0, 1) := by decide +kernel
theorem dX12_ask_34 : decode cX12_ask 34 = .ok (.istore 4, 2) := by decide +kernel
theorem dX12_ask_36 : decode cX12_ask 36 = .ok (.iload 4, 2) := by decide +kernel
theorem dX12_ask_38 : decode cX12_ask 38 = .ok (.aload_n 0, 1) := by decide +kernel
theorem dX12_ask_39 : decode cX12_ask 39 = .ok (.getfield 311, 3) := by decide +kernel
theorem dX12_ask_42 : decode cX12_ask 42 = .ok (.getfield 277, 3) := by decide +kernel
theorem dX12_ask_45 : decode cX12_ask 45 = .ok (.if_icmp .ge 63, 3) := by decide +kernel
theorem dX12_ask_48 : decode cX12_ask 48 = .ok (.iload 4, 2) := by decide +kernel
theorem dX12_ask_50 : decode cX12_ask 50 = .ok (.iload_n 1, 1) := by decide +kernel
theorem dX12_ask_51 : decode cX12_ask 51 = .ok (.if_icmp .eq 33, 3) := by decide +kernel
theorem dX12_ask_54 : decode cX12_ask 54 = .ok (.aload_n 0, 1) := by decide +kernel
theorem dX12_ask_55 : decode cX12_ask 55 = .ok (.iload 4, 2) := by decide +kernel
theorem dX12_ask_57 : decode cX12_ask 57 = .ok (.invokevirtual 377, 3) := by decide +kernel
theorem dX12_ask_60 : decode cX12_ask 60 = .ok (.ifCond .eq 24, 3) := by decide +kernel
theorem dX12_ask_63 : decode cX12_ask 63 = .ok (.aload_n 0, 1) := by decide +kernel
theorem dX12_ask_64 : decode cX12_ask 64 = .ok (.aload_n 0, 1) := by decide +kernel
theorem dX12_ask_65 : decode cX12_ask 65 = .ok (.getfield 17, 3) := by decide +kernel
theorem dX12_ask_68 : decode cX12_ask 68 = .ok (.iload_n 1, 1) := by decide +kernel
theorem dX12_ask_69 : decode cX12_ask 69 = .ok (.iaload, 1) := by decide +kernel
theorem dX12_ask_70 : decode cX12_ask 70 = .ok (.aload_n 0, 1) := by decide +kernel
theorem dX12_ask_71 : decode cX12_ask 71 = .ok (.getfield 17, 3) := by decide +kernel
theorem dX12_ask_74 : decode cX12_ask 74 = .ok (.iload 4, 2) := by decide +kernel
theorem dX12_ask_76 : decode cX12_ask 76 = .ok (.iaload, 1) := by decide +kernel
theorem dX12_ask_77 : decode cX12_ask 77 = .ok (.ior, 1) := by decide +kernel
theorem dX12_ask_78 : decode cX12_ask 78 = .ok (.invokevirtual 365, 3) := by decide +kernel
theorem dX12_ask_81 : decode cX12_ask 81 = .ok (.goto 4, 3) := by decide +kernel
theorem dX12_ask_84 : decode cX12_ask 84 = .ok (.iconst 0, 1) := by decide +kernel
theorem dX12_ask_85 : decode cX12_ask 85 = .ok (.istore 5, 2) := by decide +kernel
theorem dX12_ask_87 : decode cX12_ask 87 = .ok (.iload 5, 2) := by decide +kernel
theorem dX12_ask_89 : decode cX12_ask 89 = .ok (.iload_n 2, 1) := by decide +kernel
theorem dX12_ask_90 : decode cX12_ask 90 = .ok (.if_icmp .gt 6, 3) := by decide +kernel
theorem dX12_ask_93 : decode cX12_ask 93 = .ok (.goto 9, 3) := by decide +kernel
theorem dX12_ask_96 : decode cX12_ask 96 = .ok (.iload 5, 2) := by decide +kernel
theorem dX12_ask_98 : decode cX12_ask 98 = .ok (.istore_n 2, 1) := by decide +kernel
theorem dX12_ask_99 : decode cX12_ask 99 = .ok (.iload 4, 2) := by decide +kernel
theorem dX12_ask_101 : decode cX12_ask 101 = .ok (.istore_n 3, 1) := by decide +kernel
theorem dX12_ask_102 : decode cX12_ask 102 = .ok (.iinc 4 1, 3) := by decide +kernel
theorem dX12_ask_105 : decode cX12_ask 105 = .ok (.goto (-69), 3) := by decide +kernel
theorem dX12_ask_108 : decode cX12_ask 108 = .ok (.aload_n 0, 1) := by decide +kernel
theorem dX12_ask_109 : decode cX12_ask 109 = .ok (.iload_n 3, 1) := by decide +kernel
theorem dX12_ask_110 : decode cX12_ask 110 = .ok (.invokevirtual 76, 3) := by decide +kernel
theorem dX12_ask_113 : decode cX12_ask 113 = .ok (.ireturn, 1) := by decide +kernel
theorem dX12_canTell_0 : decode cX12_canTell 0 = .ok (.aload_n 0, 1) := by decide +kernel
theorem dX12_canTell_1 : decode cX12_canTell 1 = .ok (.getfield 311, 3) := by decide +kernel
theorem dX12_canTell_4 : decode cX12_canTell 4 = .ok (.getfield 297, 3) := by decide +kernel
theorem dX12_canTell_7 : decode cX12_canTell 7 = .ok (.iload_n 1, 1) := by decide +kernel
theorem dX12_canTell_8 : decode cX12_canTell 8 = .ok (.invokestatic 273, 3) := by decide +kernel
theorem dX12_canTell_11 : decode cX12_canTell 11 = .ok (.ifCond .ne 7, 3) := by decide +kernel
theorem dX12_canTell_14 : decode cX12_canTell 14 = .ok (.iconst 1, 1) := by decide +kernel
theorem dX12_canTell_15 : decode cX12_canTell 15 = .ok (.goto 4, 3) := by decide +kernel
theorem dX12_canTell_18 : decode cX12_canTell 18 = .ok (.iconst 0, 1) := by decide +kernel
theorem dX12_canTell_19 : decode cX12_canTell 19 = .ok (.ireturn, 1) := by decide +kernel
theorem dX12_askAll_0 : decode cX12_askAll 0 = .ok (.aload_n 0, 1) := by decide +kernel
theorem dX12_askAll_1 : decode cX12_askAll 1 = .ok (.iconst 0, 1) := by decide +kernel
theorem dX12_askAll_2 : decode cX12_askAll 2 = .ok (.putfield 66, 3) := by decide +kernel
theorem dX12_askAll_5 : decode cX12_askAll 5 = .ok (.aload_n 0, 1) := by decide +kernel
theorem dX12_askAll_6 : decode cX12_askAll 6 = .ok (.iload_n 1, 1) := by decide +kernel
theorem dX12_askAll_7 : decode cX12_askAll 7 = .ok (.invokevirtual 350, 3) := by decide +kernel
theorem dX12_askAll_10 : decode cX12_askAll 10 = .ok (.ifCond .ne 9, 3) := by decide +kernel
theorem dX12_askAll_13 : decode cX12_askAll 13 = .ok (.aload_n 0, 1) := by decide +kernel
theorem dX12_askAll_14 : decode cX12_askAll 14 = .ok (.iconst 1, 1) := by decide +kernel
theorem dX12_askAll_15 : decode cX12_askAll 15 = .ok (.invokevirtual 72, 3) := by decide +kernel
theorem dX12_askAll_18 : decode cX12_askAll 18 = .ok (.ireturn, 1) := by decide +kernel
theorem dX12_askAll_19 : decode cX12_askAll 19 = .ok (.bipush (-2), 2) := by decide +kernel
theorem dX12_askAll_21 : decode cX12_askAll 21 = .ok (.istore_n 2, 1) := by decide +kernel
theorem dX12_askAll_22 : decode cX12_askAll 22 = .ok (.iconst 0, 1) := by decide +kernel
theorem dX12_askAll_23 : decode cX12_askAll 23 = .ok (.istore_n 3, 1) := by decide +kernel
theorem dX12_askAll_24 : decode cX12_askAll 24 = .ok (.iload_n 3, 1) := by decide +kernel
theorem dX12_askAll_25 : decode cX12_askAll 25 = .ok (.iconst 1, 1) := by decide +kernel
theorem dX12_askAll_26 : decode cX12_askAll 26 = .ok (.aload_n 0, 1) := by decide +kernel
theorem dX12_askAll_27 : decode cX12_askAll 27 = .ok (.getfield 311, 3) := by decide +kernel
theorem dX12_askAll_30 : decode cX12_askAll 30 = .ok (.getfield 277, 3) := by decide +kernel
theorem dX12_askAll_33 : decode cX12_askAll 33 = .ok (.ishl, 1) := by decide +kernel
theorem dX12_askAll_34 : decode cX12_askAll 34 = .ok (.if_icmp .ge 114, 3) := by decide +kernel
theorem dX12_askAll_37 : decode cX12_askAll 37 = .ok (.iload_n 3, 1) := by decide +kernel
theorem dX12_askAll_38 : decode cX12_askAll 38 = .ok (.aload_n 0, 1) := by decide +kernel
theorem dX12_askAll_39 : decode cX12_askAll 39 = .ok (.getfield 311, 3) := by decide +kernel
theorem dX12_askAll_42 : decode cX12_askAll 42 = .ok (.getfield 297, 3) := by decide +kernel
theorem dX12_askAll_45 : decode cX12_askAll 45 = .ok (.iand, 1) := by decide +kernel
theorem dX12_askAll_46 : decode cX12_askAll 46 = .ok (.ifCond .ne 96, 3) := by decide +kernel
theorem dX12_askAll_49 : decode cX12_askAll 49 = .ok (.iload_n 3, 1) := by decide +kernel
theorem dX12_askAll_50 : decode cX12_askAll 50 = .ok (.iload_n 1, 1) := by decide +kernel
theorem dX12_askAll_51 : decode cX12_askAll 51 = .ok (.invokestatic 273, 3) := by decide +kernel
theorem dX12_askAll_54 : decode cX12_askAll 54 = .ok (.ifCond .ne 88, 3) := by decide +kernel
theorem dX12_askAll_57 : decode cX12_askAll 57 = .ok (.iload_n 2, 1) := by decide +kernel
theorem dX12_askAll_58 : decode cX12_askAll 58 = .ok (.bipush (-2), 2) := by decide +kernel
theorem dX12_askAll_60 : decode cX12_askAll 60 = .ok (.if_icmp .eq 17, 3) := by decide +kernel
theorem dX12_askAll_63 : decode cX12_askAll 63 = .ok (.iload_n 3, 1) := by decide +kernel
theorem dX12_askAll_64 : decode cX12_askAll 64 = .ok (.invokestatic 371, 3) := by decide +kernel
theorem dX12_askAll_67 : decode cX12_askAll 67 = .ok (.iload_n 2, 1) := by decide +kernel
theorem dX12_askAll_68 : decode cX12_askAll 68 = .ok (.invokestatic 371, 3) := by decide +kernel
theorem dX12_askAll_71 : decode cX12_askAll 71 = .ok (.if_icmp .lt 6, 3) := by decide +kernel
theorem dX12_askAll_74 : decode cX12_askAll 74 = .ok (.goto 68, 3) := by decide +kernel
theorem dX12_askAll_77 : decode cX12_askAll 77 = .ok (.aload_n 0, 1) := by decide +kernel
theorem dX12_askAll_78 : decode cX12_askAll 78 = .ok (.getfield 17, 3) := by decide +kernel
theorem dX12_askAll_81 : decode cX12_askAll 81 = .ok (.iload_n 1, 1) := by decide +kernel
theorem dX12_askAll_82 : decode cX12_askAll 82 = .ok (.iaload, 1) := by decide +kernel
theorem dX12_askAll_83 : decode cX12_askAll 83 = .ok (.istore 4, 2) := by decide +kernel
theorem dX12_askAll_85 : decode cX12_askAll 85 = .ok (.iconst 0, 1) := by decide +kernel
theorem dX12_askAll_86 : decode cX12_askAll 86 = .ok (.istore 5, 2) := by decide +kernel
theorem dX12_askAll_88 : decode cX12_askAll 88 = .ok (.iload 5, 2) := by decide +kernel
theorem dX12_askAll_90 : decode cX12_askAll 90 = .ok (.aload_n 0, 1) := by decide +kernel
theorem dX12_askAll_91 : decode cX12_askAll 91 = .ok (.getfield 311, 3) := by decide +kernel
theorem dX12_askAll_94 : decode cX12_askAll 94 = .ok (.getfield 277, 3) := by decide +kernel
theorem dX12_askAll_97 : decode cX12_askAll 97 = .ok (.if_icmp .ge 34, 3) := by decide +kernel
theorem dX12_askAll_100 : decode cX12_askAll 100 = .ok (.iload 4, 2) := by decide +kernel
theorem dX12_askAll_102 : decode cX12_askAll 102 = .ok (.iload_n 3, 1) := by decide +kernel
theorem dX12_askAll_103 : decode cX12_askAll 103 = .ok (.iload 5, 2) := by decide +kernel
theorem dX12_askAll_105 : decode cX12_askAll 105 = .ok (.invokestatic 273, 3) := by decide +kernel
theorem dX12_askAll_108 : decode cX12_askAll 108 = .ok (.ifCond .eq 13, 3) := by decide +kernel
theorem dX12_askAll_111 : decode cX12_askAll 111 = .ok (.aload_n 0, 1) := by decide +kernel
theorem dX12_askAll_112 : decode cX12_askAll 112 = .ok (.getfield 17, 3) := by decide +kernel
theorem dX12_askAll_115 : decode cX12_askAll 115 = .ok (.iload 5, 2) := by decide +kernel
theorem dX12_askAll_117 : decode cX12_askAll 117 = .ok (.iaload, 1) := by decide +kernel
theorem dX12_askAll_118 : decode cX12_askAll 118 = .ok (.goto 4, 3) := by decide +kernel
theorem dX12_askAll_121 : decode cX12_askAll 121 = .ok (.iconst 0, 1) := by decide +kernel
theorem dX12_askAll_122 : decode cX12_askAll 122 = .ok (.ior, 1) := by decide +kernel
theorem dX12_askAll_123 : decode cX12_askAll 123 = .ok (.istore 4, 2) := by decide +kernel
theorem dX12_askAll_125 : decode cX12_askAll 125 = .ok (.iinc 5 1, 3) := by decide +kernel
theorem dX12_askAll_128 : decode cX12_askAll 128 = .ok (.goto (-40), 3) := by decide +kernel
theorem dX12_askAll_131 : decode cX12_askAll 131 = .ok (.aload_n 0, 1) := by decide +kernel
theorem dX12_askAll_132 : decode cX12_askAll 132 = .ok (.iload 4, 2) := by decide +kernel
theorem dX12_askAll_134 : decode cX12_askAll 134 = .ok (.invokevirtual 353, 3) := by decide +kernel
theorem dX12_askAll_137 : decode cX12_askAll 137 = .ok (.ifCond .eq 5, 3) := by decide +kernel
theorem dX12_askAll_140 : decode cX12_askAll 140 = .ok (.iload_n 3, 1) := by decide +kernel
theorem dX12_askAll_141 : decode cX12_askAll 141 = .ok (.istore_n 2, 1) := by decide +kernel
theorem dX12_askAll_142 : decode cX12_askAll 142 = .ok (.iinc 3 1, 3) := by decide +kernel
theorem dX12_askAll_145 : decode cX12_askAll 145 = .ok (.goto (-121), 3) := by decide +kernel
theorem dX12_askAll_148 : decode cX12_askAll 148 = .ok (.aload_n 0, 1) := by decide +kernel
theorem dX12_askAll_149 : decode cX12_askAll 149 = .ok (.iload_n 2, 1) := by decide +kernel
theorem dX12_askAll_150 : decode cX12_askAll 150 = .ok (.invokevirtual 76, 3) := by decide +kernel
theorem dX12_askAll_153 : decode cX12_askAll 153 = .ok (.ireturn, 1) := by decide +kernel
theorem dX12_sense_0 : decode cX12_sense 0 = .ok (.aload_n 0, 1) := by decide +kernel
theorem dX12_sense_1 : decode cX12_sense 1 = .ok (.iconst 0, 1) := by decide +kernel
theorem dX12_sense_2 : decode cX12_sense 2 = .ok (.putfield 66, 3) := by decide +kernel
theorem dX12_sense_5 : decode cX12_sense 5 = .ok (.aload_n 0, 1) := by decide +kernel
theorem dX12_sense_6 : decode cX12_sense 6 = .ok (.getfield 311, 3) := by decide +kernel
theorem dX12_sense_9 : decode cX12_sense 9 = .ok (.ifnonnull 11, 3) := by decide +kernel
theorem dX12_sense_12 : decode cX12_sense 12 = .ok (.aload_n 0, 1) := by decide +kernel
theorem dX12_sense_13 : decode cX12_sense 13 = .ok (.iconst 1, 1) := by decide +kernel
theorem dX12_sense_14 : decode cX12_sense 14 = .ok (.invokevirtual 72, 3) := by decide +kernel
theorem dX12_sense_17 : decode cX12_sense 17 = .ok (.goto 15, 3) := by decide +kernel
theorem dX12_sense_20 : decode cX12_sense 20 = .ok (.aload_n 0, 1) := by decide +kernel
theorem dX12_sense_21 : decode cX12_sense 21 = .ok (.aload_n 0, 1) := by decide +kernel
theorem dX12_sense_22 : decode cX12_sense 22 = .ok (.aload_n 0, 1) := by decide +kernel
theorem dX12_sense_23 : decode cX12_sense 23 = .ok (.getfield 17, 3) := by decide +kernel
theorem dX12_sense_26 : decode cX12_sense 26 = .ok (.invokevirtual 380, 3) := by decide +kernel
theorem dX12_sense_29 : decode cX12_sense 29 = .ok (.invokevirtual 76, 3) := by decide +kernel
theorem dX12_sense_32 : decode cX12_sense 32 = .ok (.ireturn, 1) := by decide +kernel
theorem dX12_senseIn_0 : decode cX12_senseIn 0 = .ok (.iconst 0, 1) := by decide +kernel
theorem dX12_senseIn_1 : decode cX12_senseIn 1 = .ok (.istore_n 2, 1) := by decide +kernel
theorem dX12_senseIn_2 : decode cX12_senseIn 2 = .ok (.iconst 0, 1) := by decide +kernel
theorem dX12_senseIn_3 : decode cX12_senseIn 3 = .ok (.istore_n 3, 1) := by decide +kernel
theorem dX12_senseIn_4 : decode cX12_senseIn 4 = .ok (.iload_n 3, 1) := by decide +kernel
theorem dX12_senseIn_5 : decode cX12_senseIn 5 = .ok (.aload_n 0, 1) := by decide +kernel
theorem dX12_senseIn_6 : decode cX12_senseIn 6 = .ok (.getfield 311, 3) := by decide +kernel
theorem dX12_senseIn_9 : decode cX12_senseIn 9 = .ok (.getfield 277, 3) := by decide +kernel
theorem dX12_senseIn_12 : decode cX12_senseIn 12 = .ok (.if_icmp .ge 29, 3) := by decide +kernel
theorem dX12_senseIn_15 : decode cX12_senseIn 15 = .ok (.iload_n 2, 1) := by decide +kernel
theorem dX12_senseIn_16 : decode cX12_senseIn 16 = .ok (.aload_n 0, 1) := by decide +kernel
theorem dX12_senseIn_17 : decode cX12_senseIn 17 = .ok (.aload_n 1, 1) := by decide +kernel
theorem dX12_senseIn_18 : decode cX12_senseIn 18 = .ok (.iload_n 3, 1) := by decide +kernel
theorem dX12_senseIn_19 : decode cX12_senseIn 19 = .ok (.iaload, 1) := by decide +kernel
theorem dX12_senseIn_20 : decode cX12_senseIn 20 = .ok (.invokevirtual 353, 3) := by decide +kernel
theorem dX12_senseIn_23 : decode cX12_senseIn 23 = .ok (.ifCond .eq 9, 3) := by decide +kernel
theorem dX12_senseIn_26 : decode cX12_senseIn 26 = .ok (.iconst 1, 1) := by decide +kernel
theorem dX12_senseIn_27 : decode cX12_senseIn 27 = .ok (.iload_n 3, 1) := by decide +kernel
theorem dX12_senseIn_28 : decode cX12_senseIn 28 = .ok (.ishl, 1) := by decide +kernel
theorem dX12_senseIn_29 : decode cX12_senseIn 29 = .ok (.goto 4, 3) := by decide +kernel
theorem dX12_senseIn_32 : decode cX12_senseIn 32 = .ok (.iconst 0, 1) := by decide +kernel
theorem dX12_senseIn_33 : decode cX12_senseIn 33 = .ok (.ior, 1) := by decide +kernel
theorem dX12_senseIn_34 : decode cX12_senseIn 34 = .ok (.istore_n 2, 1) := by decide +kernel
theorem dX12_senseIn_35 : decode cX12_senseIn 35 = .ok (.iinc 3 1, 3) := by decide +kernel
theorem dX12_senseIn_38 : decode cX12_senseIn 38 = .ok (.goto (-34), 3) := by decide +kernel
theorem dX12_senseIn_41 : decode cX12_senseIn 41 = .ok (.iload_n 2, 1) := by decide +kernel
theorem dX12_senseIn_42 : decode cX12_senseIn 42 = .ok (.ireturn, 1) := by decide +kernel
theorem dX12_wisest_0 : decode cX12_wisest 0 = .ok (.aload_n 0, 1) := by decide +kernel
theorem dX12_wisest_1 : decode cX12_wisest 1 = .ok (.iconst 0, 1) := by decide +kernel
theorem dX12_wisest_2 : decode cX12_wisest 2 = .ok (.putfield 66, 3) := by decide +kernel
theorem dX12_wisest_5 : decode cX12_wisest 5 = .ok (.aload_n 0, 1) := by decide +kernel
theorem dX12_wisest_6 : decode cX12_wisest 6 = .ok (.getfield 311, 3) := by decide +kernel
theorem dX12_wisest_9 : decode cX12_wisest 9 = .ok (.ifnonnull 9, 3) := by decide +kernel
theorem dX12_wisest_12 : decode cX12_wisest 12 = .ok (.aload_n 0, 1) := by decide +kernel
theorem dX12_wisest_13 : decode cX12_wisest 13 = .ok (.iconst 1, 1) := by decide +kernel
theorem dX12_wisest_14 : decode cX12_wisest 14 = .ok (.invokevirtual 72, 3) := by decide +kernel
theorem dX12_wisest_17 : decode cX12_wisest 17 = .ok (.ireturn, 1) := by decide +kernel
theorem dX12_wisest_18 : decode cX12_wisest 18 = .ok (.bipush (-2), 2) := by decide +kernel
theorem dX12_wisest_20 : decode cX12_wisest 20 = .ok (.istore_n 1, 1) := by decide +kernel
theorem dX12_wisest_21 : decode cX12_wisest 21 = .ok (.iconst 0, 1) := by decide +kernel
theorem dX12_wisest_22 : decode cX12_wisest 22 = .ok (.istore_n 2, 1) := by decide +kernel
theorem dX12_wisest_23 : decode cX12_wisest 23 = .ok (.iload_n 2, 1) := by decide +kernel
theorem dX12_wisest_24 : decode cX12_wisest 24 = .ok (.aload_n 0, 1) := by decide +kernel
theorem dX12_wisest_25 : decode cX12_wisest 25 = .ok (.getfield 311, 3) := by decide +kernel
theorem dX12_wisest_28 : decode cX12_wisest 28 = .ok (.getfield 277, 3) := by decide +kernel
theorem dX12_wisest_31 : decode cX12_wisest 31 = .ok (.if_icmp .ge 38, 3) := by decide +kernel
theorem dX12_wisest_34 : decode cX12_wisest 34 = .ok (.iload_n 1, 1) := by decide +kernel
theorem dX12_wisest_35 : decode cX12_wisest 35 = .ok (.bipush (-2), 2) := by decide +kernel
theorem dX12_wisest_37 : decode cX12_wisest 37 = .ok (.if_icmp .eq 24, 3) := by decide +kernel
theorem dX12_wisest_40 : decode cX12_wisest 40 = .ok (.aload_n 0, 1) := by decide +kernel
theorem dX12_wisest_41 : decode cX12_wisest 41 = .ok (.getfield 17, 3) := by decide +kernel
theorem dX12_wisest_44 : decode cX12_wisest 44 = .ok (.iload_n 2, 1) := by decide +kernel
theorem dX12_wisest_45 : decode cX12_wisest 45 = .ok (.iaload, 1) := by decide +kernel
theorem dX12_wisest_46 : decode cX12_wisest 46 = .ok (.invokestatic 371, 3) := by decide +kernel
theorem dX12_wisest_49 : decode cX12_wisest 49 = .ok (.aload_n 0, 1) := by decide +kernel
theorem dX12_wisest_50 : decode cX12_wisest 50 = .ok (.getfield 17, 3) := by decide +kernel
theorem dX12_wisest_53 : decode cX12_wisest 53 = .ok (.iload_n 1, 1) := by decide +kernel
theorem dX12_wisest_54 : decode cX12_wisest 54 = .ok (.iaload, 1) := by decide +kernel
theorem dX12_wisest_55 : decode cX12_wisest 55 = .ok (.invokestatic 371, 3) := by decide +kernel
theorem dX12_wisest_58 : decode cX12_wisest 58 = .ok (.if_icmp .le 5, 3) := by decide +kernel
theorem dX12_wisest_61 : decode cX12_wisest 61 = .ok (.iload_n 2, 1) := by decide +kernel
theorem dX12_wisest_62 : decode cX12_wisest 62 = .ok (.istore_n 1, 1) := by decide +kernel
theorem dX12_wisest_63 : decode cX12_wisest 63 = .ok (.iinc 2 1, 3) := by decide +kernel
theorem dX12_wisest_66 : decode cX12_wisest 66 = .ok (.goto (-43), 3) := by decide +kernel
theorem dX12_wisest_69 : decode cX12_wisest 69 = .ok (.aload_n 0, 1) := by decide +kernel
theorem dX12_wisest_70 : decode cX12_wisest 70 = .ok (.iload_n 1, 1) := by decide +kernel
theorem dX12_wisest_71 : decode cX12_wisest 71 = .ok (.invokevirtual 76, 3) := by decide +kernel
theorem dX12_wisest_74 : decode cX12_wisest 74 = .ok (.ireturn, 1) := by decide +kernel
theorem dX12_waysAll_0 : decode cX12_waysAll 0 = .ok (.aload_n 0, 1) := by decide +kernel
theorem dX12_waysAll_1 : decode cX12_waysAll 1 = .ok (.iconst 0, 1) := by decide +kernel
theorem dX12_waysAll_2 : decode cX12_waysAll 2 = .ok (.putfield 384, 3) := by decide +kernel
theorem dX12_waysAll_5 : decode cX12_waysAll 5 = .ok (.aload_n 0, 1) := by decide +kernel
theorem dX12_waysAll_6 : decode cX12_waysAll 6 = .ok (.getfield 311, 3) := by decide +kernel
theorem dX12_waysAll_9 : decode cX12_waysAll 9 = .ok (.getfield 277, 3) := by decide +kernel
theorem dX12_waysAll_12 : decode cX12_waysAll 12 = .ok (.istore_n 1, 1) := by decide +kernel
theorem dX12_waysAll_13 : decode cX12_waysAll 13 = .ok (.iconst 1, 1) := by decide +kernel
theorem dX12_waysAll_14 : decode cX12_waysAll 14 = .ok (.istore_n 2, 1) := by decide +kernel
theorem dX12_waysAll_15 : decode cX12_waysAll 15 = .ok (.iconst 0, 1) := by decide +kernel
theorem dX12_waysAll_16 : decode cX12_waysAll 16 = .ok (.istore_n 3, 1) := by decide +kernel
theorem dX12_waysAll_17 : decode cX12_waysAll 17 = .ok (.iload_n 3, 1) := by decide +kernel
theorem dX12_waysAll_18 : decode cX12_waysAll 18 = .ok (.iload_n 1, 1) := by decide +kernel
theorem dX12_waysAll_19 : decode cX12_waysAll 19 = .ok (.if_icmp .ge 15, 3) := by decide +kernel
theorem dX12_waysAll_22 : decode cX12_waysAll 22 = .ok (.iload_n 2, 1) := by decide +kernel
theorem dX12_waysAll_23 : decode cX12_waysAll 23 = .ok (.iload_n 1, 1) := by decide +kernel
theorem dX12_waysAll_24 : decode cX12_waysAll 24 = .ok (.iconst 1, 1) := by decide +kernel
theorem dX12_waysAll_25 : decode cX12_waysAll 25 = .ok (.iadd, 1) := by decide +kernel
theorem dX12_waysAll_26 : decode cX12_waysAll 26 = .ok (.imul, 1) := by decide +kernel
theorem dX12_waysAll_27 : decode cX12_waysAll 27 = .ok (.istore_n 2, 1) := by decide +kernel
theorem dX12_waysAll_28 : decode cX12_waysAll 28 = .ok (.iinc 3 1, 3) := by decide +kernel
theorem dX12_waysAll_31 : decode cX12_waysAll 31 = .ok (.goto (-14), 3) := by decide +kernel
theorem dX12_waysAll_34 : decode cX12_waysAll 34 = .ok (.iconst 0, 1) := by decide +kernel
theorem dX12_waysAll_35 : decode cX12_waysAll 35 = .ok (.istore_n 3, 1) := by decide +kernel
theorem dX12_waysAll_36 : decode cX12_waysAll 36 = .ok (.iload_n 3, 1) := by decide +kernel
theorem dX12_waysAll_37 : decode cX12_waysAll 37 = .ok (.iload_n 2, 1) := by decide +kernel
theorem dX12_waysAll_38 : decode cX12_waysAll 38 = .ok (.if_icmp .ge 105, 3) := by decide +kernel
theorem dX12_waysAll_41 : decode cX12_waysAll 41 = .ok (.iload_n 3, 1) := by decide +kernel
theorem dX12_waysAll_42 : decode cX12_waysAll 42 = .ok (.istore 4, 2) := by decide +kernel
theorem dX12_waysAll_44 : decode cX12_waysAll 44 = .ok (.iload_n 1, 1) := by decide +kernel
theorem dX12_waysAll_45 : decode cX12_waysAll 45 = .ok (.iconst 1, 1) := by decide +kernel
theorem dX12_waysAll_46 : decode cX12_waysAll 46 = .ok (.isub, 1) := by decide +kernel
theorem dX12_waysAll_47 : decode cX12_waysAll 47 = .ok (.istore 5, 2) := by decide +kernel
theorem dX12_waysAll_49 : decode cX12_waysAll 49 = .ok (.iload 5, 2) := by decide +kernel
theorem dX12_waysAll_51 : decode cX12_waysAll 51 = .ok (.ifCond .lt 30, 3) := by decide +kernel
theorem dX12_waysAll_54 : decode cX12_waysAll 54 = .ok (.aload_n 0, 1) := by decide +kernel
theorem dX12_waysAll_55 : decode cX12_waysAll 55 = .ok (.getfield 39, 3) := by decide +kernel
theorem dX12_waysAll_58 : decode cX12_waysAll 58 = .ok (.iload 5, 2) := by decide +kernel
theorem dX12_waysAll_60 : decode cX12_waysAll 60 = .ok (.iload 4, 2) := by decide +kernel
theorem dX12_waysAll_62 : decode cX12_waysAll 62 = .ok (.iload_n 1, 1) := by decide +kernel
theorem dX12_waysAll_63 : decode cX12_waysAll 63 = .ok (.iconst 1, 1) := by decide +kernel
theorem dX12_waysAll_64 : decode cX12_waysAll 64 = .ok (.iadd, 1) := by decide +kernel
theorem dX12_waysAll_65 : decode cX12_waysAll 65 = .ok (.irem, 1) := by decide +kernel
theorem dX12_waysAll_66 : decode cX12_waysAll 66 = .ok (.iastore, 1) := by decide +kernel
theorem dX12_waysAll_67 : decode cX12_waysAll 67 = .ok (.iload 4, 2) := by decide +kernel
theorem dX12_waysAll_69 : decode cX12_waysAll 69 = .ok (.iload_n 1, 1) := by decide +kernel
theorem dX12_waysAll_70 : decode cX12_waysAll 70 = .ok (.iconst 1, 1) := by decide +kernel
theorem dX12_waysAll_71 : decode cX12_waysAll 71 = .ok (.iadd, 1) := by decide +kernel
theorem dX12_waysAll_72 : decode cX12_waysAll 72 = .ok (.idiv, 1) := by decide +kernel
theorem dX12_waysAll_73 : decode cX12_waysAll 73 = .ok (.istore 4, 2) := by decide +kernel
theorem dX12_waysAll_75 : decode cX12_waysAll 75 = .ok (.iinc 5 (-1), 3) := by decide +kernel
theorem dX12_waysAll_78 : decode cX12_waysAll 78 = .ok (.goto (-29), 3) := by decide +kernel
theorem dX12_waysAll_81 : decode cX12_waysAll 81 = .ok (.aload_n 0, 1) := by decide +kernel
theorem dX12_waysAll_82 : decode cX12_waysAll 82 = .ok (.invokevirtual 387, 3) := by decide +kernel
theorem dX12_waysAll_85 : decode cX12_waysAll 85 = .ok (.ifCond .ne 6, 3) := by decide +kernel
theorem dX12_waysAll_88 : decode cX12_waysAll 88 = .ok (.goto 49, 3) := by decide +kernel
theorem dX12_waysAll_91 : decode cX12_waysAll 91 = .ok (.iconst 0, 1) := by decide +kernel
theorem dX12_waysAll_92 : decode cX12_waysAll 92 = .ok (.istore 5, 2) := by decide +kernel
theorem dX12_waysAll_94 : decode cX12_waysAll 94 = .ok (.iload 5, 2) := by decide +kernel
theorem dX12_waysAll_96 : decode cX12_waysAll 96 = .ok (.iload_n 1, 1) := by decide +kernel
theorem dX12_waysAll_97 : decode cX12_waysAll 97 = .ok (.if_icmp .ge 30, 3) := by decide +kernel
theorem dX12_waysAll_100 : decode cX12_waysAll 100 = .ok (.aload_n 0, 1) := by decide +kernel
theorem dX12_waysAll_101 : decode cX12_waysAll 101 = .ok (.getfield 36, 3) := by decide +kernel
theorem dX12_waysAll_104 : decode cX12_waysAll 104 = .ok (.iconst 5, 1) := by decide +kernel
theorem dX12_waysAll_105 : decode cX12_waysAll 105 = .ok (.aload_n 0, 1) := by decide +kernel
theorem dX12_waysAll_106 : decode cX12_waysAll 106 = .ok (.getfield 384, 3) := by decide +kernel
theorem dX12_waysAll_109 : decode cX12_waysAll 109 = .ok (.imul, 1) := by decide +kernel
theorem dX12_waysAll_110 : decode cX12_waysAll 110 = .ok (.iload 5, 2) := by decide +kernel
theorem dX12_waysAll_112 : decode cX12_waysAll 112 = .ok (.iadd, 1) := by decide +kernel
theorem dX12_waysAll_113 : decode cX12_waysAll 113 = .ok (.aload_n 0, 1) := by decide +kernel
theorem dX12_waysAll_114 : decode cX12_waysAll 114 = .ok (.getfield 39, 3) := by decide +kernel
theorem dX12_waysAll_117 : decode cX12_waysAll 117 = .ok (.iload 5, 2) := by decide +kernel
theorem dX12_waysAll_119 : decode cX12_waysAll 119 = .ok (.iaload, 1) := by decide +kernel
theorem dX12_waysAll_120 : decode cX12_waysAll 120 = .ok (.iastore, 1) := by decide +kernel
theorem dX12_waysAll_121 : decode cX12_waysAll 121 = .ok (.iinc 5 1, 3) := by decide +kernel
theorem dX12_waysAll_124 : decode cX12_waysAll 124 = .ok (.goto (-30), 3) := by decide +kernel
theorem dX12_waysAll_127 : decode cX12_waysAll 127 = .ok (.aload_n 0, 1) := by decide +kernel
theorem dX12_waysAll_128 : decode cX12_waysAll 128 = .ok (.dup, 1) := by decide +kernel
theorem dX12_waysAll_129 : decode cX12_waysAll 129 = .ok (.getfield 384, 3) := by decide +kernel
theorem dX12_waysAll_132 : decode cX12_waysAll 132 = .ok (.iconst 1, 1) := by decide +kernel
theorem dX12_waysAll_133 : decode cX12_waysAll 133 = .ok (.iadd, 1) := by decide +kernel
theorem dX12_waysAll_134 : decode cX12_waysAll 134 = .ok (.putfield 384, 3) := by decide +kernel
theorem dX12_waysAll_137 : decode cX12_waysAll 137 = .ok (.iinc 3 1, 3) := by decide +kernel
theorem dX12_waysAll_140 : decode cX12_waysAll 140 = .ok (.goto (-104), 3) := by decide +kernel
theorem dX12_waysAll_143 : decode cX12_waysAll 143 = .ok (.return_, 1) := by decide +kernel
theorem dX12_isWay_0 : decode cX12_isWay 0 = .ok (.iconst 0, 1) := by decide +kernel
theorem dX12_isWay_1 : decode cX12_isWay 1 = .ok (.istore_n 1, 1) := by decide +kernel
theorem dX12_isWay_2 : decode cX12_isWay 2 = .ok (.iload_n 1, 1) := by decide +kernel
theorem dX12_isWay_3 : decode cX12_isWay 3 = .ok (.aload_n 0, 1) := by decide +kernel
theorem dX12_isWay_4 : decode cX12_isWay 4 = .ok (.getfield 311, 3) := by decide +kernel
theorem dX12_isWay_7 : decode cX12_isWay 7 = .ok (.getfield 277, 3) := by decide +kernel
theorem dX12_isWay_10 : decode cX12_isWay 10 = .ok (.if_icmp .ge 52, 3) := by decide +kernel
theorem dX12_isWay_13 : decode cX12_isWay 13 = .ok (.aload_n 0, 1) := by decide +kernel
theorem dX12_isWay_14 : decode cX12_isWay 14 = .ok (.getfield 39, 3) := by decide +kernel
theorem dX12_isWay_17 : decode cX12_isWay 17 = .ok (.iload_n 1, 1) := by decide +kernel
theorem dX12_isWay_18 : decode cX12_isWay 18 = .ok (.iaload, 1) := by decide +kernel
theorem dX12_isWay_19 : decode cX12_isWay 19 = .ok (.iload_n 1, 1) := by decide +kernel
theorem dX12_isWay_20 : decode cX12_isWay 20 = .ok (.if_icmp .eq 34, 3) := by decide +kernel
theorem dX12_isWay_23 : decode cX12_isWay 23 = .ok (.aload_n 0, 1) := by decide +kernel
theorem dX12_isWay_24 : decode cX12_isWay 24 = .ok (.getfield 39, 3) := by decide +kernel
theorem dX12_isWay_27 : decode cX12_isWay 27 = .ok (.iload_n 1, 1) := by decide +kernel
theorem dX12_isWay_28 : decode cX12_isWay 28 = .ok (.iaload, 1) := by decide +kernel
theorem dX12_isWay_29 : decode cX12_isWay 29 = .ok (.aload_n 0, 1) := by decide +kernel
theorem dX12_isWay_30 : decode cX12_isWay 30 = .ok (.getfield 311, 3) := by decide +kernel
theorem dX12_isWay_33 : decode cX12_isWay 33 = .ok (.getfield 277, 3) := by decide +kernel
theorem dX12_isWay_36 : decode cX12_isWay 36 = .ok (.if_icmp .ge 20, 3) := by decide +kernel
theorem dX12_isWay_39 : decode cX12_isWay 39 = .ok (.aload_n 0, 1) := by decide +kernel
theorem dX12_isWay_40 : decode cX12_isWay 40 = .ok (.getfield 39, 3) := by decide +kernel
theorem dX12_isWay_43 : decode cX12_isWay 43 = .ok (.aload_n 0, 1) := by decide +kernel
theorem dX12_isWay_44 : decode cX12_isWay 44 = .ok (.getfield 39, 3) := by decide +kernel
theorem dX12_isWay_47 : decode cX12_isWay 47 = .ok (.iload_n 1, 1) := by decide +kernel
theorem dX12_isWay_48 : decode cX12_isWay 48 = .ok (.iaload, 1) := by decide +kernel
theorem dX12_isWay_49 : decode cX12_isWay 49 = .ok (.iaload, 1) := by decide +kernel
theorem dX12_isWay_50 : decode cX12_isWay 50 = .ok (.iload_n 1, 1) := by decide +kernel
theorem dX12_isWay_51 : decode cX12_isWay 51 = .ok (.if_icmp .eq 5, 3) := by decide +kernel
theorem dX12_isWay_54 : decode cX12_isWay 54 = .ok (.iconst 0, 1) := by decide +kernel
theorem dX12_isWay_55 : decode cX12_isWay 55 = .ok (.ireturn, 1) := by decide +kernel
theorem dX12_isWay_56 : decode cX12_isWay 56 = .ok (.iinc 1 1, 3) := by decide +kernel
theorem dX12_isWay_59 : decode cX12_isWay 59 = .ok (.goto (-57), 3) := by decide +kernel
theorem dX12_isWay_62 : decode cX12_isWay 62 = .ok (.iconst 1, 1) := by decide +kernel
theorem dX12_isWay_63 : decode cX12_isWay 63 = .ok (.ireturn, 1) := by decide +kernel
theorem dX12_codesOf_0 : decode cX12_codesOf 0 = .ok (.iconst 1, 1) := by decide +kernel
theorem dX12_codesOf_1 : decode cX12_codesOf 1 = .ok (.istore_n 2, 1) := by decide +kernel
theorem dX12_codesOf_2 : decode cX12_codesOf 2 = .ok (.iconst 0, 1) := by decide +kernel
theorem dX12_codesOf_3 : decode cX12_codesOf 3 = .ok (.istore_n 3, 1) := by decide +kernel
theorem dX12_codesOf_4 : decode cX12_codesOf 4 = .ok (.iload_n 3, 1) := by decide +kernel
theorem dX12_codesOf_5 : decode cX12_codesOf 5 = .ok (.iload_n 1, 1) := by decide +kernel
theorem dX12_codesOf_6 : decode cX12_codesOf 6 = .ok (.if_icmp .ge 16, 3) := by decide +kernel
theorem dX12_codesOf_9 : decode cX12_codesOf 9 = .ok (.iload_n 2, 1) := by decide +kernel
theorem dX12_codesOf_10 : decode cX12_codesOf 10 = .ok (.aload_n 0, 1) := by decide +kernel
theorem dX12_codesOf_11 : decode cX12_codesOf 11 = .ok (.getfield 384, 3) := by decide +kernel
theorem dX12_codesOf_14 : decode cX12_codesOf 14 = .ok (.imul, 1) := by decide +kernel
theorem dX12_codesOf_15 : decode cX12_codesOf 15 = .ok (.istore_n 2, 1) := by decide +kernel
theorem dX12_codesOf_16 : decode cX12_codesOf 16 = .ok (.iinc 3 1, 3) := by decide +kernel
theorem dX12_codesOf_19 : decode cX12_codesOf 19 = .ok (.goto (-15), 3) := by decide +kernel
theorem dX12_codesOf_22 : decode cX12_codesOf 22 = .ok (.iload_n 2, 1) := by decide +kernel
theorem dX12_codesOf_23 : decode cX12_codesOf 23 = .ok (.ireturn, 1) := by decide +kernel
theorem dX12_rowOf_0 : decode cX12_rowOf 0 = .ok (.iload_n 1, 1) := by decide +kernel
theorem dX12_rowOf_1 : decode cX12_rowOf 1 = .ok (.istore 4, 2) := by decide +kernel
theorem dX12_rowOf_3 : decode cX12_rowOf 3 = .ok (.iload_n 2, 1) := by decide +kernel
theorem dX12_rowOf_4 : decode cX12_rowOf 4 = .ok (.iconst 1, 1) := by decide +kernel
theorem dX12_rowOf_5 : decode cX12_rowOf 5 = .ok (.isub, 1) := by decide +kernel
theorem dX12_rowOf_6 : decode cX12_rowOf 6 = .ok (.istore 5, 2) := by decide +kernel
theorem dX12_rowOf_8 : decode cX12_rowOf 8 = .ok (.iload 5, 2) := by decide +kernel
theorem dX12_rowOf_10 : decode cX12_rowOf 10 = .ok (.iload_n 3, 1) := by decide +kernel
theorem dX12_rowOf_11 : decode cX12_rowOf 11 = .ok (.if_icmp .le 18, 3) := by decide +kernel
theorem dX12_rowOf_14 : decode cX12_rowOf 14 = .ok (.iload 4, 2) := by decide +kernel
theorem dX12_rowOf_16 : decode cX12_rowOf 16 = .ok (.aload_n 0, 1) := by decide +kernel
theorem dX12_rowOf_17 : decode cX12_rowOf 17 = .ok (.getfield 384, 3) := by decide +kernel
theorem dX12_rowOf_20 : decode cX12_rowOf 20 = .ok (.idiv, 1) := by decide +kernel
theorem dX12_rowOf_21 : decode cX12_rowOf 21 = .ok (.istore 4, 2) := by decide +kernel
theorem dX12_rowOf_23 : decode cX12_rowOf 23 = .ok (.iinc 5 (-1), 3) := by decide +kernel
theorem dX12_rowOf_26 : decode cX12_rowOf 26 = .ok (.goto (-18), 3) := by decide +kernel
theorem dX12_rowOf_29 : decode cX12_rowOf 29 = .ok (.iload 4, 2) := by decide +kernel
theorem dX12_rowOf_31 : decode cX12_rowOf 31 = .ok (.aload_n 0, 1) := by decide +kernel
theorem dX12_rowOf_32 : decode cX12_rowOf 32 = .ok (.getfield 384, 3) := by decide +kernel
theorem dX12_rowOf_35 : decode cX12_rowOf 35 = .ok (.irem, 1) := by decide +kernel
theorem dX12_rowOf_36 : decode cX12_rowOf 36 = .ok (.ireturn, 1) := by decide +kernel
theorem dX12_meetsBy_0 : decode cX12_meetsBy 0 = .ok (.iconst 0, 1) := by decide +kernel
theorem dX12_meetsBy_1 : decode cX12_meetsBy 1 = .ok (.istore_n 2, 1) := by decide +kernel
theorem dX12_meetsBy_2 : decode cX12_meetsBy 2 = .ok (.iload_n 2, 1) := by decide +kernel
theorem dX12_meetsBy_3 : decode cX12_meetsBy 3 = .ok (.aload_n 0, 1) := by decide +kernel
theorem dX12_meetsBy_4 : decode cX12_meetsBy 4 = .ok (.getfield 311, 3) := by decide +kernel
theorem dX12_meetsBy_7 : decode cX12_meetsBy 7 = .ok (.getfield 277, 3) := by decide +kernel
theorem dX12_meetsBy_10 : decode cX12_meetsBy 10 = .ok (.if_icmp .ge 21, 3) := by decide +kernel
theorem dX12_meetsBy_13 : decode cX12_meetsBy 13 = .ok (.aload_n 0, 1) := by decide +kernel
theorem dX12_meetsBy_14 : decode cX12_meetsBy 14 = .ok (.getfield 45, 3) := by decide +kernel
theorem dX12_meetsBy_17 : decode cX12_meetsBy 17 = .ok (.iload_n 2, 1) := by decide +kernel
theorem dX12_meetsBy_18 : decode cX12_meetsBy 18 = .ok (.aload_n 0, 1) := by decide +kernel
theorem dX12_meetsBy_19 : decode cX12_meetsBy 19 = .ok (.getfield 42, 3) := by decide +kernel
theorem dX12_meetsBy_22 : decode cX12_meetsBy 22 = .ok (.iload_n 2, 1) := by decide +kernel
theorem dX12_meetsBy_23 : decode cX12_meetsBy 23 = .ok (.iaload, 1) := by decide +kernel
theorem dX12_meetsBy_24 : decode cX12_meetsBy 24 = .ok (.iastore, 1) := by decide +kernel
theorem dX12_meetsBy_25 : decode cX12_meetsBy 25 = .ok (.iinc 2 1, 3) := by decide +kernel
theorem dX12_meetsBy_28 : decode cX12_meetsBy 28 = .ok (.goto (-26), 3) := by decide +kernel
theorem dX12_meetsBy_31 : decode cX12_meetsBy 31 = .ok (.iconst 0, 1) := by decide +kernel
theorem dX12_meetsBy_32 : decode cX12_meetsBy 32 = .ok (.istore_n 2, 1) := by decide +kernel
theorem dX12_meetsBy_33 : decode cX12_meetsBy 33 = .ok (.iload_n 2, 1) := by decide +kernel
theorem dX12_meetsBy_34 : decode cX12_meetsBy 34 = .ok (.aload_n 0, 1) := by decide +kernel
theorem dX12_meetsBy_35 : decode cX12_meetsBy 35 = .ok (.getfield 311, 3) := by decide +kernel
theorem dX12_meetsBy_38 : decode cX12_meetsBy 38 = .ok (.getfield 277, 3) := by decide +kernel
theorem dX12_meetsBy_41 : decode cX12_meetsBy 41 = .ok (.if_icmp .ge 54, 3) := by decide +kernel
theorem dX12_meetsBy_44 : decode cX12_meetsBy 44 = .ok (.aload_n 0, 1) := by decide +kernel
theorem dX12_meetsBy_45 : decode cX12_meetsBy 45 = .ok (.getfield 36, 3) := by decide +kernel
theorem dX12_meetsBy_48 : decode cX12_meetsBy 48 = .ok (.iconst 5, 1) := by decide +kernel
theorem dX12_meetsBy_49 : decode cX12_meetsBy 49 = .ok (.iload_n 1, 1) := by decide +kernel
theorem dX12_meetsBy_50 : decode cX12_meetsBy 50 = .ok (.imul, 1) := by decide +kernel
theorem dX12_meetsBy_51 : decode cX12_meetsBy 51 = .ok (.iload_n 2, 1) := by decide +kernel
theorem dX12_meetsBy_52 : decode cX12_meetsBy 52 = .ok (.iadd, 1) := by decide +kernel
theorem dX12_meetsBy_53 : decode cX12_meetsBy 53 = .ok (.iaload, 1) := by decide +kernel
theorem dX12_meetsBy_54 : decode cX12_meetsBy 54 = .ok (.istore_n 3, 1) := by decide +kernel
theorem dX12_meetsBy_55 : decode cX12_meetsBy 55 = .ok (.iload_n 3, 1) := by decide +kernel
theorem dX12_meetsBy_56 : decode cX12_meetsBy 56 = .ok (.aload_n 0, 1) := by decide +kernel
theorem dX12_meetsBy_57 : decode cX12_meetsBy 57 = .ok (.getfield 311, 3) := by decide +kernel
theorem dX12_meetsBy_60 : decode cX12_meetsBy 60 = .ok (.getfield 277, 3) := by decide +kernel
theorem dX12_meetsBy_63 : decode cX12_meetsBy 63 = .ok (.if_icmp .ge 26, 3) := by decide +kernel
theorem dX12_meetsBy_66 : decode cX12_meetsBy 66 = .ok (.aload_n 0, 1) := by decide +kernel
theorem dX12_meetsBy_67 : decode cX12_meetsBy 67 = .ok (.iload_n 3, 1) := by decide +kernel
theorem dX12_meetsBy_68 : decode cX12_meetsBy 68 = .ok (.invokevirtual 377, 3) := by decide +kernel
theorem dX12_meetsBy_71 : decode cX12_meetsBy 71 = .ok (.ifCond .eq 18, 3) := by decide +kernel
theorem dX12_meetsBy_74 : decode cX12_meetsBy 74 = .ok (.aload_n 0, 1) := by decide +kernel
theorem dX12_meetsBy_75 : decode cX12_meetsBy 75 = .ok (.getfield 42, 3) := by decide +kernel
theorem dX12_meetsBy_78 : decode cX12_meetsBy 78 = .ok (.iload_n 2, 1) := by decide +kernel
theorem dX12_meetsBy_79 : decode cX12_meetsBy 79 = .ok (.dup2, 1) := by decide +kernel
theorem dX12_meetsBy_80 : decode cX12_meetsBy 80 = .ok (.iaload, 1) := by decide +kernel
theorem dX12_meetsBy_81 : decode cX12_meetsBy 81 = .ok (.aload_n 0, 1) := by decide +kernel
theorem dX12_meetsBy_82 : decode cX12_meetsBy 82 = .ok (.getfield 45, 3) := by decide +kernel
theorem dX12_meetsBy_85 : decode cX12_meetsBy 85 = .ok (.iload_n 3, 1) := by decide +kernel
theorem dX12_meetsBy_86 : decode cX12_meetsBy 86 = .ok (.iaload, 1) := by decide +kernel
theorem dX12_meetsBy_87 : decode cX12_meetsBy 87 = .ok (.ior, 1) := by decide +kernel
theorem dX12_meetsBy_88 : decode cX12_meetsBy 88 = .ok (.iastore, 1) := by decide +kernel
theorem dX12_meetsBy_89 : decode cX12_meetsBy 89 = .ok (.iinc 2 1, 3) := by decide +kernel
theorem dX12_meetsBy_92 : decode cX12_meetsBy 92 = .ok (.goto (-59), 3) := by decide +kernel
theorem dX12_meetsBy_95 : decode cX12_meetsBy 95 = .ok (.return_, 1) := by decide +kernel
def f_M_bits_4 (n : Nat) : Nat → Int32 → Int32 → Option Int32
  | 0, _, _ => none
  | k + 1, x1, x2 => (if x2 = 0 then some x1 else k_lt (x1 + (1 : Int32)) (fun x1_1 => k_lt (x2 &&& (x2 - (1 : Int32))) (fun x2_2 => f_M_bits_4 n k x1_1 x2_2)))
def f_M_bits (n : Nat) (x0 : Int32) : Option Int32 := f_M_bits_4 n n (0 : Int32) x0
theorem m_M_bits_4 {p : Program} (l : Launch) {e : Env} {s : State} {m : MethodId} {args : Array Value} {below : List Frame} {meth : Method} {c : Code} (G : k_G) (w : va_W) (n : Nat) {w0 : va_W} {r : Int32} (hA : k_Amb p s m args meth c cX12_bits 3 "TaleSharesModel" G (va_A w0 s.heap.size)) (hr : meth.sig.returnType = (some .int)) : ∀ (k : Nat) (x1 : Int32) (x2 : Int32), f_M_bits_4 n k x1 x2 = some r → k_Go p l e (k_rm 1) s m args below meth c (k_QI G w0 r w args s below) 3 G (va_A w0 s.heap.size) w 4 [(1, .int x1), (2, .int x2)] [] := by
  intro k
  induction k with
  | zero => intro x1 x2 hf; cases hf
  | succ k ih =>
  intro x1 x2 hf
  rw [f_M_bits_4] at hf
  refine k_iload_n (i := 2) hA dX12_bits_4 rfl 1 rfl ?_
  refine k_if_eq (tgt := 20) hA dX12_bits_5 rfl (fun hc => ?_) (fun hc => ?_)
  · have hf := k_ift hc hf
    obtain rfl := k_r1 hf
    refine k_iload_n (i := 1) hA dX12_bits_20 rfl 0 rfl ?_
    exact k_iret hA hr rfl dX12_bits_21
  have hf := k_iff hc hf
  obtain ⟨x1_1, ex1_1, hf⟩ := k_lt_e hf
  obtain ⟨x2_2, ex2_2, hf⟩ := k_lt_e hf
  refine k_iinc (j := 0) (v := x1_1) (lv' := [(1, .int x1_1), (2, .int x2)]) hA dX12_bits_8 rfl (k_inc ex1_1 kc_i_1) (Nat.le_of_ble_eq_true rfl) rfl ?_
  refine k_iload_n (i := 2) hA dX12_bits_11 rfl 1 rfl ?_
  refine k_iload_n (i := 2) hA dX12_bits_12 rfl 1 rfl ?_
  refine k_iconst hA dX12_bits_13 kc_i_1 ?_
  refine k_isub hA dX12_bits_14 ?_
  refine k_iand hA dX12_bits_15 ?_
  refine k_istore_n (i := 2) (lv' := [(2, .int x2_2), (1, .int x1_1)]) hA dX12_bits_16 rfl ex2_2 (Nat.le_of_ble_eq_true rfl) rfl ?_
  refine k_goto (tgt := 4) hA dX12_bits_17 rfl ?_
  refine k_pick (lv' := [(1, .int x1_1), (2, .int x2_2)]) [1, 0] rfl ?_
  exact ih x1_1 x2_2 hf

theorem m_M_bits (l : Launch) (G : k_G) (w : va_W) (n : Nat) (x0 : Int32) {r : Int32} (hf : f_M_bits n x0 = some r) : k_CI l G yX12_bits cX12_bits 3 (some .int) 1 w [.int x0] r w := by
  refine k_startI (lv := [(0, .int x0)]) (by decide +kernel) (Nat.le_of_ble_eq_true rfl) rfl ?_
  intro p e s m args below meth c hA hr
  have hA : k_Amb p s m args meth c cX12_bits 3 "TaleSharesModel" G _ := hA
  unfold f_M_bits at hf
  refine k_iconst hA dX12_bits_0 kc_i_0 ?_
  refine k_istore_n (i := 1) (lv' := [(1, .int (0 : Int32)), (0, .int x0)]) hA dX12_bits_1 rfl rfl (Nat.le_of_ble_eq_true rfl) rfl ?_
  refine k_iload_n (i := 0) hA dX12_bits_2 rfl 1 rfl ?_
  refine k_istore_n (i := 2) (lv' := [(2, .int x0), (1, .int (0 : Int32)), (0, .int x0)]) hA dX12_bits_3 rfl rfl (Nat.le_of_ble_eq_true rfl) rfl ?_
  refine k_pick (lv' := [(1, .int (0 : Int32)), (2, .int x0)]) [1, 0] rfl ?_
  exact m_M_bits_4 l G w n hA hr n (0 : Int32) x0 hf

def f_M_leftOver (n : Nat) (x1 : Int32) (t : k_St) : Option (Int32 × k_St) := k_lt (k_sI t 0 0 (0 : Int32)) (fun t_1 => (if (k_b (f_M_arePieces t_1 x1)) = 0 then k_lt (f_M_refused (1 : Int32) t_1) (fun q_2 => some (q_2.1, q_2.2)) else k_cp (f_M_bits n x1) (fun r_3 => k_cl (f_M_longestOf n x1 t_1) (fun r_5 t_4 => k_lt (f_M_good (r_3 - r_5) t_4) (fun q_6 => some (q_6.1, q_6.2))))))
theorem m_M_leftOver (l : Launch) (G : k_G) (a : Nat → Nat) (rv : Value) (n : Nat) (x1 : Int32) (t : k_St) {r : Int32} {t' : k_St} (hf : f_M_leftOver n x1 t = some (r, t')) : k_CI l G yX12_leftOver cX12_leftOver 2 (some .int) 5 (k_WT G.2.1 a rv t) [.ref (a 0), .int x1] r (k_WT G.2.1 a rv t') := by
  refine k_startI (lv := [(0, .ref (a 0)), (1, .int x1)]) (by decide +kernel) (Nat.le_of_ble_eq_true rfl) rfl ?_
  intro p e s m args below meth c hA hr
  have hA : k_Amb p s m args meth c cX12_leftOver 2 "TaleSharesModel" G _ := hA
  unfold f_M_leftOver at hf
  obtain ⟨t_1, et_1, hf⟩ := k_lt_e hf
  refine k_aload_n (i := 0) hA dX12_leftOver_0 rfl 0 rfl ?_
  refine k_iconst hA dX12_leftOver_1 kc_i_0 ?_
  refine pt_MT_0_0 hA wd_1248 et_1 dX12_leftOver_2 ?_
  refine k_aload_n (i := 0) hA dX12_leftOver_5 rfl 0 rfl ?_
  refine k_iload_n (i := 1) hA dX12_leftOver_6 rfl 1 rfl ?_
  refine k_callVi (As := [.int x1]) (rest := []) hA (m_M_arePieces l G a rv t_1 x1 rfl) cd_X12_arePieces wd_1669 (hc_MT_0 G.2.1 a rv t_1) rfl rfl (Nat.le_of_ble_eq_true rfl) rfl rfl (Nat.le_of_ble_eq_true rfl) dX12_leftOver_7 ?_
  refine k_if_eq (tgt := 30) hA dX12_leftOver_10 rfl (fun hc => ?_) (fun hc => ?_)
  · have hf := k_ift hc hf
    obtain ⟨⟨rq_2, tq_2⟩, hq_2, hf⟩ := k_lt_e hf
    dsimp only at hf
    obtain ⟨rfl, rfl⟩ := k_r2 hf
    refine k_aload_n (i := 0) hA dX12_leftOver_30 rfl 0 rfl ?_
    refine k_iconst hA dX12_leftOver_31 kc_i_1 ?_
    refine k_callVi (As := [.int (1 : Int32)]) (rest := []) hA (m_M_refused l G a rv (1 : Int32) t_1 hq_2.symm) cd_X12_refused wd_1390 (hc_MT_0 G.2.1 a rv t_1) rfl rfl (Nat.le_of_ble_eq_true rfl) rfl rfl (Nat.le_of_ble_eq_true rfl) dX12_leftOver_32 ?_
    exact k_iret hA hr rfl dX12_leftOver_35
  have hf := k_iff hc hf
  obtain ⟨r_3, hr_3, hf⟩ := k_cp_e hf
  obtain ⟨r_5, t_4, ht_4, hf⟩ := k_cl_e hf
  obtain ⟨⟨rq_6, tq_6⟩, hq_6, hf⟩ := k_lt_e hf
  dsimp only at hf
  obtain ⟨rfl, rfl⟩ := k_r2 hf
  refine k_aload_n (i := 0) hA dX12_leftOver_13 rfl 0 rfl ?_
  refine k_iload_n (i := 1) hA dX12_leftOver_14 rfl 1 rfl ?_
  refine k_callSi (As := [.int x1]) (rest := [.ref (a 0)]) hA (m_M_bits l G (k_WT G.2.1 a rv t_1) n x1 hr_3) cd_X12_bits wd_1709 (Nat.le_of_ble_eq_true rfl) rfl rfl (Nat.le_of_ble_eq_true rfl) dX12_leftOver_15 ?_
  refine k_aload_n (i := 0) hA dX12_leftOver_18 rfl 0 rfl ?_
  refine k_iload_n (i := 1) hA dX12_leftOver_19 rfl 1 rfl ?_
  refine k_callVi (As := [.int x1]) (rest := [.int r_3, .ref (a 0)]) hA (m_M_longestOf l G a rv n x1 t_1 ht_4) cd_X12_longestOf wd_1685 (hc_MT_0 G.2.1 a rv t_1) rfl rfl (Nat.le_of_ble_eq_true rfl) rfl rfl (Nat.le_of_ble_eq_true rfl) dX12_leftOver_20 ?_
  refine k_isub hA dX12_leftOver_23 ?_
  refine k_callVi (As := [.int (r_3 - r_5)]) (rest := []) hA (m_M_good l G a rv (r_3 - r_5) t_4 hq_6.symm) cd_X12_good wd_1601 (hc_MT_0 G.2.1 a rv t_4) rfl rfl (Nat.le_of_ble_eq_true rfl) rfl rfl (Nat.le_of_ble_eq_true rfl) dX12_leftOver_24 ?_
  refine k_goto (tgt := 35) hA dX12_leftOver_27 rfl ?_
  exact k_iret hA hr rfl dX12_leftOver_35

def f_M_isRow_188 (n : Nat) (x3 : Int32) (t : k_St) : Option (Bool × k_St) := (if x3 = 0 then some (false, t) else k_cp (f_M_isWhole t) (fun r_1 => (if (k_b r_1) = 0 then some (false, t) else some (true, t))))
def f_M_isRow_112 (n : Nat) (rec47 : Int32 → Int32 → Int32 → k_St → Option (Bool × k_St)) (x1 : Int32) (x4 : Int32) (x6 : Int32) (s0 : Int32) (t : k_St) : Option (Bool × k_St) := (if s0 = 0 then k_lt (x4 + (-1 : Int32)) (fun x4_11 => rec47 x1 s0 x4_11 t) else k_gi (t.1 0 22) 9 (k_lt (k_sI t 6 (t.1 0 22).toNatClampNeg x6) (fun t_2 => k_lt (k_sI t_2 0 23 ((t_2.1 0 23) ||| ((1 : Int32) <<< (x6 &&& 31)))) (fun t_3 => k_gi x6 8 ((if (t_3.1 19 x6.toNatClampNeg) = (2 : Int32) then k_lt (k_sI t_3 0 24 ((t_3.1 0 24) + (1 : Int32))) (fun t_8 => k_lt (k_sI t_8 0 22 ((t_8.1 0 22) + (1 : Int32))) (fun t_9 => k_lt (x4 + (-1 : Int32)) (fun x4_10 => rec47 x1 s0 x4_10 t_9))) else k_lt (k_sI t_3 0 24 ((t_3.1 0 24) + (0 : Int32))) (fun t_5 => k_lt (k_sI t_5 0 22 ((t_5.1 0 22) + (1 : Int32))) (fun t_6 => k_lt (x4 + (-1 : Int32)) (fun x4_7 => rec47 x1 s0 x4_7 t_6)))))))))
def f_M_isRow_111 (n : Nat) (rec47 : Int32 → Int32 → Int32 → k_St → Option (Bool × k_St)) (x1 : Int32) (x4 : Int32) (x6 : Int32) (t : k_St) : Option (Bool × k_St) := f_M_isRow_112 n rec47 x1 x4 x6 (0 : Int32) t
def f_M_isRow_62 (n : Nat) (rec47 : Int32 → Int32 → Int32 → k_St → Option (Bool × k_St)) : Nat → Int32 → Int32 → Int32 → Int32 → k_St → Option (Bool × k_St)
  | 0, _, _, _, _, _ => none
  | k + 1, x1, x4, x5, x6, t => (if x4 ≤ x6 then k_lt ((x5 - x5 / (10 : Int32) * (10 : Int32)) - (1 : Int32)) (fun x6_1 => k_cp (f_M_isWhole t) (fun r_2 => (if (k_b r_2) = 0 then k_cp (f_M_fitsOn t x6_1) (fun r_3 => (if (k_b r_3) = 0 then f_M_isRow_111 n rec47 x1 x4 x6_1 t else f_M_isRow_112 n rec47 x1 x4 x6_1 (1 : Int32) t)) else f_M_isRow_111 n rec47 x1 x4 x6_1 t))) else k_lt (x5 / (10 : Int32)) (fun x5_4 => k_lt (x6 + (1 : Int32)) (fun x6_5 => f_M_isRow_62 n rec47 k x1 x4 x5_4 x6_5 t)))
def f_M_isRow_47 (n : Nat) : Nat → Int32 → Int32 → Int32 → k_St → Option (Bool × k_St)
  | 0, _, _, _, _ => none
  | k + 1, x1, x3, x4, t => (if x4 < 0 then f_M_isRow_188 n x3 t else (if x3 = 0 then f_M_isRow_188 n x3 t else f_M_isRow_62 n (f_M_isRow_47 n k) n x1 x4 x1 (0 : Int32) t))
def f_M_isRow_4 (n : Nat) : Nat → Int32 → Int32 → Int32 → k_St → Option (Bool × k_St)
  | 0, _, _, _, _ => none
  | k + 1, x1, x2, x3, t => (if x3 ≤ 0 then k_cv (f_M_startsTales (f_Mt_all t) t) (fun t_1 => (if (8 : Int32) < x2 then k_lt (x2 - (1 : Int32)) (fun x4_2 => f_M_isRow_47 n n x1 (0 : Int32) x4_2 t_1) else k_lt (x2 - (1 : Int32)) (fun x4_3 => f_M_isRow_47 n n x1 (1 : Int32) x4_3 t_1))) else k_lt (x2 + (1 : Int32)) (fun x2_4 => k_lt (x3 / (10 : Int32)) (fun x3_5 => f_M_isRow_4 n k x1 x2_4 x3_5 t)))
def f_M_isRow (n : Nat) (x1 : Int32) (t : k_St) : Option (Bool × k_St) := f_M_isRow_4 n n x1 (0 : Int32) x1 t
theorem m_M_isRow_188 {p : Program} (l : Launch) {e : Env} {s : State} {m : MethodId} {args : Array Value} {below : List Frame} {meth : Method} {c : Code} (G : k_G) (a : Nat → Nat) (rv : Value) (n : Nat) {w0 : va_W} {r : Bool} {t' : k_St} (hA : k_Amb p s m args meth c cX12_isRow 7 "TaleSharesModel" G (va_A w0 s.heap.size)) (hr : meth.sig.returnType = (some .boolean)) : ∀ (x3 : Int32) (t : k_St), f_M_isRow_188 n x3 t = some (r, t') → k_Go p l e (k_rm 3) s m args below meth c (k_QI G w0 (k_b r) (k_WT G.2.1 a rv t') args s below) 7 G (va_A w0 s.heap.size) (k_WT G.2.1 a rv t) 188 [(0, .ref (a 0)), (3, .int x3)] [] := by
  intro x3 t hf
  unfold f_M_isRow_188 at hf
  refine k_iload_n (i := 3) hA dX12_isRow_188 rfl 1 rfl ?_
  refine k_if_eq (tgt := 203) hA dX12_isRow_189 rfl (fun hc => ?_) (fun hc => ?_)
  · have hf := k_ift hc hf
    obtain ⟨rfl, rfl⟩ := k_r2 hf
    refine k_iconst hA dX12_isRow_203 kc_i_0 ?_
    exact k_iret hA hr (k_narB (k_b01 _)) dX12_isRow_204
  have hf := k_iff hc hf
  obtain ⟨r_1, hr_1, hf⟩ := k_cp_e hf
  refine k_aload_n (i := 0) hA dX12_isRow_192 rfl 0 rfl ?_
  refine k_callVi (As := []) (rest := []) hA (m_M_isWhole l G a rv t hr_1) cd_X12_isWhole wd_1641 (hc_MT_0 G.2.1 a rv t) rfl rfl (Nat.le_of_ble_eq_true rfl) rfl rfl (Nat.le_of_ble_eq_true rfl) dX12_isRow_193 ?_
  refine k_if_eq (tgt := 203) hA dX12_isRow_196 rfl (fun hc => ?_) (fun hc => ?_)
  · have hf := k_ift hc hf
    obtain ⟨rfl, rfl⟩ := k_r2 hf
    refine k_iconst hA dX12_isRow_203 kc_i_0 ?_
    exact k_iret hA hr (k_narB (k_b01 _)) dX12_isRow_204
  have hf := k_iff hc hf
  obtain ⟨rfl, rfl⟩ := k_r2 hf
  refine k_iconst hA dX12_isRow_199 kc_i_1 ?_
  refine k_goto (tgt := 204) hA dX12_isRow_200 rfl ?_
  exact k_iret hA hr (k_narB (k_b01 _)) dX12_isRow_204

theorem m_M_isRow_112 {p : Program} (l : Launch) {e : Env} {s : State} {m : MethodId} {args : Array Value} {below : List Frame} {meth : Method} {c : Code} (G : k_G) (a : Nat → Nat) (rv : Value) (n : Nat) {w0 : va_W} {r : Bool} {t' : k_St} (hA : k_Amb p s m args meth c cX12_isRow 7 "TaleSharesModel" G (va_A w0 s.heap.size)) (hr : meth.sig.returnType = (some .boolean)) (rec47 : Int32 → Int32 → Int32 → k_St → Option (Bool × k_St)) (hrec47 : ∀ (x1 : Int32) (x3 : Int32) (x4 : Int32) (t : k_St), rec47 x1 x3 x4 t = some (r, t') → k_Go p l e (k_rm 3) s m args below meth c (k_QI G w0 (k_b r) (k_WT G.2.1 a rv t') args s below) 7 G (va_A w0 s.heap.size) (k_WT G.2.1 a rv t) 47 [(0, .ref (a 0)), (1, .int x1), (3, .int x3), (4, .int x4)] []) : ∀ (x1 : Int32) (x4 : Int32) (x6 : Int32) (s0 : Int32) (t : k_St), f_M_isRow_112 n rec47 x1 x4 x6 s0 t = some (r, t') → k_Go p l e (k_rm 3) s m args below meth c (k_QI G w0 (k_b r) (k_WT G.2.1 a rv t') args s below) 7 G (va_A w0 s.heap.size) (k_WT G.2.1 a rv t) 112 [(0, .ref (a 0)), (1, .int x1), (4, .int x4), (6, .int x6)] [.int s0] := by
  intro x1 x4 x6 s0 t hf
  unfold f_M_isRow_112 at hf
  refine k_istore_n (i := 3) (lv' := [(3, .int s0), (0, .ref (a 0)), (1, .int x1), (4, .int x4), (6, .int x6)]) hA dX12_isRow_112 rfl rfl (Nat.le_of_ble_eq_true rfl) rfl ?_
  refine k_iload_n (i := 3) hA dX12_isRow_113 rfl 0 rfl ?_
  refine k_if_ne (tgt := 120) hA dX12_isRow_114 rfl (fun hc => ?_) (fun hc => ?_)
  · have hf := k_iff hc hf
    obtain ⟨hi_1, hf⟩ := k_gi_e hf
    obtain ⟨t_2, et_2, hf⟩ := k_lt_e hf
    obtain ⟨t_3, et_3, hf⟩ := k_lt_e hf
    obtain ⟨hi_4, hf⟩ := k_gi_e hf
    refine k_aload_n (i := 0) hA dX12_isRow_120 rfl 1 rfl ?_
    refine gt_MT_0_21 hA wd_1269 dX12_isRow_121 ?_
    refine k_aload_n (i := 0) hA dX12_isRow_124 rfl 1 rfl ?_
    refine gt_MT_0_22 hA wd_1270 dX12_isRow_125 ?_
    refine k_iload hA dX12_isRow_128 4 rfl ?_
    refine sr_MT_6 hA hi_1 et_2 dX12_isRow_130 ?_
    refine k_aload_n (i := 0) hA dX12_isRow_131 rfl 1 rfl ?_
    refine k_dup hA dX12_isRow_132 rfl ?_
    refine gt_MT_0_23 hA wd_1271 dX12_isRow_133 ?_
    refine k_iconst hA dX12_isRow_136 kc_i_1 ?_
    refine k_iload hA dX12_isRow_137 4 rfl ?_
    refine k_ishl hA dX12_isRow_139 ?_
    refine k_ior hA dX12_isRow_140 ?_
    refine pt_MT_0_23 hA wd_1271 et_3 dX12_isRow_141 ?_
    refine k_aload_n (i := 0) hA dX12_isRow_144 rfl 1 rfl ?_
    refine k_dup hA dX12_isRow_145 rfl ?_
    refine gt_MT_0_24 hA wd_1272 dX12_isRow_146 ?_
    refine k_aload_n (i := 0) hA dX12_isRow_149 rfl 1 rfl ?_
    refine gt_MT_0_3 hA wd_1251 dX12_isRow_150 ?_
    refine gt_MT_18_9N hA rfl nf_262 dX12_isRow_153 ?_
    refine k_iload hA dX12_isRow_156 4 rfl ?_
    refine ld_MT_19 hA hi_4 dX12_isRow_158 ?_
    refine k_iconst hA dX12_isRow_159 kc_i_2 ?_
    refine k_icmp_ne (tgt := 167) hA dX12_isRow_160 rfl (fun hc => ?_) (fun hc => ?_)
    · have hf := k_iff hc hf
      obtain ⟨t_5, et_5, hf⟩ := k_lt_e hf
      obtain ⟨t_6, et_6, hf⟩ := k_lt_e hf
      obtain ⟨x4_7, ex4_7, hf⟩ := k_lt_e hf
      refine k_iconst hA dX12_isRow_167 kc_i_0 ?_
      refine k_iadd hA dX12_isRow_168 ?_
      refine pt_MT_0_24 hA wd_1272 et_5 dX12_isRow_169 ?_
      refine k_aload_n (i := 0) hA dX12_isRow_172 rfl 1 rfl ?_
      refine k_dup hA dX12_isRow_173 rfl ?_
      refine gt_MT_0_22 hA wd_1270 dX12_isRow_174 ?_
      refine k_iconst hA dX12_isRow_177 kc_i_1 ?_
      refine k_iadd hA dX12_isRow_178 ?_
      refine pt_MT_0_22 hA wd_1270 et_6 dX12_isRow_179 ?_
      refine k_iinc (j := 3) (v := x4_7) (lv' := [(4, .int x4_7), (3, .int s0), (0, .ref (a 0)), (1, .int x1), (6, .int x6)]) hA dX12_isRow_182 rfl (k_inc ex4_7 kc_i_m1) (Nat.le_of_ble_eq_true rfl) rfl ?_
      refine k_goto (tgt := 47) hA dX12_isRow_185 rfl ?_
      refine k_pick (lv' := [(0, .ref (a 0)), (1, .int x1), (3, .int s0), (4, .int x4_7)]) [2, 3, 1, 0] rfl ?_
      exact hrec47 x1 s0 x4_7 t_6 hf
    have hf := k_ift hc hf
    obtain ⟨t_8, et_8, hf⟩ := k_lt_e hf
    obtain ⟨t_9, et_9, hf⟩ := k_lt_e hf
    obtain ⟨x4_10, ex4_10, hf⟩ := k_lt_e hf
    refine k_iconst hA dX12_isRow_163 kc_i_1 ?_
    refine k_goto (tgt := 168) hA dX12_isRow_164 rfl ?_
    refine k_iadd hA dX12_isRow_168 ?_
    refine pt_MT_0_24 hA wd_1272 et_8 dX12_isRow_169 ?_
    refine k_aload_n (i := 0) hA dX12_isRow_172 rfl 1 rfl ?_
    refine k_dup hA dX12_isRow_173 rfl ?_
    refine gt_MT_0_22 hA wd_1270 dX12_isRow_174 ?_
    refine k_iconst hA dX12_isRow_177 kc_i_1 ?_
    refine k_iadd hA dX12_isRow_178 ?_
    refine pt_MT_0_22 hA wd_1270 et_9 dX12_isRow_179 ?_
    refine k_iinc (j := 3) (v := x4_10) (lv' := [(4, .int x4_10), (3, .int s0), (0, .ref (a 0)), (1, .int x1), (6, .int x6)]) hA dX12_isRow_182 rfl (k_inc ex4_10 kc_i_m1) (Nat.le_of_ble_eq_true rfl) rfl ?_
    refine k_goto (tgt := 47) hA dX12_isRow_185 rfl ?_
    refine k_pick (lv' := [(0, .ref (a 0)), (1, .int x1), (3, .int s0), (4, .int x4_10)]) [2, 3, 1, 0] rfl ?_
    exact hrec47 x1 s0 x4_10 t_9 hf
  have hf := k_ift hc hf
  obtain ⟨x4_11, ex4_11, hf⟩ := k_lt_e hf
  refine k_goto (tgt := 182) hA dX12_isRow_117 rfl ?_
  refine k_iinc (j := 3) (v := x4_11) (lv' := [(4, .int x4_11), (3, .int s0), (0, .ref (a 0)), (1, .int x1), (6, .int x6)]) hA dX12_isRow_182 rfl (k_inc ex4_11 kc_i_m1) (Nat.le_of_ble_eq_true rfl) rfl ?_
  refine k_goto (tgt := 47) hA dX12_isRow_185 rfl ?_
  refine k_pick (lv' := [(0, .ref (a 0)), (1, .int x1), (3, .int s0), (4, .int x4_11)]) [2, 3, 1, 0] rfl ?_
  exact hrec47 x1 s0 x4_11 t hf

theorem m_M_isRow_111 {p : Program} (l : Launch) {e : Env} {s : State} {m : MethodId} {args : Array Value} {below : List Frame} {meth : Method} {c : Code} (G : k_G) (a : Nat → Nat) (rv : Value) (n : Nat) {w0 : va_W} {r : Bool} {t' : k_St} (hA : k_Amb p s m args meth c cX12_isRow 7 "TaleSharesModel" G (va_A w0 s.heap.size)) (hr : meth.sig.returnType = (some .boolean)) (rec47 : Int32 → Int32 → Int32 → k_St → Option (Bool × k_St)) (hrec47 : ∀ (x1 : Int32) (x3 : Int32) (x4 : Int32) (t : k_St), rec47 x1 x3 x4 t = some (r, t') → k_Go p l e (k_rm 3) s m args below meth c (k_QI G w0 (k_b r) (k_WT G.2.1 a rv t') args s below) 7 G (va_A w0 s.heap.size) (k_WT G.2.1 a rv t) 47 [(0, .ref (a 0)), (1, .int x1), (3, .int x3), (4, .int x4)] []) : ∀ (x1 : Int32) (x4 : Int32) (x6 : Int32) (t : k_St), f_M_isRow_111 n rec47 x1 x4 x6 t = some (r, t') → k_Go p l e (k_rm 3) s m args below meth c (k_QI G w0 (k_b r) (k_WT G.2.1 a rv t') args s below) 7 G (va_A w0 s.heap.size) (k_WT G.2.1 a rv t) 111 [(0, .ref (a 0)), (1, .int x1), (4, .int x4), (6, .int x6)] [] := by
  intro x1 x4 x6 t hf
  unfold f_M_isRow_111 at hf
  refine k_iconst hA dX12_isRow_111 kc_i_0 ?_
  exact m_M_isRow_112 l G a rv n hA hr rec47 hrec47 x1 x4 x6 (0 : Int32) t hf

theorem m_M_isRow_62 {p : Program} (l : Launch) {e : Env} {s : State} {m : MethodId} {args : Array Value} {below : List Frame} {meth : Method} {c : Code} (G : k_G) (a : Nat → Nat) (rv : Value) (n : Nat) {w0 : va_W} {r : Bool} {t' : k_St} (hA : k_Amb p s m args meth c cX12_isRow 7 "TaleSharesModel" G (va_A w0 s.heap.size)) (hr : meth.sig.returnType = (some .boolean)) (rec47 : Int32 → Int32 → Int32 → k_St → Option (Bool × k_St)) (hrec47 : ∀ (x1 : Int32) (x3 : Int32) (x4 : Int32) (t : k_St), rec47 x1 x3 x4 t = some (r, t') → k_Go p l e (k_rm 3) s m args below meth c (k_QI G w0 (k_b r) (k_WT G.2.1 a rv t') args s below) 7 G (va_A w0 s.heap.size) (k_WT G.2.1 a rv t) 47 [(0, .ref (a 0)), (1, .int x1), (3, .int x3), (4, .int x4)] []) : ∀ (k : Nat) (x1 : Int32) (x4 : Int32) (x5 : Int32) (x6 : Int32) (t : k_St), f_M_isRow_62 n rec47 k x1 x4 x5 x6 t = some (r, t') → k_Go p l e (k_rm 3) s m args below meth c (k_QI G w0 (k_b r) (k_WT G.2.1 a rv t') args s below) 7 G (va_A w0 s.heap.size) (k_WT G.2.1 a rv t) 62 [(0, .ref (a 0)), (1, .int x1), (4, .int x4), (5, .int x5), (6, .int x6)] [] := by
  intro k
  induction k with
  | zero => intro x1 x4 x5 x6 t hf; cases hf
  | succ k ih =>
  intro x1 x4 x5 x6 t hf
  rw [f_M_isRow_62] at hf
  refine k_iload hA dX12_isRow_62 4 rfl ?_
  refine k_iload hA dX12_isRow_64 2 rfl ?_
  refine k_icmp_ge (tgt := 82) hA dX12_isRow_66 rfl (fun hc => ?_) (fun hc => ?_)
  · have hf := k_ift hc hf
    obtain ⟨x6_1, ex6_1, hf⟩ := k_lt_e hf
    obtain ⟨r_2, hr_2, hf⟩ := k_cp_e hf
    refine k_iload hA dX12_isRow_82 3 rfl ?_
    refine k_bipush hA dX12_isRow_84 kc_b_10 ?_
    refine k_irem hA dX12_isRow_86 (by decide) ?_
    refine k_iconst hA dX12_isRow_87 kc_i_1 ?_
    refine k_isub hA dX12_isRow_88 ?_
    refine k_istore (lv' := [(6, .int x6_1), (0, .ref (a 0)), (1, .int x1), (4, .int x4), (5, .int x5)]) hA dX12_isRow_89 ex6_1 (Nat.le_of_ble_eq_true rfl) rfl ?_
    refine k_aload_n (i := 0) hA dX12_isRow_91 rfl 1 rfl ?_
    refine k_callVi (As := []) (rest := []) hA (m_M_isWhole l G a rv t hr_2) cd_X12_isWhole wd_1641 (hc_MT_0 G.2.1 a rv t) rfl rfl (Nat.le_of_ble_eq_true rfl) rfl rfl (Nat.le_of_ble_eq_true rfl) dX12_isRow_92 ?_
    refine k_if_ne (tgt := 111) hA dX12_isRow_95 rfl (fun hc => ?_) (fun hc => ?_)
    · have hf := k_iff hc hf
      refine k_pick (lv' := [(0, .ref (a 0)), (1, .int x1), (4, .int x4), (6, .int x6_1)]) [1, 2, 3, 0] rfl ?_
      exact m_M_isRow_111 l G a rv n hA hr rec47 hrec47 x1 x4 x6_1 t hf
    have hf := k_ift hc hf
    obtain ⟨r_3, hr_3, hf⟩ := k_cp_e hf
    refine k_aload_n (i := 0) hA dX12_isRow_98 rfl 1 rfl ?_
    refine k_iload hA dX12_isRow_99 0 rfl ?_
    refine k_callVi (As := [.int x6_1]) (rest := []) hA (m_M_fitsOn l G a rv t x6_1 hr_3) cd_X12_fitsOn wd_1649 (hc_MT_0 G.2.1 a rv t) rfl rfl (Nat.le_of_ble_eq_true rfl) rfl rfl (Nat.le_of_ble_eq_true rfl) dX12_isRow_101 ?_
    refine k_if_eq (tgt := 111) hA dX12_isRow_104 rfl (fun hc => ?_) (fun hc => ?_)
    · have hf := k_ift hc hf
      refine k_pick (lv' := [(0, .ref (a 0)), (1, .int x1), (4, .int x4), (6, .int x6_1)]) [1, 2, 3, 0] rfl ?_
      exact m_M_isRow_111 l G a rv n hA hr rec47 hrec47 x1 x4 x6_1 t hf
    have hf := k_iff hc hf
    refine k_iconst hA dX12_isRow_107 kc_i_1 ?_
    refine k_goto (tgt := 112) hA dX12_isRow_108 rfl ?_
    refine k_pick (lv' := [(0, .ref (a 0)), (1, .int x1), (4, .int x4), (6, .int x6_1)]) [1, 2, 3, 0] rfl ?_
    exact m_M_isRow_112 l G a rv n hA hr rec47 hrec47 x1 x4 x6_1 (1 : Int32) t hf
  have hf := k_iff hc hf
  obtain ⟨x5_4, ex5_4, hf⟩ := k_lt_e hf
  obtain ⟨x6_5, ex6_5, hf⟩ := k_lt_e hf
  refine k_iload hA dX12_isRow_69 3 rfl ?_
  refine k_bipush hA dX12_isRow_71 kc_b_10 ?_
  refine k_idiv hA dX12_isRow_73 (by decide) ?_
  refine k_istore (lv' := [(5, .int x5_4), (0, .ref (a 0)), (1, .int x1), (4, .int x4), (6, .int x6)]) hA dX12_isRow_74 ex5_4 (Nat.le_of_ble_eq_true rfl) rfl ?_
  refine k_iinc (j := 4) (v := x6_5) (lv' := [(6, .int x6_5), (5, .int x5_4), (0, .ref (a 0)), (1, .int x1), (4, .int x4)]) hA dX12_isRow_76 rfl (k_inc ex6_5 kc_i_1) (Nat.le_of_ble_eq_true rfl) rfl ?_
  refine k_goto (tgt := 62) hA dX12_isRow_79 rfl ?_
  refine k_pick (lv' := [(0, .ref (a 0)), (1, .int x1), (4, .int x4), (5, .int x5_4), (6, .int x6_5)]) [2, 3, 4, 1, 0] rfl ?_
  exact ih x1 x4 x5_4 x6_5 t hf

theorem m_M_isRow_47 {p : Program} (l : Launch) {e : Env} {s : State} {m : MethodId} {args : Array Value} {below : List Frame} {meth : Method} {c : Code} (G : k_G) (a : Nat → Nat) (rv : Value) (n : Nat) {w0 : va_W} {r : Bool} {t' : k_St} (hA : k_Amb p s m args meth c cX12_isRow 7 "TaleSharesModel" G (va_A w0 s.heap.size)) (hr : meth.sig.returnType = (some .boolean)) : ∀ (k : Nat) (x1 : Int32) (x3 : Int32) (x4 : Int32) (t : k_St), f_M_isRow_47 n k x1 x3 x4 t = some (r, t') → k_Go p l e (k_rm 3) s m args below meth c (k_QI G w0 (k_b r) (k_WT G.2.1 a rv t') args s below) 7 G (va_A w0 s.heap.size) (k_WT G.2.1 a rv t) 47 [(0, .ref (a 0)), (1, .int x1), (3, .int x3), (4, .int x4)] [] := by
  intro k
  induction k with
  | zero => intro x1 x3 x4 t hf; cases hf
  | succ k ih =>
  intro x1 x3 x4 t hf
  rw [f_M_isRow_47] at hf
  refine k_iload hA dX12_isRow_47 3 rfl ?_
  refine k_if_lt (tgt := 188) hA dX12_isRow_49 rfl (fun hc => ?_) (fun hc => ?_)
  · have hf := k_ift hc hf
    refine k_pick (lv' := [(0, .ref (a 0)), (3, .int x3)]) [0, 2] rfl ?_
    exact m_M_isRow_188 l G a rv n hA hr x3 t hf
  have hf := k_iff hc hf
  refine k_iload_n (i := 3) hA dX12_isRow_52 rfl 2 rfl ?_
  refine k_if_eq (tgt := 188) hA dX12_isRow_53 rfl (fun hc => ?_) (fun hc => ?_)
  · have hf := k_ift hc hf
    refine k_pick (lv' := [(0, .ref (a 0)), (3, .int x3)]) [0, 2] rfl ?_
    exact m_M_isRow_188 l G a rv n hA hr x3 t hf
  have hf := k_iff hc hf
  refine k_iload_n (i := 1) hA dX12_isRow_56 rfl 1 rfl ?_
  refine k_istore (lv' := [(5, .int x1), (0, .ref (a 0)), (1, .int x1), (3, .int x3), (4, .int x4)]) hA dX12_isRow_57 rfl (Nat.le_of_ble_eq_true rfl) rfl ?_
  refine k_iconst hA dX12_isRow_59 kc_i_0 ?_
  refine k_istore (lv' := [(6, .int (0 : Int32)), (5, .int x1), (0, .ref (a 0)), (1, .int x1), (3, .int x3), (4, .int x4)]) hA dX12_isRow_60 rfl (Nat.le_of_ble_eq_true rfl) rfl ?_
  refine k_pick (lv' := [(0, .ref (a 0)), (1, .int x1), (4, .int x4), (5, .int x1), (6, .int (0 : Int32))]) [2, 3, 5, 1, 0] rfl ?_
  exact m_M_isRow_62 l G a rv n hA hr (f_M_isRow_47 n k) ih n x1 x4 x1 (0 : Int32) t hf

theorem m_M_isRow_4 {p : Program} (l : Launch) {e : Env} {s : State} {m : MethodId} {args : Array Value} {below : List Frame} {meth : Method} {c : Code} (G : k_G) (a : Nat → Nat) (rv : Value) (n : Nat) {w0 : va_W} {r : Bool} {t' : k_St} (hA : k_Amb p s m args meth c cX12_isRow 7 "TaleSharesModel" G (va_A w0 s.heap.size)) (hr : meth.sig.returnType = (some .boolean)) : ∀ (k : Nat) (x1 : Int32) (x2 : Int32) (x3 : Int32) (t : k_St), f_M_isRow_4 n k x1 x2 x3 t = some (r, t') → k_Go p l e (k_rm 3) s m args below meth c (k_QI G w0 (k_b r) (k_WT G.2.1 a rv t') args s below) 7 G (va_A w0 s.heap.size) (k_WT G.2.1 a rv t) 4 [(0, .ref (a 0)), (1, .int x1), (2, .int x2), (3, .int x3)] [] := by
  intro k
  induction k with
  | zero => intro x1 x2 x3 t hf; cases hf
  | succ k ih =>
  intro x1 x2 x3 t hf
  rw [f_M_isRow_4] at hf
  refine k_iload_n (i := 3) hA dX12_isRow_4 rfl 3 rfl ?_
  refine k_if_le (tgt := 19) hA dX12_isRow_5 rfl (fun hc => ?_) (fun hc => ?_)
  · have hf := k_ift hc hf
    obtain ⟨t_1, ht_1, hf⟩ := k_cv_e hf
    refine k_aload_n (i := 0) hA dX12_isRow_19 rfl 0 rfl ?_
    refine k_aload_n (i := 0) hA dX12_isRow_20 rfl 0 rfl ?_
    refine gt_MT_0_3 hA wd_1251 dX12_isRow_21 ?_
    refine k_callVi (As := []) (rest := [.ref (a 0)]) hA (m_Mt_all l G a rv t rfl) cd_X11_all wd_1673 (hc_MT_18 G.2.1 a rv t) rfl rfl (Nat.le_of_ble_eq_true rfl) rfl rfl (Nat.le_of_ble_eq_true rfl) dX12_isRow_24 ?_
    refine k_callVv (As := [.int (f_Mt_all t)]) (rest := []) hA (m_M_startsTales l G a rv (f_Mt_all t) t ht_1) cd_X12_startsTales wd_1633 (hc_MT_0 G.2.1 a rv t) rfl rfl (Nat.le_of_ble_eq_true rfl) rfl rfl (Nat.le_of_ble_eq_true rfl) dX12_isRow_27 ?_
    refine k_iload_n (i := 2) hA dX12_isRow_30 rfl 2 rfl ?_
    refine k_bipush hA dX12_isRow_31 kc_b_8 ?_
    refine k_icmp_gt (tgt := 40) hA dX12_isRow_33 rfl (fun hc => ?_) (fun hc => ?_)
    · have hf := k_ift hc hf
      obtain ⟨x4_2, ex4_2, hf⟩ := k_lt_e hf
      refine k_iconst hA dX12_isRow_40 kc_i_0 ?_
      refine k_istore_n (i := 3) (lv' := [(3, .int (0 : Int32)), (0, .ref (a 0)), (1, .int x1), (2, .int x2)]) hA dX12_isRow_41 rfl rfl (Nat.le_of_ble_eq_true rfl) rfl ?_
      refine k_iload_n (i := 2) hA dX12_isRow_42 rfl 3 rfl ?_
      refine k_iconst hA dX12_isRow_43 kc_i_1 ?_
      refine k_isub hA dX12_isRow_44 ?_
      refine k_istore (lv' := [(4, .int x4_2), (3, .int (0 : Int32)), (0, .ref (a 0)), (1, .int x1), (2, .int x2)]) hA dX12_isRow_45 ex4_2 (Nat.le_of_ble_eq_true rfl) rfl ?_
      refine k_pick (lv' := [(0, .ref (a 0)), (1, .int x1), (3, .int (0 : Int32)), (4, .int x4_2)]) [2, 3, 1, 0] rfl ?_
      exact m_M_isRow_47 l G a rv n hA hr n x1 (0 : Int32) x4_2 t_1 hf
    have hf := k_iff hc hf
    obtain ⟨x4_3, ex4_3, hf⟩ := k_lt_e hf
    refine k_iconst hA dX12_isRow_36 kc_i_1 ?_
    refine k_goto (tgt := 41) hA dX12_isRow_37 rfl ?_
    refine k_istore_n (i := 3) (lv' := [(3, .int (1 : Int32)), (0, .ref (a 0)), (1, .int x1), (2, .int x2)]) hA dX12_isRow_41 rfl rfl (Nat.le_of_ble_eq_true rfl) rfl ?_
    refine k_iload_n (i := 2) hA dX12_isRow_42 rfl 3 rfl ?_
    refine k_iconst hA dX12_isRow_43 kc_i_1 ?_
    refine k_isub hA dX12_isRow_44 ?_
    refine k_istore (lv' := [(4, .int x4_3), (3, .int (1 : Int32)), (0, .ref (a 0)), (1, .int x1), (2, .int x2)]) hA dX12_isRow_45 ex4_3 (Nat.le_of_ble_eq_true rfl) rfl ?_
    refine k_pick (lv' := [(0, .ref (a 0)), (1, .int x1), (3, .int (1 : Int32)), (4, .int x4_3)]) [2, 3, 1, 0] rfl ?_
    exact m_M_isRow_47 l G a rv n hA hr n x1 (1 : Int32) x4_3 t_1 hf
  have hf := k_iff hc hf
  obtain ⟨x2_4, ex2_4, hf⟩ := k_lt_e hf
  obtain ⟨x3_5, ex3_5, hf⟩ := k_lt_e hf
  refine k_iinc (j := 2) (v := x2_4) (lv' := [(2, .int x2_4), (0, .ref (a 0)), (1, .int x1), (3, .int x3)]) hA dX12_isRow_8 rfl (k_inc ex2_4 kc_i_1) (Nat.le_of_ble_eq_true rfl) rfl ?_
  refine k_iload_n (i := 3) hA dX12_isRow_11 rfl 3 rfl ?_
  refine k_bipush hA dX12_isRow_12 kc_b_10 ?_
  refine k_idiv hA dX12_isRow_14 (by decide) ?_
  refine k_istore_n (i := 3) (lv' := [(3, .int x3_5), (2, .int x2_4), (0, .ref (a 0)), (1, .int x1)]) hA dX12_isRow_15 rfl ex3_5 (Nat.le_of_ble_eq_true rfl) rfl ?_
  refine k_goto (tgt := 4) hA dX12_isRow_16 rfl ?_
  refine k_pick (lv' := [(0, .ref (a 0)), (1, .int x1), (2, .int x2_4), (3, .int x3_5)]) [2, 3, 1, 0] rfl ?_
  exact ih x1 x2_4 x3_5 t hf

theorem m_M_isRow (l : Launch) (G : k_G) (a : Nat → Nat) (rv : Value) (n : Nat) (x1 : Int32) (t : k_St) {r : Bool} {t' : k_St} (hf : f_M_isRow n x1 t = some (r, t')) : k_CI l G yX12_isRow cX12_isRow 7 (some .boolean) 3 (k_WT G.2.1 a rv t) [.ref (a 0), .int x1] (k_b r) (k_WT G.2.1 a rv t') := by
  refine k_startI (lv := [(0, .ref (a 0)), (1, .int x1)]) (by decide +kernel) (Nat.le_of_ble_eq_true rfl) rfl ?_
  intro p e s m args below meth c hA hr
  have hA : k_Amb p s m args meth c cX12_isRow 7 "TaleSharesModel" G _ := hA
  unfold f_M_isRow at hf
  refine k_iconst hA dX12_isRow_0 kc_i_0 ?_
  refine k_istore_n (i := 2) (lv' := [(2, .int (0 : Int32)), (0, .ref (a 0)), (1, .int x1)]) hA dX12_isRow_1 rfl rfl (Nat.le_of_ble_eq_true rfl) rfl ?_
  refine k_iload_n (i := 1) hA dX12_isRow_2 rfl 2 rfl ?_
  refine k_istore_n (i := 3) (lv' := [(3, .int x1), (2, .int (0 : Int32)), (0, .ref (a 0)), (1, .int x1)]) hA dX12_isRow_3 rfl rfl (Nat.le_of_ble_eq_true rfl) rfl ?_
  refine k_pick (lv' := [(0, .ref (a 0)), (1, .int x1), (2, .int (0 : Int32)), (3, .int x1)]) [2, 3, 1, 0] rfl ?_
  exact m_M_isRow_4 l G a rv n hA hr n x1 (0 : Int32) x1 t hf

def f_M_isTale_31 (n : Nat) : Nat → Int32 → Int32 → k_St → Option (Int32 × k_St)
  | 0, _, _, _ => none
  | k + 1, x1, x2, t => (if x2 ≤ 0 then k_cl (f_M_isRow n x1 t) (fun r_2 t_1 => (if (k_b r_2) = 0 then k_lt (f_M_good (0 : Int32) t_1) (fun q_3 => some (q_3.1, q_3.2)) else k_lt (f_M_good (1 : Int32) t_1) (fun q_4 => some (q_4.1, q_4.2)))) else (if (k_b (f_M_in (x2 - x2 / (10 : Int32) * (10 : Int32)) (1 : Int32) (t.1 18 2))) = 0 then k_lt (f_M_refused (2 : Int32) t) (fun q_6 => some (q_6.1, q_6.2)) else k_lt (x2 / (10 : Int32)) (fun x2_5 => f_M_isTale_31 n k x1 x2_5 t)))
def f_M_isTale (n : Nat) (x1 : Int32) (t : k_St) : Option (Int32 × k_St) := k_lt (k_sI t 0 0 (0 : Int32)) (fun t_1 => (if (1 : Int32) ≤ x1 then f_M_isTale_31 n n x1 x1 t_1 else k_lt (f_M_refused (2 : Int32) t_1) (fun q_2 => some (q_2.1, q_2.2))))
theorem m_M_isTale_31 {p : Program} (l : Launch) {e : Env} {s : State} {m : MethodId} {args : Array Value} {below : List Frame} {meth : Method} {c : Code} (G : k_G) (a : Nat → Nat) (rv : Value) (n : Nat) {w0 : va_W} {r : Int32} {t' : k_St} (hA : k_Amb p s m args meth c cX12_isTale 3 "TaleSharesModel" G (va_A w0 s.heap.size)) (hr : meth.sig.returnType = (some .int)) : ∀ (k : Nat) (x1 : Int32) (x2 : Int32) (t : k_St), f_M_isTale_31 n k x1 x2 t = some (r, t') → k_Go p l e (k_rm 4) s m args below meth c (k_QI G w0 r (k_WT G.2.1 a rv t') args s below) 3 G (va_A w0 s.heap.size) (k_WT G.2.1 a rv t) 31 [(0, .ref (a 0)), (1, .int x1), (2, .int x2)] [] := by
  intro k
  induction k with
  | zero => intro x1 x2 t hf; cases hf
  | succ k ih =>
  intro x1 x2 t hf
  rw [f_M_isTale_31] at hf
  refine k_iload_n (i := 2) hA dX12_isTale_31 rfl 2 rfl ?_
  refine k_if_le (tgt := 67) hA dX12_isTale_32 rfl (fun hc => ?_) (fun hc => ?_)
  · have hf := k_ift hc hf
    obtain ⟨r_2, t_1, ht_1, hf⟩ := k_cl_e hf
    refine k_aload_n (i := 0) hA dX12_isTale_67 rfl 0 rfl ?_
    refine k_aload_n (i := 0) hA dX12_isTale_68 rfl 0 rfl ?_
    refine k_iload_n (i := 1) hA dX12_isTale_69 rfl 1 rfl ?_
    refine k_callVi (As := [.int x1]) (rest := [.ref (a 0)]) hA (m_M_isRow l G a rv n x1 t ht_1) cd_X12_isRow wd_1716 (hc_MT_0 G.2.1 a rv t) rfl rfl (Nat.le_of_ble_eq_true rfl) rfl rfl (Nat.le_of_ble_eq_true rfl) dX12_isTale_70 ?_
    refine k_if_eq (tgt := 80) hA dX12_isTale_73 rfl (fun hc => ?_) (fun hc => ?_)
    · have hf := k_ift hc hf
      obtain ⟨⟨rq_3, tq_3⟩, hq_3, hf⟩ := k_lt_e hf
      dsimp only at hf
      obtain ⟨rfl, rfl⟩ := k_r2 hf
      refine k_iconst hA dX12_isTale_80 kc_i_0 ?_
      refine k_callVi (As := [.int (0 : Int32)]) (rest := []) hA (m_M_good l G a rv (0 : Int32) t_1 hq_3.symm) cd_X12_good wd_1601 (hc_MT_0 G.2.1 a rv t_1) rfl rfl (Nat.le_of_ble_eq_true rfl) rfl rfl (Nat.le_of_ble_eq_true rfl) dX12_isTale_81 ?_
      exact k_iret hA hr rfl dX12_isTale_84
    have hf := k_iff hc hf
    obtain ⟨⟨rq_4, tq_4⟩, hq_4, hf⟩ := k_lt_e hf
    dsimp only at hf
    obtain ⟨rfl, rfl⟩ := k_r2 hf
    refine k_iconst hA dX12_isTale_76 kc_i_1 ?_
    refine k_goto (tgt := 81) hA dX12_isTale_77 rfl ?_
    refine k_callVi (As := [.int (1 : Int32)]) (rest := []) hA (m_M_good l G a rv (1 : Int32) t_1 hq_4.symm) cd_X12_good wd_1601 (hc_MT_0 G.2.1 a rv t_1) rfl rfl (Nat.le_of_ble_eq_true rfl) rfl rfl (Nat.le_of_ble_eq_true rfl) dX12_isTale_81 ?_
    exact k_iret hA hr rfl dX12_isTale_84
  have hf := k_iff hc hf
  refine k_iload_n (i := 2) hA dX12_isTale_35 rfl 2 rfl ?_
  refine k_bipush hA dX12_isTale_36 kc_b_10 ?_
  refine k_irem hA dX12_isTale_38 (by decide) ?_
  refine k_iconst hA dX12_isTale_39 kc_i_1 ?_
  refine k_aload_n (i := 0) hA dX12_isTale_40 rfl 0 rfl ?_
  refine gt_MT_0_3 hA wd_1251 dX12_isTale_41 ?_
  refine gt_MT_18_2N hA rfl nf_210 dX12_isTale_44 ?_
  refine k_callSi (As := [.int (x2 - x2 / (10 : Int32) * (10 : Int32)), .int (1 : Int32), .int (t.1 18 2)]) (rest := []) hA (m_M_in l G (k_WT G.2.1 a rv t) (x2 - x2 / (10 : Int32) * (10 : Int32)) (1 : Int32) (t.1 18 2) rfl) cd_X12_in wd_1525 (Nat.le_of_ble_eq_true rfl) rfl rfl (Nat.le_of_ble_eq_true rfl) dX12_isTale_47 ?_
  refine k_if_ne (tgt := 59) hA dX12_isTale_50 rfl (fun hc => ?_) (fun hc => ?_)
  · have hf := k_iff hc hf
    obtain ⟨x2_5, ex2_5, hf⟩ := k_lt_e hf
    refine k_iload_n (i := 2) hA dX12_isTale_59 rfl 2 rfl ?_
    refine k_bipush hA dX12_isTale_60 kc_b_10 ?_
    refine k_idiv hA dX12_isTale_62 (by decide) ?_
    refine k_istore_n (i := 2) (lv' := [(2, .int x2_5), (0, .ref (a 0)), (1, .int x1)]) hA dX12_isTale_63 rfl ex2_5 (Nat.le_of_ble_eq_true rfl) rfl ?_
    refine k_goto (tgt := 31) hA dX12_isTale_64 rfl ?_
    refine k_pick (lv' := [(0, .ref (a 0)), (1, .int x1), (2, .int x2_5)]) [1, 2, 0] rfl ?_
    exact ih x1 x2_5 t hf
  have hf := k_ift hc hf
  obtain ⟨⟨rq_6, tq_6⟩, hq_6, hf⟩ := k_lt_e hf
  dsimp only at hf
  obtain ⟨rfl, rfl⟩ := k_r2 hf
  refine k_aload_n (i := 0) hA dX12_isTale_53 rfl 0 rfl ?_
  refine k_iconst hA dX12_isTale_54 kc_i_2 ?_
  refine k_callVi (As := [.int (2 : Int32)]) (rest := []) hA (m_M_refused l G a rv (2 : Int32) t hq_6.symm) cd_X12_refused wd_1390 (hc_MT_0 G.2.1 a rv t) rfl rfl (Nat.le_of_ble_eq_true rfl) rfl rfl (Nat.le_of_ble_eq_true rfl) dX12_isTale_55 ?_
  exact k_iret hA hr rfl dX12_isTale_58

theorem m_M_isTale (l : Launch) (G : k_G) (a : Nat → Nat) (rv : Value) (n : Nat) (x1 : Int32) (t : k_St) {r : Int32} {t' : k_St} (hf : f_M_isTale n x1 t = some (r, t')) : k_CI l G yX12_isTale cX12_isTale 3 (some .int) 4 (k_WT G.2.1 a rv t) [.ref (a 0), .int x1] r (k_WT G.2.1 a rv t') := by
  refine k_startI (lv := [(0, .ref (a 0)), (1, .int x1)]) (by decide +kernel) (Nat.le_of_ble_eq_true rfl) rfl ?_
  intro p e s m args below meth c hA hr
  have hA : k_Amb p s m args meth c cX12_isTale 3 "TaleSharesModel" G _ := hA
  unfold f_M_isTale at hf
  obtain ⟨t_1, et_1, hf⟩ := k_lt_e hf
  refine k_aload_n (i := 0) hA dX12_isTale_0 rfl 0 rfl ?_
  refine k_iconst hA dX12_isTale_1 kc_i_0 ?_
  refine pt_MT_0_0 hA wd_1248 et_1 dX12_isTale_2 ?_
  refine k_aload_n (i := 0) hA dX12_isTale_5 rfl 0 rfl ?_
  refine gt_MT_0_3 hA wd_1251 dX12_isTale_6 ?_
  refine k_ifnonnull (tgt := 18) hA dX12_isTale_9 rfl ?_
  refine k_iload_n (i := 1) hA dX12_isTale_18 rfl 1 rfl ?_
  refine k_iconst hA dX12_isTale_19 kc_i_1 ?_
  refine k_icmp_ge (tgt := 29) hA dX12_isTale_20 rfl (fun hc => ?_) (fun hc => ?_)
  · have hf := k_ift hc hf
    refine k_iload_n (i := 1) hA dX12_isTale_29 rfl 1 rfl ?_
    refine k_istore_n (i := 2) (lv' := [(2, .int x1), (0, .ref (a 0)), (1, .int x1)]) hA dX12_isTale_30 rfl rfl (Nat.le_of_ble_eq_true rfl) rfl ?_
    refine k_pick (lv' := [(0, .ref (a 0)), (1, .int x1), (2, .int x1)]) [1, 2, 0] rfl ?_
    exact m_M_isTale_31 l G a rv n hA hr n x1 x1 t_1 hf
  have hf := k_iff hc hf
  obtain ⟨⟨rq_2, tq_2⟩, hq_2, hf⟩ := k_lt_e hf
  dsimp only at hf
  obtain ⟨rfl, rfl⟩ := k_r2 hf
  refine k_aload_n (i := 0) hA dX12_isTale_23 rfl 0 rfl ?_
  refine k_iconst hA dX12_isTale_24 kc_i_2 ?_
  refine k_callVi (As := [.int (2 : Int32)]) (rest := []) hA (m_M_refused l G a rv (2 : Int32) t_1 hq_2.symm) cd_X12_refused wd_1390 (hc_MT_0 G.2.1 a rv t_1) rfl rfl (Nat.le_of_ble_eq_true rfl) rfl rfl (Nat.le_of_ble_eq_true rfl) dX12_isTale_25 ?_
  exact k_iret hA hr rfl dX12_isTale_28

def f_M_talesOf (n : Nat) (x1 : Int32) (t : k_St) : Option (Int32 × k_St) := k_lt (k_sI t 0 0 (0 : Int32)) (fun t_1 => (if (k_b (f_M_isHouse t_1 x1)) = 0 then k_lt (f_M_refused (1 : Int32) t_1) (fun q_2 => some (q_2.1, q_2.2)) else k_gi x1 6 (k_cl (f_M_tellsAll n (t_1.1 2 x1.toNatClampNeg) t_1) (fun r_5 t_4 => k_lt (f_M_good r_5 t_4) (fun q_6 => some (q_6.1, q_6.2))))))
theorem m_M_talesOf (l : Launch) (G : k_G) (a : Nat → Nat) (rv : Value) (n : Nat) (x1 : Int32) (t : k_St) {r : Int32} {t' : k_St} (hf : f_M_talesOf n x1 t = some (r, t')) : k_CI l G yX12_talesOf cX12_talesOf 2 (some .int) 5 (k_WT G.2.1 a rv t) [.ref (a 0), .int x1] r (k_WT G.2.1 a rv t') := by
  refine k_startI (lv := [(0, .ref (a 0)), (1, .int x1)]) (by decide +kernel) (Nat.le_of_ble_eq_true rfl) rfl ?_
  intro p e s m args below meth c hA hr
  have hA : k_Amb p s m args meth c cX12_talesOf 2 "TaleSharesModel" G _ := hA
  unfold f_M_talesOf at hf
  obtain ⟨t_1, et_1, hf⟩ := k_lt_e hf
  refine k_aload_n (i := 0) hA dX12_talesOf_0 rfl 0 rfl ?_
  refine k_iconst hA dX12_talesOf_1 kc_i_0 ?_
  refine pt_MT_0_0 hA wd_1248 et_1 dX12_talesOf_2 ?_
  refine k_aload_n (i := 0) hA dX12_talesOf_5 rfl 0 rfl ?_
  refine k_iload_n (i := 1) hA dX12_talesOf_6 rfl 1 rfl ?_
  refine k_callVi (As := [.int x1]) (rest := []) hA (m_M_isHouse l G a rv t_1 x1 rfl) cd_X12_isHouse wd_1625 (hc_MT_0 G.2.1 a rv t_1) rfl rfl (Nat.le_of_ble_eq_true rfl) rfl rfl (Nat.le_of_ble_eq_true rfl) dX12_talesOf_7 ?_
  refine k_if_eq (tgt := 30) hA dX12_talesOf_10 rfl (fun hc => ?_) (fun hc => ?_)
  · have hf := k_ift hc hf
    obtain ⟨⟨rq_2, tq_2⟩, hq_2, hf⟩ := k_lt_e hf
    dsimp only at hf
    obtain ⟨rfl, rfl⟩ := k_r2 hf
    refine k_aload_n (i := 0) hA dX12_talesOf_30 rfl 0 rfl ?_
    refine k_iconst hA dX12_talesOf_31 kc_i_1 ?_
    refine k_callVi (As := [.int (1 : Int32)]) (rest := []) hA (m_M_refused l G a rv (1 : Int32) t_1 hq_2.symm) cd_X12_refused wd_1390 (hc_MT_0 G.2.1 a rv t_1) rfl rfl (Nat.le_of_ble_eq_true rfl) rfl rfl (Nat.le_of_ble_eq_true rfl) dX12_talesOf_32 ?_
    exact k_iret hA hr rfl dX12_talesOf_35
  have hf := k_iff hc hf
  obtain ⟨hi_3, hf⟩ := k_gi_e hf
  obtain ⟨r_5, t_4, ht_4, hf⟩ := k_cl_e hf
  obtain ⟨⟨rq_6, tq_6⟩, hq_6, hf⟩ := k_lt_e hf
  dsimp only at hf
  obtain ⟨rfl, rfl⟩ := k_r2 hf
  refine k_aload_n (i := 0) hA dX12_talesOf_13 rfl 0 rfl ?_
  refine k_aload_n (i := 0) hA dX12_talesOf_14 rfl 0 rfl ?_
  refine k_aload_n (i := 0) hA dX12_talesOf_15 rfl 0 rfl ?_
  refine gt_MT_0_15 hA wd_1263 dX12_talesOf_16 ?_
  refine k_iload_n (i := 1) hA dX12_talesOf_19 rfl 1 rfl ?_
  refine ld_MT_2 hA hi_3 dX12_talesOf_20 ?_
  refine k_callVi (As := [.int (t_1.1 2 x1.toNatClampNeg)]) (rest := [.ref (a 0)]) hA (m_M_tellsAll l G a rv n (t_1.1 2 x1.toNatClampNeg) t_1 ht_4) cd_X12_tellsAll wd_1677 (hc_MT_0 G.2.1 a rv t_1) rfl rfl (Nat.le_of_ble_eq_true rfl) rfl rfl (Nat.le_of_ble_eq_true rfl) dX12_talesOf_21 ?_
  refine k_callVi (As := [.int r_5]) (rest := []) hA (m_M_good l G a rv r_5 t_4 hq_6.symm) cd_X12_good wd_1601 (hc_MT_0 G.2.1 a rv t_4) rfl rfl (Nat.le_of_ble_eq_true rfl) rfl rfl (Nat.le_of_ble_eq_true rfl) dX12_talesOf_24 ?_
  refine k_goto (tgt := 35) hA dX12_talesOf_27 rfl ?_
  exact k_iret hA hr rfl dX12_talesOf_35

def f_M_wanted_36 (n : Nat) : Nat → Int32 → Int32 → Int32 → Int32 → k_St → Option (Int32 × k_St)
  | 0, _, _, _, _, _ => none
  | k + 1, x1, x2, x3, x4, t => (if (t.1 18 2) ≤ x4 then k_lt (f_M_good x3 t) (fun q_1 => some (q_1.1, q_1.2)) else k_gi x1 6 (k_cl (f_M_tellsAll n ((t.1 2 x1.toNatClampNeg) ||| ((1 : Int32) <<< (x4 &&& 31))) t) (fun r_4 t_3 => (if x2 < r_4 then k_lt (x4 + (1 : Int32)) (fun x4_5 => f_M_wanted_36 n k x1 r_4 x4 x4_5 t_3) else k_lt (x4 + (1 : Int32)) (fun x4_6 => f_M_wanted_36 n k x1 x2 x3 x4_6 t_3)))))
def f_M_wanted (n : Nat) (x1 : Int32) (t : k_St) : Option (Int32 × k_St) := k_lt (k_sI t 0 0 (0 : Int32)) (fun t_1 => (if (k_b (f_M_isHouse t_1 x1)) = 0 then k_lt (f_M_refused (1 : Int32) t_1) (fun q_5 => some (q_5.1, q_5.2)) else k_gi x1 6 (k_cl (f_M_tellsAll n (t_1.1 2 x1.toNatClampNeg) t_1) (fun r_4 t_3 => f_M_wanted_36 n n x1 r_4 (-2 : Int32) (0 : Int32) t_3))))
theorem m_M_wanted_36 {p : Program} (l : Launch) {e : Env} {s : State} {m : MethodId} {args : Array Value} {below : List Frame} {meth : Method} {c : Code} (G : k_G) (a : Nat → Nat) (rv : Value) (n : Nat) {w0 : va_W} {r : Int32} {t' : k_St} (hA : k_Amb p s m args meth c cX12_wanted 6 "TaleSharesModel" G (va_A w0 s.heap.size)) (hr : meth.sig.returnType = (some .int)) : ∀ (k : Nat) (x1 : Int32) (x2 : Int32) (x3 : Int32) (x4 : Int32) (t : k_St), f_M_wanted_36 n k x1 x2 x3 x4 t = some (r, t') → k_Go p l e (k_rm 5) s m args below meth c (k_QI G w0 r (k_WT G.2.1 a rv t') args s below) 6 G (va_A w0 s.heap.size) (k_WT G.2.1 a rv t) 36 [(0, .ref (a 0)), (1, .int x1), (2, .int x2), (3, .int x3), (4, .int x4)] [] := by
  intro k
  induction k with
  | zero => intro x1 x2 x3 x4 t hf; cases hf
  | succ k ih =>
  intro x1 x2 x3 x4 t hf
  rw [f_M_wanted_36] at hf
  refine k_iload hA dX12_wanted_36 4 rfl ?_
  refine k_aload_n (i := 0) hA dX12_wanted_38 rfl 0 rfl ?_
  refine gt_MT_0_3 hA wd_1251 dX12_wanted_39 ?_
  refine gt_MT_18_2N hA rfl nf_210 dX12_wanted_42 ?_
  refine k_icmp_ge (tgt := 86) hA dX12_wanted_45 rfl (fun hc => ?_) (fun hc => ?_)
  · have hf := k_ift hc hf
    obtain ⟨⟨rq_1, tq_1⟩, hq_1, hf⟩ := k_lt_e hf
    dsimp only at hf
    obtain ⟨rfl, rfl⟩ := k_r2 hf
    refine k_aload_n (i := 0) hA dX12_wanted_86 rfl 0 rfl ?_
    refine k_iload_n (i := 3) hA dX12_wanted_87 rfl 3 rfl ?_
    refine k_callVi (As := [.int x3]) (rest := []) hA (m_M_good l G a rv x3 t hq_1.symm) cd_X12_good wd_1601 (hc_MT_0 G.2.1 a rv t) rfl rfl (Nat.le_of_ble_eq_true rfl) rfl rfl (Nat.le_of_ble_eq_true rfl) dX12_wanted_88 ?_
    exact k_iret hA hr rfl dX12_wanted_91
  have hf := k_iff hc hf
  obtain ⟨hi_2, hf⟩ := k_gi_e hf
  obtain ⟨r_4, t_3, ht_3, hf⟩ := k_cl_e hf
  refine k_aload_n (i := 0) hA dX12_wanted_48 rfl 0 rfl ?_
  refine k_aload_n (i := 0) hA dX12_wanted_49 rfl 0 rfl ?_
  refine gt_MT_0_15 hA wd_1263 dX12_wanted_50 ?_
  refine k_iload_n (i := 1) hA dX12_wanted_53 rfl 1 rfl ?_
  refine ld_MT_2 hA hi_2 dX12_wanted_54 ?_
  refine k_iconst hA dX12_wanted_55 kc_i_1 ?_
  refine k_iload hA dX12_wanted_56 4 rfl ?_
  refine k_ishl hA dX12_wanted_58 ?_
  refine k_ior hA dX12_wanted_59 ?_
  refine k_callVi (As := [.int ((t.1 2 x1.toNatClampNeg) ||| ((1 : Int32) <<< (x4 &&& 31)))]) (rest := []) hA (m_M_tellsAll l G a rv n ((t.1 2 x1.toNatClampNeg) ||| ((1 : Int32) <<< (x4 &&& 31))) t ht_3) cd_X12_tellsAll wd_1677 (hc_MT_0 G.2.1 a rv t) rfl rfl (Nat.le_of_ble_eq_true rfl) rfl rfl (Nat.le_of_ble_eq_true rfl) dX12_wanted_60 ?_
  refine k_istore (lv' := [(5, .int r_4), (0, .ref (a 0)), (1, .int x1), (2, .int x2), (3, .int x3), (4, .int x4)]) hA dX12_wanted_63 rfl (Nat.le_of_ble_eq_true rfl) rfl ?_
  refine k_iload hA dX12_wanted_65 0 rfl ?_
  refine k_iload_n (i := 2) hA dX12_wanted_67 rfl 3 rfl ?_
  refine k_icmp_gt (tgt := 74) hA dX12_wanted_68 rfl (fun hc => ?_) (fun hc => ?_)
  · have hf := k_ift hc hf
    obtain ⟨x4_5, ex4_5, hf⟩ := k_lt_e hf
    refine k_iload hA dX12_wanted_74 0 rfl ?_
    refine k_istore_n (i := 2) (lv' := [(2, .int r_4), (5, .int r_4), (0, .ref (a 0)), (1, .int x1), (3, .int x3), (4, .int x4)]) hA dX12_wanted_76 rfl rfl (Nat.le_of_ble_eq_true rfl) rfl ?_
    refine k_iload hA dX12_wanted_77 5 rfl ?_
    refine k_istore_n (i := 3) (lv' := [(3, .int x4), (2, .int r_4), (5, .int r_4), (0, .ref (a 0)), (1, .int x1), (4, .int x4)]) hA dX12_wanted_79 rfl rfl (Nat.le_of_ble_eq_true rfl) rfl ?_
    refine k_iinc (j := 5) (v := x4_5) (lv' := [(4, .int x4_5), (3, .int x4), (2, .int r_4), (5, .int r_4), (0, .ref (a 0)), (1, .int x1)]) hA dX12_wanted_80 rfl (k_inc ex4_5 kc_i_1) (Nat.le_of_ble_eq_true rfl) rfl ?_
    refine k_goto (tgt := 36) hA dX12_wanted_83 rfl ?_
    refine k_pick (lv' := [(0, .ref (a 0)), (1, .int x1), (2, .int r_4), (3, .int x4), (4, .int x4_5)]) [4, 5, 2, 1, 0] rfl ?_
    exact ih x1 r_4 x4 x4_5 t_3 hf
  have hf := k_iff hc hf
  obtain ⟨x4_6, ex4_6, hf⟩ := k_lt_e hf
  refine k_goto (tgt := 80) hA dX12_wanted_71 rfl ?_
  refine k_iinc (j := 5) (v := x4_6) (lv' := [(4, .int x4_6), (5, .int r_4), (0, .ref (a 0)), (1, .int x1), (2, .int x2), (3, .int x3)]) hA dX12_wanted_80 rfl (k_inc ex4_6 kc_i_1) (Nat.le_of_ble_eq_true rfl) rfl ?_
  refine k_goto (tgt := 36) hA dX12_wanted_83 rfl ?_
  refine k_pick (lv' := [(0, .ref (a 0)), (1, .int x1), (2, .int x2), (3, .int x3), (4, .int x4_6)]) [2, 3, 4, 5, 0] rfl ?_
  exact ih x1 x2 x3 x4_6 t_3 hf

theorem m_M_wanted (l : Launch) (G : k_G) (a : Nat → Nat) (rv : Value) (n : Nat) (x1 : Int32) (t : k_St) {r : Int32} {t' : k_St} (hf : f_M_wanted n x1 t = some (r, t')) : k_CI l G yX12_wanted cX12_wanted 6 (some .int) 5 (k_WT G.2.1 a rv t) [.ref (a 0), .int x1] r (k_WT G.2.1 a rv t') := by
  refine k_startI (lv := [(0, .ref (a 0)), (1, .int x1)]) (by decide +kernel) (Nat.le_of_ble_eq_true rfl) rfl ?_
  intro p e s m args below meth c hA hr
  have hA : k_Amb p s m args meth c cX12_wanted 6 "TaleSharesModel" G _ := hA
  unfold f_M_wanted at hf
  obtain ⟨t_1, et_1, hf⟩ := k_lt_e hf
  refine k_aload_n (i := 0) hA dX12_wanted_0 rfl 0 rfl ?_
  refine k_iconst hA dX12_wanted_1 kc_i_0 ?_
  refine pt_MT_0_0 hA wd_1248 et_1 dX12_wanted_2 ?_
  refine k_aload_n (i := 0) hA dX12_wanted_5 rfl 0 rfl ?_
  refine k_iload_n (i := 1) hA dX12_wanted_6 rfl 1 rfl ?_
  refine k_callVi (As := [.int x1]) (rest := []) hA (m_M_isHouse l G a rv t_1 x1 rfl) cd_X12_isHouse wd_1625 (hc_MT_0 G.2.1 a rv t_1) rfl rfl (Nat.le_of_ble_eq_true rfl) rfl rfl (Nat.le_of_ble_eq_true rfl) dX12_wanted_7 ?_
  refine k_if_ne (tgt := 19) hA dX12_wanted_10 rfl (fun hc => ?_) (fun hc => ?_)
  · have hf := k_iff hc hf
    obtain ⟨hi_2, hf⟩ := k_gi_e hf
    obtain ⟨r_4, t_3, ht_3, hf⟩ := k_cl_e hf
    refine k_aload_n (i := 0) hA dX12_wanted_19 rfl 0 rfl ?_
    refine k_aload_n (i := 0) hA dX12_wanted_20 rfl 0 rfl ?_
    refine gt_MT_0_15 hA wd_1263 dX12_wanted_21 ?_
    refine k_iload_n (i := 1) hA dX12_wanted_24 rfl 1 rfl ?_
    refine ld_MT_2 hA hi_2 dX12_wanted_25 ?_
    refine k_callVi (As := [.int (t_1.1 2 x1.toNatClampNeg)]) (rest := []) hA (m_M_tellsAll l G a rv n (t_1.1 2 x1.toNatClampNeg) t_1 ht_3) cd_X12_tellsAll wd_1677 (hc_MT_0 G.2.1 a rv t_1) rfl rfl (Nat.le_of_ble_eq_true rfl) rfl rfl (Nat.le_of_ble_eq_true rfl) dX12_wanted_26 ?_
    refine k_istore_n (i := 2) (lv' := [(2, .int r_4), (0, .ref (a 0)), (1, .int x1)]) hA dX12_wanted_29 rfl rfl (Nat.le_of_ble_eq_true rfl) rfl ?_
    refine k_bipush hA dX12_wanted_30 kc_b_m2 ?_
    refine k_istore_n (i := 3) (lv' := [(3, .int (-2 : Int32)), (2, .int r_4), (0, .ref (a 0)), (1, .int x1)]) hA dX12_wanted_32 rfl rfl (Nat.le_of_ble_eq_true rfl) rfl ?_
    refine k_iconst hA dX12_wanted_33 kc_i_0 ?_
    refine k_istore (lv' := [(4, .int (0 : Int32)), (3, .int (-2 : Int32)), (2, .int r_4), (0, .ref (a 0)), (1, .int x1)]) hA dX12_wanted_34 rfl (Nat.le_of_ble_eq_true rfl) rfl ?_
    refine k_pick (lv' := [(0, .ref (a 0)), (1, .int x1), (2, .int r_4), (3, .int (-2 : Int32)), (4, .int (0 : Int32))]) [3, 4, 2, 1, 0] rfl ?_
    exact m_M_wanted_36 l G a rv n hA hr n x1 r_4 (-2 : Int32) (0 : Int32) t_3 hf
  have hf := k_ift hc hf
  obtain ⟨⟨rq_5, tq_5⟩, hq_5, hf⟩ := k_lt_e hf
  dsimp only at hf
  obtain ⟨rfl, rfl⟩ := k_r2 hf
  refine k_aload_n (i := 0) hA dX12_wanted_13 rfl 0 rfl ?_
  refine k_iconst hA dX12_wanted_14 kc_i_1 ?_
  refine k_callVi (As := [.int (1 : Int32)]) (rest := []) hA (m_M_refused l G a rv (1 : Int32) t_1 hq_5.symm) cd_X12_refused wd_1390 (hc_MT_0 G.2.1 a rv t_1) rfl rfl (Nat.le_of_ble_eq_true rfl) rfl rfl (Nat.le_of_ble_eq_true rfl) dX12_wanted_15 ?_
  exact k_iret hA hr rfl dX12_wanted_18

def f_M_canTell (t : k_St) (x1 : Int32) : Bool := (if (k_b (f_M_bit (t.1 18 6) x1)) = 0 then true else false)
theorem m_M_canTell (l : Launch) (G : k_G) (a : Nat → Nat) (rv : Value) (t : k_St) (x1 : Int32) {r : Bool} (hf : f_M_canTell t x1 = r) : k_CI l G yX12_canTell cX12_canTell 2 (some .boolean) 2 (k_WT G.2.1 a rv t) [.ref (a 0), .int x1] (k_b r) (k_WT G.2.1 a rv t) := by
  refine k_startI (lv := [(0, .ref (a 0)), (1, .int x1)]) (by decide +kernel) (Nat.le_of_ble_eq_true rfl) rfl ?_
  intro p e s m args below meth c hA hr
  have hA : k_Amb p s m args meth c cX12_canTell 2 "TaleSharesModel" G _ := hA
  unfold f_M_canTell at hf
  refine k_aload_n (i := 0) hA dX12_canTell_0 rfl 0 rfl ?_
  refine gt_MT_0_3 hA wd_1251 dX12_canTell_1 ?_
  refine gt_MT_18_6N hA rfl nf_297 dX12_canTell_4 ?_
  refine k_iload_n (i := 1) hA dX12_canTell_7 rfl 1 rfl ?_
  refine k_callSi (As := [.int (t.1 18 6), .int x1]) (rest := []) hA (m_M_bit l G (k_WT G.2.1 a rv t) (t.1 18 6) x1 rfl) cd_X12_bit wd_1575 (Nat.le_of_ble_eq_true rfl) rfl rfl (Nat.le_of_ble_eq_true rfl) dX12_canTell_8 ?_
  refine k_if_ne (tgt := 18) hA dX12_canTell_11 rfl (fun hc => ?_) (fun hc => ?_)
  · have hf := k_iff hc hf
    subst hf
    refine k_iconst hA dX12_canTell_18 kc_i_0 ?_
    exact k_iret hA hr (k_narB (k_b01 _)) dX12_canTell_19
  have hf := k_ift hc hf
  subst hf
  refine k_iconst hA dX12_canTell_14 kc_i_1 ?_
  refine k_goto (tgt := 19) hA dX12_canTell_15 rfl ?_
  exact k_iret hA hr (k_narB (k_b01 _)) dX12_canTell_19

def f_M_ask_84 (n : Nat) (rec36 : Int32 → Int32 → Int32 → Int32 → k_St → Option (Int32 × k_St)) (x1 : Int32) (x2 : Int32) (x3 : Int32) (x4 : Int32) (t : k_St) : Option (Int32 × k_St) := (if x2 < (0 : Int32) then k_lt (x4 + (1 : Int32)) (fun x4_1 => rec36 x1 (0 : Int32) x4 x4_1 t) else k_lt (x4 + (1 : Int32)) (fun x4_2 => rec36 x1 x2 x3 x4_2 t))
def f_M_ask_36 (n : Nat) : Nat → Int32 → Int32 → Int32 → Int32 → k_St → Option (Int32 × k_St)
  | 0, _, _, _, _, _ => none
  | k + 1, x1, x2, x3, x4, t => (if (t.1 18 4) ≤ x4 then k_lt (f_M_good x3 t) (fun q_1 => some (q_1.1, q_1.2)) else (if x4 = x1 then f_M_ask_84 n (f_M_ask_36 n k) x1 x2 x3 x4 t else (if (k_b (f_M_canTell t x4)) = 0 then f_M_ask_84 n (f_M_ask_36 n k) x1 x2 x3 x4 t else k_gi x1 6 (k_gi x4 6 (k_cl (f_M_tellsAll n ((t.1 2 x1.toNatClampNeg) ||| (t.1 2 x4.toNatClampNeg)) t) (fun r_5 t_4 => (if x2 < r_5 then k_lt (x4 + (1 : Int32)) (fun x4_6 => f_M_ask_36 n k x1 r_5 x4 x4_6 t_4) else k_lt (x4 + (1 : Int32)) (fun x4_7 => f_M_ask_36 n k x1 x2 x3 x4_7 t_4))))))))
def f_M_ask (n : Nat) (x1 : Int32) (t : k_St) : Option (Int32 × k_St) := k_lt (k_sI t 0 0 (0 : Int32)) (fun t_1 => (if (k_b (f_M_isHouse t_1 x1)) = 0 then k_lt (f_M_refused (1 : Int32) t_1) (fun q_5 => some (q_5.1, q_5.2)) else k_gi x1 6 (k_cl (f_M_tellsAll n (t_1.1 2 x1.toNatClampNeg) t_1) (fun r_4 t_3 => f_M_ask_36 n n x1 r_4 (-2 : Int32) (0 : Int32) t_3))))
theorem m_M_ask_84 {p : Program} (l : Launch) {e : Env} {s : State} {m : MethodId} {args : Array Value} {below : List Frame} {meth : Method} {c : Code} (G : k_G) (a : Nat → Nat) (rv : Value) (n : Nat) {w0 : va_W} {r : Int32} {t' : k_St} (hA : k_Amb p s m args meth c cX12_ask 6 "TaleSharesModel" G (va_A w0 s.heap.size)) (hr : meth.sig.returnType = (some .int)) (rec36 : Int32 → Int32 → Int32 → Int32 → k_St → Option (Int32 × k_St)) (hrec36 : ∀ (x1 : Int32) (x2 : Int32) (x3 : Int32) (x4 : Int32) (t : k_St), rec36 x1 x2 x3 x4 t = some (r, t') → k_Go p l e (k_rm 5) s m args below meth c (k_QI G w0 r (k_WT G.2.1 a rv t') args s below) 6 G (va_A w0 s.heap.size) (k_WT G.2.1 a rv t) 36 [(0, .ref (a 0)), (1, .int x1), (2, .int x2), (3, .int x3), (4, .int x4)] []) : ∀ (x1 : Int32) (x2 : Int32) (x3 : Int32) (x4 : Int32) (t : k_St), f_M_ask_84 n rec36 x1 x2 x3 x4 t = some (r, t') → k_Go p l e (k_rm 5) s m args below meth c (k_QI G w0 r (k_WT G.2.1 a rv t') args s below) 6 G (va_A w0 s.heap.size) (k_WT G.2.1 a rv t) 84 [(0, .ref (a 0)), (1, .int x1), (2, .int x2), (3, .int x3), (4, .int x4)] [] := by
  intro x1 x2 x3 x4 t hf
  unfold f_M_ask_84 at hf
  refine k_iconst hA dX12_ask_84 kc_i_0 ?_
  refine k_istore (lv' := [(5, .int (0 : Int32)), (0, .ref (a 0)), (1, .int x1), (2, .int x2), (3, .int x3), (4, .int x4)]) hA dX12_ask_85 rfl (Nat.le_of_ble_eq_true rfl) rfl ?_
  refine k_iload hA dX12_ask_87 0 rfl ?_
  refine k_iload_n (i := 2) hA dX12_ask_89 rfl 3 rfl ?_
  refine k_icmp_gt (tgt := 96) hA dX12_ask_90 rfl (fun hc => ?_) (fun hc => ?_)
  · have hf := k_ift hc hf
    obtain ⟨x4_1, ex4_1, hf⟩ := k_lt_e hf
    refine k_iload hA dX12_ask_96 0 rfl ?_
    refine k_istore_n (i := 2) (lv' := [(2, .int (0 : Int32)), (5, .int (0 : Int32)), (0, .ref (a 0)), (1, .int x1), (3, .int x3), (4, .int x4)]) hA dX12_ask_98 rfl rfl (Nat.le_of_ble_eq_true rfl) rfl ?_
    refine k_iload hA dX12_ask_99 5 rfl ?_
    refine k_istore_n (i := 3) (lv' := [(3, .int x4), (2, .int (0 : Int32)), (5, .int (0 : Int32)), (0, .ref (a 0)), (1, .int x1), (4, .int x4)]) hA dX12_ask_101 rfl rfl (Nat.le_of_ble_eq_true rfl) rfl ?_
    refine k_iinc (j := 5) (v := x4_1) (lv' := [(4, .int x4_1), (3, .int x4), (2, .int (0 : Int32)), (5, .int (0 : Int32)), (0, .ref (a 0)), (1, .int x1)]) hA dX12_ask_102 rfl (k_inc ex4_1 kc_i_1) (Nat.le_of_ble_eq_true rfl) rfl ?_
    refine k_goto (tgt := 36) hA dX12_ask_105 rfl ?_
    refine k_pick (lv' := [(0, .ref (a 0)), (1, .int x1), (2, .int (0 : Int32)), (3, .int x4), (4, .int x4_1)]) [4, 5, 2, 1, 0] rfl ?_
    exact hrec36 x1 (0 : Int32) x4 x4_1 t hf
  have hf := k_iff hc hf
  obtain ⟨x4_2, ex4_2, hf⟩ := k_lt_e hf
  refine k_goto (tgt := 102) hA dX12_ask_93 rfl ?_
  refine k_iinc (j := 5) (v := x4_2) (lv' := [(4, .int x4_2), (5, .int (0 : Int32)), (0, .ref (a 0)), (1, .int x1), (2, .int x2), (3, .int x3)]) hA dX12_ask_102 rfl (k_inc ex4_2 kc_i_1) (Nat.le_of_ble_eq_true rfl) rfl ?_
  refine k_goto (tgt := 36) hA dX12_ask_105 rfl ?_
  refine k_pick (lv' := [(0, .ref (a 0)), (1, .int x1), (2, .int x2), (3, .int x3), (4, .int x4_2)]) [2, 3, 4, 5, 0] rfl ?_
  exact hrec36 x1 x2 x3 x4_2 t hf

theorem m_M_ask_36 {p : Program} (l : Launch) {e : Env} {s : State} {m : MethodId} {args : Array Value} {below : List Frame} {meth : Method} {c : Code} (G : k_G) (a : Nat → Nat) (rv : Value) (n : Nat) {w0 : va_W} {r : Int32} {t' : k_St} (hA : k_Amb p s m args meth c cX12_ask 6 "TaleSharesModel" G (va_A w0 s.heap.size)) (hr : meth.sig.returnType = (some .int)) : ∀ (k : Nat) (x1 : Int32) (x2 : Int32) (x3 : Int32) (x4 : Int32) (t : k_St), f_M_ask_36 n k x1 x2 x3 x4 t = some (r, t') → k_Go p l e (k_rm 5) s m args below meth c (k_QI G w0 r (k_WT G.2.1 a rv t') args s below) 6 G (va_A w0 s.heap.size) (k_WT G.2.1 a rv t) 36 [(0, .ref (a 0)), (1, .int x1), (2, .int x2), (3, .int x3), (4, .int x4)] [] := by
  intro k
  induction k with
  | zero => intro x1 x2 x3 x4 t hf; cases hf
  | succ k ih =>
  intro x1 x2 x3 x4 t hf
  rw [f_M_ask_36] at hf
  refine k_iload hA dX12_ask_36 4 rfl ?_
  refine k_aload_n (i := 0) hA dX12_ask_38 rfl 0 rfl ?_
  refine gt_MT_0_3 hA wd_1251 dX12_ask_39 ?_
  refine gt_MT_18_4N hA rfl nf_277 dX12_ask_42 ?_
  refine k_icmp_ge (tgt := 108) hA dX12_ask_45 rfl (fun hc => ?_) (fun hc => ?_)
  · have hf := k_ift hc hf
    obtain ⟨⟨rq_1, tq_1⟩, hq_1, hf⟩ := k_lt_e hf
    dsimp only at hf
    obtain ⟨rfl, rfl⟩ := k_r2 hf
    refine k_aload_n (i := 0) hA dX12_ask_108 rfl 0 rfl ?_
    refine k_iload_n (i := 3) hA dX12_ask_109 rfl 3 rfl ?_
    refine k_callVi (As := [.int x3]) (rest := []) hA (m_M_good l G a rv x3 t hq_1.symm) cd_X12_good wd_1601 (hc_MT_0 G.2.1 a rv t) rfl rfl (Nat.le_of_ble_eq_true rfl) rfl rfl (Nat.le_of_ble_eq_true rfl) dX12_ask_110 ?_
    exact k_iret hA hr rfl dX12_ask_113
  have hf := k_iff hc hf
  refine k_iload hA dX12_ask_48 4 rfl ?_
  refine k_iload_n (i := 1) hA dX12_ask_50 rfl 1 rfl ?_
  refine k_icmp_eq (tgt := 84) hA dX12_ask_51 rfl (fun hc => ?_) (fun hc => ?_)
  · have hf := k_ift hc hf
    exact m_M_ask_84 l G a rv n hA hr (f_M_ask_36 n k) ih x1 x2 x3 x4 t hf
  have hf := k_iff hc hf
  refine k_aload_n (i := 0) hA dX12_ask_54 rfl 0 rfl ?_
  refine k_iload hA dX12_ask_55 4 rfl ?_
  refine k_callVi (As := [.int x4]) (rest := []) hA (m_M_canTell l G a rv t x4 rfl) cd_X12_canTell wd_1732 (hc_MT_0 G.2.1 a rv t) rfl rfl (Nat.le_of_ble_eq_true rfl) rfl rfl (Nat.le_of_ble_eq_true rfl) dX12_ask_57 ?_
  refine k_if_eq (tgt := 84) hA dX12_ask_60 rfl (fun hc => ?_) (fun hc => ?_)
  · have hf := k_ift hc hf
    exact m_M_ask_84 l G a rv n hA hr (f_M_ask_36 n k) ih x1 x2 x3 x4 t hf
  have hf := k_iff hc hf
  obtain ⟨hi_2, hf⟩ := k_gi_e hf
  obtain ⟨hi_3, hf⟩ := k_gi_e hf
  obtain ⟨r_5, t_4, ht_4, hf⟩ := k_cl_e hf
  refine k_aload_n (i := 0) hA dX12_ask_63 rfl 0 rfl ?_
  refine k_aload_n (i := 0) hA dX12_ask_64 rfl 0 rfl ?_
  refine gt_MT_0_15 hA wd_1263 dX12_ask_65 ?_
  refine k_iload_n (i := 1) hA dX12_ask_68 rfl 1 rfl ?_
  refine ld_MT_2 hA hi_2 dX12_ask_69 ?_
  refine k_aload_n (i := 0) hA dX12_ask_70 rfl 0 rfl ?_
  refine gt_MT_0_15 hA wd_1263 dX12_ask_71 ?_
  refine k_iload hA dX12_ask_74 4 rfl ?_
  refine ld_MT_2 hA hi_3 dX12_ask_76 ?_
  refine k_ior hA dX12_ask_77 ?_
  refine k_callVi (As := [.int ((t.1 2 x1.toNatClampNeg) ||| (t.1 2 x4.toNatClampNeg))]) (rest := []) hA (m_M_tellsAll l G a rv n ((t.1 2 x1.toNatClampNeg) ||| (t.1 2 x4.toNatClampNeg)) t ht_4) cd_X12_tellsAll wd_1677 (hc_MT_0 G.2.1 a rv t) rfl rfl (Nat.le_of_ble_eq_true rfl) rfl rfl (Nat.le_of_ble_eq_true rfl) dX12_ask_78 ?_
  refine k_goto (tgt := 85) hA dX12_ask_81 rfl ?_
  refine k_istore (lv' := [(5, .int r_5), (0, .ref (a 0)), (1, .int x1), (2, .int x2), (3, .int x3), (4, .int x4)]) hA dX12_ask_85 rfl (Nat.le_of_ble_eq_true rfl) rfl ?_
  refine k_iload hA dX12_ask_87 0 rfl ?_
  refine k_iload_n (i := 2) hA dX12_ask_89 rfl 3 rfl ?_
  refine k_icmp_gt (tgt := 96) hA dX12_ask_90 rfl (fun hc => ?_) (fun hc => ?_)
  · have hf := k_ift hc hf
    obtain ⟨x4_6, ex4_6, hf⟩ := k_lt_e hf
    refine k_iload hA dX12_ask_96 0 rfl ?_
    refine k_istore_n (i := 2) (lv' := [(2, .int r_5), (5, .int r_5), (0, .ref (a 0)), (1, .int x1), (3, .int x3), (4, .int x4)]) hA dX12_ask_98 rfl rfl (Nat.le_of_ble_eq_true rfl) rfl ?_
    refine k_iload hA dX12_ask_99 5 rfl ?_
    refine k_istore_n (i := 3) (lv' := [(3, .int x4), (2, .int r_5), (5, .int r_5), (0, .ref (a 0)), (1, .int x1), (4, .int x4)]) hA dX12_ask_101 rfl rfl (Nat.le_of_ble_eq_true rfl) rfl ?_
    refine k_iinc (j := 5) (v := x4_6) (lv' := [(4, .int x4_6), (3, .int x4), (2, .int r_5), (5, .int r_5), (0, .ref (a 0)), (1, .int x1)]) hA dX12_ask_102 rfl (k_inc ex4_6 kc_i_1) (Nat.le_of_ble_eq_true rfl) rfl ?_
    refine k_goto (tgt := 36) hA dX12_ask_105 rfl ?_
    refine k_pick (lv' := [(0, .ref (a 0)), (1, .int x1), (2, .int r_5), (3, .int x4), (4, .int x4_6)]) [4, 5, 2, 1, 0] rfl ?_
    exact ih x1 r_5 x4 x4_6 t_4 hf
  have hf := k_iff hc hf
  obtain ⟨x4_7, ex4_7, hf⟩ := k_lt_e hf
  refine k_goto (tgt := 102) hA dX12_ask_93 rfl ?_
  refine k_iinc (j := 5) (v := x4_7) (lv' := [(4, .int x4_7), (5, .int r_5), (0, .ref (a 0)), (1, .int x1), (2, .int x2), (3, .int x3)]) hA dX12_ask_102 rfl (k_inc ex4_7 kc_i_1) (Nat.le_of_ble_eq_true rfl) rfl ?_
  refine k_goto (tgt := 36) hA dX12_ask_105 rfl ?_
  refine k_pick (lv' := [(0, .ref (a 0)), (1, .int x1), (2, .int x2), (3, .int x3), (4, .int x4_7)]) [2, 3, 4, 5, 0] rfl ?_
  exact ih x1 x2 x3 x4_7 t_4 hf

theorem m_M_ask (l : Launch) (G : k_G) (a : Nat → Nat) (rv : Value) (n : Nat) (x1 : Int32) (t : k_St) {r : Int32} {t' : k_St} (hf : f_M_ask n x1 t = some (r, t')) : k_CI l G yX12_ask cX12_ask 6 (some .int) 5 (k_WT G.2.1 a rv t) [.ref (a 0), .int x1] r (k_WT G.2.1 a rv t') := by
  refine k_startI (lv := [(0, .ref (a 0)), (1, .int x1)]) (by decide +kernel) (Nat.le_of_ble_eq_true rfl) rfl ?_
  intro p e s m args below meth c hA hr
  have hA : k_Amb p s m args meth c cX12_ask 6 "TaleSharesModel" G _ := hA
  unfold f_M_ask at hf
  obtain ⟨t_1, et_1, hf⟩ := k_lt_e hf
  refine k_aload_n (i := 0) hA dX12_ask_0 rfl 0 rfl ?_
  refine k_iconst hA dX12_ask_1 kc_i_0 ?_
  refine pt_MT_0_0 hA wd_1248 et_1 dX12_ask_2 ?_
  refine k_aload_n (i := 0) hA dX12_ask_5 rfl 0 rfl ?_
  refine k_iload_n (i := 1) hA dX12_ask_6 rfl 1 rfl ?_
  refine k_callVi (As := [.int x1]) (rest := []) hA (m_M_isHouse l G a rv t_1 x1 rfl) cd_X12_isHouse wd_1625 (hc_MT_0 G.2.1 a rv t_1) rfl rfl (Nat.le_of_ble_eq_true rfl) rfl rfl (Nat.le_of_ble_eq_true rfl) dX12_ask_7 ?_
  refine k_if_ne (tgt := 19) hA dX12_ask_10 rfl (fun hc => ?_) (fun hc => ?_)
  · have hf := k_iff hc hf
    obtain ⟨hi_2, hf⟩ := k_gi_e hf
    obtain ⟨r_4, t_3, ht_3, hf⟩ := k_cl_e hf
    refine k_aload_n (i := 0) hA dX12_ask_19 rfl 0 rfl ?_
    refine k_aload_n (i := 0) hA dX12_ask_20 rfl 0 rfl ?_
    refine gt_MT_0_15 hA wd_1263 dX12_ask_21 ?_
    refine k_iload_n (i := 1) hA dX12_ask_24 rfl 1 rfl ?_
    refine ld_MT_2 hA hi_2 dX12_ask_25 ?_
    refine k_callVi (As := [.int (t_1.1 2 x1.toNatClampNeg)]) (rest := []) hA (m_M_tellsAll l G a rv n (t_1.1 2 x1.toNatClampNeg) t_1 ht_3) cd_X12_tellsAll wd_1677 (hc_MT_0 G.2.1 a rv t_1) rfl rfl (Nat.le_of_ble_eq_true rfl) rfl rfl (Nat.le_of_ble_eq_true rfl) dX12_ask_26 ?_
    refine k_istore_n (i := 2) (lv' := [(2, .int r_4), (0, .ref (a 0)), (1, .int x1)]) hA dX12_ask_29 rfl rfl (Nat.le_of_ble_eq_true rfl) rfl ?_
    refine k_bipush hA dX12_ask_30 kc_b_m2 ?_
    refine k_istore_n (i := 3) (lv' := [(3, .int (-2 : Int32)), (2, .int r_4), (0, .ref (a 0)), (1, .int x1)]) hA dX12_ask_32 rfl rfl (Nat.le_of_ble_eq_true rfl) rfl ?_
    refine k_iconst hA dX12_ask_33 kc_i_0 ?_
    refine k_istore (lv' := [(4, .int (0 : Int32)), (3, .int (-2 : Int32)), (2, .int r_4), (0, .ref (a 0)), (1, .int x1)]) hA dX12_ask_34 rfl (Nat.le_of_ble_eq_true rfl) rfl ?_
    refine k_pick (lv' := [(0, .ref (a 0)), (1, .int x1), (2, .int r_4), (3, .int (-2 : Int32)), (4, .int (0 : Int32))]) [3, 4, 2, 1, 0] rfl ?_
    exact m_M_ask_36 l G a rv n hA hr n x1 r_4 (-2 : Int32) (0 : Int32) t_3 hf
  have hf := k_ift hc hf
  obtain ⟨⟨rq_5, tq_5⟩, hq_5, hf⟩ := k_lt_e hf
  dsimp only at hf
  obtain ⟨rfl, rfl⟩ := k_r2 hf
  refine k_aload_n (i := 0) hA dX12_ask_13 rfl 0 rfl ?_
  refine k_iconst hA dX12_ask_14 kc_i_1 ?_
  refine k_callVi (As := [.int (1 : Int32)]) (rest := []) hA (m_M_refused l G a rv (1 : Int32) t_1 hq_5.symm) cd_X12_refused wd_1390 (hc_MT_0 G.2.1 a rv t_1) rfl rfl (Nat.le_of_ble_eq_true rfl) rfl rfl (Nat.le_of_ble_eq_true rfl) dX12_ask_15 ?_
  exact k_iret hA hr rfl dX12_ask_18

def f_M_askAll_88 (n : Nat) (rec24 : Int32 → Int32 → Int32 → k_St → Option (Int32 × k_St)) : Nat → Int32 → Int32 → Int32 → Int32 → Int32 → k_St → Option (Int32 × k_St)
  | 0, _, _, _, _, _, _ => none
  | k + 1, x1, x2, x3, x4, x5, t => (if (t.1 18 4) ≤ x5 then k_cl (f_M_hasTale n x4 t) (fun r_2 t_1 => (if (k_b r_2) = 0 then k_lt (x3 + (1 : Int32)) (fun x3_3 => rec24 x1 x2 x3_3 t_1) else k_lt (x3 + (1 : Int32)) (fun x3_4 => rec24 x1 x3 x3_4 t_1))) else (if (k_b (f_M_bit x3 x5)) = 0 then k_lt (x4 ||| (0 : Int32)) (fun x4_5 => k_lt (x5 + (1 : Int32)) (fun x5_6 => f_M_askAll_88 n rec24 k x1 x2 x3 x4_5 x5_6 t)) else k_gi x5 6 (k_lt (x4 ||| (t.1 2 x5.toNatClampNeg)) (fun x4_8 => k_lt (x5 + (1 : Int32)) (fun x5_9 => f_M_askAll_88 n rec24 k x1 x2 x3 x4_8 x5_9 t)))))
def f_M_askAll_24 (n : Nat) : Nat → Int32 → Int32 → Int32 → k_St → Option (Int32 × k_St)
  | 0, _, _, _, _ => none
  | k + 1, x1, x2, x3, t => (if ((1 : Int32) <<< ((t.1 18 4) &&& 31)) ≤ x3 then k_lt (f_M_good x2 t) (fun q_1 => some (q_1.1, q_1.2)) else (if (x3 &&& (t.1 18 6)) = 0 then (if (k_b (f_M_bit x3 x1)) = 0 then (if x2 = (-2 : Int32) then k_gi x1 6 (k_lt (t.1 2 x1.toNatClampNeg) (fun x4_5 => f_M_askAll_88 n (f_M_askAll_24 n k) n x1 x2 x3 x4_5 (0 : Int32) t)) else k_cp (f_M_bits n x3) (fun r_6 => k_cp (f_M_bits n x2) (fun r_7 => (if r_6 < r_7 then k_gi x1 6 (k_lt (t.1 2 x1.toNatClampNeg) (fun x4_9 => f_M_askAll_88 n (f_M_askAll_24 n k) n x1 x2 x3 x4_9 (0 : Int32) t)) else k_lt (x3 + (1 : Int32)) (fun x3_10 => f_M_askAll_24 n k x1 x2 x3_10 t))))) else k_lt (x3 + (1 : Int32)) (fun x3_3 => f_M_askAll_24 n k x1 x2 x3_3 t)) else k_lt (x3 + (1 : Int32)) (fun x3_2 => f_M_askAll_24 n k x1 x2 x3_2 t)))
def f_M_askAll (n : Nat) (x1 : Int32) (t : k_St) : Option (Int32 × k_St) := k_lt (k_sI t 0 0 (0 : Int32)) (fun t_1 => (if (k_b (f_M_isHouse t_1 x1)) = 0 then k_lt (f_M_refused (1 : Int32) t_1) (fun q_2 => some (q_2.1, q_2.2)) else f_M_askAll_24 n n x1 (-2 : Int32) (0 : Int32) t_1))
theorem m_M_askAll_88 {p : Program} (l : Launch) {e : Env} {s : State} {m : MethodId} {args : Array Value} {below : List Frame} {meth : Method} {c : Code} (G : k_G) (a : Nat → Nat) (rv : Value) (n : Nat) {w0 : va_W} {r : Int32} {t' : k_St} (hA : k_Amb p s m args meth c cX12_askAll 6 "TaleSharesModel" G (va_A w0 s.heap.size)) (hr : meth.sig.returnType = (some .int)) (rec24 : Int32 → Int32 → Int32 → k_St → Option (Int32 × k_St)) (hrec24 : ∀ (x1 : Int32) (x2 : Int32) (x3 : Int32) (t : k_St), rec24 x1 x2 x3 t = some (r, t') → k_Go p l e (k_rm 5) s m args below meth c (k_QI G w0 r (k_WT G.2.1 a rv t') args s below) 6 G (va_A w0 s.heap.size) (k_WT G.2.1 a rv t) 24 [(0, .ref (a 0)), (1, .int x1), (2, .int x2), (3, .int x3)] []) : ∀ (k : Nat) (x1 : Int32) (x2 : Int32) (x3 : Int32) (x4 : Int32) (x5 : Int32) (t : k_St), f_M_askAll_88 n rec24 k x1 x2 x3 x4 x5 t = some (r, t') → k_Go p l e (k_rm 5) s m args below meth c (k_QI G w0 r (k_WT G.2.1 a rv t') args s below) 6 G (va_A w0 s.heap.size) (k_WT G.2.1 a rv t) 88 [(0, .ref (a 0)), (1, .int x1), (2, .int x2), (3, .int x3), (4, .int x4), (5, .int x5)] [] := by
  intro k
  induction k with
  | zero => intro x1 x2 x3 x4 x5 t hf; cases hf
  | succ k ih =>
  intro x1 x2 x3 x4 x5 t hf
  rw [f_M_askAll_88] at hf
  refine k_iload hA dX12_askAll_88 5 rfl ?_
  refine k_aload_n (i := 0) hA dX12_askAll_90 rfl 0 rfl ?_
  refine gt_MT_0_3 hA wd_1251 dX12_askAll_91 ?_
  refine gt_MT_18_4N hA rfl nf_277 dX12_askAll_94 ?_
  refine k_icmp_ge (tgt := 131) hA dX12_askAll_97 rfl (fun hc => ?_) (fun hc => ?_)
  · have hf := k_ift hc hf
    obtain ⟨r_2, t_1, ht_1, hf⟩ := k_cl_e hf
    refine k_aload_n (i := 0) hA dX12_askAll_131 rfl 0 rfl ?_
    refine k_iload hA dX12_askAll_132 4 rfl ?_
    refine k_callVi (As := [.int x4]) (rest := []) hA (m_M_hasTale l G a rv n x4 t ht_1) cd_X12_hasTale wd_1629 (hc_MT_0 G.2.1 a rv t) rfl rfl (Nat.le_of_ble_eq_true rfl) rfl rfl (Nat.le_of_ble_eq_true rfl) dX12_askAll_134 ?_
    refine k_if_eq (tgt := 142) hA dX12_askAll_137 rfl (fun hc => ?_) (fun hc => ?_)
    · have hf := k_ift hc hf
      obtain ⟨x3_3, ex3_3, hf⟩ := k_lt_e hf
      refine k_iinc (j := 3) (v := x3_3) (lv' := [(3, .int x3_3), (0, .ref (a 0)), (1, .int x1), (2, .int x2), (4, .int x4), (5, .int x5)]) hA dX12_askAll_142 rfl (k_inc ex3_3 kc_i_1) (Nat.le_of_ble_eq_true rfl) rfl ?_
      refine k_goto (tgt := 24) hA dX12_askAll_145 rfl ?_
      refine k_pick (lv' := [(0, .ref (a 0)), (1, .int x1), (2, .int x2), (3, .int x3_3)]) [1, 2, 3, 0] rfl ?_
      exact hrec24 x1 x2 x3_3 t_1 hf
    have hf := k_iff hc hf
    obtain ⟨x3_4, ex3_4, hf⟩ := k_lt_e hf
    refine k_iload_n (i := 3) hA dX12_askAll_140 rfl 3 rfl ?_
    refine k_istore_n (i := 2) (lv' := [(2, .int x3), (0, .ref (a 0)), (1, .int x1), (3, .int x3), (4, .int x4), (5, .int x5)]) hA dX12_askAll_141 rfl rfl (Nat.le_of_ble_eq_true rfl) rfl ?_
    refine k_iinc (j := 3) (v := x3_4) (lv' := [(3, .int x3_4), (2, .int x3), (0, .ref (a 0)), (1, .int x1), (4, .int x4), (5, .int x5)]) hA dX12_askAll_142 rfl (k_inc ex3_4 kc_i_1) (Nat.le_of_ble_eq_true rfl) rfl ?_
    refine k_goto (tgt := 24) hA dX12_askAll_145 rfl ?_
    refine k_pick (lv' := [(0, .ref (a 0)), (1, .int x1), (2, .int x3), (3, .int x3_4)]) [2, 3, 1, 0] rfl ?_
    exact hrec24 x1 x3 x3_4 t_1 hf
  have hf := k_iff hc hf
  refine k_iload hA dX12_askAll_100 4 rfl ?_
  refine k_iload_n (i := 3) hA dX12_askAll_102 rfl 3 rfl ?_
  refine k_iload hA dX12_askAll_103 5 rfl ?_
  refine k_callSi (As := [.int x3, .int x5]) (rest := [.int x4]) hA (m_M_bit l G (k_WT G.2.1 a rv t) x3 x5 rfl) cd_X12_bit wd_1575 (Nat.le_of_ble_eq_true rfl) rfl rfl (Nat.le_of_ble_eq_true rfl) dX12_askAll_105 ?_
  refine k_if_eq (tgt := 121) hA dX12_askAll_108 rfl (fun hc => ?_) (fun hc => ?_)
  · have hf := k_ift hc hf
    obtain ⟨x4_5, ex4_5, hf⟩ := k_lt_e hf
    obtain ⟨x5_6, ex5_6, hf⟩ := k_lt_e hf
    refine k_iconst hA dX12_askAll_121 kc_i_0 ?_
    refine k_ior hA dX12_askAll_122 ?_
    refine k_istore (lv' := [(4, .int x4_5), (0, .ref (a 0)), (1, .int x1), (2, .int x2), (3, .int x3), (5, .int x5)]) hA dX12_askAll_123 ex4_5 (Nat.le_of_ble_eq_true rfl) rfl ?_
    refine k_iinc (j := 5) (v := x5_6) (lv' := [(5, .int x5_6), (4, .int x4_5), (0, .ref (a 0)), (1, .int x1), (2, .int x2), (3, .int x3)]) hA dX12_askAll_125 rfl (k_inc ex5_6 kc_i_1) (Nat.le_of_ble_eq_true rfl) rfl ?_
    refine k_goto (tgt := 88) hA dX12_askAll_128 rfl ?_
    refine k_pick (lv' := [(0, .ref (a 0)), (1, .int x1), (2, .int x2), (3, .int x3), (4, .int x4_5), (5, .int x5_6)]) [2, 3, 4, 5, 1, 0] rfl ?_
    exact ih x1 x2 x3 x4_5 x5_6 t hf
  have hf := k_iff hc hf
  obtain ⟨hi_7, hf⟩ := k_gi_e hf
  obtain ⟨x4_8, ex4_8, hf⟩ := k_lt_e hf
  obtain ⟨x5_9, ex5_9, hf⟩ := k_lt_e hf
  refine k_aload_n (i := 0) hA dX12_askAll_111 rfl 0 rfl ?_
  refine gt_MT_0_15 hA wd_1263 dX12_askAll_112 ?_
  refine k_iload hA dX12_askAll_115 5 rfl ?_
  refine ld_MT_2 hA hi_7 dX12_askAll_117 ?_
  refine k_goto (tgt := 122) hA dX12_askAll_118 rfl ?_
  refine k_ior hA dX12_askAll_122 ?_
  refine k_istore (lv' := [(4, .int x4_8), (0, .ref (a 0)), (1, .int x1), (2, .int x2), (3, .int x3), (5, .int x5)]) hA dX12_askAll_123 ex4_8 (Nat.le_of_ble_eq_true rfl) rfl ?_
  refine k_iinc (j := 5) (v := x5_9) (lv' := [(5, .int x5_9), (4, .int x4_8), (0, .ref (a 0)), (1, .int x1), (2, .int x2), (3, .int x3)]) hA dX12_askAll_125 rfl (k_inc ex5_9 kc_i_1) (Nat.le_of_ble_eq_true rfl) rfl ?_
  refine k_goto (tgt := 88) hA dX12_askAll_128 rfl ?_
  refine k_pick (lv' := [(0, .ref (a 0)), (1, .int x1), (2, .int x2), (3, .int x3), (4, .int x4_8), (5, .int x5_9)]) [2, 3, 4, 5, 1, 0] rfl ?_
  exact ih x1 x2 x3 x4_8 x5_9 t hf

theorem m_M_askAll_24 {p : Program} (l : Launch) {e : Env} {s : State} {m : MethodId} {args : Array Value} {below : List Frame} {meth : Method} {c : Code} (G : k_G) (a : Nat → Nat) (rv : Value) (n : Nat) {w0 : va_W} {r : Int32} {t' : k_St} (hA : k_Amb p s m args meth c cX12_askAll 6 "TaleSharesModel" G (va_A w0 s.heap.size)) (hr : meth.sig.returnType = (some .int)) : ∀ (k : Nat) (x1 : Int32) (x2 : Int32) (x3 : Int32) (t : k_St), f_M_askAll_24 n k x1 x2 x3 t = some (r, t') → k_Go p l e (k_rm 5) s m args below meth c (k_QI G w0 r (k_WT G.2.1 a rv t') args s below) 6 G (va_A w0 s.heap.size) (k_WT G.2.1 a rv t) 24 [(0, .ref (a 0)), (1, .int x1), (2, .int x2), (3, .int x3)] [] := by
  intro k
  induction k with
  | zero => intro x1 x2 x3 t hf; cases hf
  | succ k ih =>
  intro x1 x2 x3 t hf
  rw [f_M_askAll_24] at hf
  refine k_iload_n (i := 3) hA dX12_askAll_24 rfl 3 rfl ?_
  refine k_iconst hA dX12_askAll_25 kc_i_1 ?_
  refine k_aload_n (i := 0) hA dX12_askAll_26 rfl 0 rfl ?_
  refine gt_MT_0_3 hA wd_1251 dX12_askAll_27 ?_
  refine gt_MT_18_4N hA rfl nf_277 dX12_askAll_30 ?_
  refine k_ishl hA dX12_askAll_33 ?_
  refine k_icmp_ge (tgt := 148) hA dX12_askAll_34 rfl (fun hc => ?_) (fun hc => ?_)
  · have hf := k_ift hc hf
    obtain ⟨⟨rq_1, tq_1⟩, hq_1, hf⟩ := k_lt_e hf
    dsimp only at hf
    obtain ⟨rfl, rfl⟩ := k_r2 hf
    refine k_aload_n (i := 0) hA dX12_askAll_148 rfl 0 rfl ?_
    refine k_iload_n (i := 2) hA dX12_askAll_149 rfl 2 rfl ?_
    refine k_callVi (As := [.int x2]) (rest := []) hA (m_M_good l G a rv x2 t hq_1.symm) cd_X12_good wd_1601 (hc_MT_0 G.2.1 a rv t) rfl rfl (Nat.le_of_ble_eq_true rfl) rfl rfl (Nat.le_of_ble_eq_true rfl) dX12_askAll_150 ?_
    exact k_iret hA hr rfl dX12_askAll_153
  have hf := k_iff hc hf
  refine k_iload_n (i := 3) hA dX12_askAll_37 rfl 3 rfl ?_
  refine k_aload_n (i := 0) hA dX12_askAll_38 rfl 0 rfl ?_
  refine gt_MT_0_3 hA wd_1251 dX12_askAll_39 ?_
  refine gt_MT_18_6N hA rfl nf_297 dX12_askAll_42 ?_
  refine k_iand hA dX12_askAll_45 ?_
  refine k_if_ne (tgt := 142) hA dX12_askAll_46 rfl (fun hc => ?_) (fun hc => ?_)
  · have hf := k_iff hc hf
    obtain ⟨x3_2, ex3_2, hf⟩ := k_lt_e hf
    refine k_iinc (j := 3) (v := x3_2) (lv' := [(3, .int x3_2), (0, .ref (a 0)), (1, .int x1), (2, .int x2)]) hA dX12_askAll_142 rfl (k_inc ex3_2 kc_i_1) (Nat.le_of_ble_eq_true rfl) rfl ?_
    refine k_goto (tgt := 24) hA dX12_askAll_145 rfl ?_
    refine k_pick (lv' := [(0, .ref (a 0)), (1, .int x1), (2, .int x2), (3, .int x3_2)]) [1, 2, 3, 0] rfl ?_
    exact ih x1 x2 x3_2 t hf
  have hf := k_ift hc hf
  refine k_iload_n (i := 3) hA dX12_askAll_49 rfl 3 rfl ?_
  refine k_iload_n (i := 1) hA dX12_askAll_50 rfl 1 rfl ?_
  refine k_callSi (As := [.int x3, .int x1]) (rest := []) hA (m_M_bit l G (k_WT G.2.1 a rv t) x3 x1 rfl) cd_X12_bit wd_1575 (Nat.le_of_ble_eq_true rfl) rfl rfl (Nat.le_of_ble_eq_true rfl) dX12_askAll_51 ?_
  refine k_if_ne (tgt := 142) hA dX12_askAll_54 rfl (fun hc => ?_) (fun hc => ?_)
  · have hf := k_iff hc hf
    obtain ⟨x3_3, ex3_3, hf⟩ := k_lt_e hf
    refine k_iinc (j := 3) (v := x3_3) (lv' := [(3, .int x3_3), (0, .ref (a 0)), (1, .int x1), (2, .int x2)]) hA dX12_askAll_142 rfl (k_inc ex3_3 kc_i_1) (Nat.le_of_ble_eq_true rfl) rfl ?_
    refine k_goto (tgt := 24) hA dX12_askAll_145 rfl ?_
    refine k_pick (lv' := [(0, .ref (a 0)), (1, .int x1), (2, .int x2), (3, .int x3_3)]) [1, 2, 3, 0] rfl ?_
    exact ih x1 x2 x3_3 t hf
  have hf := k_ift hc hf
  refine k_iload_n (i := 2) hA dX12_askAll_57 rfl 2 rfl ?_
  refine k_bipush hA dX12_askAll_58 kc_b_m2 ?_
  refine k_icmp_eq (tgt := 77) hA dX12_askAll_60 rfl (fun hc => ?_) (fun hc => ?_)
  · have hf := k_ift hc hf
    obtain ⟨hi_4, hf⟩ := k_gi_e hf
    obtain ⟨x4_5, ex4_5, hf⟩ := k_lt_e hf
    refine k_aload_n (i := 0) hA dX12_askAll_77 rfl 0 rfl ?_
    refine gt_MT_0_15 hA wd_1263 dX12_askAll_78 ?_
    refine k_iload_n (i := 1) hA dX12_askAll_81 rfl 1 rfl ?_
    refine ld_MT_2 hA hi_4 dX12_askAll_82 ?_
    refine k_istore (lv' := [(4, .int x4_5), (0, .ref (a 0)), (1, .int x1), (2, .int x2), (3, .int x3)]) hA dX12_askAll_83 ex4_5 (Nat.le_of_ble_eq_true rfl) rfl ?_
    refine k_iconst hA dX12_askAll_85 kc_i_0 ?_
    refine k_istore (lv' := [(5, .int (0 : Int32)), (4, .int x4_5), (0, .ref (a 0)), (1, .int x1), (2, .int x2), (3, .int x3)]) hA dX12_askAll_86 rfl (Nat.le_of_ble_eq_true rfl) rfl ?_
    refine k_pick (lv' := [(0, .ref (a 0)), (1, .int x1), (2, .int x2), (3, .int x3), (4, .int x4_5), (5, .int (0 : Int32))]) [2, 3, 4, 5, 1, 0] rfl ?_
    exact m_M_askAll_88 l G a rv n hA hr (f_M_askAll_24 n k) ih n x1 x2 x3 x4_5 (0 : Int32) t hf
  have hf := k_iff hc hf
  obtain ⟨r_6, hr_6, hf⟩ := k_cp_e hf
  obtain ⟨r_7, hr_7, hf⟩ := k_cp_e hf
  refine k_iload_n (i := 3) hA dX12_askAll_63 rfl 3 rfl ?_
  refine k_callSi (As := [.int x3]) (rest := []) hA (m_M_bits l G (k_WT G.2.1 a rv t) n x3 hr_6) cd_X12_bits wd_1709 (Nat.le_of_ble_eq_true rfl) rfl rfl (Nat.le_of_ble_eq_true rfl) dX12_askAll_64 ?_
  refine k_iload_n (i := 2) hA dX12_askAll_67 rfl 2 rfl ?_
  refine k_callSi (As := [.int x2]) (rest := [.int r_6]) hA (m_M_bits l G (k_WT G.2.1 a rv t) n x2 hr_7) cd_X12_bits wd_1709 (Nat.le_of_ble_eq_true rfl) rfl rfl (Nat.le_of_ble_eq_true rfl) dX12_askAll_68 ?_
  refine k_icmp_lt (tgt := 77) hA dX12_askAll_71 rfl (fun hc => ?_) (fun hc => ?_)
  · have hf := k_ift hc hf
    obtain ⟨hi_8, hf⟩ := k_gi_e hf
    obtain ⟨x4_9, ex4_9, hf⟩ := k_lt_e hf
    refine k_aload_n (i := 0) hA dX12_askAll_77 rfl 0 rfl ?_
    refine gt_MT_0_15 hA wd_1263 dX12_askAll_78 ?_
    refine k_iload_n (i := 1) hA dX12_askAll_81 rfl 1 rfl ?_
    refine ld_MT_2 hA hi_8 dX12_askAll_82 ?_
    refine k_istore (lv' := [(4, .int x4_9), (0, .ref (a 0)), (1, .int x1), (2, .int x2), (3, .int x3)]) hA dX12_askAll_83 ex4_9 (Nat.le_of_ble_eq_true rfl) rfl ?_
    refine k_iconst hA dX12_askAll_85 kc_i_0 ?_
    refine k_istore (lv' := [(5, .int (0 : Int32)), (4, .int x4_9), (0, .ref (a 0)), (1, .int x1), (2, .int x2), (3, .int x3)]) hA dX12_askAll_86 rfl (Nat.le_of_ble_eq_true rfl) rfl ?_
    refine k_pick (lv' := [(0, .ref (a 0)), (1, .int x1), (2, .int x2), (3, .int x3), (4, .int x4_9), (5, .int (0 : Int32))]) [2, 3, 4, 5, 1, 0] rfl ?_
    exact m_M_askAll_88 l G a rv n hA hr (f_M_askAll_24 n k) ih n x1 x2 x3 x4_9 (0 : Int32) t hf
  have hf := k_iff hc hf
  obtain ⟨x3_10, ex3_10, hf⟩ := k_lt_e hf
  refine k_goto (tgt := 142) hA dX12_askAll_74 rfl ?_
  refine k_iinc (j := 3) (v := x3_10) (lv' := [(3, .int x3_10), (0, .ref (a 0)), (1, .int x1), (2, .int x2)]) hA dX12_askAll_142 rfl (k_inc ex3_10 kc_i_1) (Nat.le_of_ble_eq_true rfl) rfl ?_
  refine k_goto (tgt := 24) hA dX12_askAll_145 rfl ?_
  refine k_pick (lv' := [(0, .ref (a 0)), (1, .int x1), (2, .int x2), (3, .int x3_10)]) [1, 2, 3, 0] rfl ?_
  exact ih x1 x2 x3_10 t hf

theorem m_M_askAll (l : Launch) (G : k_G) (a : Nat → Nat) (rv : Value) (n : Nat) (x1 : Int32) (t : k_St) {r : Int32} {t' : k_St} (hf : f_M_askAll n x1 t = some (r, t')) : k_CI l G yX12_askAll cX12_askAll 6 (some .int) 5 (k_WT G.2.1 a rv t) [.ref (a 0), .int x1] r (k_WT G.2.1 a rv t') := by
  refine k_startI (lv := [(0, .ref (a 0)), (1, .int x1)]) (by decide +kernel) (Nat.le_of_ble_eq_true rfl) rfl ?_
  intro p e s m args below meth c hA hr
  have hA : k_Amb p s m args meth c cX12_askAll 6 "TaleSharesModel" G _ := hA
  unfold f_M_askAll at hf
  obtain ⟨t_1, et_1, hf⟩ := k_lt_e hf
  refine k_aload_n (i := 0) hA dX12_askAll_0 rfl 0 rfl ?_
  refine k_iconst hA dX12_askAll_1 kc_i_0 ?_
  refine pt_MT_0_0 hA wd_1248 et_1 dX12_askAll_2 ?_
  refine k_aload_n (i := 0) hA dX12_askAll_5 rfl 0 rfl ?_
  refine k_iload_n (i := 1) hA dX12_askAll_6 rfl 1 rfl ?_
  refine k_callVi (As := [.int x1]) (rest := []) hA (m_M_isHouse l G a rv t_1 x1 rfl) cd_X12_isHouse wd_1625 (hc_MT_0 G.2.1 a rv t_1) rfl rfl (Nat.le_of_ble_eq_true rfl) rfl rfl (Nat.le_of_ble_eq_true rfl) dX12_askAll_7 ?_
  refine k_if_ne (tgt := 19) hA dX12_askAll_10 rfl (fun hc => ?_) (fun hc => ?_)
  · have hf := k_iff hc hf
    refine k_bipush hA dX12_askAll_19 kc_b_m2 ?_
    refine k_istore_n (i := 2) (lv' := [(2, .int (-2 : Int32)), (0, .ref (a 0)), (1, .int x1)]) hA dX12_askAll_21 rfl rfl (Nat.le_of_ble_eq_true rfl) rfl ?_
    refine k_iconst hA dX12_askAll_22 kc_i_0 ?_
    refine k_istore_n (i := 3) (lv' := [(3, .int (0 : Int32)), (2, .int (-2 : Int32)), (0, .ref (a 0)), (1, .int x1)]) hA dX12_askAll_23 rfl rfl (Nat.le_of_ble_eq_true rfl) rfl ?_
    refine k_pick (lv' := [(0, .ref (a 0)), (1, .int x1), (2, .int (-2 : Int32)), (3, .int (0 : Int32))]) [2, 3, 1, 0] rfl ?_
    exact m_M_askAll_24 l G a rv n hA hr n x1 (-2 : Int32) (0 : Int32) t_1 hf
  have hf := k_ift hc hf
  obtain ⟨⟨rq_2, tq_2⟩, hq_2, hf⟩ := k_lt_e hf
  dsimp only at hf
  obtain ⟨rfl, rfl⟩ := k_r2 hf
  refine k_aload_n (i := 0) hA dX12_askAll_13 rfl 0 rfl ?_
  refine k_iconst hA dX12_askAll_14 kc_i_1 ?_
  refine k_callVi (As := [.int (1 : Int32)]) (rest := []) hA (m_M_refused l G a rv (1 : Int32) t_1 hq_2.symm) cd_X12_refused wd_1390 (hc_MT_0 G.2.1 a rv t_1) rfl rfl (Nat.le_of_ble_eq_true rfl) rfl rfl (Nat.le_of_ble_eq_true rfl) dX12_askAll_15 ?_
  exact k_iret hA hr rfl dX12_askAll_18

def f_M_senseInV_4 (n : Nat) : Nat → Int32 → Int32 → k_St → Option (Int32 × k_St)
  | 0, _, _, _ => none
  | k + 1, x2, x3, t => (if (t.1 18 4) ≤ x3 then some (x2, t) else k_gi x3 6 (k_cl (f_M_hasTale n (t.1 2 x3.toNatClampNeg) t) (fun r_3 t_2 => (if (k_b r_3) = 0 then k_lt (x2 ||| (0 : Int32)) (fun x2_4 => k_lt (x3 + (1 : Int32)) (fun x3_5 => f_M_senseInV_4 n k x2_4 x3_5 t_2)) else k_lt (x2 ||| ((1 : Int32) <<< (x3 &&& 31))) (fun x2_6 => k_lt (x3 + (1 : Int32)) (fun x3_7 => f_M_senseInV_4 n k x2_6 x3_7 t_2))))))
def f_M_senseInV (n : Nat) (t : k_St) : Option (Int32 × k_St) := f_M_senseInV_4 n n (0 : Int32) (0 : Int32) t
theorem m_M_senseInV_4 {p : Program} (l : Launch) {e : Env} {s : State} {m : MethodId} {args : Array Value} {below : List Frame} {meth : Method} {c : Code} (G : k_G) (a : Nat → Nat) (rv : Value) (n : Nat) {w0 : va_W} {r : Int32} {t' : k_St} (hA : k_Amb p s m args meth c cX12_senseIn 4 "TaleSharesModel" G (va_A w0 s.heap.size)) (hr : meth.sig.returnType = (some .int)) : ∀ (k : Nat) (x2 : Int32) (x3 : Int32) (t : k_St), f_M_senseInV_4 n k x2 x3 t = some (r, t') → k_Go p l e (k_rm 5) s m args below meth c (k_QI G w0 r (k_WT G.2.1 a rv t') args s below) 4 G (va_A w0 s.heap.size) (k_WT G.2.1 a rv t) 4 [(0, .ref (a 0)), (1, .ref (a 2)), (2, .int x2), (3, .int x3)] [] := by
  intro k
  induction k with
  | zero => intro x2 x3 t hf; cases hf
  | succ k ih =>
  intro x2 x3 t hf
  rw [f_M_senseInV_4] at hf
  refine k_iload_n (i := 3) hA dX12_senseIn_4 rfl 3 rfl ?_
  refine k_aload_n (i := 0) hA dX12_senseIn_5 rfl 0 rfl ?_
  refine gt_MT_0_3 hA wd_1251 dX12_senseIn_6 ?_
  refine gt_MT_18_4N hA rfl nf_277 dX12_senseIn_9 ?_
  refine k_icmp_ge (tgt := 41) hA dX12_senseIn_12 rfl (fun hc => ?_) (fun hc => ?_)
  · have hf := k_ift hc hf
    obtain ⟨rfl, rfl⟩ := k_r2 hf
    refine k_iload_n (i := 2) hA dX12_senseIn_41 rfl 2 rfl ?_
    exact k_iret hA hr rfl dX12_senseIn_42
  have hf := k_iff hc hf
  obtain ⟨hi_1, hf⟩ := k_gi_e hf
  obtain ⟨r_3, t_2, ht_2, hf⟩ := k_cl_e hf
  refine k_iload_n (i := 2) hA dX12_senseIn_15 rfl 2 rfl ?_
  refine k_aload_n (i := 0) hA dX12_senseIn_16 rfl 0 rfl ?_
  refine k_aload_n (i := 1) hA dX12_senseIn_17 rfl 1 rfl ?_
  refine k_iload_n (i := 3) hA dX12_senseIn_18 rfl 3 rfl ?_
  refine ld_MT_2 hA hi_1 dX12_senseIn_19 ?_
  refine k_callVi (As := [.int (t.1 2 x3.toNatClampNeg)]) (rest := [.int x2]) hA (m_M_hasTale l G a rv n (t.1 2 x3.toNatClampNeg) t ht_2) cd_X12_hasTale wd_1629 (hc_MT_0 G.2.1 a rv t) rfl rfl (Nat.le_of_ble_eq_true rfl) rfl rfl (Nat.le_of_ble_eq_true rfl) dX12_senseIn_20 ?_
  refine k_if_eq (tgt := 32) hA dX12_senseIn_23 rfl (fun hc => ?_) (fun hc => ?_)
  · have hf := k_ift hc hf
    obtain ⟨x2_4, ex2_4, hf⟩ := k_lt_e hf
    obtain ⟨x3_5, ex3_5, hf⟩ := k_lt_e hf
    refine k_iconst hA dX12_senseIn_32 kc_i_0 ?_
    refine k_ior hA dX12_senseIn_33 ?_
    refine k_istore_n (i := 2) (lv' := [(2, .int x2_4), (0, .ref (a 0)), (1, .ref (a 2)), (3, .int x3)]) hA dX12_senseIn_34 rfl ex2_4 (Nat.le_of_ble_eq_true rfl) rfl ?_
    refine k_iinc (j := 3) (v := x3_5) (lv' := [(3, .int x3_5), (2, .int x2_4), (0, .ref (a 0)), (1, .ref (a 2))]) hA dX12_senseIn_35 rfl (k_inc ex3_5 kc_i_1) (Nat.le_of_ble_eq_true rfl) rfl ?_
    refine k_goto (tgt := 4) hA dX12_senseIn_38 rfl ?_
    refine k_pick (lv' := [(0, .ref (a 0)), (1, .ref (a 2)), (2, .int x2_4), (3, .int x3_5)]) [2, 3, 1, 0] rfl ?_
    exact ih x2_4 x3_5 t_2 hf
  have hf := k_iff hc hf
  obtain ⟨x2_6, ex2_6, hf⟩ := k_lt_e hf
  obtain ⟨x3_7, ex3_7, hf⟩ := k_lt_e hf
  refine k_iconst hA dX12_senseIn_26 kc_i_1 ?_
  refine k_iload_n (i := 3) hA dX12_senseIn_27 rfl 3 rfl ?_
  refine k_ishl hA dX12_senseIn_28 ?_
  refine k_goto (tgt := 33) hA dX12_senseIn_29 rfl ?_
  refine k_ior hA dX12_senseIn_33 ?_
  refine k_istore_n (i := 2) (lv' := [(2, .int x2_6), (0, .ref (a 0)), (1, .ref (a 2)), (3, .int x3)]) hA dX12_senseIn_34 rfl ex2_6 (Nat.le_of_ble_eq_true rfl) rfl ?_
  refine k_iinc (j := 3) (v := x3_7) (lv' := [(3, .int x3_7), (2, .int x2_6), (0, .ref (a 0)), (1, .ref (a 2))]) hA dX12_senseIn_35 rfl (k_inc ex3_7 kc_i_1) (Nat.le_of_ble_eq_true rfl) rfl ?_
  refine k_goto (tgt := 4) hA dX12_senseIn_38 rfl ?_
  refine k_pick (lv' := [(0, .ref (a 0)), (1, .ref (a 2)), (2, .int x2_6), (3, .int x3_7)]) [2, 3, 1, 0] rfl ?_
  exact ih x2_6 x3_7 t_2 hf

theorem m_M_senseInV (l : Launch) (G : k_G) (a : Nat → Nat) (rv : Value) (n : Nat) (t : k_St) {r : Int32} {t' : k_St} (hf : f_M_senseInV n t = some (r, t')) : k_CI l G yX12_senseIn cX12_senseIn 4 (some .int) 5 (k_WT G.2.1 a rv t) [.ref (a 0), .ref (a 2)] r (k_WT G.2.1 a rv t') := by
  refine k_startI (lv := [(0, .ref (a 0)), (1, .ref (a 2))]) (by decide +kernel) (Nat.le_of_ble_eq_true rfl) rfl ?_
  intro p e s m args below meth c hA hr
  have hA : k_Amb p s m args meth c cX12_senseIn 4 "TaleSharesModel" G _ := hA
  unfold f_M_senseInV at hf
  refine k_iconst hA dX12_senseIn_0 kc_i_0 ?_
  refine k_istore_n (i := 2) (lv' := [(2, .int (0 : Int32)), (0, .ref (a 0)), (1, .ref (a 2))]) hA dX12_senseIn_1 rfl rfl (Nat.le_of_ble_eq_true rfl) rfl ?_
  refine k_iconst hA dX12_senseIn_2 kc_i_0 ?_
  refine k_istore_n (i := 3) (lv' := [(3, .int (0 : Int32)), (2, .int (0 : Int32)), (0, .ref (a 0)), (1, .ref (a 2))]) hA dX12_senseIn_3 rfl rfl (Nat.le_of_ble_eq_true rfl) rfl ?_
  refine k_pick (lv' := [(0, .ref (a 0)), (1, .ref (a 2)), (2, .int (0 : Int32)), (3, .int (0 : Int32))]) [2, 3, 1, 0] rfl ?_
  exact m_M_senseInV_4 l G a rv n hA hr n (0 : Int32) (0 : Int32) t hf

def f_M_sense (n : Nat) (t : k_St) : Option (Int32 × k_St) := k_lt (k_sI t 0 0 (0 : Int32)) (fun t_1 => k_cl (f_M_senseInV n t_1) (fun r_3 t_2 => k_lt (f_M_good r_3 t_2) (fun q_4 => some (q_4.1, q_4.2))))
theorem m_M_sense (l : Launch) (G : k_G) (a : Nat → Nat) (rv : Value) (n : Nat) (t : k_St) {r : Int32} {t' : k_St} (hf : f_M_sense n t = some (r, t')) : k_CI l G yX12_sense cX12_sense 1 (some .int) 6 (k_WT G.2.1 a rv t) [.ref (a 0)] r (k_WT G.2.1 a rv t') := by
  refine k_startI (lv := [(0, .ref (a 0))]) (by decide +kernel) (Nat.le_of_ble_eq_true rfl) rfl ?_
  intro p e s m args below meth c hA hr
  have hA : k_Amb p s m args meth c cX12_sense 1 "TaleSharesModel" G _ := hA
  unfold f_M_sense at hf
  obtain ⟨t_1, et_1, hf⟩ := k_lt_e hf
  obtain ⟨r_3, t_2, ht_2, hf⟩ := k_cl_e hf
  obtain ⟨⟨rq_4, tq_4⟩, hq_4, hf⟩ := k_lt_e hf
  dsimp only at hf
  obtain ⟨rfl, rfl⟩ := k_r2 hf
  refine k_aload_n (i := 0) hA dX12_sense_0 rfl 0 rfl ?_
  refine k_iconst hA dX12_sense_1 kc_i_0 ?_
  refine pt_MT_0_0 hA wd_1248 et_1 dX12_sense_2 ?_
  refine k_aload_n (i := 0) hA dX12_sense_5 rfl 0 rfl ?_
  refine gt_MT_0_3 hA wd_1251 dX12_sense_6 ?_
  refine k_ifnonnull (tgt := 20) hA dX12_sense_9 rfl ?_
  refine k_aload_n (i := 0) hA dX12_sense_20 rfl 0 rfl ?_
  refine k_aload_n (i := 0) hA dX12_sense_21 rfl 0 rfl ?_
  refine k_aload_n (i := 0) hA dX12_sense_22 rfl 0 rfl ?_
  refine gt_MT_0_15 hA wd_1263 dX12_sense_23 ?_
  refine k_callVi (As := [.ref (a 2)]) (rest := [.ref (a 0)]) hA (m_M_senseInV l G a rv n t_1 ht_2) cd_X12_senseIn wd_1744 (hc_MT_0 G.2.1 a rv t_1) rfl rfl (Nat.le_of_ble_eq_true rfl) rfl rfl (Nat.le_of_ble_eq_true rfl) dX12_sense_26 ?_
  refine k_callVi (As := [.int r_3]) (rest := []) hA (m_M_good l G a rv r_3 t_2 hq_4.symm) cd_X12_good wd_1601 (hc_MT_0 G.2.1 a rv t_2) rfl rfl (Nat.le_of_ble_eq_true rfl) rfl rfl (Nat.le_of_ble_eq_true rfl) dX12_sense_29 ?_
  exact k_iret hA hr rfl dX12_sense_32

def f_M_wisest_23 (n : Nat) : Nat → Int32 → Int32 → k_St → Option (Int32 × k_St)
  | 0, _, _, _ => none
  | k + 1, x1, x2, t => (if (t.1 18 4) ≤ x2 then k_lt (f_M_good x1 t) (fun q_1 => some (q_1.1, q_1.2)) else (if x1 = (-2 : Int32) then k_lt (x2 + (1 : Int32)) (fun x2_2 => f_M_wisest_23 n k x2 x2_2 t) else k_gi x2 6 (k_cp (f_M_bits n (t.1 2 x2.toNatClampNeg)) (fun r_4 => k_gi x1 6 (k_cp (f_M_bits n (t.1 2 x1.toNatClampNeg)) (fun r_6 => (if r_4 ≤ r_6 then k_lt (x2 + (1 : Int32)) (fun x2_7 => f_M_wisest_23 n k x1 x2_7 t) else k_lt (x2 + (1 : Int32)) (fun x2_8 => f_M_wisest_23 n k x2 x2_8 t))))))))
def f_M_wisest (n : Nat) (t : k_St) : Option (Int32 × k_St) := k_lt (k_sI t 0 0 (0 : Int32)) (fun t_1 => f_M_wisest_23 n n (-2 : Int32) (0 : Int32) t_1)
theorem m_M_wisest_23 {p : Program} (l : Launch) {e : Env} {s : State} {m : MethodId} {args : Array Value} {below : List Frame} {meth : Method} {c : Code} (G : k_G) (a : Nat → Nat) (rv : Value) (n : Nat) {w0 : va_W} {r : Int32} {t' : k_St} (hA : k_Amb p s m args meth c cX12_wisest 3 "TaleSharesModel" G (va_A w0 s.heap.size)) (hr : meth.sig.returnType = (some .int)) : ∀ (k : Nat) (x1 : Int32) (x2 : Int32) (t : k_St), f_M_wisest_23 n k x1 x2 t = some (r, t') → k_Go p l e (k_rm 2) s m args below meth c (k_QI G w0 r (k_WT G.2.1 a rv t') args s below) 3 G (va_A w0 s.heap.size) (k_WT G.2.1 a rv t) 23 [(0, .ref (a 0)), (1, .int x1), (2, .int x2)] [] := by
  intro k
  induction k with
  | zero => intro x1 x2 t hf; cases hf
  | succ k ih =>
  intro x1 x2 t hf
  rw [f_M_wisest_23] at hf
  refine k_iload_n (i := 2) hA dX12_wisest_23 rfl 2 rfl ?_
  refine k_aload_n (i := 0) hA dX12_wisest_24 rfl 0 rfl ?_
  refine gt_MT_0_3 hA wd_1251 dX12_wisest_25 ?_
  refine gt_MT_18_4N hA rfl nf_277 dX12_wisest_28 ?_
  refine k_icmp_ge (tgt := 69) hA dX12_wisest_31 rfl (fun hc => ?_) (fun hc => ?_)
  · have hf := k_ift hc hf
    obtain ⟨⟨rq_1, tq_1⟩, hq_1, hf⟩ := k_lt_e hf
    dsimp only at hf
    obtain ⟨rfl, rfl⟩ := k_r2 hf
    refine k_aload_n (i := 0) hA dX12_wisest_69 rfl 0 rfl ?_
    refine k_iload_n (i := 1) hA dX12_wisest_70 rfl 1 rfl ?_
    refine k_callVi (As := [.int x1]) (rest := []) hA (m_M_good l G a rv x1 t hq_1.symm) cd_X12_good wd_1601 (hc_MT_0 G.2.1 a rv t) rfl rfl (Nat.le_of_ble_eq_true rfl) rfl rfl (Nat.le_of_ble_eq_true rfl) dX12_wisest_71 ?_
    exact k_iret hA hr rfl dX12_wisest_74
  have hf := k_iff hc hf
  refine k_iload_n (i := 1) hA dX12_wisest_34 rfl 1 rfl ?_
  refine k_bipush hA dX12_wisest_35 kc_b_m2 ?_
  refine k_icmp_eq (tgt := 61) hA dX12_wisest_37 rfl (fun hc => ?_) (fun hc => ?_)
  · have hf := k_ift hc hf
    obtain ⟨x2_2, ex2_2, hf⟩ := k_lt_e hf
    refine k_iload_n (i := 2) hA dX12_wisest_61 rfl 2 rfl ?_
    refine k_istore_n (i := 1) (lv' := [(1, .int x2), (0, .ref (a 0)), (2, .int x2)]) hA dX12_wisest_62 rfl rfl (Nat.le_of_ble_eq_true rfl) rfl ?_
    refine k_iinc (j := 2) (v := x2_2) (lv' := [(2, .int x2_2), (1, .int x2), (0, .ref (a 0))]) hA dX12_wisest_63 rfl (k_inc ex2_2 kc_i_1) (Nat.le_of_ble_eq_true rfl) rfl ?_
    refine k_goto (tgt := 23) hA dX12_wisest_66 rfl ?_
    refine k_pick (lv' := [(0, .ref (a 0)), (1, .int x2), (2, .int x2_2)]) [2, 1, 0] rfl ?_
    exact ih x2 x2_2 t hf
  have hf := k_iff hc hf
  obtain ⟨hi_3, hf⟩ := k_gi_e hf
  obtain ⟨r_4, hr_4, hf⟩ := k_cp_e hf
  obtain ⟨hi_5, hf⟩ := k_gi_e hf
  obtain ⟨r_6, hr_6, hf⟩ := k_cp_e hf
  refine k_aload_n (i := 0) hA dX12_wisest_40 rfl 0 rfl ?_
  refine gt_MT_0_15 hA wd_1263 dX12_wisest_41 ?_
  refine k_iload_n (i := 2) hA dX12_wisest_44 rfl 2 rfl ?_
  refine ld_MT_2 hA hi_3 dX12_wisest_45 ?_
  refine k_callSi (As := [.int (t.1 2 x2.toNatClampNeg)]) (rest := []) hA (m_M_bits l G (k_WT G.2.1 a rv t) n (t.1 2 x2.toNatClampNeg) hr_4) cd_X12_bits wd_1709 (Nat.le_of_ble_eq_true rfl) rfl rfl (Nat.le_of_ble_eq_true rfl) dX12_wisest_46 ?_
  refine k_aload_n (i := 0) hA dX12_wisest_49 rfl 0 rfl ?_
  refine gt_MT_0_15 hA wd_1263 dX12_wisest_50 ?_
  refine k_iload_n (i := 1) hA dX12_wisest_53 rfl 1 rfl ?_
  refine ld_MT_2 hA hi_5 dX12_wisest_54 ?_
  refine k_callSi (As := [.int (t.1 2 x1.toNatClampNeg)]) (rest := [.int r_4]) hA (m_M_bits l G (k_WT G.2.1 a rv t) n (t.1 2 x1.toNatClampNeg) hr_6) cd_X12_bits wd_1709 (Nat.le_of_ble_eq_true rfl) rfl rfl (Nat.le_of_ble_eq_true rfl) dX12_wisest_55 ?_
  refine k_icmp_le (tgt := 63) hA dX12_wisest_58 rfl (fun hc => ?_) (fun hc => ?_)
  · have hf := k_ift hc hf
    obtain ⟨x2_7, ex2_7, hf⟩ := k_lt_e hf
    refine k_iinc (j := 2) (v := x2_7) (lv' := [(2, .int x2_7), (0, .ref (a 0)), (1, .int x1)]) hA dX12_wisest_63 rfl (k_inc ex2_7 kc_i_1) (Nat.le_of_ble_eq_true rfl) rfl ?_
    refine k_goto (tgt := 23) hA dX12_wisest_66 rfl ?_
    refine k_pick (lv' := [(0, .ref (a 0)), (1, .int x1), (2, .int x2_7)]) [1, 2, 0] rfl ?_
    exact ih x1 x2_7 t hf
  have hf := k_iff hc hf
  obtain ⟨x2_8, ex2_8, hf⟩ := k_lt_e hf
  refine k_iload_n (i := 2) hA dX12_wisest_61 rfl 2 rfl ?_
  refine k_istore_n (i := 1) (lv' := [(1, .int x2), (0, .ref (a 0)), (2, .int x2)]) hA dX12_wisest_62 rfl rfl (Nat.le_of_ble_eq_true rfl) rfl ?_
  refine k_iinc (j := 2) (v := x2_8) (lv' := [(2, .int x2_8), (1, .int x2), (0, .ref (a 0))]) hA dX12_wisest_63 rfl (k_inc ex2_8 kc_i_1) (Nat.le_of_ble_eq_true rfl) rfl ?_
  refine k_goto (tgt := 23) hA dX12_wisest_66 rfl ?_
  refine k_pick (lv' := [(0, .ref (a 0)), (1, .int x2), (2, .int x2_8)]) [2, 1, 0] rfl ?_
  exact ih x2 x2_8 t hf

theorem m_M_wisest (l : Launch) (G : k_G) (a : Nat → Nat) (rv : Value) (n : Nat) (t : k_St) {r : Int32} {t' : k_St} (hf : f_M_wisest n t = some (r, t')) : k_CI l G yX12_wisest cX12_wisest 3 (some .int) 2 (k_WT G.2.1 a rv t) [.ref (a 0)] r (k_WT G.2.1 a rv t') := by
  refine k_startI (lv := [(0, .ref (a 0))]) (by decide +kernel) (Nat.le_of_ble_eq_true rfl) rfl ?_
  intro p e s m args below meth c hA hr
  have hA : k_Amb p s m args meth c cX12_wisest 3 "TaleSharesModel" G _ := hA
  unfold f_M_wisest at hf
  obtain ⟨t_1, et_1, hf⟩ := k_lt_e hf
  refine k_aload_n (i := 0) hA dX12_wisest_0 rfl 0 rfl ?_
  refine k_iconst hA dX12_wisest_1 kc_i_0 ?_
  refine pt_MT_0_0 hA wd_1248 et_1 dX12_wisest_2 ?_
  refine k_aload_n (i := 0) hA dX12_wisest_5 rfl 0 rfl ?_
  refine gt_MT_0_3 hA wd_1251 dX12_wisest_6 ?_
  refine k_ifnonnull (tgt := 18) hA dX12_wisest_9 rfl ?_
  refine k_bipush hA dX12_wisest_18 kc_b_m2 ?_
  refine k_istore_n (i := 1) (lv' := [(1, .int (-2 : Int32)), (0, .ref (a 0))]) hA dX12_wisest_20 rfl rfl (Nat.le_of_ble_eq_true rfl) rfl ?_
  refine k_iconst hA dX12_wisest_21 kc_i_0 ?_
  refine k_istore_n (i := 2) (lv' := [(2, .int (0 : Int32)), (1, .int (-2 : Int32)), (0, .ref (a 0))]) hA dX12_wisest_22 rfl rfl (Nat.le_of_ble_eq_true rfl) rfl ?_
  refine k_pick (lv' := [(0, .ref (a 0)), (1, .int (-2 : Int32)), (2, .int (0 : Int32))]) [2, 1, 0] rfl ?_
  exact m_M_wisest_23 l G a rv n hA hr n (-2 : Int32) (0 : Int32) t_1 hf

def f_M_isWay_2 (n : Nat) (t : k_St) : Nat → Int32 → Option Bool
  | 0, _ => none
  | k + 1, x1 => (if (t.1 18 4) ≤ x1 then some true else k_gi x1 5 ((if (t.1 9 x1.toNatClampNeg) = x1 then some false else k_gi x1 5 ((if (t.1 18 4) ≤ (t.1 9 x1.toNatClampNeg) then k_lt (x1 + (1 : Int32)) (fun x1_3 => f_M_isWay_2 n t k x1_3) else k_gi x1 5 (k_gi (t.1 9 x1.toNatClampNeg) 5 ((if (t.1 9 (t.1 9 x1.toNatClampNeg).toNatClampNeg) = x1 then k_lt (x1 + (1 : Int32)) (fun x1_6 => f_M_isWay_2 n t k x1_6) else some false))))))))
def f_M_isWay (n : Nat) (t : k_St) : Option Bool := f_M_isWay_2 n t n (0 : Int32)
theorem m_M_isWay_2 {p : Program} (l : Launch) {e : Env} {s : State} {m : MethodId} {args : Array Value} {below : List Frame} {meth : Method} {c : Code} (G : k_G) (a : Nat → Nat) (rv : Value) (n : Nat) (t : k_St) {w0 : va_W} {r : Bool} (hA : k_Amb p s m args meth c cX12_isWay 2 "TaleSharesModel" G (va_A w0 s.heap.size)) (hr : meth.sig.returnType = (some .boolean)) : ∀ (k : Nat) (x1 : Int32), f_M_isWay_2 n t k x1 = some r → k_Go p l e (k_rm 1) s m args below meth c (k_QI G w0 (k_b r) (k_WT G.2.1 a rv t) args s below) 2 G (va_A w0 s.heap.size) (k_WT G.2.1 a rv t) 2 [(0, .ref (a 0)), (1, .int x1)] [] := by
  intro k
  induction k with
  | zero => intro x1 hf; cases hf
  | succ k ih =>
  intro x1 hf
  rw [f_M_isWay_2] at hf
  refine k_iload_n (i := 1) hA dX12_isWay_2 rfl 1 rfl ?_
  refine k_aload_n (i := 0) hA dX12_isWay_3 rfl 0 rfl ?_
  refine gt_MT_0_3 hA wd_1251 dX12_isWay_4 ?_
  refine gt_MT_18_4N hA rfl nf_277 dX12_isWay_7 ?_
  refine k_icmp_ge (tgt := 62) hA dX12_isWay_10 rfl (fun hc => ?_) (fun hc => ?_)
  · have hf := k_ift hc hf
    obtain rfl := k_r1 hf
    refine k_iconst hA dX12_isWay_62 kc_i_1 ?_
    exact k_iret hA hr (k_narB (k_b01 _)) dX12_isWay_63
  have hf := k_iff hc hf
  obtain ⟨hi_1, hf⟩ := k_gi_e hf
  refine k_aload_n (i := 0) hA dX12_isWay_13 rfl 0 rfl ?_
  refine gt_MT_0_28 hA wd_1276 dX12_isWay_14 ?_
  refine k_iload_n (i := 1) hA dX12_isWay_17 rfl 1 rfl ?_
  refine ld_MT_9 hA hi_1 dX12_isWay_18 ?_
  refine k_iload_n (i := 1) hA dX12_isWay_19 rfl 1 rfl ?_
  refine k_icmp_eq (tgt := 54) hA dX12_isWay_20 rfl (fun hc => ?_) (fun hc => ?_)
  · have hf := k_ift hc hf
    obtain rfl := k_r1 hf
    refine k_iconst hA dX12_isWay_54 kc_i_0 ?_
    exact k_iret hA hr (k_narB (k_b01 _)) dX12_isWay_55
  have hf := k_iff hc hf
  obtain ⟨hi_2, hf⟩ := k_gi_e hf
  refine k_aload_n (i := 0) hA dX12_isWay_23 rfl 0 rfl ?_
  refine gt_MT_0_28 hA wd_1276 dX12_isWay_24 ?_
  refine k_iload_n (i := 1) hA dX12_isWay_27 rfl 1 rfl ?_
  refine ld_MT_9 hA hi_2 dX12_isWay_28 ?_
  refine k_aload_n (i := 0) hA dX12_isWay_29 rfl 0 rfl ?_
  refine gt_MT_0_3 hA wd_1251 dX12_isWay_30 ?_
  refine gt_MT_18_4N hA rfl nf_277 dX12_isWay_33 ?_
  refine k_icmp_ge (tgt := 56) hA dX12_isWay_36 rfl (fun hc => ?_) (fun hc => ?_)
  · have hf := k_ift hc hf
    obtain ⟨x1_3, ex1_3, hf⟩ := k_lt_e hf
    refine k_iinc (j := 1) (v := x1_3) (lv' := [(1, .int x1_3), (0, .ref (a 0))]) hA dX12_isWay_56 rfl (k_inc ex1_3 kc_i_1) (Nat.le_of_ble_eq_true rfl) rfl ?_
    refine k_goto (tgt := 2) hA dX12_isWay_59 rfl ?_
    refine k_pick (lv' := [(0, .ref (a 0)), (1, .int x1_3)]) [1, 0] rfl ?_
    exact ih x1_3 hf
  have hf := k_iff hc hf
  obtain ⟨hi_4, hf⟩ := k_gi_e hf
  obtain ⟨hi_5, hf⟩ := k_gi_e hf
  refine k_aload_n (i := 0) hA dX12_isWay_39 rfl 0 rfl ?_
  refine gt_MT_0_28 hA wd_1276 dX12_isWay_40 ?_
  refine k_aload_n (i := 0) hA dX12_isWay_43 rfl 0 rfl ?_
  refine gt_MT_0_28 hA wd_1276 dX12_isWay_44 ?_
  refine k_iload_n (i := 1) hA dX12_isWay_47 rfl 1 rfl ?_
  refine ld_MT_9 hA hi_4 dX12_isWay_48 ?_
  refine ld_MT_9 hA hi_5 dX12_isWay_49 ?_
  refine k_iload_n (i := 1) hA dX12_isWay_50 rfl 1 rfl ?_
  refine k_icmp_eq (tgt := 56) hA dX12_isWay_51 rfl (fun hc => ?_) (fun hc => ?_)
  · have hf := k_ift hc hf
    obtain ⟨x1_6, ex1_6, hf⟩ := k_lt_e hf
    refine k_iinc (j := 1) (v := x1_6) (lv' := [(1, .int x1_6), (0, .ref (a 0))]) hA dX12_isWay_56 rfl (k_inc ex1_6 kc_i_1) (Nat.le_of_ble_eq_true rfl) rfl ?_
    refine k_goto (tgt := 2) hA dX12_isWay_59 rfl ?_
    refine k_pick (lv' := [(0, .ref (a 0)), (1, .int x1_6)]) [1, 0] rfl ?_
    exact ih x1_6 hf
  have hf := k_iff hc hf
  obtain rfl := k_r1 hf
  refine k_iconst hA dX12_isWay_54 kc_i_0 ?_
  exact k_iret hA hr (k_narB (k_b01 _)) dX12_isWay_55

theorem m_M_isWay (l : Launch) (G : k_G) (a : Nat → Nat) (rv : Value) (n : Nat) (t : k_St) {r : Bool} (hf : f_M_isWay n t = some r) : k_CI l G yX12_isWay cX12_isWay 2 (some .boolean) 1 (k_WT G.2.1 a rv t) [.ref (a 0)] (k_b r) (k_WT G.2.1 a rv t) := by
  refine k_startI (lv := [(0, .ref (a 0))]) (by decide +kernel) (Nat.le_of_ble_eq_true rfl) rfl ?_
  intro p e s m args below meth c hA hr
  have hA : k_Amb p s m args meth c cX12_isWay 2 "TaleSharesModel" G _ := hA
  unfold f_M_isWay at hf
  refine k_iconst hA dX12_isWay_0 kc_i_0 ?_
  refine k_istore_n (i := 1) (lv' := [(1, .int (0 : Int32)), (0, .ref (a 0))]) hA dX12_isWay_1 rfl rfl (Nat.le_of_ble_eq_true rfl) rfl ?_
  refine k_pick (lv' := [(0, .ref (a 0)), (1, .int (0 : Int32))]) [1, 0] rfl ?_
  exact m_M_isWay_2 l G a rv n t hA hr n (0 : Int32) hf

def f_M_waysAll_94 (n : Nat) (rec36 : Int32 → Int32 → Int32 → k_St → Option k_St) : Nat → Int32 → Int32 → Int32 → Int32 → k_St → Option k_St
  | 0, _, _, _, _, _ => none
  | k + 1, x1, x2, x3, x5, t => (if x1 ≤ x5 then k_lt (k_sI t 0 31 ((t.1 0 31) + (1 : Int32))) (fun t_1 => k_lt (x3 + (1 : Int32)) (fun x3_2 => rec36 x1 x2 x3_2 t_1)) else k_gi x5 5 (k_gi (((5 : Int32) * (t.1 0 31)) + x5) 130 (k_lt (k_sI t 8 (((5 : Int32) * (t.1 0 31)) + x5).toNatClampNeg (t.1 9 x5.toNatClampNeg)) (fun t_5 => k_lt (x5 + (1 : Int32)) (fun x5_6 => f_M_waysAll_94 n rec36 k x1 x2 x3 x5_6 t_5)))))
def f_M_waysAll_49 (n : Nat) (rec36 : Int32 → Int32 → Int32 → k_St → Option k_St) : Nat → Int32 → Int32 → Int32 → Int32 → Int32 → k_St → Option k_St
  | 0, _, _, _, _, _, _ => none
  | k + 1, x1, x2, x3, x4, x5, t => (if x5 < 0 then k_cp (f_M_isWay n t) (fun r_1 => (if (k_b r_1) = 0 then k_lt (x3 + (1 : Int32)) (fun x3_2 => rec36 x1 x2 x3_2 t) else f_M_waysAll_94 n rec36 n x1 x2 x3 (0 : Int32) t)) else k_gd (¬ (x1 + (1 : Int32)) = 0) (k_gi x5 5 (k_lt (k_sI t 9 x5.toNatClampNeg (x4 - x4 / (x1 + (1 : Int32)) * (x1 + (1 : Int32)))) (fun t_5 => k_gd (¬ (x1 + (1 : Int32)) = 0) (k_lt (x4 / (x1 + (1 : Int32))) (fun x4_7 => k_lt (x5 + (-1 : Int32)) (fun x5_8 => f_M_waysAll_49 n rec36 k x1 x2 x3 x4_7 x5_8 t_5)))))))
def f_M_waysAll_36 (n : Nat) : Nat → Int32 → Int32 → Int32 → k_St → Option k_St
  | 0, _, _, _, _ => none
  | k + 1, x1, x2, x3, t => (if x2 ≤ x3 then some t else k_lt (x1 - (1 : Int32)) (fun x5_1 => f_M_waysAll_49 n (f_M_waysAll_36 n k) n x1 x2 x3 x3 x5_1 t))
def f_M_waysAll_17 (n : Nat) : Nat → Int32 → Int32 → Int32 → k_St → Option k_St
  | 0, _, _, _, _ => none
  | k + 1, x1, x2, x3, t => (if x1 ≤ x3 then f_M_waysAll_36 n n x1 x2 (0 : Int32) t else k_lt (x2 * (x1 + (1 : Int32))) (fun x2_1 => k_lt (x3 + (1 : Int32)) (fun x3_2 => f_M_waysAll_17 n k x1 x2_1 x3_2 t)))
def f_M_waysAll (n : Nat) (t : k_St) : Option k_St := k_lt (k_sI t 0 31 (0 : Int32)) (fun t_1 => k_lt (t_1.1 18 4) (fun x1_2 => f_M_waysAll_17 n n x1_2 (1 : Int32) (0 : Int32) t_1))
theorem m_M_waysAll_94 {p : Program} (l : Launch) {e : Env} {s : State} {m : MethodId} {args : Array Value} {below : List Frame} {meth : Method} {c : Code} (G : k_G) (a : Nat → Nat) (rv : Value) (n : Nat) {w0 : va_W} {t' : k_St} (hA : k_Amb p s m args meth c cX12_waysAll 6 "TaleSharesModel" G (va_A w0 s.heap.size)) (hr : meth.sig.returnType = none) (rec36 : Int32 → Int32 → Int32 → k_St → Option k_St) (hrec36 : ∀ (x1 : Int32) (x2 : Int32) (x3 : Int32) (t : k_St), rec36 x1 x2 x3 t = some t' → k_Go p l e (k_rm 2) s m args below meth c (k_QV G w0 (k_WT G.2.1 a rv t') args s below) 6 G (va_A w0 s.heap.size) (k_WT G.2.1 a rv t) 36 [(0, .ref (a 0)), (1, .int x1), (2, .int x2), (3, .int x3)] []) : ∀ (k : Nat) (x1 : Int32) (x2 : Int32) (x3 : Int32) (x5 : Int32) (t : k_St), f_M_waysAll_94 n rec36 k x1 x2 x3 x5 t = some t' → k_Go p l e (k_rm 2) s m args below meth c (k_QV G w0 (k_WT G.2.1 a rv t') args s below) 6 G (va_A w0 s.heap.size) (k_WT G.2.1 a rv t) 94 [(0, .ref (a 0)), (1, .int x1), (2, .int x2), (3, .int x3), (5, .int x5)] [] := by
  intro k
  induction k with
  | zero => intro x1 x2 x3 x5 t hf; cases hf
  | succ k ih =>
  intro x1 x2 x3 x5 t hf
  rw [f_M_waysAll_94] at hf
  refine k_iload hA dX12_waysAll_94 4 rfl ?_
  refine k_iload_n (i := 1) hA dX12_waysAll_96 rfl 1 rfl ?_
  refine k_icmp_ge (tgt := 127) hA dX12_waysAll_97 rfl (fun hc => ?_) (fun hc => ?_)
  · have hf := k_ift hc hf
    obtain ⟨t_1, et_1, hf⟩ := k_lt_e hf
    obtain ⟨x3_2, ex3_2, hf⟩ := k_lt_e hf
    refine k_aload_n (i := 0) hA dX12_waysAll_127 rfl 0 rfl ?_
    refine k_dup hA dX12_waysAll_128 rfl ?_
    refine gt_MT_0_31 hA wd_1279 dX12_waysAll_129 ?_
    refine k_iconst hA dX12_waysAll_132 kc_i_1 ?_
    refine k_iadd hA dX12_waysAll_133 ?_
    refine pt_MT_0_31 hA wd_1279 et_1 dX12_waysAll_134 ?_
    refine k_iinc (j := 3) (v := x3_2) (lv' := [(3, .int x3_2), (0, .ref (a 0)), (1, .int x1), (2, .int x2), (5, .int x5)]) hA dX12_waysAll_137 rfl (k_inc ex3_2 kc_i_1) (Nat.le_of_ble_eq_true rfl) rfl ?_
    refine k_goto (tgt := 36) hA dX12_waysAll_140 rfl ?_
    refine k_pick (lv' := [(0, .ref (a 0)), (1, .int x1), (2, .int x2), (3, .int x3_2)]) [1, 2, 3, 0] rfl ?_
    exact hrec36 x1 x2 x3_2 t_1 hf
  have hf := k_iff hc hf
  obtain ⟨hi_3, hf⟩ := k_gi_e hf
  obtain ⟨hi_4, hf⟩ := k_gi_e hf
  obtain ⟨t_5, et_5, hf⟩ := k_lt_e hf
  obtain ⟨x5_6, ex5_6, hf⟩ := k_lt_e hf
  refine k_aload_n (i := 0) hA dX12_waysAll_100 rfl 0 rfl ?_
  refine gt_MT_0_27 hA wd_1275 dX12_waysAll_101 ?_
  refine k_iconst hA dX12_waysAll_104 kc_i_5 ?_
  refine k_aload_n (i := 0) hA dX12_waysAll_105 rfl 0 rfl ?_
  refine gt_MT_0_31 hA wd_1279 dX12_waysAll_106 ?_
  refine k_imul hA dX12_waysAll_109 ?_
  refine k_iload hA dX12_waysAll_110 4 rfl ?_
  refine k_iadd hA dX12_waysAll_112 ?_
  refine k_aload_n (i := 0) hA dX12_waysAll_113 rfl 0 rfl ?_
  refine gt_MT_0_28 hA wd_1276 dX12_waysAll_114 ?_
  refine k_iload hA dX12_waysAll_117 4 rfl ?_
  refine ld_MT_9 hA hi_3 dX12_waysAll_119 ?_
  refine sr_MT_8 hA hi_4 et_5 dX12_waysAll_120 ?_
  refine k_iinc (j := 4) (v := x5_6) (lv' := [(5, .int x5_6), (0, .ref (a 0)), (1, .int x1), (2, .int x2), (3, .int x3)]) hA dX12_waysAll_121 rfl (k_inc ex5_6 kc_i_1) (Nat.le_of_ble_eq_true rfl) rfl ?_
  refine k_goto (tgt := 94) hA dX12_waysAll_124 rfl ?_
  refine k_pick (lv' := [(0, .ref (a 0)), (1, .int x1), (2, .int x2), (3, .int x3), (5, .int x5_6)]) [1, 2, 3, 4, 0] rfl ?_
  exact ih x1 x2 x3 x5_6 t_5 hf

theorem m_M_waysAll_49 {p : Program} (l : Launch) {e : Env} {s : State} {m : MethodId} {args : Array Value} {below : List Frame} {meth : Method} {c : Code} (G : k_G) (a : Nat → Nat) (rv : Value) (n : Nat) {w0 : va_W} {t' : k_St} (hA : k_Amb p s m args meth c cX12_waysAll 6 "TaleSharesModel" G (va_A w0 s.heap.size)) (hr : meth.sig.returnType = none) (rec36 : Int32 → Int32 → Int32 → k_St → Option k_St) (hrec36 : ∀ (x1 : Int32) (x2 : Int32) (x3 : Int32) (t : k_St), rec36 x1 x2 x3 t = some t' → k_Go p l e (k_rm 2) s m args below meth c (k_QV G w0 (k_WT G.2.1 a rv t') args s below) 6 G (va_A w0 s.heap.size) (k_WT G.2.1 a rv t) 36 [(0, .ref (a 0)), (1, .int x1), (2, .int x2), (3, .int x3)] []) : ∀ (k : Nat) (x1 : Int32) (x2 : Int32) (x3 : Int32) (x4 : Int32) (x5 : Int32) (t : k_St), f_M_waysAll_49 n rec36 k x1 x2 x3 x4 x5 t = some t' → k_Go p l e (k_rm 2) s m args below meth c (k_QV G w0 (k_WT G.2.1 a rv t') args s below) 6 G (va_A w0 s.heap.size) (k_WT G.2.1 a rv t) 49 [(0, .ref (a 0)), (1, .int x1), (2, .int x2), (3, .int x3), (4, .int x4), (5, .int x5)] [] := by
  intro k
  induction k with
  | zero => intro x1 x2 x3 x4 x5 t hf; cases hf
  | succ k ih =>
  intro x1 x2 x3 x4 x5 t hf
  rw [f_M_waysAll_49] at hf
  refine k_iload hA dX12_waysAll_49 5 rfl ?_
  refine k_if_lt (tgt := 81) hA dX12_waysAll_51 rfl (fun hc => ?_) (fun hc => ?_)
  · have hf := k_ift hc hf
    obtain ⟨r_1, hr_1, hf⟩ := k_cp_e hf
    refine k_aload_n (i := 0) hA dX12_waysAll_81 rfl 0 rfl ?_
    refine k_callVi (As := []) (rest := []) hA (m_M_isWay l G a rv n t hr_1) cd_X12_isWay wd_1764 (hc_MT_0 G.2.1 a rv t) rfl rfl (Nat.le_of_ble_eq_true rfl) rfl rfl (Nat.le_of_ble_eq_true rfl) dX12_waysAll_82 ?_
    refine k_if_ne (tgt := 91) hA dX12_waysAll_85 rfl (fun hc => ?_) (fun hc => ?_)
    · have hf := k_iff hc hf
      refine k_iconst hA dX12_waysAll_91 kc_i_0 ?_
      refine k_istore (lv' := [(5, .int (0 : Int32)), (0, .ref (a 0)), (1, .int x1), (2, .int x2), (3, .int x3), (4, .int x4)]) hA dX12_waysAll_92 rfl (Nat.le_of_ble_eq_true rfl) rfl ?_
      refine k_pick (lv' := [(0, .ref (a 0)), (1, .int x1), (2, .int x2), (3, .int x3), (5, .int (0 : Int32))]) [1, 2, 3, 4, 0] rfl ?_
      exact m_M_waysAll_94 l G a rv n hA hr rec36 hrec36 n x1 x2 x3 (0 : Int32) t hf
    have hf := k_ift hc hf
    obtain ⟨x3_2, ex3_2, hf⟩ := k_lt_e hf
    refine k_goto (tgt := 137) hA dX12_waysAll_88 rfl ?_
    refine k_iinc (j := 3) (v := x3_2) (lv' := [(3, .int x3_2), (0, .ref (a 0)), (1, .int x1), (2, .int x2), (4, .int x4), (5, .int x5)]) hA dX12_waysAll_137 rfl (k_inc ex3_2 kc_i_1) (Nat.le_of_ble_eq_true rfl) rfl ?_
    refine k_goto (tgt := 36) hA dX12_waysAll_140 rfl ?_
    refine k_pick (lv' := [(0, .ref (a 0)), (1, .int x1), (2, .int x2), (3, .int x3_2)]) [1, 2, 3, 0] rfl ?_
    exact hrec36 x1 x2 x3_2 t hf
  have hf := k_iff hc hf
  obtain ⟨hn_3, hf⟩ := k_gd_e hf
  obtain ⟨hi_4, hf⟩ := k_gi_e hf
  obtain ⟨t_5, et_5, hf⟩ := k_lt_e hf
  obtain ⟨hn_6, hf⟩ := k_gd_e hf
  obtain ⟨x4_7, ex4_7, hf⟩ := k_lt_e hf
  obtain ⟨x5_8, ex5_8, hf⟩ := k_lt_e hf
  refine k_aload_n (i := 0) hA dX12_waysAll_54 rfl 0 rfl ?_
  refine gt_MT_0_28 hA wd_1276 dX12_waysAll_55 ?_
  refine k_iload hA dX12_waysAll_58 5 rfl ?_
  refine k_iload hA dX12_waysAll_60 4 rfl ?_
  refine k_iload_n (i := 1) hA dX12_waysAll_62 rfl 1 rfl ?_
  refine k_iconst hA dX12_waysAll_63 kc_i_1 ?_
  refine k_iadd hA dX12_waysAll_64 ?_
  refine k_irem hA dX12_waysAll_65 hn_3 ?_
  refine sr_MT_9 hA hi_4 et_5 dX12_waysAll_66 ?_
  refine k_iload hA dX12_waysAll_67 4 rfl ?_
  refine k_iload_n (i := 1) hA dX12_waysAll_69 rfl 1 rfl ?_
  refine k_iconst hA dX12_waysAll_70 kc_i_1 ?_
  refine k_iadd hA dX12_waysAll_71 ?_
  refine k_idiv hA dX12_waysAll_72 hn_6 ?_
  refine k_istore (lv' := [(4, .int x4_7), (0, .ref (a 0)), (1, .int x1), (2, .int x2), (3, .int x3), (5, .int x5)]) hA dX12_waysAll_73 ex4_7 (Nat.le_of_ble_eq_true rfl) rfl ?_
  refine k_iinc (j := 5) (v := x5_8) (lv' := [(5, .int x5_8), (4, .int x4_7), (0, .ref (a 0)), (1, .int x1), (2, .int x2), (3, .int x3)]) hA dX12_waysAll_75 rfl (k_inc ex5_8 kc_i_m1) (Nat.le_of_ble_eq_true rfl) rfl ?_
  refine k_goto (tgt := 49) hA dX12_waysAll_78 rfl ?_
  refine k_pick (lv' := [(0, .ref (a 0)), (1, .int x1), (2, .int x2), (3, .int x3), (4, .int x4_7), (5, .int x5_8)]) [2, 3, 4, 5, 1, 0] rfl ?_
  exact ih x1 x2 x3 x4_7 x5_8 t_5 hf

theorem m_M_waysAll_36 {p : Program} (l : Launch) {e : Env} {s : State} {m : MethodId} {args : Array Value} {below : List Frame} {meth : Method} {c : Code} (G : k_G) (a : Nat → Nat) (rv : Value) (n : Nat) {w0 : va_W} {t' : k_St} (hA : k_Amb p s m args meth c cX12_waysAll 6 "TaleSharesModel" G (va_A w0 s.heap.size)) (hr : meth.sig.returnType = none) : ∀ (k : Nat) (x1 : Int32) (x2 : Int32) (x3 : Int32) (t : k_St), f_M_waysAll_36 n k x1 x2 x3 t = some t' → k_Go p l e (k_rm 2) s m args below meth c (k_QV G w0 (k_WT G.2.1 a rv t') args s below) 6 G (va_A w0 s.heap.size) (k_WT G.2.1 a rv t) 36 [(0, .ref (a 0)), (1, .int x1), (2, .int x2), (3, .int x3)] [] := by
  intro k
  induction k with
  | zero => intro x1 x2 x3 t hf; cases hf
  | succ k ih =>
  intro x1 x2 x3 t hf
  rw [f_M_waysAll_36] at hf
  refine k_iload_n (i := 3) hA dX12_waysAll_36 rfl 3 rfl ?_
  refine k_iload_n (i := 2) hA dX12_waysAll_37 rfl 2 rfl ?_
  refine k_icmp_ge (tgt := 143) hA dX12_waysAll_38 rfl (fun hc => ?_) (fun hc => ?_)
  · have hf := k_ift hc hf
    obtain rfl := k_r1 hf
    exact k_vret hA hr dX12_waysAll_143
  have hf := k_iff hc hf
  obtain ⟨x5_1, ex5_1, hf⟩ := k_lt_e hf
  refine k_iload_n (i := 3) hA dX12_waysAll_41 rfl 3 rfl ?_
  refine k_istore (lv' := [(4, .int x3), (0, .ref (a 0)), (1, .int x1), (2, .int x2), (3, .int x3)]) hA dX12_waysAll_42 rfl (Nat.le_of_ble_eq_true rfl) rfl ?_
  refine k_iload_n (i := 1) hA dX12_waysAll_44 rfl 2 rfl ?_
  refine k_iconst hA dX12_waysAll_45 kc_i_1 ?_
  refine k_isub hA dX12_waysAll_46 ?_
  refine k_istore (lv' := [(5, .int x5_1), (4, .int x3), (0, .ref (a 0)), (1, .int x1), (2, .int x2), (3, .int x3)]) hA dX12_waysAll_47 ex5_1 (Nat.le_of_ble_eq_true rfl) rfl ?_
  refine k_pick (lv' := [(0, .ref (a 0)), (1, .int x1), (2, .int x2), (3, .int x3), (4, .int x3), (5, .int x5_1)]) [2, 3, 4, 5, 1, 0] rfl ?_
  exact m_M_waysAll_49 l G a rv n hA hr (f_M_waysAll_36 n k) ih n x1 x2 x3 x3 x5_1 t hf

theorem m_M_waysAll_17 {p : Program} (l : Launch) {e : Env} {s : State} {m : MethodId} {args : Array Value} {below : List Frame} {meth : Method} {c : Code} (G : k_G) (a : Nat → Nat) (rv : Value) (n : Nat) {w0 : va_W} {t' : k_St} (hA : k_Amb p s m args meth c cX12_waysAll 6 "TaleSharesModel" G (va_A w0 s.heap.size)) (hr : meth.sig.returnType = none) : ∀ (k : Nat) (x1 : Int32) (x2 : Int32) (x3 : Int32) (t : k_St), f_M_waysAll_17 n k x1 x2 x3 t = some t' → k_Go p l e (k_rm 2) s m args below meth c (k_QV G w0 (k_WT G.2.1 a rv t') args s below) 6 G (va_A w0 s.heap.size) (k_WT G.2.1 a rv t) 17 [(0, .ref (a 0)), (1, .int x1), (2, .int x2), (3, .int x3)] [] := by
  intro k
  induction k with
  | zero => intro x1 x2 x3 t hf; cases hf
  | succ k ih =>
  intro x1 x2 x3 t hf
  rw [f_M_waysAll_17] at hf
  refine k_iload_n (i := 3) hA dX12_waysAll_17 rfl 3 rfl ?_
  refine k_iload_n (i := 1) hA dX12_waysAll_18 rfl 1 rfl ?_
  refine k_icmp_ge (tgt := 34) hA dX12_waysAll_19 rfl (fun hc => ?_) (fun hc => ?_)
  · have hf := k_ift hc hf
    refine k_iconst hA dX12_waysAll_34 kc_i_0 ?_
    refine k_istore_n (i := 3) (lv' := [(3, .int (0 : Int32)), (0, .ref (a 0)), (1, .int x1), (2, .int x2)]) hA dX12_waysAll_35 rfl rfl (Nat.le_of_ble_eq_true rfl) rfl ?_
    refine k_pick (lv' := [(0, .ref (a 0)), (1, .int x1), (2, .int x2), (3, .int (0 : Int32))]) [1, 2, 3, 0] rfl ?_
    exact m_M_waysAll_36 l G a rv n hA hr n x1 x2 (0 : Int32) t hf
  have hf := k_iff hc hf
  obtain ⟨x2_1, ex2_1, hf⟩ := k_lt_e hf
  obtain ⟨x3_2, ex3_2, hf⟩ := k_lt_e hf
  refine k_iload_n (i := 2) hA dX12_waysAll_22 rfl 2 rfl ?_
  refine k_iload_n (i := 1) hA dX12_waysAll_23 rfl 1 rfl ?_
  refine k_iconst hA dX12_waysAll_24 kc_i_1 ?_
  refine k_iadd hA dX12_waysAll_25 ?_
  refine k_imul hA dX12_waysAll_26 ?_
  refine k_istore_n (i := 2) (lv' := [(2, .int x2_1), (0, .ref (a 0)), (1, .int x1), (3, .int x3)]) hA dX12_waysAll_27 rfl ex2_1 (Nat.le_of_ble_eq_true rfl) rfl ?_
  refine k_iinc (j := 3) (v := x3_2) (lv' := [(3, .int x3_2), (2, .int x2_1), (0, .ref (a 0)), (1, .int x1)]) hA dX12_waysAll_28 rfl (k_inc ex3_2 kc_i_1) (Nat.le_of_ble_eq_true rfl) rfl ?_
  refine k_goto (tgt := 17) hA dX12_waysAll_31 rfl ?_
  refine k_pick (lv' := [(0, .ref (a 0)), (1, .int x1), (2, .int x2_1), (3, .int x3_2)]) [2, 3, 1, 0] rfl ?_
  exact ih x1 x2_1 x3_2 t hf

theorem m_M_waysAll (l : Launch) (G : k_G) (a : Nat → Nat) (rv : Value) (n : Nat) (t : k_St) {t' : k_St} (hf : f_M_waysAll n t = some t') : k_CV l G yX12_waysAll cX12_waysAll 6 none 2 (k_WT G.2.1 a rv t) [.ref (a 0)] (k_WT G.2.1 a rv t') := by
  refine k_startV (lv := [(0, .ref (a 0))]) (by decide +kernel) (Nat.le_of_ble_eq_true rfl) rfl ?_
  intro p e s m args below meth c hA hr
  have hA : k_Amb p s m args meth c cX12_waysAll 6 "TaleSharesModel" G _ := hA
  unfold f_M_waysAll at hf
  obtain ⟨t_1, et_1, hf⟩ := k_lt_e hf
  obtain ⟨x1_2, ex1_2, hf⟩ := k_lt_e hf
  refine k_aload_n (i := 0) hA dX12_waysAll_0 rfl 0 rfl ?_
  refine k_iconst hA dX12_waysAll_1 kc_i_0 ?_
  refine pt_MT_0_31 hA wd_1279 et_1 dX12_waysAll_2 ?_
  refine k_aload_n (i := 0) hA dX12_waysAll_5 rfl 0 rfl ?_
  refine gt_MT_0_3 hA wd_1251 dX12_waysAll_6 ?_
  refine gt_MT_18_4N hA rfl nf_277 dX12_waysAll_9 ?_
  refine k_istore_n (i := 1) (lv' := [(1, .int x1_2), (0, .ref (a 0))]) hA dX12_waysAll_12 rfl ex1_2 (Nat.le_of_ble_eq_true rfl) rfl ?_
  refine k_iconst hA dX12_waysAll_13 kc_i_1 ?_
  refine k_istore_n (i := 2) (lv' := [(2, .int (1 : Int32)), (1, .int x1_2), (0, .ref (a 0))]) hA dX12_waysAll_14 rfl rfl (Nat.le_of_ble_eq_true rfl) rfl ?_
  refine k_iconst hA dX12_waysAll_15 kc_i_0 ?_
  refine k_istore_n (i := 3) (lv' := [(3, .int (0 : Int32)), (2, .int (1 : Int32)), (1, .int x1_2), (0, .ref (a 0))]) hA dX12_waysAll_16 rfl rfl (Nat.le_of_ble_eq_true rfl) rfl ?_
  refine k_pick (lv' := [(0, .ref (a 0)), (1, .int x1_2), (2, .int (1 : Int32)), (3, .int (0 : Int32))]) [3, 2, 1, 0] rfl ?_
  exact m_M_waysAll_17 l G a rv n hA hr n x1_2 (1 : Int32) (0 : Int32) t_1 hf

def f_M_codesOf_4 (n : Nat) (t : k_St) : Nat → Int32 → Int32 → Int32 → Option Int32
  | 0, _, _, _ => none
  | k + 1, x1, x2, x3 => (if x1 ≤ x3 then some x2 else k_lt (x2 * (t.1 0 31)) (fun x2_1 => k_lt (x3 + (1 : Int32)) (fun x3_2 => f_M_codesOf_4 n t k x1 x2_1 x3_2)))
def f_M_codesOf (n : Nat) (t : k_St) (x1 : Int32) : Option Int32 := f_M_codesOf_4 n t n x1 (1 : Int32) (0 : Int32)
theorem m_M_codesOf_4 {p : Program} (l : Launch) {e : Env} {s : State} {m : MethodId} {args : Array Value} {below : List Frame} {meth : Method} {c : Code} (G : k_G) (a : Nat → Nat) (rv : Value) (n : Nat) (t : k_St) {w0 : va_W} {r : Int32} (hA : k_Amb p s m args meth c cX12_codesOf 4 "TaleSharesModel" G (va_A w0 s.heap.size)) (hr : meth.sig.returnType = (some .int)) : ∀ (k : Nat) (x1 : Int32) (x2 : Int32) (x3 : Int32), f_M_codesOf_4 n t k x1 x2 x3 = some r → k_Go p l e (k_rm 1) s m args below meth c (k_QI G w0 r (k_WT G.2.1 a rv t) args s below) 4 G (va_A w0 s.heap.size) (k_WT G.2.1 a rv t) 4 [(0, .ref (a 0)), (1, .int x1), (2, .int x2), (3, .int x3)] [] := by
  intro k
  induction k with
  | zero => intro x1 x2 x3 hf; cases hf
  | succ k ih =>
  intro x1 x2 x3 hf
  rw [f_M_codesOf_4] at hf
  refine k_iload_n (i := 3) hA dX12_codesOf_4 rfl 3 rfl ?_
  refine k_iload_n (i := 1) hA dX12_codesOf_5 rfl 1 rfl ?_
  refine k_icmp_ge (tgt := 22) hA dX12_codesOf_6 rfl (fun hc => ?_) (fun hc => ?_)
  · have hf := k_ift hc hf
    obtain rfl := k_r1 hf
    refine k_iload_n (i := 2) hA dX12_codesOf_22 rfl 2 rfl ?_
    exact k_iret hA hr rfl dX12_codesOf_23
  have hf := k_iff hc hf
  obtain ⟨x2_1, ex2_1, hf⟩ := k_lt_e hf
  obtain ⟨x3_2, ex3_2, hf⟩ := k_lt_e hf
  refine k_iload_n (i := 2) hA dX12_codesOf_9 rfl 2 rfl ?_
  refine k_aload_n (i := 0) hA dX12_codesOf_10 rfl 0 rfl ?_
  refine gt_MT_0_31 hA wd_1279 dX12_codesOf_11 ?_
  refine k_imul hA dX12_codesOf_14 ?_
  refine k_istore_n (i := 2) (lv' := [(2, .int x2_1), (0, .ref (a 0)), (1, .int x1), (3, .int x3)]) hA dX12_codesOf_15 rfl ex2_1 (Nat.le_of_ble_eq_true rfl) rfl ?_
  refine k_iinc (j := 3) (v := x3_2) (lv' := [(3, .int x3_2), (2, .int x2_1), (0, .ref (a 0)), (1, .int x1)]) hA dX12_codesOf_16 rfl (k_inc ex3_2 kc_i_1) (Nat.le_of_ble_eq_true rfl) rfl ?_
  refine k_goto (tgt := 4) hA dX12_codesOf_19 rfl ?_
  refine k_pick (lv' := [(0, .ref (a 0)), (1, .int x1), (2, .int x2_1), (3, .int x3_2)]) [2, 3, 1, 0] rfl ?_
  exact ih x1 x2_1 x3_2 hf

theorem m_M_codesOf (l : Launch) (G : k_G) (a : Nat → Nat) (rv : Value) (n : Nat) (t : k_St) (x1 : Int32) {r : Int32} (hf : f_M_codesOf n t x1 = some r) : k_CI l G yX12_codesOf cX12_codesOf 4 (some .int) 1 (k_WT G.2.1 a rv t) [.ref (a 0), .int x1] r (k_WT G.2.1 a rv t) := by
  refine k_startI (lv := [(0, .ref (a 0)), (1, .int x1)]) (by decide +kernel) (Nat.le_of_ble_eq_true rfl) rfl ?_
  intro p e s m args below meth c hA hr
  have hA : k_Amb p s m args meth c cX12_codesOf 4 "TaleSharesModel" G _ := hA
  unfold f_M_codesOf at hf
  refine k_iconst hA dX12_codesOf_0 kc_i_1 ?_
  refine k_istore_n (i := 2) (lv' := [(2, .int (1 : Int32)), (0, .ref (a 0)), (1, .int x1)]) hA dX12_codesOf_1 rfl rfl (Nat.le_of_ble_eq_true rfl) rfl ?_
  refine k_iconst hA dX12_codesOf_2 kc_i_0 ?_
  refine k_istore_n (i := 3) (lv' := [(3, .int (0 : Int32)), (2, .int (1 : Int32)), (0, .ref (a 0)), (1, .int x1)]) hA dX12_codesOf_3 rfl rfl (Nat.le_of_ble_eq_true rfl) rfl ?_
  refine k_pick (lv' := [(0, .ref (a 0)), (1, .int x1), (2, .int (1 : Int32)), (3, .int (0 : Int32))]) [2, 3, 1, 0] rfl ?_
  exact m_M_codesOf_4 l G a rv n t hA hr n x1 (1 : Int32) (0 : Int32) hf

def f_M_rowOf_8 (n : Nat) (t : k_St) : Nat → Int32 → Int32 → Int32 → Option Int32
  | 0, _, _, _ => none
  | k + 1, x3, x4, x5 => (if x5 ≤ x3 then k_gd (¬ (t.1 0 31) = 0) (some (x4 - x4 / (t.1 0 31) * (t.1 0 31))) else k_gd (¬ (t.1 0 31) = 0) (k_lt (x4 / (t.1 0 31)) (fun x4_3 => k_lt (x5 + (-1 : Int32)) (fun x5_4 => f_M_rowOf_8 n t k x3 x4_3 x5_4))))
def f_M_rowOf (n : Nat) (t : k_St) (x1 : Int32) (x2 : Int32) (x3 : Int32) : Option Int32 := k_lt (x2 - (1 : Int32)) (fun x5_1 => f_M_rowOf_8 n t n x3 x1 x5_1)
theorem m_M_rowOf_8 {p : Program} (l : Launch) {e : Env} {s : State} {m : MethodId} {args : Array Value} {below : List Frame} {meth : Method} {c : Code} (G : k_G) (a : Nat → Nat) (rv : Value) (n : Nat) (t : k_St) {w0 : va_W} {r : Int32} (hA : k_Amb p s m args meth c cX12_rowOf 6 "TaleSharesModel" G (va_A w0 s.heap.size)) (hr : meth.sig.returnType = (some .int)) : ∀ (k : Nat) (x3 : Int32) (x4 : Int32) (x5 : Int32), f_M_rowOf_8 n t k x3 x4 x5 = some r → k_Go p l e (k_rm 1) s m args below meth c (k_QI G w0 r (k_WT G.2.1 a rv t) args s below) 6 G (va_A w0 s.heap.size) (k_WT G.2.1 a rv t) 8 [(0, .ref (a 0)), (3, .int x3), (4, .int x4), (5, .int x5)] [] := by
  intro k
  induction k with
  | zero => intro x3 x4 x5 hf; cases hf
  | succ k ih =>
  intro x3 x4 x5 hf
  rw [f_M_rowOf_8] at hf
  refine k_iload hA dX12_rowOf_8 3 rfl ?_
  refine k_iload_n (i := 3) hA dX12_rowOf_10 rfl 1 rfl ?_
  refine k_icmp_le (tgt := 29) hA dX12_rowOf_11 rfl (fun hc => ?_) (fun hc => ?_)
  · have hf := k_ift hc hf
    obtain ⟨hn_1, hf⟩ := k_gd_e hf
    obtain rfl := k_r1 hf
    refine k_iload hA dX12_rowOf_29 2 rfl ?_
    refine k_aload_n (i := 0) hA dX12_rowOf_31 rfl 0 rfl ?_
    refine gt_MT_0_31 hA wd_1279 dX12_rowOf_32 ?_
    refine k_irem hA dX12_rowOf_35 hn_1 ?_
    exact k_iret hA hr rfl dX12_rowOf_36
  have hf := k_iff hc hf
  obtain ⟨hn_2, hf⟩ := k_gd_e hf
  obtain ⟨x4_3, ex4_3, hf⟩ := k_lt_e hf
  obtain ⟨x5_4, ex5_4, hf⟩ := k_lt_e hf
  refine k_iload hA dX12_rowOf_14 2 rfl ?_
  refine k_aload_n (i := 0) hA dX12_rowOf_16 rfl 0 rfl ?_
  refine gt_MT_0_31 hA wd_1279 dX12_rowOf_17 ?_
  refine k_idiv hA dX12_rowOf_20 hn_2 ?_
  refine k_istore (lv' := [(4, .int x4_3), (0, .ref (a 0)), (3, .int x3), (5, .int x5)]) hA dX12_rowOf_21 ex4_3 (Nat.le_of_ble_eq_true rfl) rfl ?_
  refine k_iinc (j := 3) (v := x5_4) (lv' := [(5, .int x5_4), (4, .int x4_3), (0, .ref (a 0)), (3, .int x3)]) hA dX12_rowOf_23 rfl (k_inc ex5_4 kc_i_m1) (Nat.le_of_ble_eq_true rfl) rfl ?_
  refine k_goto (tgt := 8) hA dX12_rowOf_26 rfl ?_
  refine k_pick (lv' := [(0, .ref (a 0)), (3, .int x3), (4, .int x4_3), (5, .int x5_4)]) [2, 3, 1, 0] rfl ?_
  exact ih x3 x4_3 x5_4 hf

theorem m_M_rowOf (l : Launch) (G : k_G) (a : Nat → Nat) (rv : Value) (n : Nat) (t : k_St) (x1 : Int32) (x2 : Int32) (x3 : Int32) {r : Int32} (hf : f_M_rowOf n t x1 x2 x3 = some r) : k_CI l G yX12_rowOf cX12_rowOf 6 (some .int) 1 (k_WT G.2.1 a rv t) [.ref (a 0), .int x1, .int x2, .int x3] r (k_WT G.2.1 a rv t) := by
  refine k_startI (lv := [(0, .ref (a 0)), (1, .int x1), (2, .int x2), (3, .int x3)]) (by decide +kernel) (Nat.le_of_ble_eq_true rfl) rfl ?_
  intro p e s m args below meth c hA hr
  have hA : k_Amb p s m args meth c cX12_rowOf 6 "TaleSharesModel" G _ := hA
  unfold f_M_rowOf at hf
  obtain ⟨x5_1, ex5_1, hf⟩ := k_lt_e hf
  refine k_iload_n (i := 1) hA dX12_rowOf_0 rfl 1 rfl ?_
  refine k_istore (lv' := [(4, .int x1), (0, .ref (a 0)), (1, .int x1), (2, .int x2), (3, .int x3)]) hA dX12_rowOf_1 rfl (Nat.le_of_ble_eq_true rfl) rfl ?_
  refine k_iload_n (i := 2) hA dX12_rowOf_3 rfl 3 rfl ?_
  refine k_iconst hA dX12_rowOf_4 kc_i_1 ?_
  refine k_isub hA dX12_rowOf_5 ?_
  refine k_istore (lv' := [(5, .int x5_1), (4, .int x1), (0, .ref (a 0)), (1, .int x1), (2, .int x2), (3, .int x3)]) hA dX12_rowOf_6 ex5_1 (Nat.le_of_ble_eq_true rfl) rfl ?_
  refine k_pick (lv' := [(0, .ref (a 0)), (3, .int x3), (4, .int x1), (5, .int x5_1)]) [2, 5, 1, 0] rfl ?_
  exact m_M_rowOf_8 l G a rv n t hA hr n x3 x1 x5_1 hf

def f_M_meetsBy_33 (n : Nat) : Nat → Int32 → Int32 → k_St → Option k_St
  | 0, _, _, _ => none
  | k + 1, x1, x2, t => (if (t.1 18 4) ≤ x2 then some t else k_gi (((5 : Int32) * x1) + x2) 130 (k_lt (t.1 8 (((5 : Int32) * x1) + x2).toNatClampNeg) (fun x3_2 => (if (t.1 18 4) ≤ x3_2 then k_lt (x2 + (1 : Int32)) (fun x2_3 => f_M_meetsBy_33 n k x1 x2_3 t) else (if (k_b (f_M_canTell t x3_2)) = 0 then k_lt (x2 + (1 : Int32)) (fun x2_4 => f_M_meetsBy_33 n k x1 x2_4 t) else k_gi x2 5 (k_gi x3_2 5 (k_gi x2 5 (k_lt (k_sI t 10 x2.toNatClampNeg ((t.1 10 x2.toNatClampNeg) ||| (t.1 11 x3_2.toNatClampNeg))) (fun t_8 => k_lt (x2 + (1 : Int32)) (fun x2_9 => f_M_meetsBy_33 n k x1 x2_9 t_8))))))))))
def f_M_meetsBy_2 (n : Nat) : Nat → Int32 → Int32 → k_St → Option k_St
  | 0, _, _, _ => none
  | k + 1, x1, x2, t => (if (t.1 18 4) ≤ x2 then f_M_meetsBy_33 n n x1 (0 : Int32) t else k_gi x2 5 (k_gi x2 5 (k_lt (k_sI t 11 x2.toNatClampNeg (t.1 10 x2.toNatClampNeg)) (fun t_3 => k_lt (x2 + (1 : Int32)) (fun x2_4 => f_M_meetsBy_2 n k x1 x2_4 t_3)))))
def f_M_meetsBy (n : Nat) (x1 : Int32) (t : k_St) : Option k_St := f_M_meetsBy_2 n n x1 (0 : Int32) t
theorem m_M_meetsBy_33 {p : Program} (l : Launch) {e : Env} {s : State} {m : MethodId} {args : Array Value} {below : List Frame} {meth : Method} {c : Code} (G : k_G) (a : Nat → Nat) (rv : Value) (n : Nat) {w0 : va_W} {t' : k_St} (hA : k_Amb p s m args meth c cX12_meetsBy 4 "TaleSharesModel" G (va_A w0 s.heap.size)) (hr : meth.sig.returnType = none) : ∀ (k : Nat) (x1 : Int32) (x2 : Int32) (t : k_St), f_M_meetsBy_33 n k x1 x2 t = some t' → k_Go p l e (k_rm 3) s m args below meth c (k_QV G w0 (k_WT G.2.1 a rv t') args s below) 4 G (va_A w0 s.heap.size) (k_WT G.2.1 a rv t) 33 [(0, .ref (a 0)), (1, .int x1), (2, .int x2)] [] := by
  intro k
  induction k with
  | zero => intro x1 x2 t hf; cases hf
  | succ k ih =>
  intro x1 x2 t hf
  rw [f_M_meetsBy_33] at hf
  refine k_iload_n (i := 2) hA dX12_meetsBy_33 rfl 2 rfl ?_
  refine k_aload_n (i := 0) hA dX12_meetsBy_34 rfl 0 rfl ?_
  refine gt_MT_0_3 hA wd_1251 dX12_meetsBy_35 ?_
  refine gt_MT_18_4N hA rfl nf_277 dX12_meetsBy_38 ?_
  refine k_icmp_ge (tgt := 95) hA dX12_meetsBy_41 rfl (fun hc => ?_) (fun hc => ?_)
  · have hf := k_ift hc hf
    obtain rfl := k_r1 hf
    exact k_vret hA hr dX12_meetsBy_95
  have hf := k_iff hc hf
  obtain ⟨hi_1, hf⟩ := k_gi_e hf
  obtain ⟨x3_2, ex3_2, hf⟩ := k_lt_e hf
  refine k_aload_n (i := 0) hA dX12_meetsBy_44 rfl 0 rfl ?_
  refine gt_MT_0_27 hA wd_1275 dX12_meetsBy_45 ?_
  refine k_iconst hA dX12_meetsBy_48 kc_i_5 ?_
  refine k_iload_n (i := 1) hA dX12_meetsBy_49 rfl 1 rfl ?_
  refine k_imul hA dX12_meetsBy_50 ?_
  refine k_iload_n (i := 2) hA dX12_meetsBy_51 rfl 2 rfl ?_
  refine k_iadd hA dX12_meetsBy_52 ?_
  refine ld_MT_8 hA hi_1 dX12_meetsBy_53 ?_
  refine k_istore_n (i := 3) (lv' := [(3, .int x3_2), (0, .ref (a 0)), (1, .int x1), (2, .int x2)]) hA dX12_meetsBy_54 rfl ex3_2 (Nat.le_of_ble_eq_true rfl) rfl ?_
  refine k_iload_n (i := 3) hA dX12_meetsBy_55 rfl 0 rfl ?_
  refine k_aload_n (i := 0) hA dX12_meetsBy_56 rfl 1 rfl ?_
  refine gt_MT_0_3 hA wd_1251 dX12_meetsBy_57 ?_
  refine gt_MT_18_4N hA rfl nf_277 dX12_meetsBy_60 ?_
  refine k_icmp_ge (tgt := 89) hA dX12_meetsBy_63 rfl (fun hc => ?_) (fun hc => ?_)
  · have hf := k_ift hc hf
    obtain ⟨x2_3, ex2_3, hf⟩ := k_lt_e hf
    refine k_iinc (j := 3) (v := x2_3) (lv' := [(2, .int x2_3), (3, .int x3_2), (0, .ref (a 0)), (1, .int x1)]) hA dX12_meetsBy_89 rfl (k_inc ex2_3 kc_i_1) (Nat.le_of_ble_eq_true rfl) rfl ?_
    refine k_goto (tgt := 33) hA dX12_meetsBy_92 rfl ?_
    refine k_pick (lv' := [(0, .ref (a 0)), (1, .int x1), (2, .int x2_3)]) [2, 3, 0] rfl ?_
    exact ih x1 x2_3 t hf
  have hf := k_iff hc hf
  refine k_aload_n (i := 0) hA dX12_meetsBy_66 rfl 1 rfl ?_
  refine k_iload_n (i := 3) hA dX12_meetsBy_67 rfl 0 rfl ?_
  refine k_callVi (As := [.int x3_2]) (rest := []) hA (m_M_canTell l G a rv t x3_2 rfl) cd_X12_canTell wd_1732 (hc_MT_0 G.2.1 a rv t) rfl rfl (Nat.le_of_ble_eq_true rfl) rfl rfl (Nat.le_of_ble_eq_true rfl) dX12_meetsBy_68 ?_
  refine k_if_eq (tgt := 89) hA dX12_meetsBy_71 rfl (fun hc => ?_) (fun hc => ?_)
  · have hf := k_ift hc hf
    obtain ⟨x2_4, ex2_4, hf⟩ := k_lt_e hf
    refine k_iinc (j := 3) (v := x2_4) (lv' := [(2, .int x2_4), (3, .int x3_2), (0, .ref (a 0)), (1, .int x1)]) hA dX12_meetsBy_89 rfl (k_inc ex2_4 kc_i_1) (Nat.le_of_ble_eq_true rfl) rfl ?_
    refine k_goto (tgt := 33) hA dX12_meetsBy_92 rfl ?_
    refine k_pick (lv' := [(0, .ref (a 0)), (1, .int x1), (2, .int x2_4)]) [2, 3, 0] rfl ?_
    exact ih x1 x2_4 t hf
  have hf := k_iff hc hf
  obtain ⟨hi_5, hf⟩ := k_gi_e hf
  obtain ⟨hi_6, hf⟩ := k_gi_e hf
  obtain ⟨hi_7, hf⟩ := k_gi_e hf
  obtain ⟨t_8, et_8, hf⟩ := k_lt_e hf
  obtain ⟨x2_9, ex2_9, hf⟩ := k_lt_e hf
  refine k_aload_n (i := 0) hA dX12_meetsBy_74 rfl 1 rfl ?_
  refine gt_MT_0_29 hA wd_1277 dX12_meetsBy_75 ?_
  refine k_iload_n (i := 2) hA dX12_meetsBy_78 rfl 3 rfl ?_
  refine k_dup2_11 hA dX12_meetsBy_79 rfl rfl ?_
  refine ld_MT_10 hA hi_5 dX12_meetsBy_80 ?_
  refine k_aload_n (i := 0) hA dX12_meetsBy_81 rfl 1 rfl ?_
  refine gt_MT_0_30 hA wd_1278 dX12_meetsBy_82 ?_
  refine k_iload_n (i := 3) hA dX12_meetsBy_85 rfl 0 rfl ?_
  refine ld_MT_11 hA hi_6 dX12_meetsBy_86 ?_
  refine k_ior hA dX12_meetsBy_87 ?_
  refine sr_MT_10 hA hi_7 et_8 dX12_meetsBy_88 ?_
  refine k_iinc (j := 3) (v := x2_9) (lv' := [(2, .int x2_9), (3, .int x3_2), (0, .ref (a 0)), (1, .int x1)]) hA dX12_meetsBy_89 rfl (k_inc ex2_9 kc_i_1) (Nat.le_of_ble_eq_true rfl) rfl ?_
  refine k_goto (tgt := 33) hA dX12_meetsBy_92 rfl ?_
  refine k_pick (lv' := [(0, .ref (a 0)), (1, .int x1), (2, .int x2_9)]) [2, 3, 0] rfl ?_
  exact ih x1 x2_9 t_8 hf

theorem m_M_meetsBy_2 {p : Program} (l : Launch) {e : Env} {s : State} {m : MethodId} {args : Array Value} {below : List Frame} {meth : Method} {c : Code} (G : k_G) (a : Nat → Nat) (rv : Value) (n : Nat) {w0 : va_W} {t' : k_St} (hA : k_Amb p s m args meth c cX12_meetsBy 4 "TaleSharesModel" G (va_A w0 s.heap.size)) (hr : meth.sig.returnType = none) : ∀ (k : Nat) (x1 : Int32) (x2 : Int32) (t : k_St), f_M_meetsBy_2 n k x1 x2 t = some t' → k_Go p l e (k_rm 3) s m args below meth c (k_QV G w0 (k_WT G.2.1 a rv t') args s below) 4 G (va_A w0 s.heap.size) (k_WT G.2.1 a rv t) 2 [(0, .ref (a 0)), (1, .int x1), (2, .int x2)] [] := by
  intro k
  induction k with
  | zero => intro x1 x2 t hf; cases hf
  | succ k ih =>
  intro x1 x2 t hf
  rw [f_M_meetsBy_2] at hf
  refine k_iload_n (i := 2) hA dX12_meetsBy_2 rfl 2 rfl ?_
  refine k_aload_n (i := 0) hA dX12_meetsBy_3 rfl 0 rfl ?_
  refine gt_MT_0_3 hA wd_1251 dX12_meetsBy_4 ?_
  refine gt_MT_18_4N hA rfl nf_277 dX12_meetsBy_7 ?_
  refine k_icmp_ge (tgt := 31) hA dX12_meetsBy_10 rfl (fun hc => ?_) (fun hc => ?_)
  · have hf := k_ift hc hf
    refine k_iconst hA dX12_meetsBy_31 kc_i_0 ?_
    refine k_istore_n (i := 2) (lv' := [(2, .int (0 : Int32)), (0, .ref (a 0)), (1, .int x1)]) hA dX12_meetsBy_32 rfl rfl (Nat.le_of_ble_eq_true rfl) rfl ?_
    refine k_pick (lv' := [(0, .ref (a 0)), (1, .int x1), (2, .int (0 : Int32))]) [1, 2, 0] rfl ?_
    exact m_M_meetsBy_33 l G a rv n hA hr n x1 (0 : Int32) t hf
  have hf := k_iff hc hf
  obtain ⟨hi_1, hf⟩ := k_gi_e hf
  obtain ⟨hi_2, hf⟩ := k_gi_e hf
  obtain ⟨t_3, et_3, hf⟩ := k_lt_e hf
  obtain ⟨x2_4, ex2_4, hf⟩ := k_lt_e hf
  refine k_aload_n (i := 0) hA dX12_meetsBy_13 rfl 0 rfl ?_
  refine gt_MT_0_30 hA wd_1278 dX12_meetsBy_14 ?_
  refine k_iload_n (i := 2) hA dX12_meetsBy_17 rfl 2 rfl ?_
  refine k_aload_n (i := 0) hA dX12_meetsBy_18 rfl 0 rfl ?_
  refine gt_MT_0_29 hA wd_1277 dX12_meetsBy_19 ?_
  refine k_iload_n (i := 2) hA dX12_meetsBy_22 rfl 2 rfl ?_
  refine ld_MT_10 hA hi_1 dX12_meetsBy_23 ?_
  refine sr_MT_11 hA hi_2 et_3 dX12_meetsBy_24 ?_
  refine k_iinc (j := 2) (v := x2_4) (lv' := [(2, .int x2_4), (0, .ref (a 0)), (1, .int x1)]) hA dX12_meetsBy_25 rfl (k_inc ex2_4 kc_i_1) (Nat.le_of_ble_eq_true rfl) rfl ?_
  refine k_goto (tgt := 2) hA dX12_meetsBy_28 rfl ?_
  refine k_pick (lv' := [(0, .ref (a 0)), (1, .int x1), (2, .int x2_4)]) [1, 2, 0] rfl ?_
  exact ih x1 x2_4 t_3 hf

theorem m_M_meetsBy (l : Launch) (G : k_G) (a : Nat → Nat) (rv : Value) (n : Nat) (x1 : Int32) (t : k_St) {t' : k_St} (hf : f_M_meetsBy n x1 t = some t') : k_CV l G yX12_meetsBy cX12_meetsBy 4 none 3 (k_WT G.2.1 a rv t) [.ref (a 0), .int x1] (k_WT G.2.1 a rv t') := by
  refine k_startV (lv := [(0, .ref (a 0)), (1, .int x1)]) (by decide +kernel) (Nat.le_of_ble_eq_true rfl) rfl ?_
  intro p e s m args below meth c hA hr
  have hA : k_Amb p s m args meth c cX12_meetsBy 4 "TaleSharesModel" G _ := hA
  unfold f_M_meetsBy at hf
  refine k_iconst hA dX12_meetsBy_0 kc_i_0 ?_
  refine k_istore_n (i := 2) (lv' := [(2, .int (0 : Int32)), (0, .ref (a 0)), (1, .int x1)]) hA dX12_meetsBy_1 rfl rfl (Nat.le_of_ble_eq_true rfl) rfl ?_
  refine k_pick (lv' := [(0, .ref (a 0)), (1, .int x1), (2, .int (0 : Int32))]) [1, 2, 0] rfl ?_
  exact m_M_meetsBy_2 l G a rv n hA hr n x1 (0 : Int32) t hf

