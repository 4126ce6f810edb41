theorem dX12_feed_0 : decode cX12_feed 0 = .ok (.aload_n 0, 1) := by decide +kernel
theorem dX12_feed_1 : decode cX12_feed 1 = .ok (.iconst 0, 1) := by decide +kernel
theorem dX12_feed_2 : decode cX12_feed 2 = .ok (.putfield 66, 3) := by decide +kernel
theorem dX12_feed_5 : decode cX12_feed 5 = .ok (.aload_n 0, 1) := by decide +kernel
theorem dX12_feed_6 : decode cX12_feed 6 = .ok (.getfield 304, 3) := by decide +kernel
theorem dX12_feed_9 : decode cX12_feed 9 = .ok (.bipush 20, 2) := by decide +kernel
theorem dX12_feed_11 : decode cX12_feed 11 = .ok (.iadd, 1) := by decide +kernel
theorem dX12_feed_12 : decode cX12_feed 12 = .ok (.sipush 900, 3) := by decide +kernel
theorem dX12_feed_15 : decode cX12_feed 15 = .ok (.if_icmp .le 5, 3) := by decide +kernel
theorem dX12_feed_18 : decode cX12_feed 18 = .ok (.iconst (-1), 1) := by decide +kernel
theorem dX12_feed_19 : decode cX12_feed 19 = .ok (.ireturn, 1) := by decide +kernel
theorem dX12_feed_20 : decode cX12_feed 20 = .ok (.iconst 0, 1) := by decide +kernel
theorem dX12_feed_21 : decode cX12_feed 21 = .ok (.istore 6, 2) := by decide +kernel
theorem dX12_feed_23 : decode cX12_feed 23 = .ok (.iload 6, 2) := by decide +kernel
theorem dX12_feed_25 : decode cX12_feed 25 = .ok (.bipush 20, 2) := by decide +kernel
theorem dX12_feed_27 : decode cX12_feed 27 = .ok (.if_icmp .ge 90, 3) := by decide +kernel
theorem dX12_feed_30 : decode cX12_feed 30 = .ok (.iload 6, 2) := by decide +kernel
theorem dX12_feed_32 : decode cX12_feed 32 = .ok (.iconst 4, 1) := by decide +kernel
theorem dX12_feed_33 : decode cX12_feed 33 = .ok (.if_icmp .ge 7, 3) := by decide +kernel
theorem dX12_feed_36 : decode cX12_feed 36 = .ok (.iload_n 1, 1) := by decide +kernel
theorem dX12_feed_37 : decode cX12_feed 37 = .ok (.goto 39, 3) := by decide +kernel
theorem dX12_feed_40 : decode cX12_feed 40 = .ok (.iload 6, 2) := by decide +kernel
theorem dX12_feed_42 : decode cX12_feed 42 = .ok (.bipush 8, 2) := by decide +kernel
theorem dX12_feed_44 : decode cX12_feed 44 = .ok (.if_icmp .ge 7, 3) := by decide +kernel
theorem dX12_feed_47 : decode cX12_feed 47 = .ok (.iload_n 2, 1) := by decide +kernel
theorem dX12_feed_48 : decode cX12_feed 48 = .ok (.goto 28, 3) := by decide +kernel
theorem dX12_feed_51 : decode cX12_feed 51 = .ok (.iload 6, 2) := by decide +kernel
theorem dX12_feed_53 : decode cX12_feed 53 = .ok (.bipush 12, 2) := by decide +kernel
theorem dX12_feed_55 : decode cX12_feed 55 = .ok (.if_icmp .ge 7, 3) := by decide +kernel
theorem dX12_feed_58 : decode cX12_feed 58 = .ok (.iload_n 3, 1) := by decide +kernel
theorem dX12_feed_59 : decode cX12_feed 59 = .ok (.goto 17, 3) := by decide +kernel
theorem dX12_feed_62 : decode cX12_feed 62 = .ok (.iload 6, 2) := by decide +kernel
theorem dX12_feed_64 : decode cX12_feed 64 = .ok (.bipush 16, 2) := by decide +kernel
theorem dX12_feed_66 : decode cX12_feed 66 = .ok (.if_icmp .ge 8, 3) := by decide +kernel
theorem dX12_feed_69 : decode cX12_feed 69 = .ok (.iload 4, 2) := by decide +kernel
theorem dX12_feed_71 : decode cX12_feed 71 = .ok (.goto 5, 3) := by decide +kernel
theorem dX12_feed_74 : decode cX12_feed 74 = .ok (.iload 5, 2) := by decide +kernel
theorem dX12_feed_76 : decode cX12_feed 76 = .ok (.istore 7, 2) := by decide +kernel
theorem dX12_feed_78 : decode cX12_feed 78 = .ok (.aload_n 0, 1) := by decide +kernel
theorem dX12_feed_79 : decode cX12_feed 79 = .ok (.getfield 13, 3) := by decide +kernel
theorem dX12_feed_82 : decode cX12_feed 82 = .ok (.aload_n 0, 1) := by decide +kernel
theorem dX12_feed_83 : decode cX12_feed 83 = .ok (.getfield 304, 3) := by decide +kernel
theorem dX12_feed_86 : decode cX12_feed 86 = .ok (.iload 7, 2) := by decide +kernel
theorem dX12_feed_88 : decode cX12_feed 88 = .ok (.bipush 24, 2) := by decide +kernel
theorem dX12_feed_90 : decode cX12_feed 90 = .ok (.bipush 8, 2) := by decide +kernel
theorem dX12_feed_92 : decode cX12_feed 92 = .ok (.iload 6, 2) := by decide +kernel
theorem dX12_feed_94 : decode cX12_feed 94 = .ok (.iconst 4, 1) := by decide +kernel
theorem dX12_feed_95 : decode cX12_feed 95 = .ok (.irem, 1) := by decide +kernel
theorem dX12_feed_96 : decode cX12_feed 96 = .ok (.imul, 1) := by decide +kernel
theorem dX12_feed_97 : decode cX12_feed 97 = .ok (.isub, 1) := by decide +kernel
theorem dX12_feed_98 : decode cX12_feed 98 = .ok (.ishr, 1) := by decide +kernel
theorem dX12_feed_99 : decode cX12_feed 99 = .ok (.i2b, 1) := by decide +kernel
theorem dX12_feed_100 : decode cX12_feed 100 = .ok (.bastore, 1) := by decide +kernel
theorem dX12_feed_101 : decode cX12_feed 101 = .ok (.aload_n 0, 1) := by decide +kernel
theorem dX12_feed_102 : decode cX12_feed 102 = .ok (.dup, 1) := by decide +kernel
theorem dX12_feed_103 : decode cX12_feed 103 = .ok (.getfield 304, 3) := by decide +kernel
theorem dX12_feed_106 : decode cX12_feed 106 = .ok (.iconst 1, 1) := by decide +kernel
theorem dX12_feed_107 : decode cX12_feed 107 = .ok (.iadd, 1) := by decide +kernel
theorem dX12_feed_108 : decode cX12_feed 108 = .ok (.putfield 304, 3) := by decide +kernel
theorem dX12_feed_111 : decode cX12_feed 111 = .ok (.iinc 6 1, 3) := by decide +kernel
theorem dX12_feed_114 : decode cX12_feed 114 = .ok (.goto (-91), 3) := by decide +kernel
theorem dX12_feed_117 : decode cX12_feed 117 = .ok (.aload_n 0, 1) := by decide +kernel
theorem dX12_feed_118 : decode cX12_feed 118 = .ok (.getfield 304, 3) := by decide +kernel
theorem dX12_feed_121 : decode cX12_feed 121 = .ok (.ireturn, 1) := by decide +kernel
theorem dX12_fault_0 : decode cX12_fault 0 = .ok (.aload_n 0, 1) := by decide +kernel
theorem dX12_fault_1 : decode cX12_fault 1 = .ok (.iconst 0, 1) := by decide +kernel
theorem dX12_fault_2 : decode cX12_fault 2 = .ok (.putfield 66, 3) := by decide +kernel
theorem dX12_fault_5 : decode cX12_fault 5 = .ok (.aload_n 0, 1) := by decide +kernel
theorem dX12_fault_6 : decode cX12_fault 6 = .ok (.getfield 124, 3) := by decide +kernel
theorem dX12_fault_9 : decode cX12_fault 9 = .ok (.ireturn, 1) := by decide +kernel
theorem dX12_where_0 : decode cX12_where 0 = .ok (.aload_n 0, 1) := by decide +kernel
theorem dX12_where_1 : decode cX12_where 1 = .ok (.iconst 0, 1) := by decide +kernel
theorem dX12_where_2 : decode cX12_where 2 = .ok (.putfield 66, 3) := by decide +kernel
theorem dX12_where_5 : decode cX12_where 5 = .ok (.aload_n 0, 1) := by decide +kernel
theorem dX12_where_6 : decode cX12_where 6 = .ok (.getfield 9, 3) := by decide +kernel
theorem dX12_where_9 : decode cX12_where 9 = .ok (.ireturn, 1) := by decide +kernel
theorem dX12_piece_0 : decode cX12_piece 0 = .ok (.aload_n 0, 1) := by decide +kernel
theorem dX12_piece_1 : decode cX12_piece 1 = .ok (.iconst 0, 1) := by decide +kernel
theorem dX12_piece_2 : decode cX12_piece 2 = .ok (.putfield 66, 3) := by decide +kernel
theorem dX12_piece_5 : decode cX12_piece 5 = .ok (.aload_n 0, 1) := by decide +kernel
theorem dX12_piece_6 : decode cX12_piece 6 = .ok (.iload_n 1, 1) := by decide +kernel
theorem dX12_piece_7 : decode cX12_piece 7 = .ok (.invokevirtual 347, 3) := by decide +kernel
theorem dX12_piece_10 : decode cX12_piece 10 = .ok (.ifCond .eq 12, 3) := by decide +kernel
theorem dX12_piece_13 : decode cX12_piece 13 = .ok (.iload_n 2, 1) := by decide +kernel
theorem dX12_piece_14 : decode cX12_piece 14 = .ok (.iconst 0, 1) := by decide +kernel
theorem dX12_piece_15 : decode cX12_piece 15 = .ok (.iconst 3, 1) := by decide +kernel
theorem dX12_piece_16 : decode cX12_piece 16 = .ok (.invokestatic 145, 3) := by decide +kernel
theorem dX12_piece_19 : decode cX12_piece 19 = .ok (.ifCond .ne 9, 3) := by decide +kernel
theorem dX12_piece_22 : decode cX12_piece 22 = .ok (.aload_n 0, 1) := by decide +kernel
theorem dX12_piece_23 : decode cX12_piece 23 = .ok (.iconst 1, 1) := by decide +kernel
theorem dX12_piece_24 : decode cX12_piece 24 = .ok (.invokevirtual 72, 3) := by decide +kernel
theorem dX12_piece_27 : decode cX12_piece 27 = .ok (.ireturn, 1) := by decide +kernel
theorem dX12_piece_28 : decode cX12_piece 28 = .ok (.iload_n 2, 1) := by decide +kernel
theorem dX12_piece_29 : decode cX12_piece 29 = .ok (.ifCond .ne 17, 3) := by decide +kernel
theorem dX12_piece_32 : decode cX12_piece 32 = .ok (.aload_n 0, 1) := by decide +kernel
theorem dX12_piece_33 : decode cX12_piece 33 = .ok (.aload_n 0, 1) := by decide +kernel
theorem dX12_piece_34 : decode cX12_piece 34 = .ok (.getfield 311, 3) := by decide +kernel
theorem dX12_piece_37 : decode cX12_piece 37 = .ok (.getfield 262, 3) := by decide +kernel
theorem dX12_piece_40 : decode cX12_piece 40 = .ok (.iload_n 1, 1) := by decide +kernel
theorem dX12_piece_41 : decode cX12_piece 41 = .ok (.iaload, 1) := by decide +kernel
theorem dX12_piece_42 : decode cX12_piece 42 = .ok (.invokevirtual 76, 3) := by decide +kernel
theorem dX12_piece_45 : decode cX12_piece 45 = .ok (.ireturn, 1) := by decide +kernel
theorem dX12_piece_46 : decode cX12_piece 46 = .ok (.iload_n 2, 1) := by decide +kernel
theorem dX12_piece_47 : decode cX12_piece 47 = .ok (.iconst 1, 1) := by decide +kernel
theorem dX12_piece_48 : decode cX12_piece 48 = .ok (.if_icmp .ne 17, 3) := by decide +kernel
theorem dX12_piece_51 : decode cX12_piece 51 = .ok (.aload_n 0, 1) := by decide +kernel
theorem dX12_piece_52 : decode cX12_piece 52 = .ok (.aload_n 0, 1) := by decide +kernel
theorem dX12_piece_53 : decode cX12_piece 53 = .ok (.getfield 311, 3) := by decide +kernel
theorem dX12_piece_56 : decode cX12_piece 56 = .ok (.getfield 270, 3) := by decide +kernel
theorem dX12_piece_59 : decode cX12_piece 59 = .ok (.iload_n 1, 1) := by decide +kernel
theorem dX12_piece_60 : decode cX12_piece 60 = .ok (.iaload, 1) := by decide +kernel
theorem dX12_piece_61 : decode cX12_piece 61 = .ok (.invokevirtual 76, 3) := by decide +kernel
theorem dX12_piece_64 : decode cX12_piece 64 = .ok (.ireturn, 1) := by decide +kernel
theorem dX12_piece_65 : decode cX12_piece 65 = .ok (.iconst 0, 1) := by decide +kernel
theorem dX12_piece_66 : decode cX12_piece 66 = .ok (.istore_n 3, 1) := by decide +kernel
theorem dX12_piece_67 : decode cX12_piece 67 = .ok (.iload_n 2, 1) := by decide +kernel
theorem dX12_piece_68 : decode cX12_piece 68 = .ok (.iconst 2, 1) := by decide +kernel
theorem dX12_piece_69 : decode cX12_piece 69 = .ok (.if_icmp .ne 55, 3) := by decide +kernel
theorem dX12_piece_72 : decode cX12_piece 72 = .ok (.iconst 0, 1) := by decide +kernel
theorem dX12_piece_73 : decode cX12_piece 73 = .ok (.istore 4, 2) := by decide +kernel
theorem dX12_piece_75 : decode cX12_piece 75 = .ok (.iload 4, 2) := by decide +kernel
theorem dX12_piece_77 : decode cX12_piece 77 = .ok (.aload_n 0, 1) := by decide +kernel
theorem dX12_piece_78 : decode cX12_piece 78 = .ok (.getfield 311, 3) := by decide +kernel
theorem dX12_piece_81 : decode cX12_piece 81 = .ok (.getfield 210, 3) := by decide +kernel
theorem dX12_piece_84 : decode cX12_piece 84 = .ok (.if_icmp .ge 37, 3) := by decide +kernel
theorem dX12_piece_87 : decode cX12_piece 87 = .ok (.iload_n 3, 1) := by decide +kernel
theorem dX12_piece_88 : decode cX12_piece 88 = .ok (.aload_n 0, 1) := by decide +kernel
theorem dX12_piece_89 : decode cX12_piece 89 = .ok (.getfield 311, 3) := by decide +kernel
theorem dX12_piece_92 : decode cX12_piece 92 = .ok (.getfield 270, 3) := by decide +kernel
theorem dX12_piece_95 : decode cX12_piece 95 = .ok (.iload 4, 2) := by decide +kernel
theorem dX12_piece_97 : decode cX12_piece 97 = .ok (.iaload, 1) := by decide +kernel
theorem dX12_piece_98 : decode cX12_piece 98 = .ok (.iload_n 1, 1) := by decide +kernel
theorem dX12_piece_99 : decode cX12_piece 99 = .ok (.invokestatic 273, 3) := by decide +kernel
theorem dX12_piece_102 : decode cX12_piece 102 = .ok (.ifCond .eq 10, 3) := by decide +kernel
theorem dX12_piece_105 : decode cX12_piece 105 = .ok (.iconst 1, 1) := by decide +kernel
theorem dX12_piece_106 : decode cX12_piece 106 = .ok (.iload 4, 2) := by decide +kernel
theorem dX12_piece_108 : decode cX12_piece 108 = .ok (.ishl, 1) := by decide +kernel
theorem dX12_piece_109 : decode cX12_piece 109 = .ok (.goto 4, 3) := by decide +kernel
theorem dX12_piece_112 : decode cX12_piece 112 = .ok (.iconst 0, 1) := by decide +kernel
theorem dX12_piece_113 : decode cX12_piece 113 = .ok (.ior, 1) := by decide +kernel
theorem dX12_piece_114 : decode cX12_piece 114 = .ok (.istore_n 3, 1) := by decide +kernel
theorem dX12_piece_115 : decode cX12_piece 115 = .ok (.iinc 4 1, 3) := by decide +kernel
theorem dX12_piece_118 : decode cX12_piece 118 = .ok (.goto (-43), 3) := by decide +kernel
theorem dX12_piece_121 : decode cX12_piece 121 = .ok (.goto 49, 3) := by decide +kernel
theorem dX12_piece_124 : decode cX12_piece 124 = .ok (.iconst 0, 1) := by decide +kernel
theorem dX12_piece_125 : decode cX12_piece 125 = .ok (.istore 4, 2) := by decide +kernel
theorem dX12_piece_127 : decode cX12_piece 127 = .ok (.iload 4, 2) := by decide +kernel
theorem dX12_piece_129 : decode cX12_piece 129 = .ok (.aload_n 0, 1) := by decide +kernel
theorem dX12_piece_130 : decode cX12_piece 130 = .ok (.getfield 311, 3) := by decide +kernel
theorem dX12_piece_133 : decode cX12_piece 133 = .ok (.getfield 277, 3) := by decide +kernel
theorem dX12_piece_136 : decode cX12_piece 136 = .ok (.if_icmp .ge 34, 3) := by decide +kernel
theorem dX12_piece_139 : decode cX12_piece 139 = .ok (.iload_n 3, 1) := by decide +kernel
theorem dX12_piece_140 : decode cX12_piece 140 = .ok (.aload_n 0, 1) := by decide +kernel
theorem dX12_piece_141 : decode cX12_piece 141 = .ok (.getfield 17, 3) := by decide +kernel
theorem dX12_piece_144 : decode cX12_piece 144 = .ok (.iload 4, 2) := by decide +kernel
theorem dX12_piece_146 : decode cX12_piece 146 = .ok (.iaload, 1) := by decide +kernel
theorem dX12_piece_147 : decode cX12_piece 147 = .ok (.iload_n 1, 1) := by decide +kernel
theorem dX12_piece_148 : decode cX12_piece 148 = .ok (.invokestatic 273, 3) := by decide +kernel
theorem dX12_piece_151 : decode cX12_piece 151 = .ok (.ifCond .eq 10, 3) := by decide +kernel
theorem dX12_piece_154 : decode cX12_piece 154 = .ok (.iconst 1, 1) := by decide +kernel
theorem dX12_piece_155 : decode cX12_piece 155 = .ok (.iload 4, 2) := by decide +kernel
theorem dX12_piece_157 : decode cX12_piece 157 = .ok (.ishl, 1) := by decide +kernel
theorem dX12_piece_158 : decode cX12_piece 158 = .ok (.goto 4, 3) := by decide +kernel
theorem dX12_piece_161 : decode cX12_piece 161 = .ok (.iconst 0, 1) := by decide +kernel
theorem dX12_piece_162 : decode cX12_piece 162 = .ok (.ior, 1) := by decide +kernel
theorem dX12_piece_163 : decode cX12_piece 163 = .ok (.istore_n 3, 1) := by decide +kernel
theorem dX12_piece_164 : decode cX12_piece 164 = .ok (.iinc 4 1, 3) := by decide +kernel
theorem dX12_piece_167 : decode cX12_piece 167 = .ok (.goto (-40), 3) := by decide +kernel
theorem dX12_piece_170 : decode cX12_piece 170 = .ok (.aload_n 0, 1) := by decide +kernel
theorem dX12_piece_171 : decode cX12_piece 171 = .ok (.iload_n 3, 1) := by decide +kernel
theorem dX12_piece_172 : decode cX12_piece 172 = .ok (.invokevirtual 76, 3) := by decide +kernel
theorem dX12_piece_175 : decode cX12_piece 175 = .ok (.ireturn, 1) := by decide +kernel
theorem dX12_isPiece_0 : decode cX12_isPiece 0 = .ok (.aload_n 0, 1) := by decide +kernel
theorem dX12_isPiece_1 : decode cX12_isPiece 1 = .ok (.getfield 311, 3) := by decide +kernel
theorem dX12_isPiece_4 : decode cX12_isPiece 4 = .ok (.ifnull 22, 3) := by decide +kernel
theorem dX12_isPiece_7 : decode cX12_isPiece 7 = .ok (.iload_n 1, 1) := by decide +kernel
theorem dX12_isPiece_8 : decode cX12_isPiece 8 = .ok (.ifCond .lt 18, 3) := by decide +kernel
theorem dX12_isPiece_11 : decode cX12_isPiece 11 = .ok (.iload_n 1, 1) := by decide +kernel
theorem dX12_isPiece_12 : decode cX12_isPiece 12 = .ok (.aload_n 0, 1) := by decide +kernel
theorem dX12_isPiece_13 : decode cX12_isPiece 13 = .ok (.getfield 311, 3) := by decide +kernel
theorem dX12_isPiece_16 : decode cX12_isPiece 16 = .ok (.getfield 210, 3) := by decide +kernel
theorem dX12_isPiece_19 : decode cX12_isPiece 19 = .ok (.if_icmp .ge 7, 3) := by decide +kernel
theorem dX12_isPiece_22 : decode cX12_isPiece 22 = .ok (.iconst 1, 1) := by decide +kernel
theorem dX12_isPiece_23 : decode cX12_isPiece 23 = .ok (.goto 4, 3) := by decide +kernel
theorem dX12_isPiece_26 : decode cX12_isPiece 26 = .ok (.iconst 0, 1) := by decide +kernel
theorem dX12_isPiece_27 : decode cX12_isPiece 27 = .ok (.ireturn, 1) := by decide +kernel
theorem dX12_refused_0 : decode cX12_refused 0 = .ok (.aload_n 0, 1) := by decide +kernel
theorem dX12_refused_1 : decode cX12_refused 1 = .ok (.iload_n 1, 1) := by decide +kernel
theorem dX12_refused_2 : decode cX12_refused 2 = .ok (.putfield 69, 3) := by decide +kernel
theorem dX12_refused_5 : decode cX12_refused 5 = .ok (.aload_n 0, 1) := by decide +kernel
theorem dX12_refused_6 : decode cX12_refused 6 = .ok (.iconst (-1), 1) := by decide +kernel
theorem dX12_refused_7 : decode cX12_refused 7 = .ok (.putfield 9, 3) := by decide +kernel
theorem dX12_refused_10 : decode cX12_refused 10 = .ok (.iconst (-1), 1) := by decide +kernel
theorem dX12_refused_11 : decode cX12_refused 11 = .ok (.ireturn, 1) := by decide +kernel
theorem dX12_good_0 : decode cX12_good 0 = .ok (.aload_n 0, 1) := by decide +kernel
theorem dX12_good_1 : decode cX12_good 1 = .ok (.iconst 0, 1) := by decide +kernel
theorem dX12_good_2 : decode cX12_good 2 = .ok (.putfield 69, 3) := by decide +kernel
theorem dX12_good_5 : decode cX12_good 5 = .ok (.aload_n 0, 1) := by decide +kernel
theorem dX12_good_6 : decode cX12_good 6 = .ok (.iconst (-1), 1) := by decide +kernel
theorem dX12_good_7 : decode cX12_good 7 = .ok (.putfield 9, 3) := by decide +kernel
theorem dX12_good_10 : decode cX12_good 10 = .ok (.iload_n 1, 1) := by decide +kernel
theorem dX12_good_11 : decode cX12_good 11 = .ok (.ireturn, 1) := by decide +kernel
theorem dX12_house_0 : decode cX12_house 0 = .ok (.aload_n 0, 1) := by decide +kernel
theorem dX12_house_1 : decode cX12_house 1 = .ok (.iconst 0, 1) := by decide +kernel
theorem dX12_house_2 : decode cX12_house 2 = .ok (.putfield 66, 3) := by decide +kernel
theorem dX12_house_5 : decode cX12_house 5 = .ok (.aload_n 0, 1) := by decide +kernel
theorem dX12_house_6 : decode cX12_house 6 = .ok (.iload_n 1, 1) := by decide +kernel
theorem dX12_house_7 : decode cX12_house 7 = .ok (.invokevirtual 350, 3) := by decide +kernel
theorem dX12_house_10 : decode cX12_house 10 = .ok (.ifCond .eq 12, 3) := by decide +kernel
theorem dX12_house_13 : decode cX12_house 13 = .ok (.iload_n 2, 1) := by decide +kernel
theorem dX12_house_14 : decode cX12_house 14 = .ok (.iconst 0, 1) := by decide +kernel
theorem dX12_house_15 : decode cX12_house 15 = .ok (.iconst 5, 1) := by decide +kernel
theorem dX12_house_16 : decode cX12_house 16 = .ok (.invokestatic 145, 3) := by decide +kernel
theorem dX12_house_19 : decode cX12_house 19 = .ok (.ifCond .ne 9, 3) := by decide +kernel
theorem dX12_house_22 : decode cX12_house 22 = .ok (.aload_n 0, 1) := by decide +kernel
theorem dX12_house_23 : decode cX12_house 23 = .ok (.iconst 1, 1) := by decide +kernel
theorem dX12_house_24 : decode cX12_house 24 = .ok (.invokevirtual 72, 3) := by decide +kernel
theorem dX12_house_27 : decode cX12_house 27 = .ok (.ireturn, 1) := by decide +kernel
theorem dX12_house_28 : decode cX12_house 28 = .ok (.iload_n 2, 1) := by decide +kernel
theorem dX12_house_29 : decode cX12_house 29 = .ok (.tableswitch 112 0 4 #[35, 49, 63, 77, 88], 35) := by decide +kernel
theorem dX12_house_64 : decode cX12_house 64 = .ok (.aload_n 0, 1) := by decide +kernel
theorem dX12_house_65 : decode cX12_house 65 = .ok (.aload_n 0, 1) := by decide +kernel
theorem dX12_house_66 : decode cX12_house 66 = .ok (.getfield 311, 3) := by decide +kernel
theorem dX12_house_69 : decode cX12_house 69 = .ok (.getfield 286, 3) := by decide +kernel
theorem dX12_house_72 : decode cX12_house 72 = .ok (.iload_n 1, 1) := by decide +kernel
theorem dX12_house_73 : decode cX12_house 73 = .ok (.iaload, 1) := by decide +kernel
theorem dX12_house_74 : decode cX12_house 74 = .ok (.invokevirtual 76, 3) := by decide +kernel
theorem dX12_house_77 : decode cX12_house 77 = .ok (.ireturn, 1) := by decide +kernel
theorem dX12_house_78 : decode cX12_house 78 = .ok (.aload_n 0, 1) := by decide +kernel
theorem dX12_house_79 : decode cX12_house 79 = .ok (.aload_n 0, 1) := by decide +kernel
theorem dX12_house_80 : decode cX12_house 80 = .ok (.getfield 311, 3) := by decide +kernel
theorem dX12_house_83 : decode cX12_house 83 = .ok (.getfield 288, 3) := by decide +kernel
theorem dX12_house_86 : decode cX12_house 86 = .ok (.iload_n 1, 1) := by decide +kernel
theorem dX12_house_87 : decode cX12_house 87 = .ok (.iaload, 1) := by decide +kernel
theorem dX12_house_88 : decode cX12_house 88 = .ok (.invokevirtual 76, 3) := by decide +kernel
theorem dX12_house_91 : decode cX12_house 91 = .ok (.ireturn, 1) := by decide +kernel
theorem dX12_house_92 : decode cX12_house 92 = .ok (.aload_n 0, 1) := by decide +kernel
theorem dX12_house_93 : decode cX12_house 93 = .ok (.aload_n 0, 1) := by decide +kernel
theorem dX12_house_94 : decode cX12_house 94 = .ok (.getfield 311, 3) := by decide +kernel
theorem dX12_house_97 : decode cX12_house 97 = .ok (.getfield 290, 3) := by decide +kernel
theorem dX12_house_100 : decode cX12_house 100 = .ok (.iload_n 1, 1) := by decide +kernel
theorem dX12_house_101 : decode cX12_house 101 = .ok (.iaload, 1) := by decide +kernel
theorem dX12_house_102 : decode cX12_house 102 = .ok (.invokevirtual 76, 3) := by decide +kernel
theorem dX12_house_105 : decode cX12_house 105 = .ok (.ireturn, 1) := by decide +kernel
theorem dX12_house_106 : decode cX12_house 106 = .ok (.aload_n 0, 1) := by decide +kernel
theorem dX12_house_107 : decode cX12_house 107 = .ok (.aload_n 0, 1) := by decide +kernel
theorem dX12_house_108 : decode cX12_house 108 = .ok (.getfield 17, 3) := by decide +kernel
theorem dX12_house_111 : decode cX12_house 111 = .ok (.iload_n 1, 1) := by decide +kernel
theorem dX12_house_112 : decode cX12_house 112 = .ok (.iaload, 1) := by decide +kernel
theorem dX12_house_113 : decode cX12_house 113 = .ok (.invokevirtual 76, 3) := by decide +kernel
theorem dX12_house_116 : decode cX12_house 116 = .ok (.ireturn, 1) := by decide +kernel
theorem dX12_house_117 : decode cX12_house 117 = .ok (.aload_n 0, 1) := by decide +kernel
theorem dX12_house_118 : decode cX12_house 118 = .ok (.aload_n 0, 1) := by decide +kernel
theorem dX12_house_119 : decode cX12_house 119 = .ok (.getfield 311, 3) := by decide +kernel
theorem dX12_house_122 : decode cX12_house 122 = .ok (.getfield 297, 3) := by decide +kernel
theorem dX12_house_125 : decode cX12_house 125 = .ok (.iload_n 1, 1) := by decide +kernel
theorem dX12_house_126 : decode cX12_house 126 = .ok (.invokestatic 273, 3) := by decide +kernel
theorem dX12_house_129 : decode cX12_house 129 = .ok (.ifCond .eq 7, 3) := by decide +kernel
theorem dX12_house_132 : decode cX12_house 132 = .ok (.iconst 1, 1) := by decide +kernel
theorem dX12_house_133 : decode cX12_house 133 = .ok (.goto 4, 3) := by decide +kernel
theorem dX12_house_136 : decode cX12_house 136 = .ok (.iconst 0, 1) := by decide +kernel
theorem dX12_house_137 : decode cX12_house 137 = .ok (.invokevirtual 76, 3) := by decide +kernel
theorem dX12_house_140 : decode cX12_house 140 = .ok (.ireturn, 1) := by decide +kernel
theorem dX12_house_141 : decode cX12_house 141 = .ok (.aload_n 0, 1) := by decide +kernel
theorem dX12_house_142 : decode cX12_house 142 = .ok (.aload_n 0, 1) := by decide +kernel
theorem dX12_house_143 : decode cX12_house 143 = .ok (.aload_n 0, 1) := by decide +kernel
theorem dX12_house_144 : decode cX12_house 144 = .ok (.getfield 17, 3) := by decide +kernel
theorem dX12_house_147 : decode cX12_house 147 = .ok (.iload_n 1, 1) := by decide +kernel
theorem dX12_house_148 : decode cX12_house 148 = .ok (.iaload, 1) := by decide +kernel
theorem dX12_house_149 : decode cX12_house 149 = .ok (.invokevirtual 353, 3) := by decide +kernel
theorem dX12_house_152 : decode cX12_house 152 = .ok (.ifCond .eq 7, 3) := by decide +kernel
theorem dX12_house_155 : decode cX12_house 155 = .ok (.iconst 1, 1) := by decide +kernel
theorem dX12_house_156 : decode cX12_house 156 = .ok (.goto 4, 3) := by decide +kernel
theorem dX12_house_159 : decode cX12_house 159 = .ok (.iconst 0, 1) := by decide +kernel
theorem dX12_house_160 : decode cX12_house 160 = .ok (.invokevirtual 76, 3) := by decide +kernel
theorem dX12_house_163 : decode cX12_house 163 = .ok (.ireturn, 1) := by decide +kernel
theorem dX12_isHouse_0 : decode cX12_isHouse 0 = .ok (.aload_n 0, 1) := by decide +kernel
theorem dX12_isHouse_1 : decode cX12_isHouse 1 = .ok (.getfield 311, 3) := by decide +kernel
theorem dX12_isHouse_4 : decode cX12_isHouse 4 = .ok (.ifnull 22, 3) := by decide +kernel
theorem dX12_isHouse_7 : decode cX12_isHouse 7 = .ok (.iload_n 1, 1) := by decide +kernel
theorem dX12_isHouse_8 : decode cX12_isHouse 8 = .ok (.ifCond .lt 18, 3) := by decide +kernel
theorem dX12_isHouse_11 : decode cX12_isHouse 11 = .ok (.iload_n 1, 1) := by decide +kernel
theorem dX12_isHouse_12 : decode cX12_isHouse 12 = .ok (.aload_n 0, 1) := by decide +kernel
theorem dX12_isHouse_13 : decode cX12_isHouse 13 = .ok (.getfield 311, 3) := by decide +kernel
theorem dX12_isHouse_16 : decode cX12_isHouse 16 = .ok (.getfield 277, 3) := by decide +kernel
theorem dX12_isHouse_19 : decode cX12_isHouse 19 = .ok (.if_icmp .ge 7, 3) := by decide +kernel
theorem dX12_isHouse_22 : decode cX12_isHouse 22 = .ok (.iconst 1, 1) := by decide +kernel
theorem dX12_isHouse_23 : decode cX12_isHouse 23 = .ok (.goto 4, 3) := by decide +kernel
theorem dX12_isHouse_26 : decode cX12_isHouse 26 = .ok (.iconst 0, 1) := by decide +kernel
theorem dX12_isHouse_27 : decode cX12_isHouse 27 = .ok (.ireturn, 1) := by decide +kernel
theorem dX12_hasTale_0 : decode cX12_hasTale 0 = .ok (.aload_n 0, 1) := by decide +kernel
theorem dX12_hasTale_1 : decode cX12_hasTale 1 = .ok (.iload_n 1, 1) := by decide +kernel
theorem dX12_hasTale_2 : decode cX12_hasTale 2 = .ok (.invokevirtual 341, 3) := by decide +kernel
theorem dX12_hasTale_5 : decode cX12_hasTale 5 = .ok (.aload_n 0, 1) := by decide +kernel
theorem dX12_hasTale_6 : decode cX12_hasTale 6 = .ok (.invokevirtual 344, 3) := by decide +kernel
theorem dX12_hasTale_9 : decode cX12_hasTale 9 = .ok (.ireturn, 1) := by decide +kernel
theorem dX12_startsTales_0 : decode cX12_startsTales 0 = .ok (.aload_n 0, 1) := by decide +kernel
theorem dX12_startsTales_1 : decode cX12_startsTales 1 = .ok (.iload_n 1, 1) := by decide +kernel
theorem dX12_startsTales_2 : decode cX12_startsTales 2 = .ok (.putfield 320, 3) := by decide +kernel
theorem dX12_startsTales_5 : decode cX12_startsTales 5 = .ok (.aload_n 0, 1) := by decide +kernel
theorem dX12_startsTales_6 : decode cX12_startsTales 6 = .ok (.iconst 0, 1) := by decide +kernel
theorem dX12_startsTales_7 : decode cX12_startsTales 7 = .ok (.putfield 323, 3) := by decide +kernel
theorem dX12_startsTales_10 : decode cX12_startsTales 10 = .ok (.aload_n 0, 1) := by decide +kernel
theorem dX12_startsTales_11 : decode cX12_startsTales 11 = .ok (.iconst 0, 1) := by decide +kernel
theorem dX12_startsTales_12 : decode cX12_startsTales 12 = .ok (.putfield 326, 3) := by decide +kernel
theorem dX12_startsTales_15 : decode cX12_startsTales 15 = .ok (.aload_n 0, 1) := by decide +kernel
theorem dX12_startsTales_16 : decode cX12_startsTales 16 = .ok (.iconst 0, 1) := by decide +kernel
theorem dX12_startsTales_17 : decode cX12_startsTales 17 = .ok (.putfield 329, 3) := by decide +kernel
theorem dX12_startsTales_20 : decode cX12_startsTales 20 = .ok (.aload_n 0, 1) := by decide +kernel
theorem dX12_startsTales_21 : decode cX12_startsTales 21 = .ok (.getfield 30, 3) := by decide +kernel
theorem dX12_startsTales_24 : decode cX12_startsTales 24 = .ok (.iconst 0, 1) := by decide +kernel
theorem dX12_startsTales_25 : decode cX12_startsTales 25 = .ok (.iconst 0, 1) := by decide +kernel
theorem dX12_startsTales_26 : decode cX12_startsTales 26 = .ok (.iastore, 1) := by decide +kernel
theorem dX12_startsTales_27 : decode cX12_startsTales 27 = .ok (.return_, 1) := by decide +kernel
theorem dX12_nextTale_0 : decode cX12_nextTale 0 = .ok (.aload_n 0, 1) := by decide +kernel
theorem dX12_nextTale_1 : decode cX12_nextTale 1 = .ok (.invokevirtual 332, 3) := by decide +kernel
theorem dX12_nextTale_4 : decode cX12_nextTale 4 = .ok (.ifCond .eq 7, 3) := by decide +kernel
theorem dX12_nextTale_7 : decode cX12_nextTale 7 = .ok (.aload_n 0, 1) := by decide +kernel
theorem dX12_nextTale_8 : decode cX12_nextTale 8 = .ok (.invokevirtual 335, 3) := by decide +kernel
theorem dX12_nextTale_11 : decode cX12_nextTale 11 = .ok (.aload_n 0, 1) := by decide +kernel
theorem dX12_nextTale_12 : decode cX12_nextTale 12 = .ok (.getfield 323, 3) := by decide +kernel
theorem dX12_nextTale_15 : decode cX12_nextTale 15 = .ok (.ifCond .gt 19, 3) := by decide +kernel
theorem dX12_nextTale_18 : decode cX12_nextTale 18 = .ok (.aload_n 0, 1) := by decide +kernel
theorem dX12_nextTale_19 : decode cX12_nextTale 19 = .ok (.getfield 30, 3) := by decide +kernel
theorem dX12_nextTale_22 : decode cX12_nextTale 22 = .ok (.iconst 0, 1) := by decide +kernel
theorem dX12_nextTale_23 : decode cX12_nextTale 23 = .ok (.iaload, 1) := by decide +kernel
theorem dX12_nextTale_24 : decode cX12_nextTale 24 = .ok (.aload_n 0, 1) := by decide +kernel
theorem dX12_nextTale_25 : decode cX12_nextTale 25 = .ok (.getfield 311, 3) := by decide +kernel
theorem dX12_nextTale_28 : decode cX12_nextTale 28 = .ok (.getfield 210, 3) := by decide +kernel
theorem dX12_nextTale_31 : decode cX12_nextTale 31 = .ok (.if_icmp .ge 123, 3) := by decide +kernel
theorem dX12_nextTale_34 : decode cX12_nextTale 34 = .ok (.aload_n 0, 1) := by decide +kernel
theorem dX12_nextTale_35 : decode cX12_nextTale 35 = .ok (.getfield 30, 3) := by decide +kernel
theorem dX12_nextTale_38 : decode cX12_nextTale 38 = .ok (.aload_n 0, 1) := by decide +kernel
theorem dX12_nextTale_39 : decode cX12_nextTale 39 = .ok (.getfield 323, 3) := by decide +kernel
theorem dX12_nextTale_42 : decode cX12_nextTale 42 = .ok (.iaload, 1) := by decide +kernel
theorem dX12_nextTale_43 : decode cX12_nextTale 43 = .ok (.istore_n 1, 1) := by decide +kernel
theorem dX12_nextTale_44 : decode cX12_nextTale 44 = .ok (.iload_n 1, 1) := by decide +kernel
theorem dX12_nextTale_45 : decode cX12_nextTale 45 = .ok (.aload_n 0, 1) := by decide +kernel
theorem dX12_nextTale_46 : decode cX12_nextTale 46 = .ok (.getfield 311, 3) := by decide +kernel
theorem dX12_nextTale_49 : decode cX12_nextTale 49 = .ok (.getfield 210, 3) := by decide +kernel
theorem dX12_nextTale_52 : decode cX12_nextTale 52 = .ok (.if_icmp .lt 10, 3) := by decide +kernel
theorem dX12_nextTale_55 : decode cX12_nextTale 55 = .ok (.aload_n 0, 1) := by decide +kernel
theorem dX12_nextTale_56 : decode cX12_nextTale 56 = .ok (.invokevirtual 335, 3) := by decide +kernel
theorem dX12_nextTale_59 : decode cX12_nextTale 59 = .ok (.goto 92, 3) := by decide +kernel
theorem dX12_nextTale_62 : decode cX12_nextTale 62 = .ok (.aload_n 0, 1) := by decide +kernel
theorem dX12_nextTale_63 : decode cX12_nextTale 63 = .ok (.iload_n 1, 1) := by decide +kernel
theorem dX12_nextTale_64 : decode cX12_nextTale 64 = .ok (.invokevirtual 338, 3) := by decide +kernel
theorem dX12_nextTale_67 : decode cX12_nextTale 67 = .ok (.ifCond .eq 71, 3) := by decide +kernel
theorem dX12_nextTale_70 : decode cX12_nextTale 70 = .ok (.aload_n 0, 1) := by decide +kernel
theorem dX12_nextTale_71 : decode cX12_nextTale 71 = .ok (.dup, 1) := by decide +kernel
theorem dX12_nextTale_72 : decode cX12_nextTale 72 = .ok (.getfield 326, 3) := by decide +kernel
theorem dX12_nextTale_75 : decode cX12_nextTale 75 = .ok (.iconst 1, 1) := by decide +kernel
theorem dX12_nextTale_76 : decode cX12_nextTale 76 = .ok (.iload_n 1, 1) := by decide +kernel
theorem dX12_nextTale_77 : decode cX12_nextTale 77 = .ok (.ishl, 1) := by decide +kernel
theorem dX12_nextTale_78 : decode cX12_nextTale 78 = .ok (.ior, 1) := by decide +kernel
theorem dX12_nextTale_79 : decode cX12_nextTale 79 = .ok (.putfield 326, 3) := by decide +kernel
theorem dX12_nextTale_82 : decode cX12_nextTale 82 = .ok (.aload_n 0, 1) := by decide +kernel
theorem dX12_nextTale_83 : decode cX12_nextTale 83 = .ok (.dup, 1) := by decide +kernel
theorem dX12_nextTale_84 : decode cX12_nextTale 84 = .ok (.getfield 329, 3) := by decide +kernel
theorem dX12_nextTale_87 : decode cX12_nextTale 87 = .ok (.aload_n 0, 1) := by decide +kernel
theorem dX12_nextTale_88 : decode cX12_nextTale 88 = .ok (.getfield 311, 3) := by decide +kernel
theorem dX12_nextTale_91 : decode cX12_nextTale 91 = .ok (.getfield 262, 3) := by decide +kernel
theorem dX12_nextTale_94 : decode cX12_nextTale 94 = .ok (.iload_n 1, 1) := by decide +kernel
theorem dX12_nextTale_95 : decode cX12_nextTale 95 = .ok (.iaload, 1) := by decide +kernel
theorem dX12_nextTale_96 : decode cX12_nextTale 96 = .ok (.iconst 2, 1) := by decide +kernel
theorem dX12_nextTale_97 : decode cX12_nextTale 97 = .ok (.if_icmp .ne 7, 3) := by decide +kernel
theorem dX12_nextTale_100 : decode cX12_nextTale 100 = .ok (.iconst 1, 1) := by decide +kernel
theorem dX12_nextTale_101 : decode cX12_nextTale 101 = .ok (.goto 4, 3) := by decide +kernel
theorem dX12_nextTale_104 : decode cX12_nextTale 104 = .ok (.iconst 0, 1) := by decide +kernel
theorem dX12_nextTale_105 : decode cX12_nextTale 105 = .ok (.iadd, 1) := by decide +kernel
theorem dX12_nextTale_106 : decode cX12_nextTale 106 = .ok (.putfield 329, 3) := by decide +kernel
theorem dX12_nextTale_109 : decode cX12_nextTale 109 = .ok (.aload_n 0, 1) := by decide +kernel
theorem dX12_nextTale_110 : decode cX12_nextTale 110 = .ok (.dup, 1) := by decide +kernel
theorem dX12_nextTale_111 : decode cX12_nextTale 111 = .ok (.getfield 323, 3) := by decide +kernel
theorem dX12_nextTale_114 : decode cX12_nextTale 114 = .ok (.iconst 1, 1) := by decide +kernel
theorem dX12_nextTale_115 : decode cX12_nextTale 115 = .ok (.iadd, 1) := by decide +kernel
theorem dX12_nextTale_116 : decode cX12_nextTale 116 = .ok (.putfield 323, 3) := by decide +kernel
theorem dX12_nextTale_119 : decode cX12_nextTale 119 = .ok (.aload_n 0, 1) := by decide +kernel
theorem dX12_nextTale_120 : decode cX12_nextTale 120 = .ok (.getfield 30, 3) := by decide +kernel
theorem dX12_nextTale_123 : decode cX12_nextTale 123 = .ok (.aload_n 0, 1) := by decide +kernel
theorem dX12_nextTale_124 : decode cX12_nextTale 124 = .ok (.getfield 323, 3) := by decide +kernel
theorem dX12_nextTale_127 : decode cX12_nextTale 127 = .ok (.iconst 0, 1) := by decide +kernel
theorem dX12_nextTale_128 : decode cX12_nextTale 128 = .ok (.iastore, 1) := by decide +kernel
theorem dX12_nextTale_129 : decode cX12_nextTale 129 = .ok (.aload_n 0, 1) := by decide +kernel
theorem dX12_nextTale_130 : decode cX12_nextTale 130 = .ok (.invokevirtual 332, 3) := by decide +kernel
theorem dX12_nextTale_133 : decode cX12_nextTale 133 = .ok (.ifCond .eq 18, 3) := by decide +kernel
theorem dX12_nextTale_136 : decode cX12_nextTale 136 = .ok (.iconst 1, 1) := by decide +kernel
theorem dX12_nextTale_137 : decode cX12_nextTale 137 = .ok (.ireturn, 1) := by decide +kernel
theorem dX12_nextTale_138 : decode cX12_nextTale 138 = .ok (.aload_n 0, 1) := by decide +kernel
theorem dX12_nextTale_139 : decode cX12_nextTale 139 = .ok (.getfield 30, 3) := by decide +kernel
theorem dX12_nextTale_142 : decode cX12_nextTale 142 = .ok (.aload_n 0, 1) := by decide +kernel
theorem dX12_nextTale_143 : decode cX12_nextTale 143 = .ok (.getfield 323, 3) := by decide +kernel
theorem dX12_nextTale_146 : decode cX12_nextTale 146 = .ok (.dup2, 1) := by decide +kernel
theorem dX12_nextTale_147 : decode cX12_nextTale 147 = .ok (.iaload, 1) := by decide +kernel
theorem dX12_nextTale_148 : decode cX12_nextTale 148 = .ok (.iconst 1, 1) := by decide +kernel
theorem dX12_nextTale_149 : decode cX12_nextTale 149 = .ok (.iadd, 1) := by decide +kernel
theorem dX12_nextTale_150 : decode cX12_nextTale 150 = .ok (.iastore, 1) := by decide +kernel
theorem dX12_nextTale_151 : decode cX12_nextTale 151 = .ok (.goto (-140), 3) := by decide +kernel
theorem dX12_nextTale_154 : decode cX12_nextTale 154 = .ok (.iconst 0, 1) := by decide +kernel
theorem dX12_nextTale_155 : decode cX12_nextTale 155 = .ok (.ireturn, 1) := by decide +kernel
theorem dX12_isWhole_0 : decode cX12_isWhole 0 = .ok (.aload_n 0, 1) := by decide +kernel
theorem dX12_isWhole_1 : decode cX12_isWhole 1 = .ok (.getfield 323, 3) := by decide +kernel
theorem dX12_isWhole_4 : decode cX12_isWhole 4 = .ok (.iconst 1, 1) := by decide +kernel
theorem dX12_isWhole_5 : decode cX12_isWhole 5 = .ok (.if_icmp .le 30, 3) := by decide +kernel
theorem dX12_isWhole_8 : decode cX12_isWhole 8 = .ok (.aload_n 0, 1) := by decide +kernel
theorem dX12_isWhole_9 : decode cX12_isWhole 9 = .ok (.getfield 311, 3) := by decide +kernel
theorem dX12_isWhole_12 : decode cX12_isWhole 12 = .ok (.getfield 262, 3) := by decide +kernel
theorem dX12_isWhole_15 : decode cX12_isWhole 15 = .ok (.aload_n 0, 1) := by decide +kernel
theorem dX12_isWhole_16 : decode cX12_isWhole 16 = .ok (.getfield 30, 3) := by decide +kernel
theorem dX12_isWhole_19 : decode cX12_isWhole 19 = .ok (.aload_n 0, 1) := by decide +kernel
theorem dX12_isWhole_20 : decode cX12_isWhole 20 = .ok (.getfield 323, 3) := by decide +kernel
theorem dX12_isWhole_23 : decode cX12_isWhole 23 = .ok (.iconst 1, 1) := by decide +kernel
theorem dX12_isWhole_24 : decode cX12_isWhole 24 = .ok (.isub, 1) := by decide +kernel
theorem dX12_isWhole_25 : decode cX12_isWhole 25 = .ok (.iaload, 1) := by decide +kernel
theorem dX12_isWhole_26 : decode cX12_isWhole 26 = .ok (.iaload, 1) := by decide +kernel
theorem dX12_isWhole_27 : decode cX12_isWhole 27 = .ok (.iconst 3, 1) := by decide +kernel
theorem dX12_isWhole_28 : decode cX12_isWhole 28 = .ok (.if_icmp .ne 7, 3) := by decide +kernel
theorem dX12_isWhole_31 : decode cX12_isWhole 31 = .ok (.iconst 1, 1) := by decide +kernel
theorem dX12_isWhole_32 : decode cX12_isWhole 32 = .ok (.goto 4, 3) := by decide +kernel
theorem dX12_isWhole_35 : decode cX12_isWhole 35 = .ok (.iconst 0, 1) := by decide +kernel
theorem dX12_isWhole_36 : decode cX12_isWhole 36 = .ok (.ireturn, 1) := by decide +kernel
theorem dX12_fitsOn_0 : decode cX12_fitsOn 0 = .ok (.aload_n 0, 1) := by decide +kernel
theorem dX12_fitsOn_1 : decode cX12_fitsOn 1 = .ok (.getfield 320, 3) := by decide +kernel
theorem dX12_fitsOn_4 : decode cX12_fitsOn 4 = .ok (.iload_n 1, 1) := by decide +kernel
theorem dX12_fitsOn_5 : decode cX12_fitsOn 5 = .ok (.invokestatic 273, 3) := by decide +kernel
theorem dX12_fitsOn_8 : decode cX12_fitsOn 8 = .ok (.ifCond .eq 41, 3) := by decide +kernel
theorem dX12_fitsOn_11 : decode cX12_fitsOn 11 = .ok (.aload_n 0, 1) := by decide +kernel
theorem dX12_fitsOn_12 : decode cX12_fitsOn 12 = .ok (.getfield 326, 3) := by decide +kernel
theorem dX12_fitsOn_15 : decode cX12_fitsOn 15 = .ok (.iload_n 1, 1) := by decide +kernel
theorem dX12_fitsOn_16 : decode cX12_fitsOn 16 = .ok (.invokestatic 273, 3) := by decide +kernel
theorem dX12_fitsOn_19 : decode cX12_fitsOn 19 = .ok (.ifCond .ne 30, 3) := by decide +kernel
theorem dX12_fitsOn_22 : decode cX12_fitsOn 22 = .ok (.aload_n 0, 1) := by decide +kernel
theorem dX12_fitsOn_23 : decode cX12_fitsOn 23 = .ok (.getfield 311, 3) := by decide +kernel
theorem dX12_fitsOn_26 : decode cX12_fitsOn 26 = .ok (.getfield 262, 3) := by decide +kernel
theorem dX12_fitsOn_29 : decode cX12_fitsOn 29 = .ok (.iload_n 1, 1) := by decide +kernel
theorem dX12_fitsOn_30 : decode cX12_fitsOn 30 = .ok (.iaload, 1) := by decide +kernel
theorem dX12_fitsOn_31 : decode cX12_fitsOn 31 = .ok (.iconst 2, 1) := by decide +kernel
theorem dX12_fitsOn_32 : decode cX12_fitsOn 32 = .ok (.if_icmp .ne 19, 3) := by decide +kernel
theorem dX12_fitsOn_35 : decode cX12_fitsOn 35 = .ok (.aload_n 0, 1) := by decide +kernel
theorem dX12_fitsOn_36 : decode cX12_fitsOn 36 = .ok (.getfield 329, 3) := by decide +kernel
theorem dX12_fitsOn_39 : decode cX12_fitsOn 39 = .ok (.aload_n 0, 1) := by decide +kernel
theorem dX12_fitsOn_40 : decode cX12_fitsOn 40 = .ok (.getfield 311, 3) := by decide +kernel
theorem dX12_fitsOn_43 : decode cX12_fitsOn 43 = .ok (.getfield 175, 3) := by decide +kernel
theorem dX12_fitsOn_46 : decode cX12_fitsOn 46 = .ok (.if_icmp .ne 5, 3) := by decide +kernel
theorem dX12_fitsOn_49 : decode cX12_fitsOn 49 = .ok (.iconst 0, 1) := by decide +kernel
theorem dX12_fitsOn_50 : decode cX12_fitsOn 50 = .ok (.ireturn, 1) := by decide +kernel
theorem dX12_fitsOn_51 : decode cX12_fitsOn 51 = .ok (.aload_n 0, 1) := by decide +kernel
theorem dX12_fitsOn_52 : decode cX12_fitsOn 52 = .ok (.getfield 323, 3) := by decide +kernel
theorem dX12_fitsOn_55 : decode cX12_fitsOn 55 = .ok (.ifCond .ne 21, 3) := by decide +kernel
theorem dX12_fitsOn_58 : decode cX12_fitsOn 58 = .ok (.aload_n 0, 1) := by decide +kernel
theorem dX12_fitsOn_59 : decode cX12_fitsOn 59 = .ok (.getfield 311, 3) := by decide +kernel
theorem dX12_fitsOn_62 : decode cX12_fitsOn 62 = .ok (.getfield 262, 3) := by decide +kernel
theorem dX12_fitsOn_65 : decode cX12_fitsOn 65 = .ok (.iload_n 1, 1) := by decide +kernel
theorem dX12_fitsOn_66 : decode cX12_fitsOn 66 = .ok (.iaload, 1) := by decide +kernel
theorem dX12_fitsOn_67 : decode cX12_fitsOn 67 = .ok (.ifCond .ne 7, 3) := by decide +kernel
theorem dX12_fitsOn_70 : decode cX12_fitsOn 70 = .ok (.iconst 1, 1) := by decide +kernel
theorem dX12_fitsOn_71 : decode cX12_fitsOn 71 = .ok (.goto 4, 3) := by decide +kernel
theorem dX12_fitsOn_74 : decode cX12_fitsOn 74 = .ok (.iconst 0, 1) := by decide +kernel
theorem dX12_fitsOn_75 : decode cX12_fitsOn 75 = .ok (.ireturn, 1) := by decide +kernel
theorem dX12_fitsOn_76 : decode cX12_fitsOn 76 = .ok (.aload_n 0, 1) := by decide +kernel
theorem dX12_fitsOn_77 : decode cX12_fitsOn 77 = .ok (.getfield 311, 3) := by decide +kernel
theorem dX12_fitsOn_80 : decode cX12_fitsOn 80 = .ok (.getfield 262, 3) := by decide +kernel
theorem dX12_fitsOn_83 : decode cX12_fitsOn 83 = .ok (.iload_n 1, 1) := by decide +kernel
theorem dX12_fitsOn_84 : decode cX12_fitsOn 84 = .ok (.iaload, 1) := by decide +kernel
theorem dX12_fitsOn_85 : decode cX12_fitsOn 85 = .ok (.ifCond .eq 33, 3) := by decide +kernel
theorem dX12_fitsOn_88 : decode cX12_fitsOn 88 = .ok (.aload_n 0, 1) := by decide +kernel
theorem dX12_fitsOn_89 : decode cX12_fitsOn 89 = .ok (.getfield 311, 3) := by decide +kernel
theorem dX12_fitsOn_92 : decode cX12_fitsOn 92 = .ok (.getfield 270, 3) := by decide +kernel
theorem dX12_fitsOn_95 : decode cX12_fitsOn 95 = .ok (.aload_n 0, 1) := by decide +kernel
theorem dX12_fitsOn_96 : decode cX12_fitsOn 96 = .ok (.getfield 30, 3) := by decide +kernel
theorem dX12_fitsOn_99 : decode cX12_fitsOn 99 = .ok (.aload_n 0, 1) := by decide +kernel
theorem dX12_fitsOn_100 : decode cX12_fitsOn 100 = .ok (.getfield 323, 3) := by decide +kernel
theorem dX12_fitsOn_103 : decode cX12_fitsOn 103 = .ok (.iconst 1, 1) := by decide +kernel
theorem dX12_fitsOn_104 : decode cX12_fitsOn 104 = .ok (.isub, 1) := by decide +kernel
theorem dX12_fitsOn_105 : decode cX12_fitsOn 105 = .ok (.iaload, 1) := by decide +kernel
theorem dX12_fitsOn_106 : decode cX12_fitsOn 106 = .ok (.iaload, 1) := by decide +kernel
theorem dX12_fitsOn_107 : decode cX12_fitsOn 107 = .ok (.iload_n 1, 1) := by decide +kernel
theorem dX12_fitsOn_108 : decode cX12_fitsOn 108 = .ok (.invokestatic 273, 3) := by decide +kernel
theorem dX12_fitsOn_111 : decode cX12_fitsOn 111 = .ok (.ifCond .eq 7, 3) := by decide +kernel
theorem dX12_fitsOn_114 : decode cX12_fitsOn 114 = .ok (.iconst 1, 1) := by decide +kernel
theorem dX12_fitsOn_115 : decode cX12_fitsOn 115 = .ok (.goto 4, 3) := by decide +kernel
theorem dX12_fitsOn_118 : decode cX12_fitsOn 118 = .ok (.iconst 0, 1) := by decide +kernel
theorem dX12_fitsOn_119 : decode cX12_fitsOn 119 = .ok (.ireturn, 1) := by decide +kernel
theorem dX12_takesBack_0 : decode cX12_takesBack 0 = .ok (.aload_n 0, 1) := by decide +kernel
theorem dX12_takesBack_1 : decode cX12_takesBack 1 = .ok (.dup, 1) := by decide +kernel
theorem dX12_takesBack_2 : decode cX12_takesBack 2 = .ok (.getfield 323, 3) := by decide +kernel
theorem dX12_takesBack_5 : decode cX12_takesBack 5 = .ok (.iconst 1, 1) := by decide +kernel
theorem dX12_takesBack_6 : decode cX12_takesBack 6 = .ok (.isub, 1) := by decide +kernel
theorem dX12_takesBack_7 : decode cX12_takesBack 7 = .ok (.putfield 323, 3) := by decide +kernel
theorem dX12_takesBack_10 : decode cX12_takesBack 10 = .ok (.aload_n 0, 1) := by decide +kernel
theorem dX12_takesBack_11 : decode cX12_takesBack 11 = .ok (.getfield 30, 3) := by decide +kernel
theorem dX12_takesBack_14 : decode cX12_takesBack 14 = .ok (.aload_n 0, 1) := by decide +kernel
theorem dX12_takesBack_15 : decode cX12_takesBack 15 = .ok (.getfield 323, 3) := by decide +kernel
theorem dX12_takesBack_18 : decode cX12_takesBack 18 = .ok (.iaload, 1) := by decide +kernel
theorem dX12_takesBack_19 : decode cX12_takesBack 19 = .ok (.istore_n 1, 1) := by decide +kernel
theorem dX12_takesBack_20 : decode cX12_takesBack 20 = .ok (.aload_n 0, 1) := by decide +kernel
theorem dX12_takesBack_21 : decode cX12_takesBack 21 = .ok (.dup, 1) := by decide +kernel
theorem dX12_takesBack_22 : decode cX12_takesBack 22 = .ok (.getfield 326, 3) := by decide +kernel
theorem dX12_takesBack_25 : decode cX12_takesBack 25 = .ok (.iconst 1, 1) := by decide +kernel
theorem dX12_takesBack_26 : decode cX12_takesBack 26 = .ok (.iload_n 1, 1) := by decide +kernel
theorem dX12_takesBack_27 : decode cX12_takesBack 27 = .ok (.ishl, 1) := by decide +kernel
theorem dX12_takesBack_28 : decode cX12_takesBack 28 = .ok (.iconst (-1), 1) := by decide +kernel
theorem dX12_takesBack_29 : decode cX12_takesBack 29 = .ok (.ixor, 1) := by decide +kernel
theorem dX12_takesBack_30 : decode cX12_takesBack 30 = .ok (.iand, 1) := by decide +kernel
theorem dX12_takesBack_31 : decode cX12_takesBack 31 = .ok (.putfield 326, 3) := by decide +kernel
theorem dX12_takesBack_34 : decode cX12_takesBack 34 = .ok (.aload_n 0, 1) := by decide +kernel
theorem dX12_takesBack_35 : decode cX12_takesBack 35 = .ok (.dup, 1) := by decide +kernel
theorem dX12_takesBack_36 : decode cX12_takesBack 36 = .ok (.getfield 329, 3) := by decide +kernel
theorem dX12_takesBack_39 : decode cX12_takesBack 39 = .ok (.aload_n 0, 1) := by decide +kernel
theorem dX12_takesBack_40 : decode cX12_takesBack 40 = .ok (.getfield 311, 3) := by decide +kernel
theorem dX12_takesBack_43 : decode cX12_takesBack 43 = .ok (.getfield 262, 3) := by decide +kernel
theorem dX12_takesBack_46 : decode cX12_takesBack 46 = .ok (.iload_n 1, 1) := by decide +kernel
theorem dX12_takesBack_47 : decode cX12_takesBack 47 = .ok (.iaload, 1) := by decide +kernel
theorem dX12_takesBack_48 : decode cX12_takesBack 48 = .ok (.iconst 2, 1) := by decide +kernel
theorem dX12_takesBack_49 : decode cX12_takesBack 49 = .ok (.if_icmp .ne 7, 3) := by decide +kernel
theorem dX12_takesBack_52 : decode cX12_takesBack 52 = .ok (.iconst 1, 1) := by decide +kernel
theorem dX12_takesBack_53 : decode cX12_takesBack 53 = .ok (.goto 4, 3) := by decide +kernel
theorem dX12_takesBack_56 : decode cX12_takesBack 56 = .ok (.iconst 0, 1) := by decide +kernel
theorem dX12_takesBack_57 : decode cX12_takesBack 57 = .ok (.isub, 1) := by decide +kernel
theorem dX12_takesBack_58 : decode cX12_takesBack 58 = .ok (.putfield 329, 3) := by decide +kernel
theorem dX12_takesBack_61 : decode cX12_takesBack 61 = .ok (.aload_n 0, 1) := by decide +kernel
theorem dX12_takesBack_62 : decode cX12_takesBack 62 = .ok (.getfield 30, 3) := by decide +kernel
theorem dX12_takesBack_65 : decode cX12_takesBack 65 = .ok (.aload_n 0, 1) := by decide +kernel
theorem dX12_takesBack_66 : decode cX12_takesBack 66 = .ok (.getfield 323, 3) := by decide +kernel
theorem dX12_takesBack_69 : decode cX12_takesBack 69 = .ok (.iload_n 1, 1) := by decide +kernel
theorem dX12_takesBack_70 : decode cX12_takesBack 70 = .ok (.iconst 1, 1) := by decide +kernel
theorem dX12_takesBack_71 : decode cX12_takesBack 71 = .ok (.iadd, 1) := by decide +kernel
theorem dX12_takesBack_72 : decode cX12_takesBack 72 = .ok (.iastore, 1) := by decide +kernel
theorem dX12_takesBack_73 : decode cX12_takesBack 73 = .ok (.return_, 1) := by decide +kernel
theorem dX12_known_0 : decode cX12_known 0 = .ok (.aload_n 0, 1) := by decide +kernel
theorem dX12_known_1 : decode cX12_known 1 = .ok (.iconst 0, 1) := by decide +kernel
theorem dX12_known_2 : decode cX12_known 2 = .ok (.putfield 66, 3) := by decide +kernel
theorem dX12_known_5 : decode cX12_known 5 = .ok (.aload_n 0, 1) := by decide +kernel
theorem dX12_known_6 : decode cX12_known 6 = .ok (.getfield 311, 3) := by decide +kernel
theorem dX12_known_9 : decode cX12_known 9 = .ok (.ifnonnull 11, 3) := by decide +kernel
theorem dX12_known_12 : decode cX12_known 12 = .ok (.aload_n 0, 1) := by decide +kernel
theorem dX12_known_13 : decode cX12_known 13 = .ok (.iconst 1, 1) := by decide +kernel
theorem dX12_known_14 : decode cX12_known 14 = .ok (.invokevirtual 72, 3) := by decide +kernel
theorem dX12_known_17 : decode cX12_known 17 = .ok (.goto 12, 3) := by decide +kernel
theorem dX12_known_20 : decode cX12_known 20 = .ok (.aload_n 0, 1) := by decide +kernel
theorem dX12_known_21 : decode cX12_known 21 = .ok (.aload_n 0, 1) := by decide +kernel
theorem dX12_known_22 : decode cX12_known 22 = .ok (.iconst (-1), 1) := by decide +kernel
theorem dX12_known_23 : decode cX12_known 23 = .ok (.invokevirtual 356, 3) := by decide +kernel
theorem dX12_known_26 : decode cX12_known 26 = .ok (.invokevirtual 76, 3) := by decide +kernel
theorem dX12_known_29 : decode cX12_known 29 = .ok (.ireturn, 1) := by decide +kernel
theorem dX12_knownBut_0 : decode cX12_knownBut 0 = .ok (.iconst 0, 1) := by decide +kernel
theorem dX12_knownBut_1 : decode cX12_knownBut 1 = .ok (.istore_n 2, 1) := by decide +kernel
theorem dX12_knownBut_2 : decode cX12_knownBut 2 = .ok (.iconst 0, 1) := by decide +kernel
theorem dX12_knownBut_3 : decode cX12_knownBut 3 = .ok (.istore_n 3, 1) := by decide +kernel
theorem dX12_knownBut_4 : decode cX12_knownBut 4 = .ok (.iload_n 3, 1) := by decide +kernel
theorem dX12_knownBut_5 : decode cX12_knownBut 5 = .ok (.aload_n 0, 1) := by decide +kernel
theorem dX12_knownBut_6 : decode cX12_knownBut 6 = .ok (.getfield 311, 3) := by decide +kernel
theorem dX12_knownBut_9 : decode cX12_knownBut 9 = .ok (.getfield 277, 3) := by decide +kernel
theorem dX12_knownBut_12 : decode cX12_knownBut 12 = .ok (.if_icmp .ge 27, 3) := by decide +kernel
theorem dX12_knownBut_15 : decode cX12_knownBut 15 = .ok (.iload_n 2, 1) := by decide +kernel
theorem dX12_knownBut_16 : decode cX12_knownBut 16 = .ok (.iload_n 3, 1) := by decide +kernel
theorem dX12_knownBut_17 : decode cX12_knownBut 17 = .ok (.iload_n 1, 1) := by decide +kernel
theorem dX12_knownBut_18 : decode cX12_knownBut 18 = .ok (.if_icmp .ne 7, 3) := by decide +kernel
theorem dX12_knownBut_21 : decode cX12_knownBut 21 = .ok (.iconst 0, 1) := by decide +kernel
theorem dX12_knownBut_22 : decode cX12_knownBut 22 = .ok (.goto 9, 3) := by decide +kernel
theorem dX12_knownBut_25 : decode cX12_knownBut 25 = .ok (.aload_n 0, 1) := by decide +kernel
theorem dX12_knownBut_26 : decode cX12_knownBut 26 = .ok (.getfield 17, 3) := by decide +kernel
theorem dX12_knownBut_29 : decode cX12_knownBut 29 = .ok (.iload_n 3, 1) := by decide +kernel
theorem dX12_knownBut_30 : decode cX12_knownBut 30 = .ok (.iaload, 1) := by decide +kernel
theorem dX12_knownBut_31 : decode cX12_knownBut 31 = .ok (.ior, 1) := by decide +kernel
theorem dX12_knownBut_32 : decode cX12_knownBut 32 = .ok (.istore_n 2, 1) := by decide +kernel
theorem dX12_knownBut_33 : decode cX12_knownBut 33 = .ok (.iinc 3 1, 3) := by decide +kernel
theorem dX12_knownBut_36 : decode cX12_knownBut 36 = .ok (.goto (-32), 3) := by decide +kernel
theorem dX12_knownBut_39 : decode cX12_knownBut 39 = .ok (.iload_n 2, 1) := by decide +kernel
theorem dX12_knownBut_40 : decode cX12_knownBut 40 = .ok (.ireturn, 1) := by decide +kernel
theorem dX12_alone_0 : decode cX12_alone 0 = .ok (.aload_n 0, 1) := by decide +kernel
theorem dX12_alone_1 : decode cX12_alone 1 = .ok (.iconst 0, 1) := by decide +kernel
theorem dX12_alone_2 : decode cX12_alone 2 = .ok (.putfield 66, 3) := by decide +kernel
theorem dX12_alone_5 : decode cX12_alone 5 = .ok (.aload_n 0, 1) := by decide +kernel
theorem dX12_alone_6 : decode cX12_alone 6 = .ok (.iload_n 1, 1) := by decide +kernel
theorem dX12_alone_7 : decode cX12_alone 7 = .ok (.invokevirtual 350, 3) := by decide +kernel
theorem dX12_alone_10 : decode cX12_alone 10 = .ok (.ifCond .eq 24, 3) := by decide +kernel
theorem dX12_alone_13 : decode cX12_alone 13 = .ok (.aload_n 0, 1) := by decide +kernel
theorem dX12_alone_14 : decode cX12_alone 14 = .ok (.aload_n 0, 1) := by decide +kernel
theorem dX12_alone_15 : decode cX12_alone 15 = .ok (.getfield 17, 3) := by decide +kernel
theorem dX12_alone_18 : decode cX12_alone 18 = .ok (.iload_n 1, 1) := by decide +kernel
theorem dX12_alone_19 : decode cX12_alone 19 = .ok (.iaload, 1) := by decide +kernel
theorem dX12_alone_20 : decode cX12_alone 20 = .ok (.aload_n 0, 1) := by decide +kernel
theorem dX12_alone_21 : decode cX12_alone 21 = .ok (.iload_n 1, 1) := by decide +kernel
theorem dX12_alone_22 : decode cX12_alone 22 = .ok (.invokevirtual 356, 3) := by decide +kernel
theorem dX12_alone_25 : decode cX12_alone 25 = .ok (.iconst (-1), 1) := by decide +kernel
theorem dX12_alone_26 : decode cX12_alone 26 = .ok (.ixor, 1) := by decide +kernel
theorem dX12_alone_27 : decode cX12_alone 27 = .ok (.iand, 1) := by decide +kernel
theorem dX12_alone_28 : decode cX12_alone 28 = .ok (.invokevirtual 76, 3) := by decide +kernel
theorem dX12_alone_31 : decode cX12_alone 31 = .ok (.goto 8, 3) := by decide +kernel
theorem dX12_alone_34 : decode cX12_alone 34 = .ok (.aload_n 0, 1) := by decide +kernel
theorem dX12_alone_35 : decode cX12_alone 35 = .ok (.iconst 1, 1) := by decide +kernel
theorem dX12_alone_36 : decode cX12_alone 36 = .ok (.invokevirtual 72, 3) := by decide +kernel
theorem dX12_alone_39 : decode cX12_alone 39 = .ok (.ireturn, 1) := by decide +kernel
theorem dX12_tales_0 : decode cX12_tales 0 = .ok (.aload_n 0, 1) := by decide +kernel
theorem dX12_tales_1 : decode cX12_tales 1 = .ok (.iconst 0, 1) := by decide +kernel
theorem dX12_tales_2 : decode cX12_tales 2 = .ok (.putfield 66, 3) := by decide +kernel
theorem dX12_tales_5 : decode cX12_tales 5 = .ok (.aload_n 0, 1) := by decide +kernel
theorem dX12_tales_6 : decode cX12_tales 6 = .ok (.iload_n 1, 1) := by decide +kernel
theorem dX12_tales_7 : decode cX12_tales 7 = .ok (.invokevirtual 362, 3) := by decide +kernel
theorem dX12_tales_10 : decode cX12_tales 10 = .ok (.ifCond .eq 15, 3) := by decide +kernel
theorem dX12_tales_13 : decode cX12_tales 13 = .ok (.aload_n 0, 1) := by decide +kernel
theorem dX12_tales_14 : decode cX12_tales 14 = .ok (.aload_n 0, 1) := by decide +kernel
theorem dX12_tales_15 : decode cX12_tales 15 = .ok (.iload_n 1, 1) := by decide +kernel
theorem dX12_tales_16 : decode cX12_tales 16 = .ok (.invokevirtual 365, 3) := by decide +kernel
theorem dX12_tales_19 : decode cX12_tales 19 = .ok (.invokevirtual 76, 3) := by decide +kernel
theorem dX12_tales_22 : decode cX12_tales 22 = .ok (.goto 8, 3) := by decide +kernel
theorem dX12_tales_25 : decode cX12_tales 25 = .ok (.aload_n 0, 1) := by decide +kernel
theorem dX12_tales_26 : decode cX12_tales 26 = .ok (.iconst 1, 1) := by decide +kernel
theorem dX12_tales_27 : decode cX12_tales 27 = .ok (.invokevirtual 72, 3) := by decide +kernel
theorem dX12_tales_30 : decode cX12_tales 30 = .ok (.ireturn, 1) := by decide +kernel
theorem dX12_arePieces_0 : decode cX12_arePieces 0 = .ok (.aload_n 0, 1) := by decide +kernel
theorem dX12_arePieces_1 : decode cX12_arePieces 1 = .ok (.getfield 311, 3) := by decide +kernel
theorem dX12_arePieces_4 : decode cX12_arePieces 4 = .ok (.ifnull 22, 3) := by decide +kernel
theorem dX12_arePieces_7 : decode cX12_arePieces 7 = .ok (.iload_n 1, 1) := by decide +kernel
theorem dX12_arePieces_8 : decode cX12_arePieces 8 = .ok (.iconst 0, 1) := by decide +kernel
theorem dX12_arePieces_9 : decode cX12_arePieces 9 = .ok (.aload_n 0, 1) := by decide +kernel
theorem dX12_arePieces_10 : decode cX12_arePieces 10 = .ok (.getfield 311, 3) := by decide +kernel
theorem dX12_arePieces_13 : decode cX12_arePieces 13 = .ok (.invokevirtual 359, 3) := by decide +kernel
theorem dX12_arePieces_16 : decode cX12_arePieces 16 = .ok (.invokestatic 145, 3) := by decide +kernel
theorem dX12_arePieces_19 : decode cX12_arePieces 19 = .ok (.ifCond .eq 7, 3) := by decide +kernel
theorem dX12_arePieces_22 : decode cX12_arePieces 22 = .ok (.iconst 1, 1) := by decide +kernel
theorem dX12_arePieces_23 : decode cX12_arePieces 23 = .ok (.goto 4, 3) := by decide +kernel
theorem dX12_arePieces_26 : decode cX12_arePieces 26 = .ok (.iconst 0, 1) := by decide +kernel
theorem dX12_arePieces_27 : decode cX12_arePieces 27 = .ok (.ireturn, 1) := by decide +kernel
theorem dX11_all_0 : decode cX11_all 0 = .ok (.iconst 1, 1) := by decide +kernel
theorem dX11_all_1 : decode cX11_all 1 = .ok (.aload_n 0, 1) := by decide +kernel
theorem dX11_all_2 : decode cX11_all 2 = .ok (.getfield 50, 3) := by decide +kernel
theorem dX11_all_5 : decode cX11_all 5 = .ok (.ishl, 1) := by decide +kernel
theorem dX11_all_6 : decode cX11_all 6 = .ok (.iconst 1, 1) := by decide +kernel
theorem dX11_all_7 : decode cX11_all 7 = .ok (.isub, 1) := by decide +kernel
theorem dX11_all_8 : decode cX11_all 8 = .ok (.ireturn, 1) := by decide +kernel
theorem dX12_tellsAll_0 : decode cX12_tellsAll 0 = .ok (.iconst 0, 1) := by decide +kernel
theorem dX12_tellsAll_1 : decode cX12_tellsAll 1 = .ok (.istore_n 2, 1) := by decide +kernel
theorem dX12_tellsAll_2 : decode cX12_tellsAll 2 = .ok (.aload_n 0, 1) := by decide +kernel
theorem dX12_tellsAll_3 : decode cX12_tellsAll 3 = .ok (.iload_n 1, 1) := by decide +kernel
theorem dX12_tellsAll_4 : decode cX12_tellsAll 4 = .ok (.invokevirtual 341, 3) := by decide +kernel
theorem dX12_tellsAll_7 : decode cX12_tellsAll 7 = .ok (.aload_n 0, 1) := by decide +kernel
theorem dX12_tellsAll_8 : decode cX12_tellsAll 8 = .ok (.invokevirtual 344, 3) := by decide +kernel
theorem dX12_tellsAll_11 : decode cX12_tellsAll 11 = .ok (.ifCond .eq 9, 3) := by decide +kernel
theorem dX12_tellsAll_14 : decode cX12_tellsAll 14 = .ok (.iinc 2 1, 3) := by decide +kernel
theorem dX12_tellsAll_17 : decode cX12_tellsAll 17 = .ok (.goto (-10), 3) := by decide +kernel
theorem dX12_tellsAll_20 : decode cX12_tellsAll 20 = .ok (.iload_n 2, 1) := by decide +kernel
theorem dX12_tellsAll_21 : decode cX12_tellsAll 21 = .ok (.ireturn, 1) := by decide +kernel
theorem dX12_longest_0 : decode cX12_longest 0 = .ok (.aload_n 0, 1) := by decide +kernel
theorem dX12_longest_1 : decode cX12_longest 1 = .ok (.iconst 0, 1) := by decide +kernel
theorem dX12_longest_2 : decode cX12_longest 2 = .ok (.putfield 66, 3) := by decide +kernel
theorem dX12_longest_5 : decode cX12_longest 5 = .ok (.aload_n 0, 1) := by decide +kernel
theorem dX12_longest_6 : decode cX12_longest 6 = .ok (.iload_n 1, 1) := by decide +kernel
theorem dX12_longest_7 : decode cX12_longest 7 = .ok (.invokevirtual 362, 3) := by decide +kernel
theorem dX12_longest_10 : decode cX12_longest 10 = .ok (.ifCond .ne 9, 3) := by decide +kernel
theorem dX12_longest_13 : decode cX12_longest 13 = .ok (.aload_n 0, 1) := by decide +kernel
theorem dX12_longest_14 : decode cX12_longest 14 = .ok (.iconst 1, 1) := by decide +kernel
theorem dX12_longest_15 : decode cX12_longest 15 = .ok (.invokevirtual 72, 3) := by decide +kernel
theorem dX12_longest_18 : decode cX12_longest 18 = .ok (.ireturn, 1) := by decide +kernel
theorem dX12_longest_19 : decode cX12_longest 19 = .ok (.aload_n 0, 1) := by decide +kernel
theorem dX12_longest_20 : decode cX12_longest 20 = .ok (.iload_n 1, 1) := by decide +kernel
theorem dX12_longest_21 : decode cX12_longest 21 = .ok (.invokevirtual 368, 3) := by decide +kernel
theorem dX12_longest_24 : decode cX12_longest 24 = .ok (.istore_n 2, 1) := by decide +kernel
theorem dX12_longest_25 : decode cX12_longest 25 = .ok (.aload_n 0, 1) := by decide +kernel
theorem dX12_longest_26 : decode cX12_longest 26 = .ok (.iload_n 2, 1) := by decide +kernel
theorem dX12_longest_27 : decode cX12_longest 27 = .ok (.ifCond .ne 8, 3) := by decide +kernel
theorem dX12_longest_30 : decode cX12_longest 30 = .ok (.bipush (-2), 2) := by decide +kernel
theorem dX12_longest_32 : decode cX12_longest 32 = .ok (.goto 4, 3) := by decide +kernel
theorem dX12_longest_35 : decode cX12_longest 35 = .ok (.iload_n 2, 1) := by decide +kernel
theorem dX12_longest_36 : decode cX12_longest 36 = .ok (.invokevirtual 76, 3) := by decide +kernel
theorem dX12_longest_39 : decode cX12_longest 39 = .ok (.ireturn, 1) := by decide +kernel
theorem dX12_longestOf_0 : decode cX12_longestOf 0 = .ok (.iconst 0, 1) := by decide +kernel
theorem dX12_longestOf_1 : decode cX12_longestOf 1 = .ok (.istore_n 2, 1) := by decide +kernel
theorem dX12_longestOf_2 : decode cX12_longestOf 2 = .ok (.aload_n 0, 1) := by decide +kernel
theorem dX12_longestOf_3 : decode cX12_longestOf 3 = .ok (.iload_n 1, 1) := by decide +kernel
theorem dX12_longestOf_4 : decode cX12_longestOf 4 = .ok (.invokevirtual 341, 3) := by decide +kernel
theorem dX12_longestOf_7 : decode cX12_longestOf 7 = .ok (.aload_n 0, 1) := by decide +kernel
theorem dX12_longestOf_8 : decode cX12_longestOf 8 = .ok (.invokevirtual 344, 3) := by decide +kernel
theorem dX12_longestOf_11 : decode cX12_longestOf 11 = .ok (.ifCond .eq 50, 3) := by decide +kernel
theorem dX12_longestOf_14 : decode cX12_longestOf 14 = .ok (.aload_n 0, 1) := by decide +kernel
theorem dX12_longestOf_15 : decode cX12_longestOf 15 = .ok (.getfield 323, 3) := by decide +kernel
theorem dX12_longestOf_18 : decode cX12_longestOf 18 = .ok (.iload_n 2, 1) := by decide +kernel
theorem dX12_longestOf_19 : decode cX12_longestOf 19 = .ok (.if_icmp .gt 6, 3) := by decide +kernel
theorem dX12_longestOf_22 : decode cX12_longestOf 22 = .ok (.goto (-15), 3) := by decide +kernel
theorem dX12_longestOf_25 : decode cX12_longestOf 25 = .ok (.aload_n 0, 1) := by decide +kernel
theorem dX12_longestOf_26 : decode cX12_longestOf 26 = .ok (.getfield 323, 3) := by decide +kernel
theorem dX12_longestOf_29 : decode cX12_longestOf 29 = .ok (.istore_n 2, 1) := by decide +kernel
theorem dX12_longestOf_30 : decode cX12_longestOf 30 = .ok (.iconst 0, 1) := by decide +kernel
theorem dX12_longestOf_31 : decode cX12_longestOf 31 = .ok (.istore_n 3, 1) := by decide +kernel
theorem dX12_longestOf_32 : decode cX12_longestOf 32 = .ok (.iload_n 3, 1) := by decide +kernel
theorem dX12_longestOf_33 : decode cX12_longestOf 33 = .ok (.aload_n 0, 1) := by decide +kernel
theorem dX12_longestOf_34 : decode cX12_longestOf 34 = .ok (.getfield 323, 3) := by decide +kernel
theorem dX12_longestOf_37 : decode cX12_longestOf 37 = .ok (.if_icmp .ge 21, 3) := by decide +kernel
theorem dX12_longestOf_40 : decode cX12_longestOf 40 = .ok (.aload_n 0, 1) := by decide +kernel
theorem dX12_longestOf_41 : decode cX12_longestOf 41 = .ok (.getfield 33, 3) := by decide +kernel
theorem dX12_longestOf_44 : decode cX12_longestOf 44 = .ok (.iload_n 3, 1) := by decide +kernel
theorem dX12_longestOf_45 : decode cX12_longestOf 45 = .ok (.aload_n 0, 1) := by decide +kernel
theorem dX12_longestOf_46 : decode cX12_longestOf 46 = .ok (.getfield 30, 3) := by decide +kernel
theorem dX12_longestOf_49 : decode cX12_longestOf 49 = .ok (.iload_n 3, 1) := by decide +kernel
theorem dX12_longestOf_50 : decode cX12_longestOf 50 = .ok (.iaload, 1) := by decide +kernel
theorem dX12_longestOf_51 : decode cX12_longestOf 51 = .ok (.iastore, 1) := by decide +kernel
theorem dX12_longestOf_52 : decode cX12_longestOf 52 = .ok (.iinc 3 1, 3) := by decide +kernel
theorem dX12_longestOf_55 : decode cX12_longestOf 55 = .ok (.goto (-23), 3) := by decide +kernel
theorem dX12_longestOf_58 : decode cX12_longestOf 58 = .ok (.goto (-51), 3) := by decide +kernel
theorem dX12_longestOf_61 : decode cX12_longestOf 61 = .ok (.iload_n 2, 1) := by decide +kernel
theorem dX12_longestOf_62 : decode cX12_longestOf 62 = .ok (.ireturn, 1) := by decide +kernel
theorem dX12_longestAt_0 : decode cX12_longestAt 0 = .ok (.aload_n 0, 1) := by decide +kernel
theorem dX12_longestAt_1 : decode cX12_longestAt 1 = .ok (.iconst 0, 1) := by decide +kernel
theorem dX12_longestAt_2 : decode cX12_longestAt 2 = .ok (.putfield 66, 3) := by decide +kernel
theorem dX12_longestAt_5 : decode cX12_longestAt 5 = .ok (.aload_n 0, 1) := by decide +kernel
theorem dX12_longestAt_6 : decode cX12_longestAt 6 = .ok (.iload_n 1, 1) := by decide +kernel
theorem dX12_longestAt_7 : decode cX12_longestAt 7 = .ok (.invokevirtual 362, 3) := by decide +kernel
theorem dX12_longestAt_10 : decode cX12_longestAt 10 = .ok (.ifCond .ne 9, 3) := by decide +kernel
theorem dX12_longestAt_13 : decode cX12_longestAt 13 = .ok (.aload_n 0, 1) := by decide +kernel
theorem dX12_longestAt_14 : decode cX12_longestAt 14 = .ok (.iconst 1, 1) := by decide +kernel
theorem dX12_longestAt_15 : decode cX12_longestAt 15 = .ok (.invokevirtual 72, 3) := by decide +kernel
theorem dX12_longestAt_18 : decode cX12_longestAt 18 = .ok (.ireturn, 1) := by decide +kernel
theorem dX12_longestAt_19 : decode cX12_longestAt 19 = .ok (.iload_n 2, 1) := by decide +kernel
theorem dX12_longestAt_20 : decode cX12_longestAt 20 = .ok (.ifCond .lt 25, 3) := by decide +kernel
theorem dX12_longestAt_23 : decode cX12_longestAt 23 = .ok (.iload_n 2, 1) := by decide +kernel
theorem dX12_longestAt_24 : decode cX12_longestAt 24 = .ok (.aload_n 0, 1) := by decide +kernel
theorem dX12_longestAt_25 : decode cX12_longestAt 25 = .ok (.iload_n 1, 1) := by decide +kernel
theorem dX12_longestAt_26 : decode cX12_longestAt 26 = .ok (.invokevirtual 368, 3) := by decide +kernel
theorem dX12_longestAt_29 : decode cX12_longestAt 29 = .ok (.if_icmp .ge 16, 3) := by decide +kernel
theorem dX12_longestAt_32 : decode cX12_longestAt 32 = .ok (.aload_n 0, 1) := by decide +kernel
theorem dX12_longestAt_33 : decode cX12_longestAt 33 = .ok (.aload_n 0, 1) := by decide +kernel
theorem dX12_longestAt_34 : decode cX12_longestAt 34 = .ok (.getfield 33, 3) := by decide +kernel
theorem dX12_longestAt_37 : decode cX12_longestAt 37 = .ok (.iload_n 2, 1) := by decide +kernel
theorem dX12_longestAt_38 : decode cX12_longestAt 38 = .ok (.iaload, 1) := by decide +kernel
theorem dX12_longestAt_39 : decode cX12_longestAt 39 = .ok (.invokevirtual 76, 3) := by decide +kernel
theorem dX12_longestAt_42 : decode cX12_longestAt 42 = .ok (.goto 8, 3) := by decide +kernel
theorem dX12_longestAt_45 : decode cX12_longestAt 45 = .ok (.aload_n 0, 1) := by decide +kernel
theorem dX12_longestAt_46 : decode cX12_longestAt 46 = .ok (.iconst 1, 1) := by decide +kernel
theorem dX12_longestAt_47 : decode cX12_longestAt 47 = .ok (.invokevirtual 72, 3) := by decide +kernel
theorem dX12_longestAt_50 : decode cX12_longestAt 50 = .ok (.ireturn, 1) := by decide +kernel
theorem dX12_taleAt_0 : decode cX12_taleAt 0 = .ok (.aload_n 0, 1) := by decide +kernel
theorem dX12_taleAt_1 : decode cX12_taleAt 1 = .ok (.iconst 0, 1) := by decide +kernel
theorem dX12_taleAt_2 : decode cX12_taleAt 2 = .ok (.putfield 66, 3) := by decide +kernel
theorem dX12_taleAt_5 : decode cX12_taleAt 5 = .ok (.aload_n 0, 1) := by decide +kernel
theorem dX12_taleAt_6 : decode cX12_taleAt 6 = .ok (.iload_n 1, 1) := by decide +kernel
theorem dX12_taleAt_7 : decode cX12_taleAt 7 = .ok (.invokevirtual 362, 3) := by decide +kernel
theorem dX12_taleAt_10 : decode cX12_taleAt 10 = .ok (.ifCond .eq 11, 3) := by decide +kernel
theorem dX12_taleAt_13 : decode cX12_taleAt 13 = .ok (.iload_n 2, 1) := by decide +kernel
theorem dX12_taleAt_14 : decode cX12_taleAt 14 = .ok (.ifCond .lt 7, 3) := by decide +kernel
theorem dX12_taleAt_17 : decode cX12_taleAt 17 = .ok (.iload_n 3, 1) := by decide +kernel
theorem dX12_taleAt_18 : decode cX12_taleAt 18 = .ok (.ifCond .ge 9, 3) := by decide +kernel
theorem dX12_taleAt_21 : decode cX12_taleAt 21 = .ok (.aload_n 0, 1) := by decide +kernel
theorem dX12_taleAt_22 : decode cX12_taleAt 22 = .ok (.iconst 1, 1) := by decide +kernel
theorem dX12_taleAt_23 : decode cX12_taleAt 23 = .ok (.invokevirtual 72, 3) := by decide +kernel
theorem dX12_taleAt_26 : decode cX12_taleAt 26 = .ok (.ireturn, 1) := by decide +kernel
theorem dX12_taleAt_27 : decode cX12_taleAt 27 = .ok (.aload_n 0, 1) := by decide +kernel
theorem dX12_taleAt_28 : decode cX12_taleAt 28 = .ok (.iload_n 1, 1) := by decide +kernel
theorem dX12_taleAt_29 : decode cX12_taleAt 29 = .ok (.invokevirtual 341, 3) := by decide +kernel
theorem dX12_taleAt_32 : decode cX12_taleAt 32 = .ok (.iconst 0, 1) := by decide +kernel
theorem dX12_taleAt_33 : decode cX12_taleAt 33 = .ok (.istore 4, 2) := by decide +kernel
theorem dX12_taleAt_35 : decode cX12_taleAt 35 = .ok (.aload_n 0, 1) := by decide +kernel
theorem dX12_taleAt_36 : decode cX12_taleAt 36 = .ok (.invokevirtual 344, 3) := by decide +kernel
theorem dX12_taleAt_39 : decode cX12_taleAt 39 = .ok (.ifCond .eq 42, 3) := by decide +kernel
theorem dX12_taleAt_42 : decode cX12_taleAt 42 = .ok (.iload 4, 2) := by decide +kernel
theorem dX12_taleAt_44 : decode cX12_taleAt 44 = .ok (.iload_n 2, 1) := by decide +kernel
theorem dX12_taleAt_45 : decode cX12_taleAt 45 = .ok (.if_icmp .ne 30, 3) := by decide +kernel
theorem dX12_taleAt_48 : decode cX12_taleAt 48 = .ok (.iload_n 3, 1) := by decide +kernel
theorem dX12_taleAt_49 : decode cX12_taleAt 49 = .ok (.aload_n 0, 1) := by decide +kernel
theorem dX12_taleAt_50 : decode cX12_taleAt 50 = .ok (.getfield 323, 3) := by decide +kernel
theorem dX12_taleAt_53 : decode cX12_taleAt 53 = .ok (.if_icmp .ge 16, 3) := by decide +kernel
theorem dX12_taleAt_56 : decode cX12_taleAt 56 = .ok (.aload_n 0, 1) := by decide +kernel
theorem dX12_taleAt_57 : decode cX12_taleAt 57 = .ok (.aload_n 0, 1) := by decide +kernel
theorem dX12_taleAt_58 : decode cX12_taleAt 58 = .ok (.getfield 30, 3) := by decide +kernel
theorem dX12_taleAt_61 : decode cX12_taleAt 61 = .ok (.iload_n 3, 1) := by decide +kernel
theorem dX12_taleAt_62 : decode cX12_taleAt 62 = .ok (.iaload, 1) := by decide +kernel
theorem dX12_taleAt_63 : decode cX12_taleAt 63 = .ok (.invokevirtual 76, 3) := by decide +kernel
theorem dX12_taleAt_66 : decode cX12_taleAt 66 = .ok (.goto 8, 3) := by decide +kernel
theorem dX12_taleAt_69 : decode cX12_taleAt 69 = .ok (.aload_n 0, 1) := by decide +kernel
theorem dX12_taleAt_70 : decode cX12_taleAt 70 = .ok (.iconst 1, 1) := by decide +kernel
theorem dX12_taleAt_71 : decode cX12_taleAt 71 = .ok (.invokevirtual 72, 3) := by decide +kernel
theorem dX12_taleAt_74 : decode cX12_taleAt 74 = .ok (.ireturn, 1) := by decide +kernel
theorem dX12_taleAt_75 : decode cX12_taleAt 75 = .ok (.iinc 4 1, 3) := by decide +kernel
theorem dX12_taleAt_78 : decode cX12_taleAt 78 = .ok (.goto (-43), 3) := by decide +kernel
theorem dX12_taleAt_81 : decode cX12_taleAt 81 = .ok (.aload_n 0, 1) := by decide +kernel
theorem dX12_taleAt_82 : decode cX12_taleAt 82 = .ok (.iconst 1, 1) := by decide +kernel
theorem dX12_taleAt_83 : decode cX12_taleAt 83 = .ok (.invokevirtual 72, 3) := by decide +kernel
theorem dX12_taleAt_86 : decode cX12_taleAt 86 = .ok (.ireturn, 1) := by decide +kernel
theorem dX12_used_0 : decode cX12_used 0 = .ok (.aload_n 0, 1) := by decide +kernel
theorem dX12_used_1 : decode cX12_used 1 = .ok (.iconst 0, 1) := by decide +kernel
theorem dX12_used_2 : decode cX12_used 2 = .ok (.putfield 66, 3) := by decide +kernel
theorem dX12_used_5 : decode cX12_used 5 = .ok (.aload_n 0, 1) := by decide +kernel
theorem dX12_used_6 : decode cX12_used 6 = .ok (.iload_n 1, 1) := by decide +kernel
theorem dX12_used_7 : decode cX12_used 7 = .ok (.invokevirtual 362, 3) := by decide +kernel
theorem dX12_used_10 : decode cX12_used 10 = .ok (.ifCond .ne 9, 3) := by decide +kernel
theorem dX12_used_13 : decode cX12_used 13 = .ok (.aload_n 0, 1) := by decide +kernel
theorem dX12_used_14 : decode cX12_used 14 = .ok (.iconst 1, 1) := by decide +kernel
theorem dX12_used_15 : decode cX12_used 15 = .ok (.invokevirtual 72, 3) := by decide +kernel
theorem dX12_used_18 : decode cX12_used 18 = .ok (.ireturn, 1) := by decide +kernel
theorem dX12_used_19 : decode cX12_used 19 = .ok (.iconst 0, 1) := by decide +kernel
theorem dX12_used_20 : decode cX12_used 20 = .ok (.istore_n 2, 1) := by decide +kernel
theorem dX12_used_21 : decode cX12_used 21 = .ok (.aload_n 0, 1) := by decide +kernel
theorem dX12_used_22 : decode cX12_used 22 = .ok (.iload_n 1, 1) := by decide +kernel
theorem dX12_used_23 : decode cX12_used 23 = .ok (.invokevirtual 341, 3) := by decide +kernel
theorem dX12_used_26 : decode cX12_used 26 = .ok (.aload_n 0, 1) := by decide +kernel
theorem dX12_used_27 : decode cX12_used 27 = .ok (.invokevirtual 344, 3) := by decide +kernel
theorem dX12_used_30 : decode cX12_used 30 = .ok (.ifCond .eq 13, 3) := by decide +kernel
theorem dX12_used_33 : decode cX12_used 33 = .ok (.iload_n 2, 1) := by decide +kernel
theorem dX12_used_34 : decode cX12_used 34 = .ok (.aload_n 0, 1) := by decide +kernel
theorem dX12_used_35 : decode cX12_used 35 = .ok (.getfield 326, 3) := by decide +kernel
theorem dX12_used_38 : decode cX12_used 38 = .ok (.ior, 1) := by decide +kernel
theorem dX12_used_39 : decode cX12_used 39 = .ok (.istore_n 2, 1) := by decide +kernel
theorem dX12_used_40 : decode cX12_used 40 = .ok (.goto (-14), 3) := by decide +kernel
theorem dX12_used_43 : decode cX12_used 43 = .ok (.aload_n 0, 1) := by decide +kernel
theorem dX12_used_44 : decode cX12_used 44 = .ok (.iload_n 2, 1) := by decide +kernel
theorem dX12_used_45 : decode cX12_used 45 = .ok (.invokevirtual 76, 3) := by decide +kernel
theorem dX12_used_48 : decode cX12_used 48 = .ok (.ireturn, 1) := by decide +kernel
theorem dX12_needed_0 : decode cX12_needed 0 = .ok (.aload_n 0, 1) := by decide +kernel
theorem dX12_needed_1 : decode cX12_needed 1 = .ok (.iconst 0, 1) := by decide +kernel
theorem dX12_needed_2 : decode cX12_needed 2 = .ok (.putfield 66, 3) := by decide +kernel
theorem dX12_needed_5 : decode cX12_needed 5 = .ok (.aload_n 0, 1) := by decide +kernel
theorem dX12_needed_6 : decode cX12_needed 6 = .ok (.iload_n 1, 1) := by decide +kernel
theorem dX12_needed_7 : decode cX12_needed 7 = .ok (.invokevirtual 362, 3) := by decide +kernel
theorem dX12_needed_10 : decode cX12_needed 10 = .ok (.ifCond .ne 9, 3) := by decide +kernel
theorem dX12_needed_13 : decode cX12_needed 13 = .ok (.aload_n 0, 1) := by decide +kernel
theorem dX12_needed_14 : decode cX12_needed 14 = .ok (.iconst 1, 1) := by decide +kernel
theorem dX12_needed_15 : decode cX12_needed 15 = .ok (.invokevirtual 72, 3) := by decide +kernel
theorem dX12_needed_18 : decode cX12_needed 18 = .ok (.ireturn, 1) := by decide +kernel
theorem dX12_needed_19 : decode cX12_needed 19 = .ok (.iconst (-1), 1) := by decide +kernel
theorem dX12_needed_20 : decode cX12_needed 20 = .ok (.istore_n 2, 1) := by decide +kernel
theorem dX12_needed_21 : decode cX12_needed 21 = .ok (.aload_n 0, 1) := by decide +kernel
theorem dX12_needed_22 : decode cX12_needed 22 = .ok (.iload_n 1, 1) := by decide +kernel
theorem dX12_needed_23 : decode cX12_needed 23 = .ok (.invokevirtual 341, 3) := by decide +kernel
theorem dX12_needed_26 : decode cX12_needed 26 = .ok (.aload_n 0, 1) := by decide +kernel
theorem dX12_needed_27 : decode cX12_needed 27 = .ok (.invokevirtual 344, 3) := by decide +kernel
theorem dX12_needed_30 : decode cX12_needed 30 = .ok (.ifCond .eq 13, 3) := by decide +kernel
theorem dX12_needed_33 : decode cX12_needed 33 = .ok (.iload_n 2, 1) := by decide +kernel
theorem dX12_needed_34 : decode cX12_needed 34 = .ok (.aload_n 0, 1) := by decide +kernel
theorem dX12_needed_35 : decode cX12_needed 35 = .ok (.getfield 326, 3) := by decide +kernel
theorem dX12_needed_38 : decode cX12_needed 38 = .ok (.iand, 1) := by decide +kernel
theorem dX12_needed_39 : decode cX12_needed 39 = .ok (.istore_n 2, 1) := by decide +kernel
theorem dX12_needed_40 : decode cX12_needed 40 = .ok (.goto (-14), 3) := by decide +kernel
theorem dX12_needed_43 : decode cX12_needed 43 = .ok (.aload_n 0, 1) := by decide +kernel
theorem dX12_needed_44 : decode cX12_needed 44 = .ok (.iload_n 2, 1) := by decide +kernel
theorem dX12_needed_45 : decode cX12_needed 45 = .ok (.iconst (-1), 1) := by decide +kernel
theorem dX12_needed_46 : decode cX12_needed 46 = .ok (.if_icmp .ne 7, 3) := by decide +kernel
theorem dX12_needed_49 : decode cX12_needed 49 = .ok (.iconst 0, 1) := by decide +kernel
theorem dX12_needed_50 : decode cX12_needed 50 = .ok (.goto 4, 3) := by decide +kernel
theorem dX12_needed_53 : decode cX12_needed 53 = .ok (.iload_n 2, 1) := by decide +kernel
theorem dX12_needed_54 : decode cX12_needed 54 = .ok (.invokevirtual 76, 3) := by decide +kernel
theorem dX12_needed_57 : decode cX12_needed 57 = .ok (.ireturn, 1) := by decide +kernel
def f_M_feed_76 (n : Nat) (rec23 : Int32 → Int32 → Int32 → Int32 → Int32 → Int32 → k_St → Option (Int32 × k_St)) (x1 : Int32) (x2 : Int32) (x3 : Int32) (x4 : Int32) (x5 : Int32) (x6 : Int32) (s0 : Int32) (t : k_St) : Option (Int32 × k_St) := k_gi (t.1 0 6) 900 (k_lt (k_sI t 1 (t.1 0 6).toNatClampNeg (((s0 >>> (((24 : Int32) - ((8 : Int32) * (x6 - x6 / (4 : Int32) * (4 : Int32)))) &&& 31)).toInt8.toInt32).toInt8.toInt32)) (fun t_2 => k_lt (k_sI t_2 0 6 ((t_2.1 0 6) + (1 : Int32))) (fun t_3 => k_lt (x6 + (1 : Int32)) (fun x6_4 => rec23 x1 x2 x3 x4 x5 x6_4 t_3))))
def f_M_feed_23 (n : Nat) : Nat → Int32 → Int32 → Int32 → Int32 → Int32 → Int32 → k_St → Option (Int32 × k_St)
  | 0, _, _, _, _, _, _, _ => none
  | k + 1, x1, x2, x3, x4, x5, x6, t => (if (20 : Int32) ≤ x6 then some ((t.1 0 6), t) else (if (4 : Int32) ≤ x6 then (if (8 : Int32) ≤ x6 then (if (12 : Int32) ≤ x6 then (if (16 : Int32) ≤ x6 then f_M_feed_76 n (f_M_feed_23 n k) x1 x2 x3 x4 x5 x6 x5 t else f_M_feed_76 n (f_M_feed_23 n k) x1 x2 x3 x4 x5 x6 x4 t) else f_M_feed_76 n (f_M_feed_23 n k) x1 x2 x3 x4 x5 x6 x3 t) else f_M_feed_76 n (f_M_feed_23 n k) x1 x2 x3 x4 x5 x6 x2 t) else f_M_feed_76 n (f_M_feed_23 n k) x1 x2 x3 x4 x5 x6 x1 t))
def f_M_feed (n : Nat) (x1 : Int32) (x2 : Int32) (x3 : Int32) (x4 : Int32) (x5 : Int32) (t : k_St) : Option (Int32 × k_St) := k_lt (k_sI t 0 0 (0 : Int32)) (fun t_1 => (if ((t_1.1 0 6) + (20 : Int32)) ≤ (900 : Int32) then f_M_feed_23 n n x1 x2 x3 x4 x5 (0 : Int32) t_1 else some ((-1 : Int32), t_1)))
theorem m_M_feed_76 {p : Program} (l : Launch) {e : Env} {s : State} {m : MethodId} {args : Array Value} {below : List Frame} {meth : Method} {c : Code} (G : k_G) (a : Nat → Nat) (rv : Value) (n : Nat) {w0 : va_W} {r : Int32} {t' : k_St} (hA : k_Amb p s m args meth c cX12_feed 8 "TaleSharesModel" G (va_A w0 s.heap.size)) (hr : meth.sig.returnType = (some .int)) (rec23 : Int32 → Int32 → Int32 → Int32 → Int32 → Int32 → k_St → Option (Int32 × k_St)) (hrec23 : ∀ (x1 : Int32) (x2 : Int32) (x3 : Int32) (x4 : Int32) (x5 : Int32) (x6 : Int32) (t : k_St), rec23 x1 x2 x3 x4 x5 x6 t = some (r, t') → k_Go p l e (k_rm 1) s m args below meth c (k_QI G w0 r (k_WT G.2.1 a rv t') args s below) 8 G (va_A w0 s.heap.size) (k_WT G.2.1 a rv t) 23 [(0, .ref (a 0)), (1, .int x1), (2, .int x2), (3, .int x3), (4, .int x4), (5, .int x5), (6, .int x6)] []) : ∀ (x1 : Int32) (x2 : Int32) (x3 : Int32) (x4 : Int32) (x5 : Int32) (x6 : Int32) (s0 : Int32) (t : k_St), f_M_feed_76 n rec23 x1 x2 x3 x4 x5 x6 s0 t = some (r, t') → k_Go p l e (k_rm 1) s m args below meth c (k_QI G w0 r (k_WT G.2.1 a rv t') args s below) 8 G (va_A w0 s.heap.size) (k_WT G.2.1 a rv t) 76 [(0, .ref (a 0)), (1, .int x1), (2, .int x2), (3, .int x3), (4, .int x4), (5, .int x5), (6, .int x6)] [.int s0] := by
  intro x1 x2 x3 x4 x5 x6 s0 t hf
  unfold f_M_feed_76 at hf
  obtain ⟨hi_1, hf⟩ := k_gi_e hf
  obtain ⟨t_2, et_2, hf⟩ := k_lt_e hf
  obtain ⟨t_3, et_3, hf⟩ := k_lt_e hf
  obtain ⟨x6_4, ex6_4, hf⟩ := k_lt_e hf
  refine k_istore (lv' := [(7, .int s0), (0, .ref (a 0)), (1, .int x1), (2, .int x2), (3, .int x3), (4, .int x4), (5, .int x5), (6, .int x6)]) hA dX12_feed_76 rfl (Nat.le_of_ble_eq_true rfl) rfl ?_
  refine k_aload_n (i := 0) hA dX12_feed_78 rfl 1 rfl ?_
  refine gt_MT_0_5 hA wd_1253 dX12_feed_79 ?_
  refine k_aload_n (i := 0) hA dX12_feed_82 rfl 1 rfl ?_
  refine gt_MT_0_6 hA wd_1254 dX12_feed_83 ?_
  refine k_iload hA dX12_feed_86 0 rfl ?_
  refine k_bipush hA dX12_feed_88 kc_b_24 ?_
  refine k_bipush hA dX12_feed_90 kc_b_8 ?_
  refine k_iload hA dX12_feed_92 7 rfl ?_
  refine k_iconst hA dX12_feed_94 kc_i_4 ?_
  refine k_irem hA dX12_feed_95 (by decide) ?_
  refine k_imul hA dX12_feed_96 ?_
  refine k_isub hA dX12_feed_97 ?_
  refine k_ishr hA dX12_feed_98 ?_
  refine k_i2b hA dX12_feed_99 ?_
  refine sr_MT_1 hA hi_1 et_2 dX12_feed_100 ?_
  refine k_aload_n (i := 0) hA dX12_feed_101 rfl 1 rfl ?_
  refine k_dup hA dX12_feed_102 rfl ?_
  refine gt_MT_0_6 hA wd_1254 dX12_feed_103 ?_
  refine k_iconst hA dX12_feed_106 kc_i_1 ?_
  refine k_iadd hA dX12_feed_107 ?_
  refine pt_MT_0_6 hA wd_1254 et_3 dX12_feed_108 ?_
  refine k_iinc (j := 7) (v := x6_4) (lv' := [(6, .int x6_4), (7, .int s0), (0, .ref (a 0)), (1, .int x1), (2, .int x2), (3, .int x3), (4, .int x4), (5, .int x5)]) hA dX12_feed_111 rfl (k_inc ex6_4 kc_i_1) (Nat.le_of_ble_eq_true rfl) rfl ?_
  refine k_goto (tgt := 23) hA dX12_feed_114 rfl ?_
  refine k_pick (lv' := [(0, .ref (a 0)), (1, .int x1), (2, .int x2), (3, .int x3), (4, .int x4), (5, .int x5), (6, .int x6_4)]) [2, 3, 4, 5, 6, 7, 0] rfl ?_
  exact hrec23 x1 x2 x3 x4 x5 x6_4 t_3 hf

theorem m_M_feed_23 {p : Program} (l : Launch) {e : Env} {s : State} {m : MethodId} {args : Array Value} {below : List Frame} {meth : Method} {c : Code} (G : k_G) (a : Nat → Nat) (rv : Value) (n : Nat) {w0 : va_W} {r : Int32} {t' : k_St} (hA : k_Amb p s m args meth c cX12_feed 8 "TaleSharesModel" G (va_A w0 s.heap.size)) (hr : meth.sig.returnType = (some .int)) : ∀ (k : Nat) (x1 : Int32) (x2 : Int32) (x3 : Int32) (x4 : Int32) (x5 : Int32) (x6 : Int32) (t : k_St), f_M_feed_23 n k x1 x2 x3 x4 x5 x6 t = some (r, t') → k_Go p l e (k_rm 1) s m args below meth c (k_QI G w0 r (k_WT G.2.1 a rv t') args s below) 8 G (va_A w0 s.heap.size) (k_WT G.2.1 a rv t) 23 [(0, .ref (a 0)), (1, .int x1), (2, .int x2), (3, .int x3), (4, .int x4), (5, .int x5), (6, .int x6)] [] := by
  intro k
  induction k with
  | zero => intro x1 x2 x3 x4 x5 x6 t hf; cases hf
  | succ k ih =>
  intro x1 x2 x3 x4 x5 x6 t hf
  rw [f_M_feed_23] at hf
  refine k_iload hA dX12_feed_23 6 rfl ?_
  refine k_bipush hA dX12_feed_25 kc_b_20 ?_
  refine k_icmp_ge (tgt := 117) hA dX12_feed_27 rfl (fun hc => ?_) (fun hc => ?_)
  · have hf := k_ift hc hf
    obtain ⟨rfl, rfl⟩ := k_r2 hf
    refine k_aload_n (i := 0) hA dX12_feed_117 rfl 0 rfl ?_
    refine gt_MT_0_6 hA wd_1254 dX12_feed_118 ?_
    exact k_iret hA hr rfl dX12_feed_121
  have hf := k_iff hc hf
  refine k_iload hA dX12_feed_30 6 rfl ?_
  refine k_iconst hA dX12_feed_32 kc_i_4 ?_
  refine k_icmp_ge (tgt := 40) hA dX12_feed_33 rfl (fun hc => ?_) (fun hc => ?_)
  · have hf := k_ift hc hf
    refine k_iload hA dX12_feed_40 6 rfl ?_
    refine k_bipush hA dX12_feed_42 kc_b_8 ?_
    refine k_icmp_ge (tgt := 51) hA dX12_feed_44 rfl (fun hc => ?_) (fun hc => ?_)
    · have hf := k_ift hc hf
      refine k_iload hA dX12_feed_51 6 rfl ?_
      refine k_bipush hA dX12_feed_53 kc_b_12 ?_
      refine k_icmp_ge (tgt := 62) hA dX12_feed_55 rfl (fun hc => ?_) (fun hc => ?_)
      · have hf := k_ift hc hf
        refine k_iload hA dX12_feed_62 6 rfl ?_
        refine k_bipush hA dX12_feed_64 kc_b_16 ?_
        refine k_icmp_ge (tgt := 74) hA dX12_feed_66 rfl (fun hc => ?_) (fun hc => ?_)
        · have hf := k_ift hc hf
          refine k_iload hA dX12_feed_74 5 rfl ?_
          exact m_M_feed_76 l G a rv n hA hr (f_M_feed_23 n k) ih x1 x2 x3 x4 x5 x6 x5 t hf
        have hf := k_iff hc hf
        refine k_iload hA dX12_feed_69 4 rfl ?_
        refine k_goto (tgt := 76) hA dX12_feed_71 rfl ?_
        exact m_M_feed_76 l G a rv n hA hr (f_M_feed_23 n k) ih x1 x2 x3 x4 x5 x6 x4 t hf
      have hf := k_iff hc hf
      refine k_iload_n (i := 3) hA dX12_feed_58 rfl 3 rfl ?_
      refine k_goto (tgt := 76) hA dX12_feed_59 rfl ?_
      exact m_M_feed_76 l G a rv n hA hr (f_M_feed_23 n k) ih x1 x2 x3 x4 x5 x6 x3 t hf
    have hf := k_iff hc hf
    refine k_iload_n (i := 2) hA dX12_feed_47 rfl 2 rfl ?_
    refine k_goto (tgt := 76) hA dX12_feed_48 rfl ?_
    exact m_M_feed_76 l G a rv n hA hr (f_M_feed_23 n k) ih x1 x2 x3 x4 x5 x6 x2 t hf
  have hf := k_iff hc hf
  refine k_iload_n (i := 1) hA dX12_feed_36 rfl 1 rfl ?_
  refine k_goto (tgt := 76) hA dX12_feed_37 rfl ?_
  exact m_M_feed_76 l G a rv n hA hr (f_M_feed_23 n k) ih x1 x2 x3 x4 x5 x6 x1 t hf

theorem m_M_feed (l : Launch) (G : k_G) (a : Nat → Nat) (rv : Value) (n : Nat) (x1 : Int32) (x2 : Int32) (x3 : Int32) (x4 : Int32) (x5 : Int32) (t : k_St) {r : Int32} {t' : k_St} (hf : f_M_feed n x1 x2 x3 x4 x5 t = some (r, t')) : k_CI l G yX12_feed cX12_feed 8 (some .int) 1 (k_WT G.2.1 a rv t) [.ref (a 0), .int x1, .int x2, .int x3, .int x4, .int x5] r (k_WT G.2.1 a rv t') := by
  refine k_startI (lv := [(0, .ref (a 0)), (1, .int x1), (2, .int x2), (3, .int x3), (4, .int x4), (5, .int x5)]) (by decide +kernel) (Nat.le_of_ble_eq_true rfl) rfl ?_
  intro p e s m args below meth c hA hr
  have hA : k_Amb p s m args meth c cX12_feed 8 "TaleSharesModel" G _ := hA
  unfold f_M_feed at hf
  obtain ⟨t_1, et_1, hf⟩ := k_lt_e hf
  refine k_aload_n (i := 0) hA dX12_feed_0 rfl 0 rfl ?_
  refine k_iconst hA dX12_feed_1 kc_i_0 ?_
  refine pt_MT_0_0 hA wd_1248 et_1 dX12_feed_2 ?_
  refine k_aload_n (i := 0) hA dX12_feed_5 rfl 0 rfl ?_
  refine gt_MT_0_6 hA wd_1254 dX12_feed_6 ?_
  refine k_bipush hA dX12_feed_9 kc_b_20 ?_
  refine k_iadd hA dX12_feed_11 ?_
  refine k_sipush hA dX12_feed_12 kc_s_900 ?_
  refine k_icmp_le (tgt := 20) hA dX12_feed_15 rfl (fun hc => ?_) (fun hc => ?_)
  · have hf := k_ift hc hf
    refine k_iconst hA dX12_feed_20 kc_i_0 ?_
    refine k_istore (lv' := [(6, .int (0 : Int32)), (0, .ref (a 0)), (1, .int x1), (2, .int x2), (3, .int x3), (4, .int x4), (5, .int x5)]) hA dX12_feed_21 rfl (Nat.le_of_ble_eq_true rfl) rfl ?_
    refine k_pick (lv' := [(0, .ref (a 0)), (1, .int x1), (2, .int x2), (3, .int x3), (4, .int x4), (5, .int x5), (6, .int (0 : Int32))]) [1, 2, 3, 4, 5, 6, 0] rfl ?_
    exact m_M_feed_23 l G a rv n hA hr n x1 x2 x3 x4 x5 (0 : Int32) t_1 hf
  have hf := k_iff hc hf
  obtain ⟨rfl, rfl⟩ := k_r2 hf
  refine k_iconst hA dX12_feed_18 kc_i_m1 ?_
  exact k_iret hA hr rfl dX12_feed_19

def f_M_fault (t : k_St) : Int32 × k_St := k_lt (k_sI t 0 0 (0 : Int32)) (fun t_1 => ((t_1.1 0 12), t_1))
theorem m_M_fault (l : Launch) (G : k_G) (a : Nat → Nat) (rv : Value) (t : k_St) {r : Int32} {t' : k_St} (hf : f_M_fault t = (r, t')) : k_CI l G yX12_fault cX12_fault 1 (some .int) 1 (k_WT G.2.1 a rv t) [.ref (a 0)] r (k_WT G.2.1 a rv t') := by
  refine k_startI (lv := [(0, .ref (a 0))]) (by decide +kernel) (Nat.le_of_ble_eq_true rfl) rfl ?_
  intro p e s m args below meth c hA hr
  have hA : k_Amb p s m args meth c cX12_fault 1 "TaleSharesModel" G _ := hA
  unfold f_M_fault at hf
  obtain ⟨t_1, et_1, hf⟩ := k_lt_e hf
  obtain ⟨rfl, rfl⟩ := k_p2 hf
  refine k_aload_n (i := 0) hA dX12_fault_0 rfl 0 rfl ?_
  refine k_iconst hA dX12_fault_1 kc_i_0 ?_
  refine pt_MT_0_0 hA wd_1248 et_1 dX12_fault_2 ?_
  refine k_aload_n (i := 0) hA dX12_fault_5 rfl 0 rfl ?_
  refine gt_MT_0_12 hA wd_1260 dX12_fault_6 ?_
  exact k_iret hA hr rfl dX12_fault_9

def f_M_where (t : k_St) : Int32 × k_St := k_lt (k_sI t 0 0 (0 : Int32)) (fun t_1 => ((t_1.1 0 2), t_1))
theorem m_M_where (l : Launch) (G : k_G) (a : Nat → Nat) (rv : Value) (t : k_St) {r : Int32} {t' : k_St} (hf : f_M_where t = (r, t')) : k_CI l G yX12_where cX12_where 1 (some .int) 1 (k_WT G.2.1 a rv t) [.ref (a 0)] r (k_WT G.2.1 a rv t') := by
  refine k_startI (lv := [(0, .ref (a 0))]) (by decide +kernel) (Nat.le_of_ble_eq_true rfl) rfl ?_
  intro p e s m args below meth c hA hr
  have hA : k_Amb p s m args meth c cX12_where 1 "TaleSharesModel" G _ := hA
  unfold f_M_where at hf
  obtain ⟨t_1, et_1, hf⟩ := k_lt_e hf
  obtain ⟨rfl, rfl⟩ := k_p2 hf
  refine k_aload_n (i := 0) hA dX12_where_0 rfl 0 rfl ?_
  refine k_iconst hA dX12_where_1 kc_i_0 ?_
  refine pt_MT_0_0 hA wd_1248 et_1 dX12_where_2 ?_
  refine k_aload_n (i := 0) hA dX12_where_5 rfl 0 rfl ?_
  refine gt_MT_0_2 hA wd_1250 dX12_where_6 ?_
  exact k_iret hA hr rfl dX12_where_9

def f_M_isPiece (t : k_St) (x1 : Int32) : Bool := (if x1 < 0 then false else (if (t.1 18 2) ≤ x1 then false else true))
theorem m_M_isPiece (l : Launch) (G : k_G) (a : Nat → Nat) (rv : Value) (t : k_St) (x1 : Int32) {r : Bool} (hf : f_M_isPiece t x1 = r) : k_CI l G yX12_isPiece cX12_isPiece 2 (some .boolean) 1 (k_WT G.2.1 a rv t) [.ref (a 0), .int x1] (k_b r) (k_WT G.2.1 a rv t) := by
  refine k_startI (lv := [(0, .ref (a 0)), (1, .int x1)]) (by decide +kernel) (Nat.le_of_ble_eq_true rfl) rfl ?_
  intro p e s m args below meth c hA hr
  have hA : k_Amb p s m args meth c cX12_isPiece 2 "TaleSharesModel" G _ := hA
  unfold f_M_isPiece at hf
  refine k_aload_n (i := 0) hA dX12_isPiece_0 rfl 0 rfl ?_
  refine gt_MT_0_3 hA wd_1251 dX12_isPiece_1 ?_
  refine k_ifnull hA dX12_isPiece_4 ?_
  refine k_iload_n (i := 1) hA dX12_isPiece_7 rfl 1 rfl ?_
  refine k_if_lt (tgt := 26) hA dX12_isPiece_8 rfl (fun hc => ?_) (fun hc => ?_)
  · have hf := k_ift hc hf
    subst hf
    refine k_iconst hA dX12_isPiece_26 kc_i_0 ?_
    exact k_iret hA hr (k_narB (k_b01 _)) dX12_isPiece_27
  have hf := k_iff hc hf
  refine k_iload_n (i := 1) hA dX12_isPiece_11 rfl 1 rfl ?_
  refine k_aload_n (i := 0) hA dX12_isPiece_12 rfl 0 rfl ?_
  refine gt_MT_0_3 hA wd_1251 dX12_isPiece_13 ?_
  refine gt_MT_18_2N hA rfl nf_210 dX12_isPiece_16 ?_
  refine k_icmp_ge (tgt := 26) hA dX12_isPiece_19 rfl (fun hc => ?_) (fun hc => ?_)
  · have hf := k_ift hc hf
    subst hf
    refine k_iconst hA dX12_isPiece_26 kc_i_0 ?_
    exact k_iret hA hr (k_narB (k_b01 _)) dX12_isPiece_27
  have hf := k_iff hc hf
  subst hf
  refine k_iconst hA dX12_isPiece_22 kc_i_1 ?_
  refine k_goto (tgt := 27) hA dX12_isPiece_23 rfl ?_
  exact k_iret hA hr (k_narB (k_b01 _)) dX12_isPiece_27

def f_M_refused (x1 : Int32) (t : k_St) : Int32 × k_St := k_lt (k_sI t 0 1 x1) (fun t_1 => k_lt (k_sI t_1 0 2 (-1 : Int32)) (fun t_2 => ((-1 : Int32), t_2)))
theorem m_M_refused (l : Launch) (G : k_G) (a : Nat → Nat) (rv : Value) (x1 : Int32) (t : k_St) {r : Int32} {t' : k_St} (hf : f_M_refused x1 t = (r, t')) : k_CI l G yX12_refused cX12_refused 2 (some .int) 1 (k_WT G.2.1 a rv t) [.ref (a 0), .int x1] r (k_WT G.2.1 a rv t') := by
  refine k_startI (lv := [(0, .ref (a 0)), (1, .int x1)]) (by decide +kernel) (Nat.le_of_ble_eq_true rfl) rfl ?_
  intro p e s m args below meth c hA hr
  have hA : k_Amb p s m args meth c cX12_refused 2 "TaleSharesModel" G _ := hA
  unfold f_M_refused at hf
  obtain ⟨t_1, et_1, hf⟩ := k_lt_e hf
  obtain ⟨t_2, et_2, hf⟩ := k_lt_e hf
  obtain ⟨rfl, rfl⟩ := k_p2 hf
  refine k_aload_n (i := 0) hA dX12_refused_0 rfl 0 rfl ?_
  refine k_iload_n (i := 1) hA dX12_refused_1 rfl 1 rfl ?_
  refine pt_MT_0_1 hA wd_1249 et_1 dX12_refused_2 ?_
  refine k_aload_n (i := 0) hA dX12_refused_5 rfl 0 rfl ?_
  refine k_iconst hA dX12_refused_6 kc_i_m1 ?_
  refine pt_MT_0_2 hA wd_1250 et_2 dX12_refused_7 ?_
  refine k_iconst hA dX12_refused_10 kc_i_m1 ?_
  exact k_iret hA hr rfl dX12_refused_11

def f_M_good (x1 : Int32) (t : k_St) : Int32 × k_St := k_lt (k_sI t 0 1 (0 : Int32)) (fun t_1 => k_lt (k_sI t_1 0 2 (-1 : Int32)) (fun t_2 => (x1, t_2)))
theorem m_M_good (l : Launch) (G : k_G) (a : Nat → Nat) (rv : Value) (x1 : Int32) (t : k_St) {r : Int32} {t' : k_St} (hf : f_M_good x1 t = (r, t')) : k_CI l G yX12_good cX12_good 2 (some .int) 1 (k_WT G.2.1 a rv t) [.ref (a 0), .int x1] r (k_WT G.2.1 a rv t') := by
  refine k_startI (lv := [(0, .ref (a 0)), (1, .int x1)]) (by decide +kernel) (Nat.le_of_ble_eq_true rfl) rfl ?_
  intro p e s m args below meth c hA hr
  have hA : k_Amb p s m args meth c cX12_good 2 "TaleSharesModel" G _ := hA
  unfold f_M_good at hf
  obtain ⟨t_1, et_1, hf⟩ := k_lt_e hf
  obtain ⟨t_2, et_2, hf⟩ := k_lt_e hf
  obtain ⟨rfl, rfl⟩ := k_p2 hf
  refine k_aload_n (i := 0) hA dX12_good_0 rfl 0 rfl ?_
  refine k_iconst hA dX12_good_1 kc_i_0 ?_
  refine pt_MT_0_1 hA wd_1249 et_1 dX12_good_2 ?_
  refine k_aload_n (i := 0) hA dX12_good_5 rfl 0 rfl ?_
  refine k_iconst hA dX12_good_6 kc_i_m1 ?_
  refine pt_MT_0_2 hA wd_1250 et_2 dX12_good_7 ?_
  refine k_iload_n (i := 1) hA dX12_good_10 rfl 1 rfl ?_
  exact k_iret hA hr rfl dX12_good_11

def f_M_piece_127 (n : Nat) : Nat → Int32 → Int32 → Int32 → k_St → Option (Int32 × k_St)
  | 0, _, _, _, _ => none
  | k + 1, x1, x3, x4, t => (if (t.1 18 4) ≤ x4 then k_lt (f_M_good x3 t) (fun q_1 => some (q_1.1, q_1.2)) else k_gi x4 6 ((if (k_b (f_M_bit (t.1 2 x4.toNatClampNeg) x1)) = 0 then k_lt (x3 ||| (0 : Int32)) (fun x3_3 => k_lt (x4 + (1 : Int32)) (fun x4_4 => f_M_piece_127 n k x1 x3_3 x4_4 t)) else k_lt (x3 ||| ((1 : Int32) <<< (x4 &&& 31))) (fun x3_5 => k_lt (x4 + (1 : Int32)) (fun x4_6 => f_M_piece_127 n k x1 x3_5 x4_6 t)))))
def f_M_piece_75 (n : Nat) : Nat → Int32 → Int32 → Int32 → k_St → Option (Int32 × k_St)
  | 0, _, _, _, _ => none
  | k + 1, x1, x3, x4, t => (if (t.1 18 2) ≤ x4 then k_lt (f_M_good x3 t) (fun q_1 => some (q_1.1, q_1.2)) else k_gi x4 8 ((if (k_b (f_M_bit (t.1 20 x4.toNatClampNeg) x1)) = 0 then k_lt (x3 ||| (0 : Int32)) (fun x3_3 => k_lt (x4 + (1 : Int32)) (fun x4_4 => f_M_piece_75 n k x1 x3_3 x4_4 t)) else k_lt (x3 ||| ((1 : Int32) <<< (x4 &&& 31))) (fun x3_5 => k_lt (x4 + (1 : Int32)) (fun x4_6 => f_M_piece_75 n k x1 x3_5 x4_6 t)))))
def f_M_piece (n : Nat) (x1 : Int32) (x2 : Int32) (t : k_St) : Option (Int32 × k_St) := k_lt (k_sI t 0 0 (0 : Int32)) (fun t_1 => (if (k_b (f_M_isPiece t_1 x1)) = 0 then k_lt (f_M_refused (1 : Int32) t_1) (fun q_2 => some (q_2.1, q_2.2)) else (if (k_b (f_M_in x2 (0 : Int32) (3 : Int32))) = 0 then k_lt (f_M_refused (1 : Int32) t_1) (fun q_7 => some (q_7.1, q_7.2)) else (if x2 = 0 then k_gi x1 8 (k_lt (f_M_good (t_1.1 19 x1.toNatClampNeg) t_1) (fun q_6 => some (q_6.1, q_6.2))) else (if x2 = (1 : Int32) then k_gi x1 8 (k_lt (f_M_good (t_1.1 20 x1.toNatClampNeg) t_1) (fun q_4 => some (q_4.1, q_4.2))) else (if x2 = (2 : Int32) then f_M_piece_75 n n x1 (0 : Int32) (0 : Int32) t_1 else f_M_piece_127 n n x1 (0 : Int32) (0 : Int32) t_1))))))
theorem m_M_piece_127 {p : Program} (l : Launch) {e : Env} {s : State} {m : MethodId} {args : Array Value} {below : List Frame} {meth : Method} {c : Code} (G : k_G) (a : Nat → Nat) (rv : Value) (n : Nat) {w0 : va_W} {r : Int32} {t' : k_St} (hA : k_Amb p s m args meth c cX12_piece 5 "TaleSharesModel" G (va_A w0 s.heap.size)) (hr : meth.sig.returnType = (some .int)) : ∀ (k : Nat) (x1 : Int32) (x3 : Int32) (x4 : Int32) (t : k_St), f_M_piece_127 n k x1 x3 x4 t = some (r, t') → k_Go p l e (k_rm 2) s m args below meth c (k_QI G w0 r (k_WT G.2.1 a rv t') args s below) 5 G (va_A w0 s.heap.size) (k_WT G.2.1 a rv t) 127 [(0, .ref (a 0)), (1, .int x1), (3, .int x3), (4, .int x4)] [] := by
  intro k
  induction k with
  | zero => intro x1 x3 x4 t hf; cases hf
  | succ k ih =>
  intro x1 x3 x4 t hf
  rw [f_M_piece_127] at hf
  refine k_iload hA dX12_piece_127 3 rfl ?_
  refine k_aload_n (i := 0) hA dX12_piece_129 rfl 0 rfl ?_
  refine gt_MT_0_3 hA wd_1251 dX12_piece_130 ?_
  refine gt_MT_18_4N hA rfl nf_277 dX12_piece_133 ?_
  refine k_icmp_ge (tgt := 170) hA dX12_piece_136 rfl (fun hc => ?_) (fun hc => ?_)
  · have hf := k_ift hc hf
    obtain ⟨⟨rq_1, tq_1⟩, hq_1, hf⟩ := k_lt_e hf
    dsimp only at hf
    obtain ⟨rfl, rfl⟩ := k_r2 hf
    refine k_aload_n (i := 0) hA dX12_piece_170 rfl 0 rfl ?_
    refine k_iload_n (i := 3) hA dX12_piece_171 rfl 2 rfl ?_
    refine k_callVi (As := [.int x3]) (rest := []) hA (m_M_good l G a rv x3 t hq_1.symm) cd_X12_good wd_1601 (hc_MT_0 G.2.1 a rv t) rfl rfl (Nat.le_of_ble_eq_true rfl) rfl rfl (Nat.le_of_ble_eq_true rfl) dX12_piece_172 ?_
    exact k_iret hA hr rfl dX12_piece_175
  have hf := k_iff hc hf
  obtain ⟨hi_2, hf⟩ := k_gi_e hf
  refine k_iload_n (i := 3) hA dX12_piece_139 rfl 2 rfl ?_
  refine k_aload_n (i := 0) hA dX12_piece_140 rfl 0 rfl ?_
  refine gt_MT_0_15 hA wd_1263 dX12_piece_141 ?_
  refine k_iload hA dX12_piece_144 3 rfl ?_
  refine ld_MT_2 hA hi_2 dX12_piece_146 ?_
  refine k_iload_n (i := 1) hA dX12_piece_147 rfl 1 rfl ?_
  refine k_callSi (As := [.int (t.1 2 x4.toNatClampNeg), .int x1]) (rest := [.int x3]) hA (m_M_bit l G (k_WT G.2.1 a rv t) (t.1 2 x4.toNatClampNeg) x1 rfl) cd_X12_bit wd_1575 (Nat.le_of_ble_eq_true rfl) rfl rfl (Nat.le_of_ble_eq_true rfl) dX12_piece_148 ?_
  refine k_if_eq (tgt := 161) hA dX12_piece_151 rfl (fun hc => ?_) (fun hc => ?_)
  · have hf := k_ift hc hf
    obtain ⟨x3_3, ex3_3, hf⟩ := k_lt_e hf
    obtain ⟨x4_4, ex4_4, hf⟩ := k_lt_e hf
    refine k_iconst hA dX12_piece_161 kc_i_0 ?_
    refine k_ior hA dX12_piece_162 ?_
    refine k_istore_n (i := 3) (lv' := [(3, .int x3_3), (0, .ref (a 0)), (1, .int x1), (4, .int x4)]) hA dX12_piece_163 rfl ex3_3 (Nat.le_of_ble_eq_true rfl) rfl ?_
    refine k_iinc (j := 3) (v := x4_4) (lv' := [(4, .int x4_4), (3, .int x3_3), (0, .ref (a 0)), (1, .int x1)]) hA dX12_piece_164 rfl (k_inc ex4_4 kc_i_1) (Nat.le_of_ble_eq_true rfl) rfl ?_
    refine k_goto (tgt := 127) hA dX12_piece_167 rfl ?_
    refine k_pick (lv' := [(0, .ref (a 0)), (1, .int x1), (3, .int x3_3), (4, .int x4_4)]) [2, 3, 1, 0] rfl ?_
    exact ih x1 x3_3 x4_4 t hf
  have hf := k_iff hc hf
  obtain ⟨x3_5, ex3_5, hf⟩ := k_lt_e hf
  obtain ⟨x4_6, ex4_6, hf⟩ := k_lt_e hf
  refine k_iconst hA dX12_piece_154 kc_i_1 ?_
  refine k_iload hA dX12_piece_155 3 rfl ?_
  refine k_ishl hA dX12_piece_157 ?_
  refine k_goto (tgt := 162) hA dX12_piece_158 rfl ?_
  refine k_ior hA dX12_piece_162 ?_
  refine k_istore_n (i := 3) (lv' := [(3, .int x3_5), (0, .ref (a 0)), (1, .int x1), (4, .int x4)]) hA dX12_piece_163 rfl ex3_5 (Nat.le_of_ble_eq_true rfl) rfl ?_
  refine k_iinc (j := 3) (v := x4_6) (lv' := [(4, .int x4_6), (3, .int x3_5), (0, .ref (a 0)), (1, .int x1)]) hA dX12_piece_164 rfl (k_inc ex4_6 kc_i_1) (Nat.le_of_ble_eq_true rfl) rfl ?_
  refine k_goto (tgt := 127) hA dX12_piece_167 rfl ?_
  refine k_pick (lv' := [(0, .ref (a 0)), (1, .int x1), (3, .int x3_5), (4, .int x4_6)]) [2, 3, 1, 0] rfl ?_
  exact ih x1 x3_5 x4_6 t hf

theorem m_M_piece_75 {p : Program} (l : Launch) {e : Env} {s : State} {m : MethodId} {args : Array Value} {below : List Frame} {meth : Method} {c : Code} (G : k_G) (a : Nat → Nat) (rv : Value) (n : Nat) {w0 : va_W} {r : Int32} {t' : k_St} (hA : k_Amb p s m args meth c cX12_piece 5 "TaleSharesModel" G (va_A w0 s.heap.size)) (hr : meth.sig.returnType = (some .int)) : ∀ (k : Nat) (x1 : Int32) (x3 : Int32) (x4 : Int32) (t : k_St), f_M_piece_75 n k x1 x3 x4 t = some (r, t') → k_Go p l e (k_rm 2) s m args below meth c (k_QI G w0 r (k_WT G.2.1 a rv t') args s below) 5 G (va_A w0 s.heap.size) (k_WT G.2.1 a rv t) 75 [(0, .ref (a 0)), (1, .int x1), (3, .int x3), (4, .int x4)] [] := by
  intro k
  induction k with
  | zero => intro x1 x3 x4 t hf; cases hf
  | succ k ih =>
  intro x1 x3 x4 t hf
  rw [f_M_piece_75] at hf
  refine k_iload hA dX12_piece_75 3 rfl ?_
  refine k_aload_n (i := 0) hA dX12_piece_77 rfl 0 rfl ?_
  refine gt_MT_0_3 hA wd_1251 dX12_piece_78 ?_
  refine gt_MT_18_2N hA rfl nf_210 dX12_piece_81 ?_
  refine k_icmp_ge (tgt := 121) hA dX12_piece_84 rfl (fun hc => ?_) (fun hc => ?_)
  · have hf := k_ift hc hf
    obtain ⟨⟨rq_1, tq_1⟩, hq_1, hf⟩ := k_lt_e hf
    dsimp only at hf
    obtain ⟨rfl, rfl⟩ := k_r2 hf
    refine k_goto (tgt := 170) hA dX12_piece_121 rfl ?_
    refine k_aload_n (i := 0) hA dX12_piece_170 rfl 0 rfl ?_
    refine k_iload_n (i := 3) hA dX12_piece_171 rfl 2 rfl ?_
    refine k_callVi (As := [.int x3]) (rest := []) hA (m_M_good l G a rv x3 t hq_1.symm) cd_X12_good wd_1601 (hc_MT_0 G.2.1 a rv t) rfl rfl (Nat.le_of_ble_eq_true rfl) rfl rfl (Nat.le_of_ble_eq_true rfl) dX12_piece_172 ?_
    exact k_iret hA hr rfl dX12_piece_175
  have hf := k_iff hc hf
  obtain ⟨hi_2, hf⟩ := k_gi_e hf
  refine k_iload_n (i := 3) hA dX12_piece_87 rfl 2 rfl ?_
  refine k_aload_n (i := 0) hA dX12_piece_88 rfl 0 rfl ?_
  refine gt_MT_0_3 hA wd_1251 dX12_piece_89 ?_
  refine gt_MT_18_10N hA rfl nf_270 dX12_piece_92 ?_
  refine k_iload hA dX12_piece_95 3 rfl ?_
  refine ld_MT_20 hA hi_2 dX12_piece_97 ?_
  refine k_iload_n (i := 1) hA dX12_piece_98 rfl 1 rfl ?_
  refine k_callSi (As := [.int (t.1 20 x4.toNatClampNeg), .int x1]) (rest := [.int x3]) hA (m_M_bit l G (k_WT G.2.1 a rv t) (t.1 20 x4.toNatClampNeg) x1 rfl) cd_X12_bit wd_1575 (Nat.le_of_ble_eq_true rfl) rfl rfl (Nat.le_of_ble_eq_true rfl) dX12_piece_99 ?_
  refine k_if_eq (tgt := 112) hA dX12_piece_102 rfl (fun hc => ?_) (fun hc => ?_)
  · have hf := k_ift hc hf
    obtain ⟨x3_3, ex3_3, hf⟩ := k_lt_e hf
    obtain ⟨x4_4, ex4_4, hf⟩ := k_lt_e hf
    refine k_iconst hA dX12_piece_112 kc_i_0 ?_
    refine k_ior hA dX12_piece_113 ?_
    refine k_istore_n (i := 3) (lv' := [(3, .int x3_3), (0, .ref (a 0)), (1, .int x1), (4, .int x4)]) hA dX12_piece_114 rfl ex3_3 (Nat.le_of_ble_eq_true rfl) rfl ?_
    refine k_iinc (j := 3) (v := x4_4) (lv' := [(4, .int x4_4), (3, .int x3_3), (0, .ref (a 0)), (1, .int x1)]) hA dX12_piece_115 rfl (k_inc ex4_4 kc_i_1) (Nat.le_of_ble_eq_true rfl) rfl ?_
    refine k_goto (tgt := 75) hA dX12_piece_118 rfl ?_
    refine k_pick (lv' := [(0, .ref (a 0)), (1, .int x1), (3, .int x3_3), (4, .int x4_4)]) [2, 3, 1, 0] rfl ?_
    exact ih x1 x3_3 x4_4 t hf
  have hf := k_iff hc hf
  obtain ⟨x3_5, ex3_5, hf⟩ := k_lt_e hf
  obtain ⟨x4_6, ex4_6, hf⟩ := k_lt_e hf
  refine k_iconst hA dX12_piece_105 kc_i_1 ?_
  refine k_iload hA dX12_piece_106 3 rfl ?_
  refine k_ishl hA dX12_piece_108 ?_
  refine k_goto (tgt := 113) hA dX12_piece_109 rfl ?_
  refine k_ior hA dX12_piece_113 ?_
  refine k_istore_n (i := 3) (lv' := [(3, .int x3_5), (0, .ref (a 0)), (1, .int x1), (4, .int x4)]) hA dX12_piece_114 rfl ex3_5 (Nat.le_of_ble_eq_true rfl) rfl ?_
  refine k_iinc (j := 3) (v := x4_6) (lv' := [(4, .int x4_6), (3, .int x3_5), (0, .ref (a 0)), (1, .int x1)]) hA dX12_piece_115 rfl (k_inc ex4_6 kc_i_1) (Nat.le_of_ble_eq_true rfl) rfl ?_
  refine k_goto (tgt := 75) hA dX12_piece_118 rfl ?_
  refine k_pick (lv' := [(0, .ref (a 0)), (1, .int x1), (3, .int x3_5), (4, .int x4_6)]) [2, 3, 1, 0] rfl ?_
  exact ih x1 x3_5 x4_6 t hf

theorem m_M_piece (l : Launch) (G : k_G) (a : Nat → Nat) (rv : Value) (n : Nat) (x1 : Int32) (x2 : Int32) (t : k_St) {r : Int32} {t' : k_St} (hf : f_M_piece n x1 x2 t = some (r, t')) : k_CI l G yX12_piece cX12_piece 5 (some .int) 2 (k_WT G.2.1 a rv t) [.ref (a 0), .int x1, .int x2] r (k_WT G.2.1 a rv t') := by
  refine k_startI (lv := [(0, .ref (a 0)), (1, .int x1), (2, .int x2)]) (by decide +kernel) (Nat.le_of_ble_eq_true rfl) rfl ?_
  intro p e s m args below meth c hA hr
  have hA : k_Amb p s m args meth c cX12_piece 5 "TaleSharesModel" G _ := hA
  unfold f_M_piece at hf
  obtain ⟨t_1, et_1, hf⟩ := k_lt_e hf
  refine k_aload_n (i := 0) hA dX12_piece_0 rfl 0 rfl ?_
  refine k_iconst hA dX12_piece_1 kc_i_0 ?_
  refine pt_MT_0_0 hA wd_1248 et_1 dX12_piece_2 ?_
  refine k_aload_n (i := 0) hA dX12_piece_5 rfl 0 rfl ?_
  refine k_iload_n (i := 1) hA dX12_piece_6 rfl 1 rfl ?_
  refine k_callVi (As := [.int x1]) (rest := []) hA (m_M_isPiece l G a rv t_1 x1 rfl) cd_X12_isPiece wd_1617 (hc_MT_0 G.2.1 a rv t_1) rfl rfl (Nat.le_of_ble_eq_true rfl) rfl rfl (Nat.le_of_ble_eq_true rfl) dX12_piece_7 ?_
  refine k_if_eq (tgt := 22) hA dX12_piece_10 rfl (fun hc => ?_) (fun hc => ?_)
  · have hf := k_ift hc hf
    obtain ⟨⟨rq_2, tq_2⟩, hq_2, hf⟩ := k_lt_e hf
    dsimp only at hf
    obtain ⟨rfl, rfl⟩ := k_r2 hf
    refine k_aload_n (i := 0) hA dX12_piece_22 rfl 0 rfl ?_
    refine k_iconst hA dX12_piece_23 kc_i_1 ?_
    refine k_callVi (As := [.int (1 : Int32)]) (rest := []) hA (m_M_refused l G a rv (1 : Int32) t_1 hq_2.symm) cd_X12_refused wd_1390 (hc_MT_0 G.2.1 a rv t_1) rfl rfl (Nat.le_of_ble_eq_true rfl) rfl rfl (Nat.le_of_ble_eq_true rfl) dX12_piece_24 ?_
    exact k_iret hA hr rfl dX12_piece_27
  have hf := k_iff hc hf
  refine k_iload_n (i := 2) hA dX12_piece_13 rfl 2 rfl ?_
  refine k_iconst hA dX12_piece_14 kc_i_0 ?_
  refine k_iconst hA dX12_piece_15 kc_i_3 ?_
  refine k_callSi (As := [.int x2, .int (0 : Int32), .int (3 : Int32)]) (rest := []) hA (m_M_in l G (k_WT G.2.1 a rv t_1) x2 (0 : Int32) (3 : Int32) rfl) cd_X12_in wd_1525 (Nat.le_of_ble_eq_true rfl) rfl rfl (Nat.le_of_ble_eq_true rfl) dX12_piece_16 ?_
  refine k_if_ne (tgt := 28) hA dX12_piece_19 rfl (fun hc => ?_) (fun hc => ?_)
  · have hf := k_iff hc hf
    refine k_iload_n (i := 2) hA dX12_piece_28 rfl 2 rfl ?_
    refine k_if_ne (tgt := 46) hA dX12_piece_29 rfl (fun hc => ?_) (fun hc => ?_)
    · have hf := k_iff hc hf
      refine k_iload_n (i := 2) hA dX12_piece_46 rfl 2 rfl ?_
      refine k_iconst hA dX12_piece_47 kc_i_1 ?_
      refine k_icmp_ne (tgt := 65) hA dX12_piece_48 rfl (fun hc => ?_) (fun hc => ?_)
      · have hf := k_iff hc hf
        refine k_iconst hA dX12_piece_65 kc_i_0 ?_
        refine k_istore_n (i := 3) (lv' := [(3, .int (0 : Int32)), (0, .ref (a 0)), (1, .int x1), (2, .int x2)]) hA dX12_piece_66 rfl rfl (Nat.le_of_ble_eq_true rfl) rfl ?_
        refine k_iload_n (i := 2) hA dX12_piece_67 rfl 3 rfl ?_
        refine k_iconst hA dX12_piece_68 kc_i_2 ?_
        refine k_icmp_ne (tgt := 124) hA dX12_piece_69 rfl (fun hc => ?_) (fun hc => ?_)
        · have hf := k_iff hc hf
          refine k_iconst hA dX12_piece_124 kc_i_0 ?_
          refine k_istore (lv' := [(4, .int (0 : Int32)), (3, .int (0 : Int32)), (0, .ref (a 0)), (1, .int x1), (2, .int x2)]) hA dX12_piece_125 rfl (Nat.le_of_ble_eq_true rfl) rfl ?_
          refine k_pick (lv' := [(0, .ref (a 0)), (1, .int x1), (3, .int (0 : Int32)), (4, .int (0 : Int32))]) [2, 3, 1, 0] rfl ?_
          exact m_M_piece_127 l G a rv n hA hr n x1 (0 : Int32) (0 : Int32) t_1 hf
        have hf := k_ift hc hf
        refine k_iconst hA dX12_piece_72 kc_i_0 ?_
        refine k_istore (lv' := [(4, .int (0 : Int32)), (3, .int (0 : Int32)), (0, .ref (a 0)), (1, .int x1), (2, .int x2)]) hA dX12_piece_73 rfl (Nat.le_of_ble_eq_true rfl) rfl ?_
        refine k_pick (lv' := [(0, .ref (a 0)), (1, .int x1), (3, .int (0 : Int32)), (4, .int (0 : Int32))]) [2, 3, 1, 0] rfl ?_
        exact m_M_piece_75 l G a rv n hA hr n x1 (0 : Int32) (0 : Int32) t_1 hf
      have hf := k_ift hc hf
      obtain ⟨hi_3, hf⟩ := k_gi_e hf
      obtain ⟨⟨rq_4, tq_4⟩, hq_4, hf⟩ := k_lt_e hf
      dsimp only at hf
      obtain ⟨rfl, rfl⟩ := k_r2 hf
      refine k_aload_n (i := 0) hA dX12_piece_51 rfl 0 rfl ?_
      refine k_aload_n (i := 0) hA dX12_piece_52 rfl 0 rfl ?_
      refine gt_MT_0_3 hA wd_1251 dX12_piece_53 ?_
      refine gt_MT_18_10N hA rfl nf_270 dX12_piece_56 ?_
      refine k_iload_n (i := 1) hA dX12_piece_59 rfl 1 rfl ?_
      refine ld_MT_20 hA hi_3 dX12_piece_60 ?_
      refine k_callVi (As := [.int (t_1.1 20 x1.toNatClampNeg)]) (rest := []) hA (m_M_good l G a rv (t_1.1 20 x1.toNatClampNeg) t_1 hq_4.symm) cd_X12_good wd_1601 (hc_MT_0 G.2.1 a rv t_1) rfl rfl (Nat.le_of_ble_eq_true rfl) rfl rfl (Nat.le_of_ble_eq_true rfl) dX12_piece_61 ?_
      exact k_iret hA hr rfl dX12_piece_64
    have hf := k_ift hc hf
    obtain ⟨hi_5, hf⟩ := k_gi_e hf
    obtain ⟨⟨rq_6, tq_6⟩, hq_6, hf⟩ := k_lt_e hf
    dsimp only at hf
    obtain ⟨rfl, rfl⟩ := k_r2 hf
    refine k_aload_n (i := 0) hA dX12_piece_32 rfl 0 rfl ?_
    refine k_aload_n (i := 0) hA dX12_piece_33 rfl 0 rfl ?_
    refine gt_MT_0_3 hA wd_1251 dX12_piece_34 ?_
    refine gt_MT_18_9N hA rfl nf_262 dX12_piece_37 ?_
    refine k_iload_n (i := 1) hA dX12_piece_40 rfl 1 rfl ?_
    refine ld_MT_19 hA hi_5 dX12_piece_41 ?_
    refine k_callVi (As := [.int (t_1.1 19 x1.toNatClampNeg)]) (rest := []) hA (m_M_good l G a rv (t_1.1 19 x1.toNatClampNeg) t_1 hq_6.symm) cd_X12_good wd_1601 (hc_MT_0 G.2.1 a rv t_1) rfl rfl (Nat.le_of_ble_eq_true rfl) rfl rfl (Nat.le_of_ble_eq_true rfl) dX12_piece_42 ?_
    exact k_iret hA hr rfl dX12_piece_45
  have hf := k_ift hc hf
  obtain ⟨⟨rq_7, tq_7⟩, hq_7, hf⟩ := k_lt_e hf
  dsimp only at hf
  obtain ⟨rfl, rfl⟩ := k_r2 hf
  refine k_aload_n (i := 0) hA dX12_piece_22 rfl 0 rfl ?_
  refine k_iconst hA dX12_piece_23 kc_i_1 ?_
  refine k_callVi (As := [.int (1 : Int32)]) (rest := []) hA (m_M_refused l G a rv (1 : Int32) t_1 hq_7.symm) cd_X12_refused wd_1390 (hc_MT_0 G.2.1 a rv t_1) rfl rfl (Nat.le_of_ble_eq_true rfl) rfl rfl (Nat.le_of_ble_eq_true rfl) dX12_piece_24 ?_
  exact k_iret hA hr rfl dX12_piece_27

def f_M_isHouse (t : k_St) (x1 : Int32) : Bool := (if x1 < 0 then false else (if (t.1 18 4) ≤ x1 then false else true))
theorem m_M_isHouse (l : Launch) (G : k_G) (a : Nat → Nat) (rv : Value) (t : k_St) (x1 : Int32) {r : Bool} (hf : f_M_isHouse t x1 = r) : k_CI l G yX12_isHouse cX12_isHouse 2 (some .boolean) 1 (k_WT G.2.1 a rv t) [.ref (a 0), .int x1] (k_b r) (k_WT G.2.1 a rv t) := by
  refine k_startI (lv := [(0, .ref (a 0)), (1, .int x1)]) (by decide +kernel) (Nat.le_of_ble_eq_true rfl) rfl ?_
  intro p e s m args below meth c hA hr
  have hA : k_Amb p s m args meth c cX12_isHouse 2 "TaleSharesModel" G _ := hA
  unfold f_M_isHouse at hf
  refine k_aload_n (i := 0) hA dX12_isHouse_0 rfl 0 rfl ?_
  refine gt_MT_0_3 hA wd_1251 dX12_isHouse_1 ?_
  refine k_ifnull hA dX12_isHouse_4 ?_
  refine k_iload_n (i := 1) hA dX12_isHouse_7 rfl 1 rfl ?_
  refine k_if_lt (tgt := 26) hA dX12_isHouse_8 rfl (fun hc => ?_) (fun hc => ?_)
  · have hf := k_ift hc hf
    subst hf
    refine k_iconst hA dX12_isHouse_26 kc_i_0 ?_
    exact k_iret hA hr (k_narB (k_b01 _)) dX12_isHouse_27
  have hf := k_iff hc hf
  refine k_iload_n (i := 1) hA dX12_isHouse_11 rfl 1 rfl ?_
  refine k_aload_n (i := 0) hA dX12_isHouse_12 rfl 0 rfl ?_
  refine gt_MT_0_3 hA wd_1251 dX12_isHouse_13 ?_
  refine gt_MT_18_4N hA rfl nf_277 dX12_isHouse_16 ?_
  refine k_icmp_ge (tgt := 26) hA dX12_isHouse_19 rfl (fun hc => ?_) (fun hc => ?_)
  · have hf := k_ift hc hf
    subst hf
    refine k_iconst hA dX12_isHouse_26 kc_i_0 ?_
    exact k_iret hA hr (k_narB (k_b01 _)) dX12_isHouse_27
  have hf := k_iff hc hf
  subst hf
  refine k_iconst hA dX12_isHouse_22 kc_i_1 ?_
  refine k_goto (tgt := 27) hA dX12_isHouse_23 rfl ?_
  exact k_iret hA hr (k_narB (k_b01 _)) dX12_isHouse_27

def f_M_startsTales (x1 : Int32) (t : k_St) : Option k_St := k_lt (k_sI t 0 25 x1) (fun t_1 => k_lt (k_sI t_1 0 22 (0 : Int32)) (fun t_2 => k_lt (k_sI t_2 0 23 (0 : Int32)) (fun t_3 => k_lt (k_sI t_3 0 24 (0 : Int32)) (fun t_4 => k_gi (0 : Int32) 9 (k_lt (k_sI t_4 6 (0 : Int32).toNatClampNeg (0 : Int32)) (fun t_6 => some t_6))))))
theorem m_M_startsTales (l : Launch) (G : k_G) (a : Nat → Nat) (rv : Value) (x1 : Int32) (t : k_St) {t' : k_St} (hf : f_M_startsTales x1 t = some t') : k_CV l G yX12_startsTales cX12_startsTales 2 none 1 (k_WT G.2.1 a rv t) [.ref (a 0), .int x1] (k_WT G.2.1 a rv t') := by
  refine k_startV (lv := [(0, .ref (a 0)), (1, .int x1)]) (by decide +kernel) (Nat.le_of_ble_eq_true rfl) rfl ?_
  intro p e s m args below meth c hA hr
  have hA : k_Amb p s m args meth c cX12_startsTales 2 "TaleSharesModel" G _ := hA
  unfold f_M_startsTales at hf
  obtain ⟨t_1, et_1, hf⟩ := k_lt_e hf
  obtain ⟨t_2, et_2, hf⟩ := k_lt_e hf
  obtain ⟨t_3, et_3, hf⟩ := k_lt_e hf
  obtain ⟨t_4, et_4, hf⟩ := k_lt_e hf
  obtain ⟨hi_5, hf⟩ := k_gi_e hf
  obtain ⟨t_6, et_6, hf⟩ := k_lt_e hf
  obtain rfl := k_r1 hf
  refine k_aload_n (i := 0) hA dX12_startsTales_0 rfl 0 rfl ?_
  refine k_iload_n (i := 1) hA dX12_startsTales_1 rfl 1 rfl ?_
  refine pt_MT_0_25 hA wd_1273 et_1 dX12_startsTales_2 ?_
  refine k_aload_n (i := 0) hA dX12_startsTales_5 rfl 0 rfl ?_
  refine k_iconst hA dX12_startsTales_6 kc_i_0 ?_
  refine pt_MT_0_22 hA wd_1270 et_2 dX12_startsTales_7 ?_
  refine k_aload_n (i := 0) hA dX12_startsTales_10 rfl 0 rfl ?_
  refine k_iconst hA dX12_startsTales_11 kc_i_0 ?_
  refine pt_MT_0_23 hA wd_1271 et_3 dX12_startsTales_12 ?_
  refine k_aload_n (i := 0) hA dX12_startsTales_15 rfl 0 rfl ?_
  refine k_iconst hA dX12_startsTales_16 kc_i_0 ?_
  refine pt_MT_0_24 hA wd_1272 et_4 dX12_startsTales_17 ?_
  refine k_aload_n (i := 0) hA dX12_startsTales_20 rfl 0 rfl ?_
  refine gt_MT_0_21 hA wd_1269 dX12_startsTales_21 ?_
  refine k_iconst hA dX12_startsTales_24 kc_i_0 ?_
  refine k_iconst hA dX12_startsTales_25 kc_i_0 ?_
  refine sr_MT_6 hA hi_5 et_6 dX12_startsTales_26 ?_
  exact k_vret hA hr dX12_startsTales_27

def f_M_isWhole (t : k_St) : Option Bool := (if (t.1 0 22) ≤ (1 : Int32) then some false else k_gi ((t.1 0 22) - (1 : Int32)) 9 (k_gi (t.1 6 ((t.1 0 22) - (1 : Int32)).toNatClampNeg) 8 ((if (t.1 19 (t.1 6 ((t.1 0 22) - (1 : Int32)).toNatClampNeg).toNatClampNeg) = (3 : Int32) then some true else some false))))
theorem m_M_isWhole (l : Launch) (G : k_G) (a : Nat → Nat) (rv : Value) (t : k_St) {r : Bool} (hf : f_M_isWhole t = some r) : k_CI l G yX12_isWhole cX12_isWhole 1 (some .boolean) 1 (k_WT G.2.1 a rv t) [.ref (a 0)] (k_b r) (k_WT G.2.1 a rv t) := by
  refine k_startI (lv := [(0, .ref (a 0))]) (by decide +kernel) (Nat.le_of_ble_eq_true rfl) rfl ?_
  intro p e s m args below meth c hA hr
  have hA : k_Amb p s m args meth c cX12_isWhole 1 "TaleSharesModel" G _ := hA
  unfold f_M_isWhole at hf
  refine k_aload_n (i := 0) hA dX12_isWhole_0 rfl 0 rfl ?_
  refine gt_MT_0_22 hA wd_1270 dX12_isWhole_1 ?_
  refine k_iconst hA dX12_isWhole_4 kc_i_1 ?_
  refine k_icmp_le (tgt := 35) hA dX12_isWhole_5 rfl (fun hc => ?_) (fun hc => ?_)
  · have hf := k_ift hc hf
    obtain rfl := k_r1 hf
    refine k_iconst hA dX12_isWhole_35 kc_i_0 ?_
    exact k_iret hA hr (k_narB (k_b01 _)) dX12_isWhole_36
  have hf := k_iff hc hf
  obtain ⟨hi_1, hf⟩ := k_gi_e hf
  obtain ⟨hi_2, hf⟩ := k_gi_e hf
  refine k_aload_n (i := 0) hA dX12_isWhole_8 rfl 0 rfl ?_
  refine gt_MT_0_3 hA wd_1251 dX12_isWhole_9 ?_
  refine gt_MT_18_9N hA rfl nf_262 dX12_isWhole_12 ?_
  refine k_aload_n (i := 0) hA dX12_isWhole_15 rfl 0 rfl ?_
  refine gt_MT_0_21 hA wd_1269 dX12_isWhole_16 ?_
  refine k_aload_n (i := 0) hA dX12_isWhole_19 rfl 0 rfl ?_
  refine gt_MT_0_22 hA wd_1270 dX12_isWhole_20 ?_
  refine k_iconst hA dX12_isWhole_23 kc_i_1 ?_
  refine k_isub hA dX12_isWhole_24 ?_
  refine ld_MT_6 hA hi_1 dX12_isWhole_25 ?_
  refine ld_MT_19 hA hi_2 dX12_isWhole_26 ?_
  refine k_iconst hA dX12_isWhole_27 kc_i_3 ?_
  refine k_icmp_ne (tgt := 35) hA dX12_isWhole_28 rfl (fun hc => ?_) (fun hc => ?_)
  · have hf := k_iff hc hf
    obtain rfl := k_r1 hf
    refine k_iconst hA dX12_isWhole_35 kc_i_0 ?_
    exact k_iret hA hr (k_narB (k_b01 _)) dX12_isWhole_36
  have hf := k_ift hc hf
  obtain rfl := k_r1 hf
  refine k_iconst hA dX12_isWhole_31 kc_i_1 ?_
  refine k_goto (tgt := 36) hA dX12_isWhole_32 rfl ?_
  exact k_iret hA hr (k_narB (k_b01 _)) dX12_isWhole_36

def f_M_fitsOn_51 (t : k_St) (x1 : Int32) : Option Bool := (if (t.1 0 22) = 0 then k_gi x1 8 ((if (t.1 19 x1.toNatClampNeg) = 0 then some true else some false)) else k_gi x1 8 ((if (t.1 19 x1.toNatClampNeg) = 0 then some false else k_gi ((t.1 0 22) - (1 : Int32)) 9 (k_gi (t.1 6 ((t.1 0 22) - (1 : Int32)).toNatClampNeg) 8 ((if (k_b (f_M_bit (t.1 20 (t.1 6 ((t.1 0 22) - (1 : Int32)).toNatClampNeg).toNatClampNeg) x1)) = 0 then some false else some true))))))
def f_M_fitsOn (t : k_St) (x1 : Int32) : Option Bool := (if (k_b (f_M_bit (t.1 0 25) x1)) = 0 then some false else (if (k_b (f_M_bit (t.1 0 23) x1)) = 0 then k_gi x1 8 ((if (t.1 19 x1.toNatClampNeg) = (2 : Int32) then (if (t.1 0 24) = (t.1 18 0) then some false else f_M_fitsOn_51 t x1) else f_M_fitsOn_51 t x1)) else some false))
theorem m_M_fitsOn_51 {p : Program} (l : Launch) {e : Env} {s : State} {m : MethodId} {args : Array Value} {below : List Frame} {meth : Method} {c : Code} (G : k_G) (a : Nat → Nat) (rv : Value) (t : k_St) {w0 : va_W} {r : Bool} (hA : k_Amb p s m args meth c cX12_fitsOn 2 "TaleSharesModel" G (va_A w0 s.heap.size)) (hr : meth.sig.returnType = (some .boolean)) : ∀ (x1 : Int32), f_M_fitsOn_51 t x1 = some r → k_Go p l e (k_rm 2) s m args below meth c (k_QI G w0 (k_b r) (k_WT G.2.1 a rv t) args s below) 2 G (va_A w0 s.heap.size) (k_WT G.2.1 a rv t) 51 [(0, .ref (a 0)), (1, .int x1)] [] := by
  intro x1 hf
  unfold f_M_fitsOn_51 at hf
  refine k_aload_n (i := 0) hA dX12_fitsOn_51 rfl 0 rfl ?_
  refine gt_MT_0_22 hA wd_1270 dX12_fitsOn_52 ?_
  refine k_if_ne (tgt := 76) hA dX12_fitsOn_55 rfl (fun hc => ?_) (fun hc => ?_)
  · have hf := k_iff hc hf
    obtain ⟨hi_1, hf⟩ := k_gi_e hf
    refine k_aload_n (i := 0) hA dX12_fitsOn_76 rfl 0 rfl ?_
    refine gt_MT_0_3 hA wd_1251 dX12_fitsOn_77 ?_
    refine gt_MT_18_9N hA rfl nf_262 dX12_fitsOn_80 ?_
    refine k_iload_n (i := 1) hA dX12_fitsOn_83 rfl 1 rfl ?_
    refine ld_MT_19 hA hi_1 dX12_fitsOn_84 ?_
    refine k_if_eq (tgt := 118) hA dX12_fitsOn_85 rfl (fun hc => ?_) (fun hc => ?_)
    · have hf := k_ift hc hf
      obtain rfl := k_r1 hf
      refine k_iconst hA dX12_fitsOn_118 kc_i_0 ?_
      exact k_iret hA hr (k_narB (k_b01 _)) dX12_fitsOn_119
    have hf := k_iff hc hf
    obtain ⟨hi_2, hf⟩ := k_gi_e hf
    obtain ⟨hi_3, hf⟩ := k_gi_e hf
    refine k_aload_n (i := 0) hA dX12_fitsOn_88 rfl 0 rfl ?_
    refine gt_MT_0_3 hA wd_1251 dX12_fitsOn_89 ?_
    refine gt_MT_18_10N hA rfl nf_270 dX12_fitsOn_92 ?_
    refine k_aload_n (i := 0) hA dX12_fitsOn_95 rfl 0 rfl ?_
    refine gt_MT_0_21 hA wd_1269 dX12_fitsOn_96 ?_
    refine k_aload_n (i := 0) hA dX12_fitsOn_99 rfl 0 rfl ?_
    refine gt_MT_0_22 hA wd_1270 dX12_fitsOn_100 ?_
    refine k_iconst hA dX12_fitsOn_103 kc_i_1 ?_
    refine k_isub hA dX12_fitsOn_104 ?_
    refine ld_MT_6 hA hi_2 dX12_fitsOn_105 ?_
    refine ld_MT_20 hA hi_3 dX12_fitsOn_106 ?_
    refine k_iload_n (i := 1) hA dX12_fitsOn_107 rfl 1 rfl ?_
    refine k_callSi (As := [.int (t.1 20 (t.1 6 ((t.1 0 22) - (1 : Int32)).toNatClampNeg).toNatClampNeg), .int x1]) (rest := []) hA (m_M_bit l G (k_WT G.2.1 a rv t) (t.1 20 (t.1 6 ((t.1 0 22) - (1 : Int32)).toNatClampNeg).toNatClampNeg) x1 rfl) cd_X12_bit wd_1575 (Nat.le_of_ble_eq_true rfl) rfl rfl (Nat.le_of_ble_eq_true rfl) dX12_fitsOn_108 ?_
    refine k_if_eq (tgt := 118) hA dX12_fitsOn_111 rfl (fun hc => ?_) (fun hc => ?_)
    · have hf := k_ift hc hf
      obtain rfl := k_r1 hf
      refine k_iconst hA dX12_fitsOn_118 kc_i_0 ?_
      exact k_iret hA hr (k_narB (k_b01 _)) dX12_fitsOn_119
    have hf := k_iff hc hf
    obtain rfl := k_r1 hf
    refine k_iconst hA dX12_fitsOn_114 kc_i_1 ?_
    refine k_goto (tgt := 119) hA dX12_fitsOn_115 rfl ?_
    exact k_iret hA hr (k_narB (k_b01 _)) dX12_fitsOn_119
  have hf := k_ift hc hf
  obtain ⟨hi_4, hf⟩ := k_gi_e hf
  refine k_aload_n (i := 0) hA dX12_fitsOn_58 rfl 0 rfl ?_
  refine gt_MT_0_3 hA wd_1251 dX12_fitsOn_59 ?_
  refine gt_MT_18_9N hA rfl nf_262 dX12_fitsOn_62 ?_
  refine k_iload_n (i := 1) hA dX12_fitsOn_65 rfl 1 rfl ?_
  refine ld_MT_19 hA hi_4 dX12_fitsOn_66 ?_
  refine k_if_ne (tgt := 74) hA dX12_fitsOn_67 rfl (fun hc => ?_) (fun hc => ?_)
  · have hf := k_iff hc hf
    obtain rfl := k_r1 hf
    refine k_iconst hA dX12_fitsOn_74 kc_i_0 ?_
    exact k_iret hA hr (k_narB (k_b01 _)) dX12_fitsOn_75
  have hf := k_ift hc hf
  obtain rfl := k_r1 hf
  refine k_iconst hA dX12_fitsOn_70 kc_i_1 ?_
  refine k_goto (tgt := 75) hA dX12_fitsOn_71 rfl ?_
  exact k_iret hA hr (k_narB (k_b01 _)) dX12_fitsOn_75

theorem m_M_fitsOn (l : Launch) (G : k_G) (a : Nat → Nat) (rv : Value) (t : k_St) (x1 : Int32) {r : Bool} (hf : f_M_fitsOn t x1 = some r) : k_CI l G yX12_fitsOn cX12_fitsOn 2 (some .boolean) 2 (k_WT G.2.1 a rv t) [.ref (a 0), .int x1] (k_b r) (k_WT G.2.1 a rv t) := by
  refine k_startI (lv := [(0, .ref (a 0)), (1, .int x1)]) (by decide +kernel) (Nat.le_of_ble_eq_true rfl) rfl ?_
  intro p e s m args below meth c hA hr
  have hA : k_Amb p s m args meth c cX12_fitsOn 2 "TaleSharesModel" G _ := hA
  unfold f_M_fitsOn at hf
  refine k_aload_n (i := 0) hA dX12_fitsOn_0 rfl 0 rfl ?_
  refine gt_MT_0_25 hA wd_1273 dX12_fitsOn_1 ?_
  refine k_iload_n (i := 1) hA dX12_fitsOn_4 rfl 1 rfl ?_
  refine k_callSi (As := [.int (t.1 0 25), .int x1]) (rest := []) hA (m_M_bit l G (k_WT G.2.1 a rv t) (t.1 0 25) x1 rfl) cd_X12_bit wd_1575 (Nat.le_of_ble_eq_true rfl) rfl rfl (Nat.le_of_ble_eq_true rfl) dX12_fitsOn_5 ?_
  refine k_if_eq (tgt := 49) hA dX12_fitsOn_8 rfl (fun hc => ?_) (fun hc => ?_)
  · have hf := k_ift hc hf
    obtain rfl := k_r1 hf
    refine k_iconst hA dX12_fitsOn_49 kc_i_0 ?_
    exact k_iret hA hr (k_narB (k_b01 _)) dX12_fitsOn_50
  have hf := k_iff hc hf
  refine k_aload_n (i := 0) hA dX12_fitsOn_11 rfl 0 rfl ?_
  refine gt_MT_0_23 hA wd_1271 dX12_fitsOn_12 ?_
  refine k_iload_n (i := 1) hA dX12_fitsOn_15 rfl 1 rfl ?_
  refine k_callSi (As := [.int (t.1 0 23), .int x1]) (rest := []) hA (m_M_bit l G (k_WT G.2.1 a rv t) (t.1 0 23) x1 rfl) cd_X12_bit wd_1575 (Nat.le_of_ble_eq_true rfl) rfl rfl (Nat.le_of_ble_eq_true rfl) dX12_fitsOn_16 ?_
  refine k_if_ne (tgt := 49) hA dX12_fitsOn_19 rfl (fun hc => ?_) (fun hc => ?_)
  · have hf := k_iff hc hf
    obtain rfl := k_r1 hf
    refine k_iconst hA dX12_fitsOn_49 kc_i_0 ?_
    exact k_iret hA hr (k_narB (k_b01 _)) dX12_fitsOn_50
  have hf := k_ift hc hf
  obtain ⟨hi_1, hf⟩ := k_gi_e hf
  refine k_aload_n (i := 0) hA dX12_fitsOn_22 rfl 0 rfl ?_
  refine gt_MT_0_3 hA wd_1251 dX12_fitsOn_23 ?_
  refine gt_MT_18_9N hA rfl nf_262 dX12_fitsOn_26 ?_
  refine k_iload_n (i := 1) hA dX12_fitsOn_29 rfl 1 rfl ?_
  refine ld_MT_19 hA hi_1 dX12_fitsOn_30 ?_
  refine k_iconst hA dX12_fitsOn_31 kc_i_2 ?_
  refine k_icmp_ne (tgt := 51) hA dX12_fitsOn_32 rfl (fun hc => ?_) (fun hc => ?_)
  · have hf := k_iff hc hf
    exact m_M_fitsOn_51 l G a rv t hA hr x1 hf
  have hf := k_ift hc hf
  refine k_aload_n (i := 0) hA dX12_fitsOn_35 rfl 0 rfl ?_
  refine gt_MT_0_24 hA wd_1272 dX12_fitsOn_36 ?_
  refine k_aload_n (i := 0) hA dX12_fitsOn_39 rfl 0 rfl ?_
  refine gt_MT_0_3 hA wd_1251 dX12_fitsOn_40 ?_
  refine gt_MT_18_0N hA rfl nf_175 dX12_fitsOn_43 ?_
  refine k_icmp_ne (tgt := 51) hA dX12_fitsOn_46 rfl (fun hc => ?_) (fun hc => ?_)
  · have hf := k_iff hc hf
    exact m_M_fitsOn_51 l G a rv t hA hr x1 hf
  have hf := k_ift hc hf
  obtain rfl := k_r1 hf
  refine k_iconst hA dX12_fitsOn_49 kc_i_0 ?_
  exact k_iret hA hr (k_narB (k_b01 _)) dX12_fitsOn_50

def f_M_takesBack (t : k_St) : Option k_St := k_lt (k_sI t 0 22 ((t.1 0 22) - (1 : Int32))) (fun t_1 => k_gi (t_1.1 0 22) 9 (k_lt (t_1.1 6 (t_1.1 0 22).toNatClampNeg) (fun x1_3 => k_lt (k_sI t_1 0 23 ((t_1.1 0 23) &&& (((1 : Int32) <<< (x1_3 &&& 31)) ^^^ (-1 : Int32)))) (fun t_4 => k_gi x1_3 8 ((if (t_4.1 19 x1_3.toNatClampNeg) = (2 : Int32) then k_lt (k_sI t_4 0 24 ((t_4.1 0 24) - (1 : Int32))) (fun t_9 => k_gi (t_9.1 0 22) 9 (k_lt (k_sI t_9 6 (t_9.1 0 22).toNatClampNeg (x1_3 + (1 : Int32))) (fun t_11 => some t_11))) else k_lt (k_sI t_4 0 24 ((t_4.1 0 24) - (0 : Int32))) (fun t_6 => k_gi (t_6.1 0 22) 9 (k_lt (k_sI t_6 6 (t_6.1 0 22).toNatClampNeg (x1_3 + (1 : Int32))) (fun t_8 => some t_8)))))))))
theorem m_M_takesBack (l : Launch) (G : k_G) (a : Nat → Nat) (rv : Value) (t : k_St) {t' : k_St} (hf : f_M_takesBack t = some t') : k_CV l G yX12_takesBack cX12_takesBack 2 none 1 (k_WT G.2.1 a rv t) [.ref (a 0)] (k_WT G.2.1 a rv t') := by
  refine k_startV (lv := [(0, .ref (a 0))]) (by decide +kernel) (Nat.le_of_ble_eq_true rfl) rfl ?_
  intro p e s m args below meth c hA hr
  have hA : k_Amb p s m args meth c cX12_takesBack 2 "TaleSharesModel" G _ := hA
  unfold f_M_takesBack at hf
  obtain ⟨t_1, et_1, hf⟩ := k_lt_e hf
  obtain ⟨hi_2, hf⟩ := k_gi_e hf
  obtain ⟨x1_3, ex1_3, hf⟩ := k_lt_e hf
  obtain ⟨t_4, et_4, hf⟩ := k_lt_e hf
  obtain ⟨hi_5, hf⟩ := k_gi_e hf
  refine k_aload_n (i := 0) hA dX12_takesBack_0 rfl 0 rfl ?_
  refine k_dup hA dX12_takesBack_1 rfl ?_
  refine gt_MT_0_22 hA wd_1270 dX12_takesBack_2 ?_
  refine k_iconst hA dX12_takesBack_5 kc_i_1 ?_
  refine k_isub hA dX12_takesBack_6 ?_
  refine pt_MT_0_22 hA wd_1270 et_1 dX12_takesBack_7 ?_
  refine k_aload_n (i := 0) hA dX12_takesBack_10 rfl 0 rfl ?_
  refine gt_MT_0_21 hA wd_1269 dX12_takesBack_11 ?_
  refine k_aload_n (i := 0) hA dX12_takesBack_14 rfl 0 rfl ?_
  refine gt_MT_0_22 hA wd_1270 dX12_takesBack_15 ?_
  refine ld_MT_6 hA hi_2 dX12_takesBack_18 ?_
  refine k_istore_n (i := 1) (lv' := [(1, .int x1_3), (0, .ref (a 0))]) hA dX12_takesBack_19 rfl ex1_3 (Nat.le_of_ble_eq_true rfl) rfl ?_
  refine k_aload_n (i := 0) hA dX12_takesBack_20 rfl 1 rfl ?_
  refine k_dup hA dX12_takesBack_21 rfl ?_
  refine gt_MT_0_23 hA wd_1271 dX12_takesBack_22 ?_
  refine k_iconst hA dX12_takesBack_25 kc_i_1 ?_
  refine k_iload_n (i := 1) hA dX12_takesBack_26 rfl 0 rfl ?_
  refine k_ishl hA dX12_takesBack_27 ?_
  refine k_iconst hA dX12_takesBack_28 kc_i_m1 ?_
  refine k_ixor hA dX12_takesBack_29 ?_
  refine k_iand hA dX12_takesBack_30 ?_
  refine pt_MT_0_23 hA wd_1271 et_4 dX12_takesBack_31 ?_
  refine k_aload_n (i := 0) hA dX12_takesBack_34 rfl 1 rfl ?_
  refine k_dup hA dX12_takesBack_35 rfl ?_
  refine gt_MT_0_24 hA wd_1272 dX12_takesBack_36 ?_
  refine k_aload_n (i := 0) hA dX12_takesBack_39 rfl 1 rfl ?_
  refine gt_MT_0_3 hA wd_1251 dX12_takesBack_40 ?_
  refine gt_MT_18_9N hA rfl nf_262 dX12_takesBack_43 ?_
  refine k_iload_n (i := 1) hA dX12_takesBack_46 rfl 0 rfl ?_
  refine ld_MT_19 hA hi_5 dX12_takesBack_47 ?_
  refine k_iconst hA dX12_takesBack_48 kc_i_2 ?_
  refine k_icmp_ne (tgt := 56) hA dX12_takesBack_49 rfl (fun hc => ?_) (fun hc => ?_)
  · have hf := k_iff hc hf
    obtain ⟨t_6, et_6, hf⟩ := k_lt_e hf
    obtain ⟨hi_7, hf⟩ := k_gi_e hf
    obtain ⟨t_8, et_8, hf⟩ := k_lt_e hf
    obtain rfl := k_r1 hf
    refine k_iconst hA dX12_takesBack_56 kc_i_0 ?_
    refine k_isub hA dX12_takesBack_57 ?_
    refine pt_MT_0_24 hA wd_1272 et_6 dX12_takesBack_58 ?_
    refine k_aload_n (i := 0) hA dX12_takesBack_61 rfl 1 rfl ?_
    refine gt_MT_0_21 hA wd_1269 dX12_takesBack_62 ?_
    refine k_aload_n (i := 0) hA dX12_takesBack_65 rfl 1 rfl ?_
    refine gt_MT_0_22 hA wd_1270 dX12_takesBack_66 ?_
    refine k_iload_n (i := 1) hA dX12_takesBack_69 rfl 0 rfl ?_
    refine k_iconst hA dX12_takesBack_70 kc_i_1 ?_
    refine k_iadd hA dX12_takesBack_71 ?_
    refine sr_MT_6 hA hi_7 et_8 dX12_takesBack_72 ?_
    exact k_vret hA hr dX12_takesBack_73
  have hf := k_ift hc hf
  obtain ⟨t_9, et_9, hf⟩ := k_lt_e hf
  obtain ⟨hi_10, hf⟩ := k_gi_e hf
  obtain ⟨t_11, et_11, hf⟩ := k_lt_e hf
  obtain rfl := k_r1 hf
  refine k_iconst hA dX12_takesBack_52 kc_i_1 ?_
  refine k_goto (tgt := 57) hA dX12_takesBack_53 rfl ?_
  refine k_isub hA dX12_takesBack_57 ?_
  refine pt_MT_0_24 hA wd_1272 et_9 dX12_takesBack_58 ?_
  refine k_aload_n (i := 0) hA dX12_takesBack_61 rfl 1 rfl ?_
  refine gt_MT_0_21 hA wd_1269 dX12_takesBack_62 ?_
  refine k_aload_n (i := 0) hA dX12_takesBack_65 rfl 1 rfl ?_
  refine gt_MT_0_22 hA wd_1270 dX12_takesBack_66 ?_
  refine k_iload_n (i := 1) hA dX12_takesBack_69 rfl 0 rfl ?_
  refine k_iconst hA dX12_takesBack_70 kc_i_1 ?_
  refine k_iadd hA dX12_takesBack_71 ?_
  refine sr_MT_6 hA hi_10 et_11 dX12_takesBack_72 ?_
  exact k_vret hA hr dX12_takesBack_73

def f_M_nextTale_34 (n : Nat) (rec11 : k_St → Option (Bool × k_St)) (t : k_St) : Option (Bool × k_St) := k_gi (t.1 0 22) 9 (k_lt (t.1 6 (t.1 0 22).toNatClampNeg) (fun x1_2 => (if x1_2 < (t.1 18 2) then k_cp (f_M_fitsOn t x1_2) (fun r_3 => (if (k_b r_3) = 0 then k_gi (t.1 0 22) 9 (k_gi (t.1 0 22) 9 (k_lt (k_sI t 6 (t.1 0 22).toNatClampNeg ((t.1 6 (t.1 0 22).toNatClampNeg) + (1 : Int32))) (fun t_6 => rec11 t_6))) else k_lt (k_sI t 0 23 ((t.1 0 23) ||| ((1 : Int32) <<< (x1_2 &&& 31)))) (fun t_7 => k_gi x1_2 8 ((if (t_7.1 19 x1_2.toNatClampNeg) = (2 : Int32) then k_lt (k_sI t_7 0 24 ((t_7.1 0 24) + (1 : Int32))) (fun t_14 => k_lt (k_sI t_14 0 22 ((t_14.1 0 22) + (1 : Int32))) (fun t_15 => k_gi (t_15.1 0 22) 9 (k_lt (k_sI t_15 6 (t_15.1 0 22).toNatClampNeg (0 : Int32)) (fun t_17 => k_cp (f_M_isWhole t_17) (fun r_18 => (if (k_b r_18) = 0 then rec11 t_17 else some (true, t_17))))))) else k_lt (k_sI t_7 0 24 ((t_7.1 0 24) + (0 : Int32))) (fun t_9 => k_lt (k_sI t_9 0 22 ((t_9.1 0 22) + (1 : Int32))) (fun t_10 => k_gi (t_10.1 0 22) 9 (k_lt (k_sI t_10 6 (t_10.1 0 22).toNatClampNeg (0 : Int32)) (fun t_12 => k_cp (f_M_isWhole t_12) (fun r_13 => (if (k_b r_13) = 0 then rec11 t_12 else some (true, t_12)))))))))))) else k_cv (f_M_takesBack t) (fun t_19 => rec11 t_19))))
def f_M_nextTale_11 (n : Nat) : Nat → k_St → Option (Bool × k_St)
  | 0, _ => none
  | k + 1, t => (if 0 < (t.1 0 22) then f_M_nextTale_34 n (f_M_nextTale_11 n k) t else k_gi (0 : Int32) 9 ((if (t.1 18 2) ≤ (t.1 6 (0 : Int32).toNatClampNeg) then some (false, t) else f_M_nextTale_34 n (f_M_nextTale_11 n k) t)))
def f_M_nextTale (n : Nat) (t : k_St) : Option (Bool × k_St) := k_cp (f_M_isWhole t) (fun r_1 => (if (k_b r_1) = 0 then f_M_nextTale_11 n n t else k_cv (f_M_takesBack t) (fun t_2 => f_M_nextTale_11 n n t_2)))
theorem m_M_nextTale_34 {p : Program} (l : Launch) {e : Env} {s : State} {m : MethodId} {args : Array Value} {below : List Frame} {meth : Method} {c : Code} (G : k_G) (a : Nat → Nat) (rv : Value) (n : Nat) {w0 : va_W} {r : Bool} {t' : k_St} (hA : k_Amb p s m args meth c cX12_nextTale 2 "TaleSharesModel" G (va_A w0 s.heap.size)) (hr : meth.sig.returnType = (some .boolean)) (rec11 : k_St → Option (Bool × k_St)) (hrec11 : ∀ (t : k_St), rec11 t = some (r, t') → k_Go p l e (k_rm 3) s m args below meth c (k_QI G w0 (k_b r) (k_WT G.2.1 a rv t') args s below) 2 G (va_A w0 s.heap.size) (k_WT G.2.1 a rv t) 11 [(0, .ref (a 0))] []) : ∀ (t : k_St), f_M_nextTale_34 n rec11 t = some (r, t') → k_Go p l e (k_rm 3) s m args below meth c (k_QI G w0 (k_b r) (k_WT G.2.1 a rv t') args s below) 2 G (va_A w0 s.heap.size) (k_WT G.2.1 a rv t) 34 [(0, .ref (a 0))] [] := by
  intro t hf
  unfold f_M_nextTale_34 at hf
  obtain ⟨hi_1, hf⟩ := k_gi_e hf
  obtain ⟨x1_2, ex1_2, hf⟩ := k_lt_e hf
  refine k_aload_n (i := 0) hA dX12_nextTale_34 rfl 0 rfl ?_
  refine gt_MT_0_21 hA wd_1269 dX12_nextTale_35 ?_
  refine k_aload_n (i := 0) hA dX12_nextTale_38 rfl 0 rfl ?_
  refine gt_MT_0_22 hA wd_1270 dX12_nextTale_39 ?_
  refine ld_MT_6 hA hi_1 dX12_nextTale_42 ?_
  refine k_istore_n (i := 1) (lv' := [(1, .int x1_2), (0, .ref (a 0))]) hA dX12_nextTale_43 rfl ex1_2 (Nat.le_of_ble_eq_true rfl) rfl ?_
  refine k_iload_n (i := 1) hA dX12_nextTale_44 rfl 0 rfl ?_
  refine k_aload_n (i := 0) hA dX12_nextTale_45 rfl 1 rfl ?_
  refine gt_MT_0_3 hA wd_1251 dX12_nextTale_46 ?_
  refine gt_MT_18_2N hA rfl nf_210 dX12_nextTale_49 ?_
  refine k_icmp_lt (tgt := 62) hA dX12_nextTale_52 rfl (fun hc => ?_) (fun hc => ?_)
  · have hf := k_ift hc hf
    obtain ⟨r_3, hr_3, hf⟩ := k_cp_e hf
    refine k_aload_n (i := 0) hA dX12_nextTale_62 rfl 1 rfl ?_
    refine k_iload_n (i := 1) hA dX12_nextTale_63 rfl 0 rfl ?_
    refine k_callVi (As := [.int x1_2]) (rest := []) hA (m_M_fitsOn l G a rv t x1_2 hr_3) cd_X12_fitsOn wd_1649 (hc_MT_0 G.2.1 a rv t) rfl rfl (Nat.le_of_ble_eq_true rfl) rfl rfl (Nat.le_of_ble_eq_true rfl) dX12_nextTale_64 ?_
    refine k_if_eq (tgt := 138) hA dX12_nextTale_67 rfl (fun hc => ?_) (fun hc => ?_)
    · have hf := k_ift hc hf
      obtain ⟨hi_4, hf⟩ := k_gi_e hf
      obtain ⟨hi_5, hf⟩ := k_gi_e hf
      obtain ⟨t_6, et_6, hf⟩ := k_lt_e hf
      refine k_aload_n (i := 0) hA dX12_nextTale_138 rfl 1 rfl ?_
      refine gt_MT_0_21 hA wd_1269 dX12_nextTale_139 ?_
      refine k_aload_n (i := 0) hA dX12_nextTale_142 rfl 1 rfl ?_
      refine gt_MT_0_22 hA wd_1270 dX12_nextTale_143 ?_
      refine k_dup2_11 hA dX12_nextTale_146 rfl rfl ?_
      refine ld_MT_6 hA hi_4 dX12_nextTale_147 ?_
      refine k_iconst hA dX12_nextTale_148 kc_i_1 ?_
      refine k_iadd hA dX12_nextTale_149 ?_
      refine sr_MT_6 hA hi_5 et_6 dX12_nextTale_150 ?_
      refine k_goto (tgt := 11) hA dX12_nextTale_151 rfl ?_
      refine k_pick (lv' := [(0, .ref (a 0))]) [1] rfl ?_
      exact hrec11 t_6 hf
    have hf := k_iff hc hf
    obtain ⟨t_7, et_7, hf⟩ := k_lt_e hf
    obtain ⟨hi_8, hf⟩ := k_gi_e hf
    refine k_aload_n (i := 0) hA dX12_nextTale_70 rfl 1 rfl ?_
    refine k_dup hA dX12_nextTale_71 rfl ?_
    refine gt_MT_0_23 hA wd_1271 dX12_nextTale_72 ?_
    refine k_iconst hA dX12_nextTale_75 kc_i_1 ?_
    refine k_iload_n (i := 1) hA dX12_nextTale_76 rfl 0 rfl ?_
    refine k_ishl hA dX12_nextTale_77 ?_
    refine k_ior hA dX12_nextTale_78 ?_
    refine pt_MT_0_23 hA wd_1271 et_7 dX12_nextTale_79 ?_
    refine k_aload_n (i := 0) hA dX12_nextTale_82 rfl 1 rfl ?_
    refine k_dup hA dX12_nextTale_83 rfl ?_
    refine gt_MT_0_24 hA wd_1272 dX12_nextTale_84 ?_
    refine k_aload_n (i := 0) hA dX12_nextTale_87 rfl 1 rfl ?_
    refine gt_MT_0_3 hA wd_1251 dX12_nextTale_88 ?_
    refine gt_MT_18_9N hA rfl nf_262 dX12_nextTale_91 ?_
    refine k_iload_n (i := 1) hA dX12_nextTale_94 rfl 0 rfl ?_
    refine ld_MT_19 hA hi_8 dX12_nextTale_95 ?_
    refine k_iconst hA dX12_nextTale_96 kc_i_2 ?_
    refine k_icmp_ne (tgt := 104) hA dX12_nextTale_97 rfl (fun hc => ?_) (fun hc => ?_)
    · have hf := k_iff hc hf
      obtain ⟨t_9, et_9, hf⟩ := k_lt_e hf
      obtain ⟨t_10, et_10, hf⟩ := k_lt_e hf
      obtain ⟨hi_11, hf⟩ := k_gi_e hf
      obtain ⟨t_12, et_12, hf⟩ := k_lt_e hf
      obtain ⟨r_13, hr_13, hf⟩ := k_cp_e hf
      refine k_iconst hA dX12_nextTale_104 kc_i_0 ?_
      refine k_iadd hA dX12_nextTale_105 ?_
      refine pt_MT_0_24 hA wd_1272 et_9 dX12_nextTale_106 ?_
      refine k_aload_n (i := 0) hA dX12_nextTale_109 rfl 1 rfl ?_
      refine k_dup hA dX12_nextTale_110 rfl ?_
      refine gt_MT_0_22 hA wd_1270 dX12_nextTale_111 ?_
      refine k_iconst hA dX12_nextTale_114 kc_i_1 ?_
      refine k_iadd hA dX12_nextTale_115 ?_
      refine pt_MT_0_22 hA wd_1270 et_10 dX12_nextTale_116 ?_
      refine k_aload_n (i := 0) hA dX12_nextTale_119 rfl 1 rfl ?_
      refine gt_MT_0_21 hA wd_1269 dX12_nextTale_120 ?_
      refine k_aload_n (i := 0) hA dX12_nextTale_123 rfl 1 rfl ?_
      refine gt_MT_0_22 hA wd_1270 dX12_nextTale_124 ?_
      refine k_iconst hA dX12_nextTale_127 kc_i_0 ?_
      refine sr_MT_6 hA hi_11 et_12 dX12_nextTale_128 ?_
      refine k_aload_n (i := 0) hA dX12_nextTale_129 rfl 1 rfl ?_
      refine k_callVi (As := []) (rest := []) hA (m_M_isWhole l G a rv t_12 hr_13) cd_X12_isWhole wd_1641 (hc_MT_0 G.2.1 a rv t_12) rfl rfl (Nat.le_of_ble_eq_true rfl) rfl rfl (Nat.le_of_ble_eq_true rfl) dX12_nextTale_130 ?_
      refine k_if_eq (tgt := 151) hA dX12_nextTale_133 rfl (fun hc => ?_) (fun hc => ?_)
      · have hf := k_ift hc hf
        refine k_goto (tgt := 11) hA dX12_nextTale_151 rfl ?_
        refine k_pick (lv' := [(0, .ref (a 0))]) [1] rfl ?_
        exact hrec11 t_12 hf
      have hf := k_iff hc hf
      obtain ⟨rfl, rfl⟩ := k_r2 hf
      refine k_iconst hA dX12_nextTale_136 kc_i_1 ?_
      exact k_iret hA hr (k_narB (k_b01 _)) dX12_nextTale_137
    have hf := k_ift hc hf
    obtain ⟨t_14, et_14, hf⟩ := k_lt_e hf
    obtain ⟨t_15, et_15, hf⟩ := k_lt_e hf
    obtain ⟨hi_16, hf⟩ := k_gi_e hf
    obtain ⟨t_17, et_17, hf⟩ := k_lt_e hf
    obtain ⟨r_18, hr_18, hf⟩ := k_cp_e hf
    refine k_iconst hA dX12_nextTale_100 kc_i_1 ?_
    refine k_goto (tgt := 105) hA dX12_nextTale_101 rfl ?_
    refine k_iadd hA dX12_nextTale_105 ?_
    refine pt_MT_0_24 hA wd_1272 et_14 dX12_nextTale_106 ?_
    refine k_aload_n (i := 0) hA dX12_nextTale_109 rfl 1 rfl ?_
    refine k_dup hA dX12_nextTale_110 rfl ?_
    refine gt_MT_0_22 hA wd_1270 dX12_nextTale_111 ?_
    refine k_iconst hA dX12_nextTale_114 kc_i_1 ?_
    refine k_iadd hA dX12_nextTale_115 ?_
    refine pt_MT_0_22 hA wd_1270 et_15 dX12_nextTale_116 ?_
    refine k_aload_n (i := 0) hA dX12_nextTale_119 rfl 1 rfl ?_
    refine gt_MT_0_21 hA wd_1269 dX12_nextTale_120 ?_
    refine k_aload_n (i := 0) hA dX12_nextTale_123 rfl 1 rfl ?_
    refine gt_MT_0_22 hA wd_1270 dX12_nextTale_124 ?_
    refine k_iconst hA dX12_nextTale_127 kc_i_0 ?_
    refine sr_MT_6 hA hi_16 et_17 dX12_nextTale_128 ?_
    refine k_aload_n (i := 0) hA dX12_nextTale_129 rfl 1 rfl ?_
    refine k_callVi (As := []) (rest := []) hA (m_M_isWhole l G a rv t_17 hr_18) cd_X12_isWhole wd_1641 (hc_MT_0 G.2.1 a rv t_17) rfl rfl (Nat.le_of_ble_eq_true rfl) rfl rfl (Nat.le_of_ble_eq_true rfl) dX12_nextTale_130 ?_
    refine k_if_eq (tgt := 151) hA dX12_nextTale_133 rfl (fun hc => ?_) (fun hc => ?_)
    · have hf := k_ift hc hf
      refine k_goto (tgt := 11) hA dX12_nextTale_151 rfl ?_
      refine k_pick (lv' := [(0, .ref (a 0))]) [1] rfl ?_
      exact hrec11 t_17 hf
    have hf := k_iff hc hf
    obtain ⟨rfl, rfl⟩ := k_r2 hf
    refine k_iconst hA dX12_nextTale_136 kc_i_1 ?_
    exact k_iret hA hr (k_narB (k_b01 _)) dX12_nextTale_137
  have hf := k_iff hc hf
  obtain ⟨t_19, ht_19, hf⟩ := k_cv_e hf
  refine k_aload_n (i := 0) hA dX12_nextTale_55 rfl 1 rfl ?_
  refine k_callVv (As := []) (rest := []) hA (m_M_takesBack l G a rv t ht_19) cd_X12_takesBack wd_1645 (hc_MT_0 G.2.1 a rv t) rfl rfl (Nat.le_of_ble_eq_true rfl) rfl rfl (Nat.le_of_ble_eq_true rfl) dX12_nextTale_56 ?_
  refine k_goto (tgt := 151) hA dX12_nextTale_59 rfl ?_
  refine k_goto (tgt := 11) hA dX12_nextTale_151 rfl ?_
  refine k_pick (lv' := [(0, .ref (a 0))]) [1] rfl ?_
  exact hrec11 t_19 hf

theorem m_M_nextTale_11 {p : Program} (l : Launch) {e : Env} {s : State} {m : MethodId} {args : Array Value} {below : List Frame} {meth : Method} {c : Code} (G : k_G) (a : Nat → Nat) (rv : Value) (n : Nat) {w0 : va_W} {r : Bool} {t' : k_St} (hA : k_Amb p s m args meth c cX12_nextTale 2 "TaleSharesModel" G (va_A w0 s.heap.size)) (hr : meth.sig.returnType = (some .boolean)) : ∀ (k : Nat) (t : k_St), f_M_nextTale_11 n k t = some (r, t') → k_Go p l e (k_rm 3) s m args below meth c (k_QI G w0 (k_b r) (k_WT G.2.1 a rv t') args s below) 2 G (va_A w0 s.heap.size) (k_WT G.2.1 a rv t) 11 [(0, .ref (a 0))] [] := by
  intro k
  induction k with
  | zero => intro t hf; cases hf
  | succ k ih =>
  intro t hf
  rw [f_M_nextTale_11] at hf
  refine k_aload_n (i := 0) hA dX12_nextTale_11 rfl 0 rfl ?_
  refine gt_MT_0_22 hA wd_1270 dX12_nextTale_12 ?_
  refine k_if_gt (tgt := 34) hA dX12_nextTale_15 rfl (fun hc => ?_) (fun hc => ?_)
  · have hf := k_ift hc hf
    exact m_M_nextTale_34 l G a rv n hA hr (f_M_nextTale_11 n k) ih t hf
  have hf := k_iff hc hf
  obtain ⟨hi_1, hf⟩ := k_gi_e hf
  refine k_aload_n (i := 0) hA dX12_nextTale_18 rfl 0 rfl ?_
  refine gt_MT_0_21 hA wd_1269 dX12_nextTale_19 ?_
  refine k_iconst hA dX12_nextTale_22 kc_i_0 ?_
  refine ld_MT_6 hA hi_1 dX12_nextTale_23 ?_
  refine k_aload_n (i := 0) hA dX12_nextTale_24 rfl 0 rfl ?_
  refine gt_MT_0_3 hA wd_1251 dX12_nextTale_25 ?_
  refine gt_MT_18_2N hA rfl nf_210 dX12_nextTale_28 ?_
  refine k_icmp_ge (tgt := 154) hA dX12_nextTale_31 rfl (fun hc => ?_) (fun hc => ?_)
  · have hf := k_ift hc hf
    obtain ⟨rfl, rfl⟩ := k_r2 hf
    refine k_iconst hA dX12_nextTale_154 kc_i_0 ?_
    exact k_iret hA hr (k_narB (k_b01 _)) dX12_nextTale_155
  have hf := k_iff hc hf
  exact m_M_nextTale_34 l G a rv n hA hr (f_M_nextTale_11 n k) ih t hf

theorem m_M_nextTale (l : Launch) (G : k_G) (a : Nat → Nat) (rv : Value) (n : Nat) (t : k_St) {r : Bool} {t' : k_St} (hf : f_M_nextTale n t = some (r, t')) : k_CI l G yX12_nextTale cX12_nextTale 2 (some .boolean) 3 (k_WT G.2.1 a rv t) [.ref (a 0)] (k_b r) (k_WT G.2.1 a rv t') := by
  refine k_startI (lv := [(0, .ref (a 0))]) (by decide +kernel) (Nat.le_of_ble_eq_true rfl) rfl ?_
  intro p e s m args below meth c hA hr
  have hA : k_Amb p s m args meth c cX12_nextTale 2 "TaleSharesModel" G _ := hA
  unfold f_M_nextTale at hf
  obtain ⟨r_1, hr_1, hf⟩ := k_cp_e hf
  refine k_aload_n (i := 0) hA dX12_nextTale_0 rfl 0 rfl ?_
  refine k_callVi (As := []) (rest := []) hA (m_M_isWhole l G a rv t hr_1) cd_X12_isWhole wd_1641 (hc_MT_0 G.2.1 a rv t) rfl rfl (Nat.le_of_ble_eq_true rfl) rfl rfl (Nat.le_of_ble_eq_true rfl) dX12_nextTale_1 ?_
  refine k_if_eq (tgt := 11) hA dX12_nextTale_4 rfl (fun hc => ?_) (fun hc => ?_)
  · have hf := k_ift hc hf
    exact m_M_nextTale_11 l G a rv n hA hr n t hf
  have hf := k_iff hc hf
  obtain ⟨t_2, ht_2, hf⟩ := k_cv_e hf
  refine k_aload_n (i := 0) hA dX12_nextTale_7 rfl 0 rfl ?_
  refine k_callVv (As := []) (rest := []) hA (m_M_takesBack l G a rv t ht_2) cd_X12_takesBack wd_1645 (hc_MT_0 G.2.1 a rv t) rfl rfl (Nat.le_of_ble_eq_true rfl) rfl rfl (Nat.le_of_ble_eq_true rfl) dX12_nextTale_8 ?_
  exact m_M_nextTale_11 l G a rv n hA hr n t_2 hf

def f_M_hasTale (n : Nat) (x1 : Int32) (t : k_St) : Option (Bool × k_St) := k_cv (f_M_startsTales x1 t) (fun t_1 => k_cl (f_M_nextTale n t_1) (fun r_3 t_2 => some (r_3, t_2)))
theorem m_M_hasTale (l : Launch) (G : k_G) (a : Nat → Nat) (rv : Value) (n : Nat) (x1 : Int32) (t : k_St) {r : Bool} {t' : k_St} (hf : f_M_hasTale n x1 t = some (r, t')) : k_CI l G yX12_hasTale cX12_hasTale 2 (some .boolean) 4 (k_WT G.2.1 a rv t) [.ref (a 0), .int x1] (k_b r) (k_WT G.2.1 a rv t') := by
  refine k_startI (lv := [(0, .ref (a 0)), (1, .int x1)]) (by decide +kernel) (Nat.le_of_ble_eq_true rfl) rfl ?_
  intro p e s m args below meth c hA hr
  have hA : k_Amb p s m args meth c cX12_hasTale 2 "TaleSharesModel" G _ := hA
  unfold f_M_hasTale at hf
  obtain ⟨t_1, ht_1, hf⟩ := k_cv_e hf
  obtain ⟨r_3, t_2, ht_2, hf⟩ := k_cl_e hf
  obtain ⟨rfl, rfl⟩ := k_r2 hf
  refine k_aload_n (i := 0) hA dX12_hasTale_0 rfl 0 rfl ?_
  refine k_iload_n (i := 1) hA dX12_hasTale_1 rfl 1 rfl ?_
  refine k_callVv (As := [.int x1]) (rest := []) hA (m_M_startsTales l G a rv x1 t ht_1) cd_X12_startsTales wd_1633 (hc_MT_0 G.2.1 a rv t) rfl rfl (Nat.le_of_ble_eq_true rfl) rfl rfl (Nat.le_of_ble_eq_true rfl) dX12_hasTale_2 ?_
  refine k_aload_n (i := 0) hA dX12_hasTale_5 rfl 0 rfl ?_
  refine k_callVi (As := []) (rest := []) hA (m_M_nextTale l G a rv n t_1 ht_2) cd_X12_nextTale wd_1637 (hc_MT_0 G.2.1 a rv t_1) rfl rfl (Nat.le_of_ble_eq_true rfl) rfl rfl (Nat.le_of_ble_eq_true rfl) dX12_hasTale_6 ?_
  exact k_iret hA hr (k_narB (k_b01 _)) dX12_hasTale_9

def f_M_house (n : Nat) (x1 : Int32) (x2 : Int32) (t : k_St) : Option (Int32 × k_St) := k_lt (k_sI t 0 0 (0 : Int32)) (fun t_1 => (if (k_b (f_M_isHouse t_1 x1)) = 0 then k_lt (f_M_refused (1 : Int32) t_1) (fun q_2 => some (q_2.1, q_2.2)) else (if (k_b (f_M_in x2 (0 : Int32) (5 : Int32))) = 0 then k_lt (f_M_refused (1 : Int32) t_1) (fun q_18 => some (q_18.1, q_18.2)) else (if x2 = (0 : Int32) then k_gi x1 5 (k_lt (f_M_good (t_1.1 21 x1.toNatClampNeg) t_1) (fun q_4 => some (q_4.1, q_4.2))) else if x2 = (1 : Int32) then k_gi x1 5 (k_lt (f_M_good (t_1.1 22 x1.toNatClampNeg) t_1) (fun q_6 => some (q_6.1, q_6.2))) else if x2 = (2 : Int32) then k_gi x1 5 (k_lt (f_M_good (t_1.1 23 x1.toNatClampNeg) t_1) (fun q_8 => some (q_8.1, q_8.2))) else if x2 = (3 : Int32) then k_gi x1 6 (k_lt (f_M_good (t_1.1 2 x1.toNatClampNeg) t_1) (fun q_10 => some (q_10.1, q_10.2))) else if x2 = (4 : Int32) then (if (k_b (f_M_bit (t_1.1 18 6) x1)) = 0 then k_lt (f_M_good (0 : Int32) t_1) (fun q_11 => some (q_11.1, q_11.2)) else k_lt (f_M_good (1 : Int32) t_1) (fun q_12 => some (q_12.1, q_12.2))) else k_gi x1 6 (k_cl (f_M_hasTale n (t_1.1 2 x1.toNatClampNeg) t_1) (fun r_15 t_14 => (if (k_b r_15) = 0 then k_lt (f_M_good (0 : Int32) t_14) (fun q_16 => some (q_16.1, q_16.2)) else k_lt (f_M_good (1 : Int32) t_14) (fun q_17 => some (q_17.1, q_17.2)))))))))
theorem m_M_house (l : Launch) (G : k_G) (a : Nat → Nat) (rv : Value) (n : Nat) (x1 : Int32) (x2 : Int32) (t : k_St) {r : Int32} {t' : k_St} (hf : f_M_house n x1 x2 t = some (r, t')) : k_CI l G yX12_house cX12_house 3 (some .int) 5 (k_WT G.2.1 a rv t) [.ref (a 0), .int x1, .int x2] r (k_WT G.2.1 a rv t') := by
  refine k_startI (lv := [(0, .ref (a 0)), (1, .int x1), (2, .int x2)]) (by decide +kernel) (Nat.le_of_ble_eq_true rfl) rfl ?_
  intro p e s m args below meth c hA hr
  have hA : k_Amb p s m args meth c cX12_house 3 "TaleSharesModel" G _ := hA
  unfold f_M_house at hf
  obtain ⟨t_1, et_1, hf⟩ := k_lt_e hf
  refine k_aload_n (i := 0) hA dX12_house_0 rfl 0 rfl ?_
  refine k_iconst hA dX12_house_1 kc_i_0 ?_
  refine pt_MT_0_0 hA wd_1248 et_1 dX12_house_2 ?_
  refine k_aload_n (i := 0) hA dX12_house_5 rfl 0 rfl ?_
  refine k_iload_n (i := 1) hA dX12_house_6 rfl 1 rfl ?_
  refine k_callVi (As := [.int x1]) (rest := []) hA (m_M_isHouse l G a rv t_1 x1 rfl) cd_X12_isHouse wd_1625 (hc_MT_0 G.2.1 a rv t_1) rfl rfl (Nat.le_of_ble_eq_true rfl) rfl rfl (Nat.le_of_ble_eq_true rfl) dX12_house_7 ?_
  refine k_if_eq (tgt := 22) hA dX12_house_10 rfl (fun hc => ?_) (fun hc => ?_)
  · have hf := k_ift hc hf
    obtain ⟨⟨rq_2, tq_2⟩, hq_2, hf⟩ := k_lt_e hf
    dsimp only at hf
    obtain ⟨rfl, rfl⟩ := k_r2 hf
    refine k_aload_n (i := 0) hA dX12_house_22 rfl 0 rfl ?_
    refine k_iconst hA dX12_house_23 kc_i_1 ?_
    refine k_callVi (As := [.int (1 : Int32)]) (rest := []) hA (m_M_refused l G a rv (1 : Int32) t_1 hq_2.symm) cd_X12_refused wd_1390 (hc_MT_0 G.2.1 a rv t_1) rfl rfl (Nat.le_of_ble_eq_true rfl) rfl rfl (Nat.le_of_ble_eq_true rfl) dX12_house_24 ?_
    exact k_iret hA hr rfl dX12_house_27
  have hf := k_iff hc hf
  refine k_iload_n (i := 2) hA dX12_house_13 rfl 2 rfl ?_
  refine k_iconst hA dX12_house_14 kc_i_0 ?_
  refine k_iconst hA dX12_house_15 kc_i_5 ?_
  refine k_callSi (As := [.int x2, .int (0 : Int32), .int (5 : Int32)]) (rest := []) hA (m_M_in l G (k_WT G.2.1 a rv t_1) x2 (0 : Int32) (5 : Int32) rfl) cd_X12_in wd_1525 (Nat.le_of_ble_eq_true rfl) rfl rfl (Nat.le_of_ble_eq_true rfl) dX12_house_16 ?_
  refine k_if_ne (tgt := 28) hA dX12_house_19 rfl (fun hc => ?_) (fun hc => ?_)
  · have hf := k_iff hc hf
    refine k_iload_n (i := 2) hA dX12_house_28 rfl 2 rfl ?_
    by_cases hs_0 : x2 = (0 : Int32)
    · have hf := k_ift hs_0 hf
      refine k_tin (tgt := 64) hA dX12_house_29 (by rw [hs_0]; decide) (by rw [hs_0]; decide) (by rw [hs_0]; rfl) rfl ?_
      obtain ⟨hi_3, hf⟩ := k_gi_e hf
      obtain ⟨⟨rq_4, tq_4⟩, hq_4, hf⟩ := k_lt_e hf
      dsimp only at hf
      obtain ⟨rfl, rfl⟩ := k_r2 hf
      refine k_aload_n (i := 0) hA dX12_house_64 rfl 0 rfl ?_
      refine k_aload_n (i := 0) hA dX12_house_65 rfl 0 rfl ?_
      refine gt_MT_0_3 hA wd_1251 dX12_house_66 ?_
      refine gt_MT_18_11N hA rfl nf_286 dX12_house_69 ?_
      refine k_iload_n (i := 1) hA dX12_house_72 rfl 1 rfl ?_
      refine ld_MT_21 hA hi_3 dX12_house_73 ?_
      refine k_callVi (As := [.int (t_1.1 21 x1.toNatClampNeg)]) (rest := []) hA (m_M_good l G a rv (t_1.1 21 x1.toNatClampNeg) t_1 hq_4.symm) cd_X12_good wd_1601 (hc_MT_0 G.2.1 a rv t_1) rfl rfl (Nat.le_of_ble_eq_true rfl) rfl rfl (Nat.le_of_ble_eq_true rfl) dX12_house_74 ?_
      exact k_iret hA hr rfl dX12_house_77
    have hf := k_iff hs_0 hf
    by_cases hs_1 : x2 = (1 : Int32)
    · have hf := k_ift hs_1 hf
      refine k_tin (tgt := 78) hA dX12_house_29 (by rw [hs_1]; decide) (by rw [hs_1]; decide) (by rw [hs_1]; rfl) rfl ?_
      obtain ⟨hi_5, hf⟩ := k_gi_e hf
      obtain ⟨⟨rq_6, tq_6⟩, hq_6, hf⟩ := k_lt_e hf
      dsimp only at hf
      obtain ⟨rfl, rfl⟩ := k_r2 hf
      refine k_aload_n (i := 0) hA dX12_house_78 rfl 0 rfl ?_
      refine k_aload_n (i := 0) hA dX12_house_79 rfl 0 rfl ?_
      refine gt_MT_0_3 hA wd_1251 dX12_house_80 ?_
      refine gt_MT_18_12N hA rfl nf_288 dX12_house_83 ?_
      refine k_iload_n (i := 1) hA dX12_house_86 rfl 1 rfl ?_
      refine ld_MT_22 hA hi_5 dX12_house_87 ?_
      refine k_callVi (As := [.int (t_1.1 22 x1.toNatClampNeg)]) (rest := []) hA (m_M_good l G a rv (t_1.1 22 x1.toNatClampNeg) t_1 hq_6.symm) cd_X12_good wd_1601 (hc_MT_0 G.2.1 a rv t_1) rfl rfl (Nat.le_of_ble_eq_true rfl) rfl rfl (Nat.le_of_ble_eq_true rfl) dX12_house_88 ?_
      exact k_iret hA hr rfl dX12_house_91
    have hf := k_iff hs_1 hf
    by_cases hs_2 : x2 = (2 : Int32)
    · have hf := k_ift hs_2 hf
      refine k_tin (tgt := 92) hA dX12_house_29 (by rw [hs_2]; decide) (by rw [hs_2]; decide) (by rw [hs_2]; rfl) rfl ?_
      obtain ⟨hi_7, hf⟩ := k_gi_e hf
      obtain ⟨⟨rq_8, tq_8⟩, hq_8, hf⟩ := k_lt_e hf
      dsimp only at hf
      obtain ⟨rfl, rfl⟩ := k_r2 hf
      refine k_aload_n (i := 0) hA dX12_house_92 rfl 0 rfl ?_
      refine k_aload_n (i := 0) hA dX12_house_93 rfl 0 rfl ?_
      refine gt_MT_0_3 hA wd_1251 dX12_house_94 ?_
      refine gt_MT_18_13N hA rfl nf_290 dX12_house_97 ?_
      refine k_iload_n (i := 1) hA dX12_house_100 rfl 1 rfl ?_
      refine ld_MT_23 hA hi_7 dX12_house_101 ?_
      refine k_callVi (As := [.int (t_1.1 23 x1.toNatClampNeg)]) (rest := []) hA (m_M_good l G a rv (t_1.1 23 x1.toNatClampNeg) t_1 hq_8.symm) cd_X12_good wd_1601 (hc_MT_0 G.2.1 a rv t_1) rfl rfl (Nat.le_of_ble_eq_true rfl) rfl rfl (Nat.le_of_ble_eq_true rfl) dX12_house_102 ?_
      exact k_iret hA hr rfl dX12_house_105
    have hf := k_iff hs_2 hf
    by_cases hs_3 : x2 = (3 : Int32)
    · have hf := k_ift hs_3 hf
      refine k_tin (tgt := 106) hA dX12_house_29 (by rw [hs_3]; decide) (by rw [hs_3]; decide) (by rw [hs_3]; rfl) rfl ?_
      obtain ⟨hi_9, hf⟩ := k_gi_e hf
      obtain ⟨⟨rq_10, tq_10⟩, hq_10, hf⟩ := k_lt_e hf
      dsimp only at hf
      obtain ⟨rfl, rfl⟩ := k_r2 hf
      refine k_aload_n (i := 0) hA dX12_house_106 rfl 0 rfl ?_
      refine k_aload_n (i := 0) hA dX12_house_107 rfl 0 rfl ?_
      refine gt_MT_0_15 hA wd_1263 dX12_house_108 ?_
      refine k_iload_n (i := 1) hA dX12_house_111 rfl 1 rfl ?_
      refine ld_MT_2 hA hi_9 dX12_house_112 ?_
      refine k_callVi (As := [.int (t_1.1 2 x1.toNatClampNeg)]) (rest := []) hA (m_M_good l G a rv (t_1.1 2 x1.toNatClampNeg) t_1 hq_10.symm) cd_X12_good wd_1601 (hc_MT_0 G.2.1 a rv t_1) rfl rfl (Nat.le_of_ble_eq_true rfl) rfl rfl (Nat.le_of_ble_eq_true rfl) dX12_house_113 ?_
      exact k_iret hA hr rfl dX12_house_116
    have hf := k_iff hs_3 hf
    by_cases hs_4 : x2 = (4 : Int32)
    · have hf := k_ift hs_4 hf
      refine k_tin (tgt := 117) hA dX12_house_29 (by rw [hs_4]; decide) (by rw [hs_4]; decide) (by rw [hs_4]; rfl) rfl ?_
      refine k_aload_n (i := 0) hA dX12_house_117 rfl 0 rfl ?_
      refine k_aload_n (i := 0) hA dX12_house_118 rfl 0 rfl ?_
      refine gt_MT_0_3 hA wd_1251 dX12_house_119 ?_
      refine gt_MT_18_6N hA rfl nf_297 dX12_house_122 ?_
      refine k_iload_n (i := 1) hA dX12_house_125 rfl 1 rfl ?_
      refine k_callSi (As := [.int (t_1.1 18 6), .int x1]) (rest := [.ref (a 0)]) hA (m_M_bit l G (k_WT G.2.1 a rv t_1) (t_1.1 18 6) x1 rfl) cd_X12_bit wd_1575 (Nat.le_of_ble_eq_true rfl) rfl rfl (Nat.le_of_ble_eq_true rfl) dX12_house_126 ?_
      refine k_if_eq (tgt := 136) hA dX12_house_129 rfl (fun hc => ?_) (fun hc => ?_)
      · have hf := k_ift hc hf
        obtain ⟨⟨rq_11, tq_11⟩, hq_11, hf⟩ := k_lt_e hf
        dsimp only at hf
        obtain ⟨rfl, rfl⟩ := k_r2 hf
        refine k_iconst hA dX12_house_136 kc_i_0 ?_
        refine k_callVi (As := [.int (0 : Int32)]) (rest := []) hA (m_M_good l G a rv (0 : Int32) t_1 hq_11.symm) cd_X12_good wd_1601 (hc_MT_0 G.2.1 a rv t_1) rfl rfl (Nat.le_of_ble_eq_true rfl) rfl rfl (Nat.le_of_ble_eq_true rfl) dX12_house_137 ?_
        exact k_iret hA hr rfl dX12_house_140
      have hf := k_iff hc hf
      obtain ⟨⟨rq_12, tq_12⟩, hq_12, hf⟩ := k_lt_e hf
      dsimp only at hf
      obtain ⟨rfl, rfl⟩ := k_r2 hf
      refine k_iconst hA dX12_house_132 kc_i_1 ?_
      refine k_goto (tgt := 137) hA dX12_house_133 rfl ?_
      refine k_callVi (As := [.int (1 : Int32)]) (rest := []) hA (m_M_good l G a rv (1 : Int32) t_1 hq_12.symm) cd_X12_good wd_1601 (hc_MT_0 G.2.1 a rv t_1) rfl rfl (Nat.le_of_ble_eq_true rfl) rfl rfl (Nat.le_of_ble_eq_true rfl) dX12_house_137 ?_
      exact k_iret hA hr rfl dX12_house_140
    have hf := k_iff hs_4 hf
    refine k_tout (tgt := 141) hA dX12_house_29 (k_sw0_4 hs_0 hs_1 hs_2 hs_3 hs_4) rfl ?_
    obtain ⟨hi_13, hf⟩ := k_gi_e hf
    obtain ⟨r_15, t_14, ht_14, hf⟩ := k_cl_e hf
    refine k_aload_n (i := 0) hA dX12_house_141 rfl 0 rfl ?_
    refine k_aload_n (i := 0) hA dX12_house_142 rfl 0 rfl ?_
    refine k_aload_n (i := 0) hA dX12_house_143 rfl 0 rfl ?_
    refine gt_MT_0_15 hA wd_1263 dX12_house_144 ?_
    refine k_iload_n (i := 1) hA dX12_house_147 rfl 1 rfl ?_
    refine ld_MT_2 hA hi_13 dX12_house_148 ?_
    refine k_callVi (As := [.int (t_1.1 2 x1.toNatClampNeg)]) (rest := [.ref (a 0)]) hA (m_M_hasTale l G a rv n (t_1.1 2 x1.toNatClampNeg) t_1 ht_14) cd_X12_hasTale wd_1629 (hc_MT_0 G.2.1 a rv t_1) rfl rfl (Nat.le_of_ble_eq_true rfl) rfl rfl (Nat.le_of_ble_eq_true rfl) dX12_house_149 ?_
    refine k_if_eq (tgt := 159) hA dX12_house_152 rfl (fun hc => ?_) (fun hc => ?_)
    · have hf := k_ift hc hf
      obtain ⟨⟨rq_16, tq_16⟩, hq_16, hf⟩ := k_lt_e hf
      dsimp only at hf
      obtain ⟨rfl, rfl⟩ := k_r2 hf
      refine k_iconst hA dX12_house_159 kc_i_0 ?_
      refine k_callVi (As := [.int (0 : Int32)]) (rest := []) hA (m_M_good l G a rv (0 : Int32) t_14 hq_16.symm) cd_X12_good wd_1601 (hc_MT_0 G.2.1 a rv t_14) rfl rfl (Nat.le_of_ble_eq_true rfl) rfl rfl (Nat.le_of_ble_eq_true rfl) dX12_house_160 ?_
      exact k_iret hA hr rfl dX12_house_163
    have hf := k_iff hc hf
    obtain ⟨⟨rq_17, tq_17⟩, hq_17, hf⟩ := k_lt_e hf
    dsimp only at hf
    obtain ⟨rfl, rfl⟩ := k_r2 hf
    refine k_iconst hA dX12_house_155 kc_i_1 ?_
    refine k_goto (tgt := 160) hA dX12_house_156 rfl ?_
    refine k_callVi (As := [.int (1 : Int32)]) (rest := []) hA (m_M_good l G a rv (1 : Int32) t_14 hq_17.symm) cd_X12_good wd_1601 (hc_MT_0 G.2.1 a rv t_14) rfl rfl (Nat.le_of_ble_eq_true rfl) rfl rfl (Nat.le_of_ble_eq_true rfl) dX12_house_160 ?_
    exact k_iret hA hr rfl dX12_house_163
  have hf := k_ift hc hf
  obtain ⟨⟨rq_18, tq_18⟩, hq_18, hf⟩ := k_lt_e hf
  dsimp only at hf
  obtain ⟨rfl, rfl⟩ := k_r2 hf
  refine k_aload_n (i := 0) hA dX12_house_22 rfl 0 rfl ?_
  refine k_iconst hA dX12_house_23 kc_i_1 ?_
  refine k_callVi (As := [.int (1 : Int32)]) (rest := []) hA (m_M_refused l G a rv (1 : Int32) t_1 hq_18.symm) cd_X12_refused wd_1390 (hc_MT_0 G.2.1 a rv t_1) rfl rfl (Nat.le_of_ble_eq_true rfl) rfl rfl (Nat.le_of_ble_eq_true rfl) dX12_house_24 ?_
  exact k_iret hA hr rfl dX12_house_27

def f_M_knownBut_4 (n : Nat) (t : k_St) : Nat → Int32 → Int32 → Int32 → Option Int32
  | 0, _, _, _ => none
  | k + 1, x1, x2, x3 => (if (t.1 18 4) ≤ x3 then some x2 else (if x3 = x1 then k_lt (x2 ||| (0 : Int32)) (fun x2_4 => k_lt (x3 + (1 : Int32)) (fun x3_5 => f_M_knownBut_4 n t k x1 x2_4 x3_5)) else k_gi x3 6 (k_lt (x2 ||| (t.1 2 x3.toNatClampNeg)) (fun x2_2 => k_lt (x3 + (1 : Int32)) (fun x3_3 => f_M_knownBut_4 n t k x1 x2_2 x3_3)))))
def f_M_knownBut (n : Nat) (t : k_St) (x1 : Int32) : Option Int32 := f_M_knownBut_4 n t n x1 (0 : Int32) (0 : Int32)
theorem m_M_knownBut_4 {p : Program} (l : Launch) {e : Env} {s : State} {m : MethodId} {args : Array Value} {below : List Frame} {meth : Method} {c : Code} (G : k_G) (a : Nat → Nat) (rv : Value) (n : Nat) (t : k_St) {w0 : va_W} {r : Int32} (hA : k_Amb p s m args meth c cX12_knownBut 4 "TaleSharesModel" G (va_A w0 s.heap.size)) (hr : meth.sig.returnType = (some .int)) : ∀ (k : Nat) (x1 : Int32) (x2 : Int32) (x3 : Int32), f_M_knownBut_4 n t k x1 x2 x3 = some r → k_Go p l e (k_rm 1) s m args below meth c (k_QI G w0 r (k_WT G.2.1 a rv t) args s below) 4 G (va_A w0 s.heap.size) (k_WT G.2.1 a rv t) 4 [(0, .ref (a 0)), (1, .int x1), (2, .int x2), (3, .int x3)] [] := by
  intro k
  induction k with
  | zero => intro x1 x2 x3 hf; cases hf
  | succ k ih =>
  intro x1 x2 x3 hf
  rw [f_M_knownBut_4] at hf
  refine k_iload_n (i := 3) hA dX12_knownBut_4 rfl 3 rfl ?_
  refine k_aload_n (i := 0) hA dX12_knownBut_5 rfl 0 rfl ?_
  refine gt_MT_0_3 hA wd_1251 dX12_knownBut_6 ?_
  refine gt_MT_18_4N hA rfl nf_277 dX12_knownBut_9 ?_
  refine k_icmp_ge (tgt := 39) hA dX12_knownBut_12 rfl (fun hc => ?_) (fun hc => ?_)
  · have hf := k_ift hc hf
    obtain rfl := k_r1 hf
    refine k_iload_n (i := 2) hA dX12_knownBut_39 rfl 2 rfl ?_
    exact k_iret hA hr rfl dX12_knownBut_40
  have hf := k_iff hc hf
  refine k_iload_n (i := 2) hA dX12_knownBut_15 rfl 2 rfl ?_
  refine k_iload_n (i := 3) hA dX12_knownBut_16 rfl 3 rfl ?_
  refine k_iload_n (i := 1) hA dX12_knownBut_17 rfl 1 rfl ?_
  refine k_icmp_ne (tgt := 25) hA dX12_knownBut_18 rfl (fun hc => ?_) (fun hc => ?_)
  · have hf := k_iff hc hf
    obtain ⟨hi_1, hf⟩ := k_gi_e hf
    obtain ⟨x2_2, ex2_2, hf⟩ := k_lt_e hf
    obtain ⟨x3_3, ex3_3, hf⟩ := k_lt_e hf
    refine k_aload_n (i := 0) hA dX12_knownBut_25 rfl 0 rfl ?_
    refine gt_MT_0_15 hA wd_1263 dX12_knownBut_26 ?_
    refine k_iload_n (i := 3) hA dX12_knownBut_29 rfl 3 rfl ?_
    refine ld_MT_2 hA hi_1 dX12_knownBut_30 ?_
    refine k_ior hA dX12_knownBut_31 ?_
    refine k_istore_n (i := 2) (lv' := [(2, .int x2_2), (0, .ref (a 0)), (1, .int x1), (3, .int x3)]) hA dX12_knownBut_32 rfl ex2_2 (Nat.le_of_ble_eq_true rfl) rfl ?_
    refine k_iinc (j := 3) (v := x3_3) (lv' := [(3, .int x3_3), (2, .int x2_2), (0, .ref (a 0)), (1, .int x1)]) hA dX12_knownBut_33 rfl (k_inc ex3_3 kc_i_1) (Nat.le_of_ble_eq_true rfl) rfl ?_
    refine k_goto (tgt := 4) hA dX12_knownBut_36 rfl ?_
    refine k_pick (lv' := [(0, .ref (a 0)), (1, .int x1), (2, .int x2_2), (3, .int x3_3)]) [2, 3, 1, 0] rfl ?_
    exact ih x1 x2_2 x3_3 hf
  have hf := k_ift hc hf
  obtain ⟨x2_4, ex2_4, hf⟩ := k_lt_e hf
  obtain ⟨x3_5, ex3_5, hf⟩ := k_lt_e hf
  refine k_iconst hA dX12_knownBut_21 kc_i_0 ?_
  refine k_goto (tgt := 31) hA dX12_knownBut_22 rfl ?_
  refine k_ior hA dX12_knownBut_31 ?_
  refine k_istore_n (i := 2) (lv' := [(2, .int x2_4), (0, .ref (a 0)), (1, .int x1), (3, .int x3)]) hA dX12_knownBut_32 rfl ex2_4 (Nat.le_of_ble_eq_true rfl) rfl ?_
  refine k_iinc (j := 3) (v := x3_5) (lv' := [(3, .int x3_5), (2, .int x2_4), (0, .ref (a 0)), (1, .int x1)]) hA dX12_knownBut_33 rfl (k_inc ex3_5 kc_i_1) (Nat.le_of_ble_eq_true rfl) rfl ?_
  refine k_goto (tgt := 4) hA dX12_knownBut_36 rfl ?_
  refine k_pick (lv' := [(0, .ref (a 0)), (1, .int x1), (2, .int x2_4), (3, .int x3_5)]) [2, 3, 1, 0] rfl ?_
  exact ih x1 x2_4 x3_5 hf

theorem m_M_knownBut (l : Launch) (G : k_G) (a : Nat → Nat) (rv : Value) (n : Nat) (t : k_St) (x1 : Int32) {r : Int32} (hf : f_M_knownBut n t x1 = some r) : k_CI l G yX12_knownBut cX12_knownBut 4 (some .int) 1 (k_WT G.2.1 a rv t) [.ref (a 0), .int x1] r (k_WT G.2.1 a rv t) := by
  refine k_startI (lv := [(0, .ref (a 0)), (1, .int x1)]) (by decide +kernel) (Nat.le_of_ble_eq_true rfl) rfl ?_
  intro p e s m args below meth c hA hr
  have hA : k_Amb p s m args meth c cX12_knownBut 4 "TaleSharesModel" G _ := hA
  unfold f_M_knownBut at hf
  refine k_iconst hA dX12_knownBut_0 kc_i_0 ?_
  refine k_istore_n (i := 2) (lv' := [(2, .int (0 : Int32)), (0, .ref (a 0)), (1, .int x1)]) hA dX12_knownBut_1 rfl rfl (Nat.le_of_ble_eq_true rfl) rfl ?_
  refine k_iconst hA dX12_knownBut_2 kc_i_0 ?_
  refine k_istore_n (i := 3) (lv' := [(3, .int (0 : Int32)), (2, .int (0 : Int32)), (0, .ref (a 0)), (1, .int x1)]) hA dX12_knownBut_3 rfl rfl (Nat.le_of_ble_eq_true rfl) rfl ?_
  refine k_pick (lv' := [(0, .ref (a 0)), (1, .int x1), (2, .int (0 : Int32)), (3, .int (0 : Int32))]) [2, 3, 1, 0] rfl ?_
  exact m_M_knownBut_4 l G a rv n t hA hr n x1 (0 : Int32) (0 : Int32) hf

def f_M_known (n : Nat) (t : k_St) : Option (Int32 × k_St) := k_lt (k_sI t 0 0 (0 : Int32)) (fun t_1 => k_cp (f_M_knownBut n t_1 (-1 : Int32)) (fun r_2 => k_lt (f_M_good r_2 t_1) (fun q_3 => some (q_3.1, q_3.2))))
theorem m_M_known (l : Launch) (G : k_G) (a : Nat → Nat) (rv : Value) (n : Nat) (t : k_St) {r : Int32} {t' : k_St} (hf : f_M_known n t = some (r, t')) : k_CI l G yX12_known cX12_known 1 (some .int) 2 (k_WT G.2.1 a rv t) [.ref (a 0)] r (k_WT G.2.1 a rv t') := by
  refine k_startI (lv := [(0, .ref (a 0))]) (by decide +kernel) (Nat.le_of_ble_eq_true rfl) rfl ?_
  intro p e s m args below meth c hA hr
  have hA : k_Amb p s m args meth c cX12_known 1 "TaleSharesModel" G _ := hA
  unfold f_M_known at hf
  obtain ⟨t_1, et_1, hf⟩ := k_lt_e hf
  obtain ⟨r_2, hr_2, hf⟩ := k_cp_e hf
  obtain ⟨⟨rq_3, tq_3⟩, hq_3, hf⟩ := k_lt_e hf
  dsimp only at hf
  obtain ⟨rfl, rfl⟩ := k_r2 hf
  refine k_aload_n (i := 0) hA dX12_known_0 rfl 0 rfl ?_
  refine k_iconst hA dX12_known_1 kc_i_0 ?_
  refine pt_MT_0_0 hA wd_1248 et_1 dX12_known_2 ?_
  refine k_aload_n (i := 0) hA dX12_known_5 rfl 0 rfl ?_
  refine gt_MT_0_3 hA wd_1251 dX12_known_6 ?_
  refine k_ifnonnull (tgt := 20) hA dX12_known_9 rfl ?_
  refine k_aload_n (i := 0) hA dX12_known_20 rfl 0 rfl ?_
  refine k_aload_n (i := 0) hA dX12_known_21 rfl 0 rfl ?_
  refine k_iconst hA dX12_known_22 kc_i_m1 ?_
  refine k_callVi (As := [.int (-1 : Int32)]) (rest := [.ref (a 0)]) hA (m_M_knownBut l G a rv n t_1 (-1 : Int32) hr_2) cd_X12_knownBut wd_1657 (hc_MT_0 G.2.1 a rv t_1) rfl rfl (Nat.le_of_ble_eq_true rfl) rfl rfl (Nat.le_of_ble_eq_true rfl) dX12_known_23 ?_
  refine k_callVi (As := [.int r_2]) (rest := []) hA (m_M_good l G a rv r_2 t_1 hq_3.symm) cd_X12_good wd_1601 (hc_MT_0 G.2.1 a rv t_1) rfl rfl (Nat.le_of_ble_eq_true rfl) rfl rfl (Nat.le_of_ble_eq_true rfl) dX12_known_26 ?_
  exact k_iret hA hr rfl dX12_known_29

def f_M_alone (n : Nat) (x1 : Int32) (t : k_St) : Option (Int32 × k_St) := k_lt (k_sI t 0 0 (0 : Int32)) (fun t_1 => (if (k_b (f_M_isHouse t_1 x1)) = 0 then k_lt (f_M_refused (1 : Int32) t_1) (fun q_2 => some (q_2.1, q_2.2)) else k_gi x1 6 (k_cp (f_M_knownBut n t_1 x1) (fun r_4 => k_lt (f_M_good ((t_1.1 2 x1.toNatClampNeg) &&& (r_4 ^^^ (-1 : Int32))) t_1) (fun q_5 => some (q_5.1, q_5.2))))))
theorem m_M_alone (l : Launch) (G : k_G) (a : Nat → Nat) (rv : Value) (n : Nat) (x1 : Int32) (t : k_St) {r : Int32} {t' : k_St} (hf : f_M_alone n x1 t = some (r, t')) : k_CI l G yX12_alone cX12_alone 2 (some .int) 2 (k_WT G.2.1 a rv t) [.ref (a 0), .int x1] r (k_WT G.2.1 a rv t') := by
  refine k_startI (lv := [(0, .ref (a 0)), (1, .int x1)]) (by decide +kernel) (Nat.le_of_ble_eq_true rfl) rfl ?_
  intro p e s m args below meth c hA hr
  have hA : k_Amb p s m args meth c cX12_alone 2 "TaleSharesModel" G _ := hA
  unfold f_M_alone at hf
  obtain ⟨t_1, et_1, hf⟩ := k_lt_e hf
  refine k_aload_n (i := 0) hA dX12_alone_0 rfl 0 rfl ?_
  refine k_iconst hA dX12_alone_1 kc_i_0 ?_
  refine pt_MT_0_0 hA wd_1248 et_1 dX12_alone_2 ?_
  refine k_aload_n (i := 0) hA dX12_alone_5 rfl 0 rfl ?_
  refine k_iload_n (i := 1) hA dX12_alone_6 rfl 1 rfl ?_
  refine k_callVi (As := [.int x1]) (rest := []) hA (m_M_isHouse l G a rv t_1 x1 rfl) cd_X12_isHouse wd_1625 (hc_MT_0 G.2.1 a rv t_1) rfl rfl (Nat.le_of_ble_eq_true rfl) rfl rfl (Nat.le_of_ble_eq_true rfl) dX12_alone_7 ?_
  refine k_if_eq (tgt := 34) hA dX12_alone_10 rfl (fun hc => ?_) (fun hc => ?_)
  · have hf := k_ift hc hf
    obtain ⟨⟨rq_2, tq_2⟩, hq_2, hf⟩ := k_lt_e hf
    dsimp only at hf
    obtain ⟨rfl, rfl⟩ := k_r2 hf
    refine k_aload_n (i := 0) hA dX12_alone_34 rfl 0 rfl ?_
    refine k_iconst hA dX12_alone_35 kc_i_1 ?_
    refine k_callVi (As := [.int (1 : Int32)]) (rest := []) hA (m_M_refused l G a rv (1 : Int32) t_1 hq_2.symm) cd_X12_refused wd_1390 (hc_MT_0 G.2.1 a rv t_1) rfl rfl (Nat.le_of_ble_eq_true rfl) rfl rfl (Nat.le_of_ble_eq_true rfl) dX12_alone_36 ?_
    exact k_iret hA hr rfl dX12_alone_39
  have hf := k_iff hc hf
  obtain ⟨hi_3, hf⟩ := k_gi_e hf
  obtain ⟨r_4, hr_4, hf⟩ := k_cp_e hf
  obtain ⟨⟨rq_5, tq_5⟩, hq_5, hf⟩ := k_lt_e hf
  dsimp only at hf
  obtain ⟨rfl, rfl⟩ := k_r2 hf
  refine k_aload_n (i := 0) hA dX12_alone_13 rfl 0 rfl ?_
  refine k_aload_n (i := 0) hA dX12_alone_14 rfl 0 rfl ?_
  refine gt_MT_0_15 hA wd_1263 dX12_alone_15 ?_
  refine k_iload_n (i := 1) hA dX12_alone_18 rfl 1 rfl ?_
  refine ld_MT_2 hA hi_3 dX12_alone_19 ?_
  refine k_aload_n (i := 0) hA dX12_alone_20 rfl 0 rfl ?_
  refine k_iload_n (i := 1) hA dX12_alone_21 rfl 1 rfl ?_
  refine k_callVi (As := [.int x1]) (rest := [.int (t_1.1 2 x1.toNatClampNeg), .ref (a 0)]) hA (m_M_knownBut l G a rv n t_1 x1 hr_4) cd_X12_knownBut wd_1657 (hc_MT_0 G.2.1 a rv t_1) rfl rfl (Nat.le_of_ble_eq_true rfl) rfl rfl (Nat.le_of_ble_eq_true rfl) dX12_alone_22 ?_
  refine k_iconst hA dX12_alone_25 kc_i_m1 ?_
  refine k_ixor hA dX12_alone_26 ?_
  refine k_iand hA dX12_alone_27 ?_
  refine k_callVi (As := [.int ((t_1.1 2 x1.toNatClampNeg) &&& (r_4 ^^^ (-1 : Int32)))]) (rest := []) hA (m_M_good l G a rv ((t_1.1 2 x1.toNatClampNeg) &&& (r_4 ^^^ (-1 : Int32))) t_1 hq_5.symm) cd_X12_good wd_1601 (hc_MT_0 G.2.1 a rv t_1) rfl rfl (Nat.le_of_ble_eq_true rfl) rfl rfl (Nat.le_of_ble_eq_true rfl) dX12_alone_28 ?_
  refine k_goto (tgt := 39) hA dX12_alone_31 rfl ?_
  exact k_iret hA hr rfl dX12_alone_39

def f_Mt_all (t : k_St) : Int32 := (((1 : Int32) <<< ((t.1 18 2) &&& 31)) - (1 : Int32))
theorem m_Mt_all (l : Launch) (G : k_G) (a : Nat → Nat) (rv : Value) (t : k_St) {r : Int32} (hf : f_Mt_all t = r) : k_CI l G yX11_all cX11_all 1 (some .int) 1 (k_WT G.2.1 a rv t) [.ref (a 18)] r (k_WT G.2.1 a rv t) := by
  refine k_startI (lv := [(0, .ref (a 18))]) (by decide +kernel) (Nat.le_of_ble_eq_true rfl) rfl ?_
  intro p e s m args below meth c hA hr
  have hA : k_Amb p s m args meth c cX11_all 1 "TaleSharesModel$Terrace" G _ := hA
  unfold f_Mt_all at hf
  subst hf
  refine k_iconst hA dX11_all_0 kc_i_1 ?_
  refine k_aload_n (i := 0) hA dX11_all_1 rfl 0 rfl ?_
  refine gt_MT_18_2 hA wd_1403 dX11_all_2 ?_
  refine k_ishl hA dX11_all_5 ?_
  refine k_iconst hA dX11_all_6 kc_i_1 ?_
  refine k_isub hA dX11_all_7 ?_
  exact k_iret hA hr rfl dX11_all_8

def f_M_arePieces (t : k_St) (x1 : Int32) : Bool := (if (k_b (f_M_in x1 (0 : Int32) (f_Mt_all t))) = 0 then false else true)
theorem m_M_arePieces (l : Launch) (G : k_G) (a : Nat → Nat) (rv : Value) (t : k_St) (x1 : Int32) {r : Bool} (hf : f_M_arePieces t x1 = r) : k_CI l G yX12_arePieces cX12_arePieces 2 (some .boolean) 2 (k_WT G.2.1 a rv t) [.ref (a 0), .int x1] (k_b r) (k_WT G.2.1 a rv t) := by
  refine k_startI (lv := [(0, .ref (a 0)), (1, .int x1)]) (by decide +kernel) (Nat.le_of_ble_eq_true rfl) rfl ?_
  intro p e s m args below meth c hA hr
  have hA : k_Amb p s m args meth c cX12_arePieces 2 "TaleSharesModel" G _ := hA
  unfold f_M_arePieces at hf
  refine k_aload_n (i := 0) hA dX12_arePieces_0 rfl 0 rfl ?_
  refine gt_MT_0_3 hA wd_1251 dX12_arePieces_1 ?_
  refine k_ifnull hA dX12_arePieces_4 ?_
  refine k_iload_n (i := 1) hA dX12_arePieces_7 rfl 1 rfl ?_
  refine k_iconst hA dX12_arePieces_8 kc_i_0 ?_
  refine k_aload_n (i := 0) hA dX12_arePieces_9 rfl 0 rfl ?_
  refine gt_MT_0_3 hA wd_1251 dX12_arePieces_10 ?_
  refine k_callVi (As := []) (rest := [.int (0 : Int32), .int x1]) hA (m_Mt_all l G a rv t rfl) cd_X11_all wd_1673 (hc_MT_18 G.2.1 a rv t) rfl rfl (Nat.le_of_ble_eq_true rfl) rfl rfl (Nat.le_of_ble_eq_true rfl) dX12_arePieces_13 ?_
  refine k_callSi (As := [.int x1, .int (0 : Int32), .int (f_Mt_all t)]) (rest := []) hA (m_M_in l G (k_WT G.2.1 a rv t) x1 (0 : Int32) (f_Mt_all t) rfl) cd_X12_in wd_1525 (Nat.le_of_ble_eq_true rfl) rfl rfl (Nat.le_of_ble_eq_true rfl) dX12_arePieces_16 ?_
  refine k_if_eq (tgt := 26) hA dX12_arePieces_19 rfl (fun hc => ?_) (fun hc => ?_)
  · have hf := k_ift hc hf
    subst hf
    refine k_iconst hA dX12_arePieces_26 kc_i_0 ?_
    exact k_iret hA hr (k_narB (k_b01 _)) dX12_arePieces_27
  have hf := k_iff hc hf
  subst hf
  refine k_iconst hA dX12_arePieces_22 kc_i_1 ?_
  refine k_goto (tgt := 27) hA dX12_arePieces_23 rfl ?_
  exact k_iret hA hr (k_narB (k_b01 _)) dX12_arePieces_27

def f_M_tellsAll_7 (n : Nat) : Nat → Int32 → k_St → Option (Int32 × k_St)
  | 0, _, _ => none
  | k + 1, x2, t => k_cl (f_M_nextTale n t) (fun r_2 t_1 => (if (k_b r_2) = 0 then some (x2, t_1) else k_lt (x2 + (1 : Int32)) (fun x2_3 => f_M_tellsAll_7 n k x2_3 t_1)))
def f_M_tellsAll (n : Nat) (x1 : Int32) (t : k_St) : Option (Int32 × k_St) := k_cv (f_M_startsTales x1 t) (fun t_1 => f_M_tellsAll_7 n n (0 : Int32) t_1)
theorem m_M_tellsAll_7 {p : Program} (l : Launch) {e : Env} {s : State} {m : MethodId} {args : Array Value} {below : List Frame} {meth : Method} {c : Code} (G : k_G) (a : Nat → Nat) (rv : Value) (n : Nat) {w0 : va_W} {r : Int32} {t' : k_St} (hA : k_Amb p s m args meth c cX12_tellsAll 3 "TaleSharesModel" G (va_A w0 s.heap.size)) (hr : meth.sig.returnType = (some .int)) : ∀ (k : Nat) (x2 : Int32) (t : k_St), f_M_tellsAll_7 n k x2 t = some (r, t') → k_Go p l e (k_rm 4) s m args below meth c (k_QI G w0 r (k_WT G.2.1 a rv t') args s below) 3 G (va_A w0 s.heap.size) (k_WT G.2.1 a rv t) 7 [(0, .ref (a 0)), (2, .int x2)] [] := by
  intro k
  induction k with
  | zero => intro x2 t hf; cases hf
  | succ k ih =>
  intro x2 t hf
  rw [f_M_tellsAll_7] at hf
  obtain ⟨r_2, t_1, ht_1, hf⟩ := k_cl_e hf
  refine k_aload_n (i := 0) hA dX12_tellsAll_7 rfl 0 rfl ?_
  refine k_callVi (As := []) (rest := []) hA (m_M_nextTale l G a rv n t ht_1) cd_X12_nextTale wd_1637 (hc_MT_0 G.2.1 a rv t) rfl rfl (Nat.le_of_ble_eq_true rfl) rfl rfl (Nat.le_of_ble_eq_true rfl) dX12_tellsAll_8 ?_
  refine k_if_eq (tgt := 20) hA dX12_tellsAll_11 rfl (fun hc => ?_) (fun hc => ?_)
  · have hf := k_ift hc hf
    obtain ⟨rfl, rfl⟩ := k_r2 hf
    refine k_iload_n (i := 2) hA dX12_tellsAll_20 rfl 1 rfl ?_
    exact k_iret hA hr rfl dX12_tellsAll_21
  have hf := k_iff hc hf
  obtain ⟨x2_3, ex2_3, hf⟩ := k_lt_e hf
  refine k_iinc (j := 1) (v := x2_3) (lv' := [(2, .int x2_3), (0, .ref (a 0))]) hA dX12_tellsAll_14 rfl (k_inc ex2_3 kc_i_1) (Nat.le_of_ble_eq_true rfl) rfl ?_
  refine k_goto (tgt := 7) hA dX12_tellsAll_17 rfl ?_
  refine k_pick (lv' := [(0, .ref (a 0)), (2, .int x2_3)]) [1, 0] rfl ?_
  exact ih x2_3 t_1 hf

theorem m_M_tellsAll (l : Launch) (G : k_G) (a : Nat → Nat) (rv : Value) (n : Nat) (x1 : Int32) (t : k_St) {r : Int32} {t' : k_St} (hf : f_M_tellsAll n x1 t = some (r, t')) : k_CI l G yX12_tellsAll cX12_tellsAll 3 (some .int) 4 (k_WT G.2.1 a rv t) [.ref (a 0), .int x1] r (k_WT G.2.1 a rv t') := by
  refine k_startI (lv := [(0, .ref (a 0)), (1, .int x1)]) (by decide +kernel) (Nat.le_of_ble_eq_true rfl) rfl ?_
  intro p e s m args below meth c hA hr
  have hA : k_Amb p s m args meth c cX12_tellsAll 3 "TaleSharesModel" G _ := hA
  unfold f_M_tellsAll at hf
  obtain ⟨t_1, ht_1, hf⟩ := k_cv_e hf
  refine k_iconst hA dX12_tellsAll_0 kc_i_0 ?_
  refine k_istore_n (i := 2) (lv' := [(2, .int (0 : Int32)), (0, .ref (a 0)), (1, .int x1)]) hA dX12_tellsAll_1 rfl rfl (Nat.le_of_ble_eq_true rfl) rfl ?_
  refine k_aload_n (i := 0) hA dX12_tellsAll_2 rfl 1 rfl ?_
  refine k_iload_n (i := 1) hA dX12_tellsAll_3 rfl 2 rfl ?_
  refine k_callVv (As := [.int x1]) (rest := []) hA (m_M_startsTales l G a rv x1 t ht_1) cd_X12_startsTales wd_1633 (hc_MT_0 G.2.1 a rv t) rfl rfl (Nat.le_of_ble_eq_true rfl) rfl rfl (Nat.le_of_ble_eq_true rfl) dX12_tellsAll_4 ?_
  refine k_pick (lv' := [(0, .ref (a 0)), (2, .int (0 : Int32))]) [1, 0] rfl ?_
  exact m_M_tellsAll_7 l G a rv n hA hr n (0 : Int32) t_1 hf

def f_M_tales (n : Nat) (x1 : Int32) (t : k_St) : Option (Int32 × k_St) := k_lt (k_sI t 0 0 (0 : Int32)) (fun t_1 => (if (k_b (f_M_arePieces t_1 x1)) = 0 then k_lt (f_M_refused (1 : Int32) t_1) (fun q_2 => some (q_2.1, q_2.2)) else k_cl (f_M_tellsAll n x1 t_1) (fun r_4 t_3 => k_lt (f_M_good r_4 t_3) (fun q_5 => some (q_5.1, q_5.2)))))
theorem m_M_tales (l : Launch) (G : k_G) (a : Nat → Nat) (rv : Value) (n : Nat) (x1 : Int32) (t : k_St) {r : Int32} {t' : k_St} (hf : f_M_tales n x1 t = some (r, t')) : k_CI l G yX12_tales cX12_tales 2 (some .int) 5 (k_WT G.2.1 a rv t) [.ref (a 0), .int x1] r (k_WT G.2.1 a rv t') := by
  refine k_startI (lv := [(0, .ref (a 0)), (1, .int x1)]) (by decide +kernel) (Nat.le_of_ble_eq_true rfl) rfl ?_
  intro p e s m args below meth c hA hr
  have hA : k_Amb p s m args meth c cX12_tales 2 "TaleSharesModel" G _ := hA
  unfold f_M_tales at hf
  obtain ⟨t_1, et_1, hf⟩ := k_lt_e hf
  refine k_aload_n (i := 0) hA dX12_tales_0 rfl 0 rfl ?_
  refine k_iconst hA dX12_tales_1 kc_i_0 ?_
  refine pt_MT_0_0 hA wd_1248 et_1 dX12_tales_2 ?_
  refine k_aload_n (i := 0) hA dX12_tales_5 rfl 0 rfl ?_
  refine k_iload_n (i := 1) hA dX12_tales_6 rfl 1 rfl ?_
  refine k_callVi (As := [.int x1]) (rest := []) hA (m_M_arePieces l G a rv t_1 x1 rfl) cd_X12_arePieces wd_1669 (hc_MT_0 G.2.1 a rv t_1) rfl rfl (Nat.le_of_ble_eq_true rfl) rfl rfl (Nat.le_of_ble_eq_true rfl) dX12_tales_7 ?_
  refine k_if_eq (tgt := 25) hA dX12_tales_10 rfl (fun hc => ?_) (fun hc => ?_)
  · have hf := k_ift hc hf
    obtain ⟨⟨rq_2, tq_2⟩, hq_2, hf⟩ := k_lt_e hf
    dsimp only at hf
    obtain ⟨rfl, rfl⟩ := k_r2 hf
    refine k_aload_n (i := 0) hA dX12_tales_25 rfl 0 rfl ?_
    refine k_iconst hA dX12_tales_26 kc_i_1 ?_
    refine k_callVi (As := [.int (1 : Int32)]) (rest := []) hA (m_M_refused l G a rv (1 : Int32) t_1 hq_2.symm) cd_X12_refused wd_1390 (hc_MT_0 G.2.1 a rv t_1) rfl rfl (Nat.le_of_ble_eq_true rfl) rfl rfl (Nat.le_of_ble_eq_true rfl) dX12_tales_27 ?_
    exact k_iret hA hr rfl dX12_tales_30
  have hf := k_iff hc hf
  obtain ⟨r_4, t_3, ht_3, hf⟩ := k_cl_e hf
  obtain ⟨⟨rq_5, tq_5⟩, hq_5, hf⟩ := k_lt_e hf
  dsimp only at hf
  obtain ⟨rfl, rfl⟩ := k_r2 hf
  refine k_aload_n (i := 0) hA dX12_tales_13 rfl 0 rfl ?_
  refine k_aload_n (i := 0) hA dX12_tales_14 rfl 0 rfl ?_
  refine k_iload_n (i := 1) hA dX12_tales_15 rfl 1 rfl ?_
  refine k_callVi (As := [.int x1]) (rest := [.ref (a 0)]) hA (m_M_tellsAll l G a rv n x1 t_1 ht_3) cd_X12_tellsAll wd_1677 (hc_MT_0 G.2.1 a rv t_1) rfl rfl (Nat.le_of_ble_eq_true rfl) rfl rfl (Nat.le_of_ble_eq_true rfl) dX12_tales_16 ?_
  refine k_callVi (As := [.int r_4]) (rest := []) hA (m_M_good l G a rv r_4 t_3 hq_5.symm) cd_X12_good wd_1601 (hc_MT_0 G.2.1 a rv t_3) rfl rfl (Nat.le_of_ble_eq_true rfl) rfl rfl (Nat.le_of_ble_eq_true rfl) dX12_tales_19 ?_
  refine k_goto (tgt := 30) hA dX12_tales_22 rfl ?_
  exact k_iret hA hr rfl dX12_tales_30

def f_M_longestOf_32 (n : Nat) (rec7 : Int32 → k_St → Option (Int32 × k_St)) : Nat → Int32 → Int32 → k_St → Option (Int32 × k_St)
  | 0, _, _, _ => none
  | k + 1, x2, x3, t => (if (t.1 0 22) ≤ x3 then rec7 x2 t else k_gi x3 9 (k_gi x3 8 (k_lt (k_sI t 7 x3.toNatClampNeg (t.1 6 x3.toNatClampNeg)) (fun t_3 => k_lt (x3 + (1 : Int32)) (fun x3_4 => f_M_longestOf_32 n rec7 k x2 x3_4 t_3)))))
def f_M_longestOf_7 (n : Nat) : Nat → Int32 → k_St → Option (Int32 × k_St)
  | 0, _, _ => none
  | k + 1, x2, t => k_cl (f_M_nextTale n t) (fun r_2 t_1 => (if (k_b r_2) = 0 then some (x2, t_1) else (if x2 < (t_1.1 0 22) then k_lt (t_1.1 0 22) (fun x2_3 => f_M_longestOf_32 n (f_M_longestOf_7 n k) n x2_3 (0 : Int32) t_1) else f_M_longestOf_7 n k x2 t_1)))
def f_M_longestOf (n : Nat) (x1 : Int32) (t : k_St) : Option (Int32 × k_St) := k_cv (f_M_startsTales x1 t) (fun t_1 => f_M_longestOf_7 n n (0 : Int32) t_1)
theorem m_M_longestOf_32 {p : Program} (l : Launch) {e : Env} {s : State} {m : MethodId} {args : Array Value} {below : List Frame} {meth : Method} {c : Code} (G : k_G) (a : Nat → Nat) (rv : Value) (n : Nat) {w0 : va_W} {r : Int32} {t' : k_St} (hA : k_Amb p s m args meth c cX12_longestOf 4 "TaleSharesModel" G (va_A w0 s.heap.size)) (hr : meth.sig.returnType = (some .int)) (rec7 : Int32 → k_St → Option (Int32 × k_St)) (hrec7 : ∀ (x2 : Int32) (t : k_St), rec7 x2 t = some (r, t') → k_Go p l e (k_rm 4) s m args below meth c (k_QI G w0 r (k_WT G.2.1 a rv t') args s below) 4 G (va_A w0 s.heap.size) (k_WT G.2.1 a rv t) 7 [(0, .ref (a 0)), (2, .int x2)] []) : ∀ (k : Nat) (x2 : Int32) (x3 : Int32) (t : k_St), f_M_longestOf_32 n rec7 k x2 x3 t = some (r, t') → k_Go p l e (k_rm 4) s m args below meth c (k_QI G w0 r (k_WT G.2.1 a rv t') args s below) 4 G (va_A w0 s.heap.size) (k_WT G.2.1 a rv t) 32 [(0, .ref (a 0)), (2, .int x2), (3, .int x3)] [] := by
  intro k
  induction k with
  | zero => intro x2 x3 t hf; cases hf
  | succ k ih =>
  intro x2 x3 t hf
  rw [f_M_longestOf_32] at hf
  refine k_iload_n (i := 3) hA dX12_longestOf_32 rfl 2 rfl ?_
  refine k_aload_n (i := 0) hA dX12_longestOf_33 rfl 0 rfl ?_
  refine gt_MT_0_22 hA wd_1270 dX12_longestOf_34 ?_
  refine k_icmp_ge (tgt := 58) hA dX12_longestOf_37 rfl (fun hc => ?_) (fun hc => ?_)
  · have hf := k_ift hc hf
    refine k_goto (tgt := 7) hA dX12_longestOf_58 rfl ?_
    refine k_pick (lv' := [(0, .ref (a 0)), (2, .int x2)]) [0, 1] rfl ?_
    exact hrec7 x2 t hf
  have hf := k_iff hc hf
  obtain ⟨hi_1, hf⟩ := k_gi_e hf
  obtain ⟨hi_2, hf⟩ := k_gi_e hf
  obtain ⟨t_3, et_3, hf⟩ := k_lt_e hf
  obtain ⟨x3_4, ex3_4, hf⟩ := k_lt_e hf
  refine k_aload_n (i := 0) hA dX12_longestOf_40 rfl 0 rfl ?_
  refine gt_MT_0_26 hA wd_1274 dX12_longestOf_41 ?_
  refine k_iload_n (i := 3) hA dX12_longestOf_44 rfl 2 rfl ?_
  refine k_aload_n (i := 0) hA dX12_longestOf_45 rfl 0 rfl ?_
  refine gt_MT_0_21 hA wd_1269 dX12_longestOf_46 ?_
  refine k_iload_n (i := 3) hA dX12_longestOf_49 rfl 2 rfl ?_
  refine ld_MT_6 hA hi_1 dX12_longestOf_50 ?_
  refine sr_MT_7 hA hi_2 et_3 dX12_longestOf_51 ?_
  refine k_iinc (j := 2) (v := x3_4) (lv' := [(3, .int x3_4), (0, .ref (a 0)), (2, .int x2)]) hA dX12_longestOf_52 rfl (k_inc ex3_4 kc_i_1) (Nat.le_of_ble_eq_true rfl) rfl ?_
  refine k_goto (tgt := 32) hA dX12_longestOf_55 rfl ?_
  refine k_pick (lv' := [(0, .ref (a 0)), (2, .int x2), (3, .int x3_4)]) [1, 2, 0] rfl ?_
  exact ih x2 x3_4 t_3 hf

theorem m_M_longestOf_7 {p : Program} (l : Launch) {e : Env} {s : State} {m : MethodId} {args : Array Value} {below : List Frame} {meth : Method} {c : Code} (G : k_G) (a : Nat → Nat) (rv : Value) (n : Nat) {w0 : va_W} {r : Int32} {t' : k_St} (hA : k_Amb p s m args meth c cX12_longestOf 4 "TaleSharesModel" G (va_A w0 s.heap.size)) (hr : meth.sig.returnType = (some .int)) : ∀ (k : Nat) (x2 : Int32) (t : k_St), f_M_longestOf_7 n k x2 t = some (r, t') → k_Go p l e (k_rm 4) s m args below meth c (k_QI G w0 r (k_WT G.2.1 a rv t') args s below) 4 G (va_A w0 s.heap.size) (k_WT G.2.1 a rv t) 7 [(0, .ref (a 0)), (2, .int x2)] [] := by
  intro k
  induction k with
  | zero => intro x2 t hf; cases hf
  | succ k ih =>
  intro x2 t hf
  rw [f_M_longestOf_7] at hf
  obtain ⟨r_2, t_1, ht_1, hf⟩ := k_cl_e hf
  refine k_aload_n (i := 0) hA dX12_longestOf_7 rfl 0 rfl ?_
  refine k_callVi (As := []) (rest := []) hA (m_M_nextTale l G a rv n t ht_1) cd_X12_nextTale wd_1637 (hc_MT_0 G.2.1 a rv t) rfl rfl (Nat.le_of_ble_eq_true rfl) rfl rfl (Nat.le_of_ble_eq_true rfl) dX12_longestOf_8 ?_
  refine k_if_eq (tgt := 61) hA dX12_longestOf_11 rfl (fun hc => ?_) (fun hc => ?_)
  · have hf := k_ift hc hf
    obtain ⟨rfl, rfl⟩ := k_r2 hf
    refine k_iload_n (i := 2) hA dX12_longestOf_61 rfl 1 rfl ?_
    exact k_iret hA hr rfl dX12_longestOf_62
  have hf := k_iff hc hf
  refine k_aload_n (i := 0) hA dX12_longestOf_14 rfl 0 rfl ?_
  refine gt_MT_0_22 hA wd_1270 dX12_longestOf_15 ?_
  refine k_iload_n (i := 2) hA dX12_longestOf_18 rfl 1 rfl ?_
  refine k_icmp_gt (tgt := 25) hA dX12_longestOf_19 rfl (fun hc => ?_) (fun hc => ?_)
  · have hf := k_ift hc hf
    obtain ⟨x2_3, ex2_3, hf⟩ := k_lt_e hf
    refine k_aload_n (i := 0) hA dX12_longestOf_25 rfl 0 rfl ?_
    refine gt_MT_0_22 hA wd_1270 dX12_longestOf_26 ?_
    refine k_istore_n (i := 2) (lv' := [(2, .int x2_3), (0, .ref (a 0))]) hA dX12_longestOf_29 rfl ex2_3 (Nat.le_of_ble_eq_true rfl) rfl ?_
    refine k_iconst hA dX12_longestOf_30 kc_i_0 ?_
    refine k_istore_n (i := 3) (lv' := [(3, .int (0 : Int32)), (2, .int x2_3), (0, .ref (a 0))]) hA dX12_longestOf_31 rfl rfl (Nat.le_of_ble_eq_true rfl) rfl ?_
    refine k_pick (lv' := [(0, .ref (a 0)), (2, .int x2_3), (3, .int (0 : Int32))]) [2, 1, 0] rfl ?_
    exact m_M_longestOf_32 l G a rv n hA hr (f_M_longestOf_7 n k) ih n x2_3 (0 : Int32) t_1 hf
  have hf := k_iff hc hf
  refine k_goto (tgt := 7) hA dX12_longestOf_22 rfl ?_
  exact ih x2 t_1 hf

theorem m_M_longestOf (l : Launch) (G : k_G) (a : Nat → Nat) (rv : Value) (n : Nat) (x1 : Int32) (t : k_St) {r : Int32} {t' : k_St} (hf : f_M_longestOf n x1 t = some (r, t')) : k_CI l G yX12_longestOf cX12_longestOf 4 (some .int) 4 (k_WT G.2.1 a rv t) [.ref (a 0), .int x1] r (k_WT G.2.1 a rv t') := by
  refine k_startI (lv := [(0, .ref (a 0)), (1, .int x1)]) (by decide +kernel) (Nat.le_of_ble_eq_true rfl) rfl ?_
  intro p e s m args below meth c hA hr
  have hA : k_Amb p s m args meth c cX12_longestOf 4 "TaleSharesModel" G _ := hA
  unfold f_M_longestOf at hf
  obtain ⟨t_1, ht_1, hf⟩ := k_cv_e hf
  refine k_iconst hA dX12_longestOf_0 kc_i_0 ?_
  refine k_istore_n (i := 2) (lv' := [(2, .int (0 : Int32)), (0, .ref (a 0)), (1, .int x1)]) hA dX12_longestOf_1 rfl rfl (Nat.le_of_ble_eq_true rfl) rfl ?_
  refine k_aload_n (i := 0) hA dX12_longestOf_2 rfl 1 rfl ?_
  refine k_iload_n (i := 1) hA dX12_longestOf_3 rfl 2 rfl ?_
  refine k_callVv (As := [.int x1]) (rest := []) hA (m_M_startsTales l G a rv x1 t ht_1) cd_X12_startsTales wd_1633 (hc_MT_0 G.2.1 a rv t) rfl rfl (Nat.le_of_ble_eq_true rfl) rfl rfl (Nat.le_of_ble_eq_true rfl) dX12_longestOf_4 ?_
  refine k_pick (lv' := [(0, .ref (a 0)), (2, .int (0 : Int32))]) [1, 0] rfl ?_
  exact m_M_longestOf_7 l G a rv n hA hr n (0 : Int32) t_1 hf

def f_M_longest (n : Nat) (x1 : Int32) (t : k_St) : Option (Int32 × k_St) := k_lt (k_sI t 0 0 (0 : Int32)) (fun t_1 => (if (k_b (f_M_arePieces t_1 x1)) = 0 then k_lt (f_M_refused (1 : Int32) t_1) (fun q_6 => some (q_6.1, q_6.2)) else k_cl (f_M_longestOf n x1 t_1) (fun r_3 t_2 => (if r_3 = 0 then k_lt (f_M_good (-2 : Int32) t_2) (fun q_5 => some (q_5.1, q_5.2)) else k_lt (f_M_good r_3 t_2) (fun q_4 => some (q_4.1, q_4.2))))))
theorem m_M_longest (l : Launch) (G : k_G) (a : Nat → Nat) (rv : Value) (n : Nat) (x1 : Int32) (t : k_St) {r : Int32} {t' : k_St} (hf : f_M_longest n x1 t = some (r, t')) : k_CI l G yX12_longest cX12_longest 3 (some .int) 5 (k_WT G.2.1 a rv t) [.ref (a 0), .int x1] r (k_WT G.2.1 a rv t') := by
  refine k_startI (lv := [(0, .ref (a 0)), (1, .int x1)]) (by decide +kernel) (Nat.le_of_ble_eq_true rfl) rfl ?_
  intro p e s m args below meth c hA hr
  have hA : k_Amb p s m args meth c cX12_longest 3 "TaleSharesModel" G _ := hA
  unfold f_M_longest at hf
  obtain ⟨t_1, et_1, hf⟩ := k_lt_e hf
  refine k_aload_n (i := 0) hA dX12_longest_0 rfl 0 rfl ?_
  refine k_iconst hA dX12_longest_1 kc_i_0 ?_
  refine pt_MT_0_0 hA wd_1248 et_1 dX12_longest_2 ?_
  refine k_aload_n (i := 0) hA dX12_longest_5 rfl 0 rfl ?_
  refine k_iload_n (i := 1) hA dX12_longest_6 rfl 1 rfl ?_
  refine k_callVi (As := [.int x1]) (rest := []) hA (m_M_arePieces l G a rv t_1 x1 rfl) cd_X12_arePieces wd_1669 (hc_MT_0 G.2.1 a rv t_1) rfl rfl (Nat.le_of_ble_eq_true rfl) rfl rfl (Nat.le_of_ble_eq_true rfl) dX12_longest_7 ?_
  refine k_if_ne (tgt := 19) hA dX12_longest_10 rfl (fun hc => ?_) (fun hc => ?_)
  · have hf := k_iff hc hf
    obtain ⟨r_3, t_2, ht_2, hf⟩ := k_cl_e hf
    refine k_aload_n (i := 0) hA dX12_longest_19 rfl 0 rfl ?_
    refine k_iload_n (i := 1) hA dX12_longest_20 rfl 1 rfl ?_
    refine k_callVi (As := [.int x1]) (rest := []) hA (m_M_longestOf l G a rv n x1 t_1 ht_2) cd_X12_longestOf wd_1685 (hc_MT_0 G.2.1 a rv t_1) rfl rfl (Nat.le_of_ble_eq_true rfl) rfl rfl (Nat.le_of_ble_eq_true rfl) dX12_longest_21 ?_
    refine k_istore_n (i := 2) (lv' := [(2, .int r_3), (0, .ref (a 0)), (1, .int x1)]) hA dX12_longest_24 rfl rfl (Nat.le_of_ble_eq_true rfl) rfl ?_
    refine k_aload_n (i := 0) hA dX12_longest_25 rfl 1 rfl ?_
    refine k_iload_n (i := 2) hA dX12_longest_26 rfl 0 rfl ?_
    refine k_if_ne (tgt := 35) hA dX12_longest_27 rfl (fun hc => ?_) (fun hc => ?_)
    · have hf := k_iff hc hf
      obtain ⟨⟨rq_4, tq_4⟩, hq_4, hf⟩ := k_lt_e hf
      dsimp only at hf
      obtain ⟨rfl, rfl⟩ := k_r2 hf
      refine k_iload_n (i := 2) hA dX12_longest_35 rfl 0 rfl ?_
      refine k_callVi (As := [.int r_3]) (rest := []) hA (m_M_good l G a rv r_3 t_2 hq_4.symm) cd_X12_good wd_1601 (hc_MT_0 G.2.1 a rv t_2) rfl rfl (Nat.le_of_ble_eq_true rfl) rfl rfl (Nat.le_of_ble_eq_true rfl) dX12_longest_36 ?_
      exact k_iret hA hr rfl dX12_longest_39
    have hf := k_ift hc hf
    obtain ⟨⟨rq_5, tq_5⟩, hq_5, hf⟩ := k_lt_e hf
    dsimp only at hf
    obtain ⟨rfl, rfl⟩ := k_r2 hf
    refine k_bipush hA dX12_longest_30 kc_b_m2 ?_
    refine k_goto (tgt := 36) hA dX12_longest_32 rfl ?_
    refine k_callVi (As := [.int (-2 : Int32)]) (rest := []) hA (m_M_good l G a rv (-2 : Int32) t_2 hq_5.symm) cd_X12_good wd_1601 (hc_MT_0 G.2.1 a rv t_2) rfl rfl (Nat.le_of_ble_eq_true rfl) rfl rfl (Nat.le_of_ble_eq_true rfl) dX12_longest_36 ?_
    exact k_iret hA hr rfl dX12_longest_39
  have hf := k_ift hc hf
  obtain ⟨⟨rq_6, tq_6⟩, hq_6, hf⟩ := k_lt_e hf
  dsimp only at hf
  obtain ⟨rfl, rfl⟩ := k_r2 hf
  refine k_aload_n (i := 0) hA dX12_longest_13 rfl 0 rfl ?_
  refine k_iconst hA dX12_longest_14 kc_i_1 ?_
  refine k_callVi (As := [.int (1 : Int32)]) (rest := []) hA (m_M_refused l G a rv (1 : Int32) t_1 hq_6.symm) cd_X12_refused wd_1390 (hc_MT_0 G.2.1 a rv t_1) rfl rfl (Nat.le_of_ble_eq_true rfl) rfl rfl (Nat.le_of_ble_eq_true rfl) dX12_longest_15 ?_
  exact k_iret hA hr rfl dX12_longest_18

def f_M_longestAt (n : Nat) (x1 : Int32) (x2 : Int32) (t : k_St) : Option (Int32 × k_St) := k_lt (k_sI t 0 0 (0 : Int32)) (fun t_1 => (if (k_b (f_M_arePieces t_1 x1)) = 0 then k_lt (f_M_refused (1 : Int32) t_1) (fun q_8 => some (q_8.1, q_8.2)) else (if x2 < 0 then k_lt (f_M_refused (1 : Int32) t_1) (fun q_2 => some (q_2.1, q_2.2)) else k_cl (f_M_longestOf n x1 t_1) (fun r_4 t_3 => (if r_4 ≤ x2 then k_lt (f_M_refused (1 : Int32) t_3) (fun q_5 => some (q_5.1, q_5.2)) else k_gi x2 8 (k_lt (f_M_good (t_3.1 7 x2.toNatClampNeg) t_3) (fun q_7 => some (q_7.1, q_7.2))))))))
theorem m_M_longestAt (l : Launch) (G : k_G) (a : Nat → Nat) (rv : Value) (n : Nat) (x1 : Int32) (x2 : Int32) (t : k_St) {r : Int32} {t' : k_St} (hf : f_M_longestAt n x1 x2 t = some (r, t')) : k_CI l G yX12_longestAt cX12_longestAt 3 (some .int) 5 (k_WT G.2.1 a rv t) [.ref (a 0), .int x1, .int x2] r (k_WT G.2.1 a rv t') := by
  refine k_startI (lv := [(0, .ref (a 0)), (1, .int x1), (2, .int x2)]) (by decide +kernel) (Nat.le_of_ble_eq_true rfl) rfl ?_
  intro p e s m args below meth c hA hr
  have hA : k_Amb p s m args meth c cX12_longestAt 3 "TaleSharesModel" G _ := hA
  unfold f_M_longestAt at hf
  obtain ⟨t_1, et_1, hf⟩ := k_lt_e hf
  refine k_aload_n (i := 0) hA dX12_longestAt_0 rfl 0 rfl ?_
  refine k_iconst hA dX12_longestAt_1 kc_i_0 ?_
  refine pt_MT_0_0 hA wd_1248 et_1 dX12_longestAt_2 ?_
  refine k_aload_n (i := 0) hA dX12_longestAt_5 rfl 0 rfl ?_
  refine k_iload_n (i := 1) hA dX12_longestAt_6 rfl 1 rfl ?_
  refine k_callVi (As := [.int x1]) (rest := []) hA (m_M_arePieces l G a rv t_1 x1 rfl) cd_X12_arePieces wd_1669 (hc_MT_0 G.2.1 a rv t_1) rfl rfl (Nat.le_of_ble_eq_true rfl) rfl rfl (Nat.le_of_ble_eq_true rfl) dX12_longestAt_7 ?_
  refine k_if_ne (tgt := 19) hA dX12_longestAt_10 rfl (fun hc => ?_) (fun hc => ?_)
  · have hf := k_iff hc hf
    refine k_iload_n (i := 2) hA dX12_longestAt_19 rfl 2 rfl ?_
    refine k_if_lt (tgt := 45) hA dX12_longestAt_20 rfl (fun hc => ?_) (fun hc => ?_)
    · have hf := k_ift hc hf
      obtain ⟨⟨rq_2, tq_2⟩, hq_2, hf⟩ := k_lt_e hf
      dsimp only at hf
      obtain ⟨rfl, rfl⟩ := k_r2 hf
      refine k_aload_n (i := 0) hA dX12_longestAt_45 rfl 0 rfl ?_
      refine k_iconst hA dX12_longestAt_46 kc_i_1 ?_
      refine k_callVi (As := [.int (1 : Int32)]) (rest := []) hA (m_M_refused l G a rv (1 : Int32) t_1 hq_2.symm) cd_X12_refused wd_1390 (hc_MT_0 G.2.1 a rv t_1) rfl rfl (Nat.le_of_ble_eq_true rfl) rfl rfl (Nat.le_of_ble_eq_true rfl) dX12_longestAt_47 ?_
      exact k_iret hA hr rfl dX12_longestAt_50
    have hf := k_iff hc hf
    obtain ⟨r_4, t_3, ht_3, hf⟩ := k_cl_e hf
    refine k_iload_n (i := 2) hA dX12_longestAt_23 rfl 2 rfl ?_
    refine k_aload_n (i := 0) hA dX12_longestAt_24 rfl 0 rfl ?_
    refine k_iload_n (i := 1) hA dX12_longestAt_25 rfl 1 rfl ?_
    refine k_callVi (As := [.int x1]) (rest := [.int x2]) hA (m_M_longestOf l G a rv n x1 t_1 ht_3) cd_X12_longestOf wd_1685 (hc_MT_0 G.2.1 a rv t_1) rfl rfl (Nat.le_of_ble_eq_true rfl) rfl rfl (Nat.le_of_ble_eq_true rfl) dX12_longestAt_26 ?_
    refine k_icmp_ge (tgt := 45) hA dX12_longestAt_29 rfl (fun hc => ?_) (fun hc => ?_)
    · have hf := k_ift hc hf
      obtain ⟨⟨rq_5, tq_5⟩, hq_5, hf⟩ := k_lt_e hf
      dsimp only at hf
      obtain ⟨rfl, rfl⟩ := k_r2 hf
      refine k_aload_n (i := 0) hA dX12_longestAt_45 rfl 0 rfl ?_
      refine k_iconst hA dX12_longestAt_46 kc_i_1 ?_
      refine k_callVi (As := [.int (1 : Int32)]) (rest := []) hA (m_M_refused l G a rv (1 : Int32) t_3 hq_5.symm) cd_X12_refused wd_1390 (hc_MT_0 G.2.1 a rv t_3) rfl rfl (Nat.le_of_ble_eq_true rfl) rfl rfl (Nat.le_of_ble_eq_true rfl) dX12_longestAt_47 ?_
      exact k_iret hA hr rfl dX12_longestAt_50
    have hf := k_iff hc hf
    obtain ⟨hi_6, hf⟩ := k_gi_e hf
    obtain ⟨⟨rq_7, tq_7⟩, hq_7, hf⟩ := k_lt_e hf
    dsimp only at hf
    obtain ⟨rfl, rfl⟩ := k_r2 hf
    refine k_aload_n (i := 0) hA dX12_longestAt_32 rfl 0 rfl ?_
    refine k_aload_n (i := 0) hA dX12_longestAt_33 rfl 0 rfl ?_
    refine gt_MT_0_26 hA wd_1274 dX12_longestAt_34 ?_
    refine k_iload_n (i := 2) hA dX12_longestAt_37 rfl 2 rfl ?_
    refine ld_MT_7 hA hi_6 dX12_longestAt_38 ?_
    refine k_callVi (As := [.int (t_3.1 7 x2.toNatClampNeg)]) (rest := []) hA (m_M_good l G a rv (t_3.1 7 x2.toNatClampNeg) t_3 hq_7.symm) cd_X12_good wd_1601 (hc_MT_0 G.2.1 a rv t_3) rfl rfl (Nat.le_of_ble_eq_true rfl) rfl rfl (Nat.le_of_ble_eq_true rfl) dX12_longestAt_39 ?_
    refine k_goto (tgt := 50) hA dX12_longestAt_42 rfl ?_
    exact k_iret hA hr rfl dX12_longestAt_50
  have hf := k_ift hc hf
  obtain ⟨⟨rq_8, tq_8⟩, hq_8, hf⟩ := k_lt_e hf
  dsimp only at hf
  obtain ⟨rfl, rfl⟩ := k_r2 hf
  refine k_aload_n (i := 0) hA dX12_longestAt_13 rfl 0 rfl ?_
  refine k_iconst hA dX12_longestAt_14 kc_i_1 ?_
  refine k_callVi (As := [.int (1 : Int32)]) (rest := []) hA (m_M_refused l G a rv (1 : Int32) t_1 hq_8.symm) cd_X12_refused wd_1390 (hc_MT_0 G.2.1 a rv t_1) rfl rfl (Nat.le_of_ble_eq_true rfl) rfl rfl (Nat.le_of_ble_eq_true rfl) dX12_longestAt_15 ?_
  exact k_iret hA hr rfl dX12_longestAt_18

def f_M_taleAt_35 (n : Nat) : Nat → Int32 → Int32 → Int32 → k_St → Option (Int32 × k_St)
  | 0, _, _, _, _ => none
  | k + 1, x2, x3, x4, t => k_cl (f_M_nextTale n t) (fun r_2 t_1 => (if (k_b r_2) = 0 then k_lt (f_M_refused (1 : Int32) t_1) (fun q_3 => some (q_3.1, q_3.2)) else (if x4 = x2 then (if (t_1.1 0 22) ≤ x3 then k_lt (f_M_refused (1 : Int32) t_1) (fun q_5 => some (q_5.1, q_5.2)) else k_gi x3 9 (k_lt (f_M_good (t_1.1 6 x3.toNatClampNeg) t_1) (fun q_7 => some (q_7.1, q_7.2)))) else k_lt (x4 + (1 : Int32)) (fun x4_4 => f_M_taleAt_35 n k x2 x3 x4_4 t_1))))
def f_M_taleAt (n : Nat) (x1 : Int32) (x2 : Int32) (x3 : Int32) (t : k_St) : Option (Int32 × k_St) := k_lt (k_sI t 0 0 (0 : Int32)) (fun t_1 => (if (k_b (f_M_arePieces t_1 x1)) = 0 then k_lt (f_M_refused (1 : Int32) t_1) (fun q_2 => some (q_2.1, q_2.2)) else (if x2 < 0 then k_lt (f_M_refused (1 : Int32) t_1) (fun q_3 => some (q_3.1, q_3.2)) else (if 0 ≤ x3 then k_cv (f_M_startsTales x1 t_1) (fun t_4 => f_M_taleAt_35 n n x2 x3 (0 : Int32) t_4) else k_lt (f_M_refused (1 : Int32) t_1) (fun q_5 => some (q_5.1, q_5.2))))))
theorem m_M_taleAt_35 {p : Program} (l : Launch) {e : Env} {s : State} {m : MethodId} {args : Array Value} {below : List Frame} {meth : Method} {c : Code} (G : k_G) (a : Nat → Nat) (rv : Value) (n : Nat) {w0 : va_W} {r : Int32} {t' : k_St} (hA : k_Amb p s m args meth c cX12_taleAt 5 "TaleSharesModel" G (va_A w0 s.heap.size)) (hr : meth.sig.returnType = (some .int)) : ∀ (k : Nat) (x2 : Int32) (x3 : Int32) (x4 : Int32) (t : k_St), f_M_taleAt_35 n k x2 x3 x4 t = some (r, t') → k_Go p l e (k_rm 4) s m args below meth c (k_QI G w0 r (k_WT G.2.1 a rv t') args s below) 5 G (va_A w0 s.heap.size) (k_WT G.2.1 a rv t) 35 [(0, .ref (a 0)), (2, .int x2), (3, .int x3), (4, .int x4)] [] := by
  intro k
  induction k with
  | zero => intro x2 x3 x4 t hf; cases hf
  | succ k ih =>
  intro x2 x3 x4 t hf
  rw [f_M_taleAt_35] at hf
  obtain ⟨r_2, t_1, ht_1, hf⟩ := k_cl_e hf
  refine k_aload_n (i := 0) hA dX12_taleAt_35 rfl 0 rfl ?_
  refine k_callVi (As := []) (rest := []) hA (m_M_nextTale l G a rv n t ht_1) cd_X12_nextTale wd_1637 (hc_MT_0 G.2.1 a rv t) rfl rfl (Nat.le_of_ble_eq_true rfl) rfl rfl (Nat.le_of_ble_eq_true rfl) dX12_taleAt_36 ?_
  refine k_if_eq (tgt := 81) hA dX12_taleAt_39 rfl (fun hc => ?_) (fun hc => ?_)
  · have hf := k_ift hc hf
    obtain ⟨⟨rq_3, tq_3⟩, hq_3, hf⟩ := k_lt_e hf
    dsimp only at hf
    obtain ⟨rfl, rfl⟩ := k_r2 hf
    refine k_aload_n (i := 0) hA dX12_taleAt_81 rfl 0 rfl ?_
    refine k_iconst hA dX12_taleAt_82 kc_i_1 ?_
    refine k_callVi (As := [.int (1 : Int32)]) (rest := []) hA (m_M_refused l G a rv (1 : Int32) t_1 hq_3.symm) cd_X12_refused wd_1390 (hc_MT_0 G.2.1 a rv t_1) rfl rfl (Nat.le_of_ble_eq_true rfl) rfl rfl (Nat.le_of_ble_eq_true rfl) dX12_taleAt_83 ?_
    exact k_iret hA hr rfl dX12_taleAt_86
  have hf := k_iff hc hf
  refine k_iload hA dX12_taleAt_42 3 rfl ?_
  refine k_iload_n (i := 2) hA dX12_taleAt_44 rfl 1 rfl ?_
  refine k_icmp_ne (tgt := 75) hA dX12_taleAt_45 rfl (fun hc => ?_) (fun hc => ?_)
  · have hf := k_iff hc hf
    obtain ⟨x4_4, ex4_4, hf⟩ := k_lt_e hf
    refine k_iinc (j := 3) (v := x4_4) (lv' := [(4, .int x4_4), (0, .ref (a 0)), (2, .int x2), (3, .int x3)]) hA dX12_taleAt_75 rfl (k_inc ex4_4 kc_i_1) (Nat.le_of_ble_eq_true rfl) rfl ?_
    refine k_goto (tgt := 35) hA dX12_taleAt_78 rfl ?_
    refine k_pick (lv' := [(0, .ref (a 0)), (2, .int x2), (3, .int x3), (4, .int x4_4)]) [1, 2, 3, 0] rfl ?_
    exact ih x2 x3 x4_4 t_1 hf
  have hf := k_ift hc hf
  refine k_iload_n (i := 3) hA dX12_taleAt_48 rfl 2 rfl ?_
  refine k_aload_n (i := 0) hA dX12_taleAt_49 rfl 0 rfl ?_
  refine gt_MT_0_22 hA wd_1270 dX12_taleAt_50 ?_
  refine k_icmp_ge (tgt := 69) hA dX12_taleAt_53 rfl (fun hc => ?_) (fun hc => ?_)
  · have hf := k_ift hc hf
    obtain ⟨⟨rq_5, tq_5⟩, hq_5, hf⟩ := k_lt_e hf
    dsimp only at hf
    obtain ⟨rfl, rfl⟩ := k_r2 hf
    refine k_aload_n (i := 0) hA dX12_taleAt_69 rfl 0 rfl ?_
    refine k_iconst hA dX12_taleAt_70 kc_i_1 ?_
    refine k_callVi (As := [.int (1 : Int32)]) (rest := []) hA (m_M_refused l G a rv (1 : Int32) t_1 hq_5.symm) cd_X12_refused wd_1390 (hc_MT_0 G.2.1 a rv t_1) rfl rfl (Nat.le_of_ble_eq_true rfl) rfl rfl (Nat.le_of_ble_eq_true rfl) dX12_taleAt_71 ?_
    exact k_iret hA hr rfl dX12_taleAt_74
  have hf := k_iff hc hf
  obtain ⟨hi_6, hf⟩ := k_gi_e hf
  obtain ⟨⟨rq_7, tq_7⟩, hq_7, hf⟩ := k_lt_e hf
  dsimp only at hf
  obtain ⟨rfl, rfl⟩ := k_r2 hf
  refine k_aload_n (i := 0) hA dX12_taleAt_56 rfl 0 rfl ?_
  refine k_aload_n (i := 0) hA dX12_taleAt_57 rfl 0 rfl ?_
  refine gt_MT_0_21 hA wd_1269 dX12_taleAt_58 ?_
  refine k_iload_n (i := 3) hA dX12_taleAt_61 rfl 2 rfl ?_
  refine ld_MT_6 hA hi_6 dX12_taleAt_62 ?_
  refine k_callVi (As := [.int (t_1.1 6 x3.toNatClampNeg)]) (rest := []) hA (m_M_good l G a rv (t_1.1 6 x3.toNatClampNeg) t_1 hq_7.symm) cd_X12_good wd_1601 (hc_MT_0 G.2.1 a rv t_1) rfl rfl (Nat.le_of_ble_eq_true rfl) rfl rfl (Nat.le_of_ble_eq_true rfl) dX12_taleAt_63 ?_
  refine k_goto (tgt := 74) hA dX12_taleAt_66 rfl ?_
  exact k_iret hA hr rfl dX12_taleAt_74

theorem m_M_taleAt (l : Launch) (G : k_G) (a : Nat → Nat) (rv : Value) (n : Nat) (x1 : Int32) (x2 : Int32) (x3 : Int32) (t : k_St) {r : Int32} {t' : k_St} (hf : f_M_taleAt n x1 x2 x3 t = some (r, t')) : k_CI l G yX12_taleAt cX12_taleAt 5 (some .int) 4 (k_WT G.2.1 a rv t) [.ref (a 0), .int x1, .int x2, .int x3] r (k_WT G.2.1 a rv t') := by
  refine k_startI (lv := [(0, .ref (a 0)), (1, .int x1), (2, .int x2), (3, .int x3)]) (by decide +kernel) (Nat.le_of_ble_eq_true rfl) rfl ?_
  intro p e s m args below meth c hA hr
  have hA : k_Amb p s m args meth c cX12_taleAt 5 "TaleSharesModel" G _ := hA
  unfold f_M_taleAt at hf
  obtain ⟨t_1, et_1, hf⟩ := k_lt_e hf
  refine k_aload_n (i := 0) hA dX12_taleAt_0 rfl 0 rfl ?_
  refine k_iconst hA dX12_taleAt_1 kc_i_0 ?_
  refine pt_MT_0_0 hA wd_1248 et_1 dX12_taleAt_2 ?_
  refine k_aload_n (i := 0) hA dX12_taleAt_5 rfl 0 rfl ?_
  refine k_iload_n (i := 1) hA dX12_taleAt_6 rfl 1 rfl ?_
  refine k_callVi (As := [.int x1]) (rest := []) hA (m_M_arePieces l G a rv t_1 x1 rfl) cd_X12_arePieces wd_1669 (hc_MT_0 G.2.1 a rv t_1) rfl rfl (Nat.le_of_ble_eq_true rfl) rfl rfl (Nat.le_of_ble_eq_true rfl) dX12_taleAt_7 ?_
  refine k_if_eq (tgt := 21) hA dX12_taleAt_10 rfl (fun hc => ?_) (fun hc => ?_)
  · have hf := k_ift hc hf
    obtain ⟨⟨rq_2, tq_2⟩, hq_2, hf⟩ := k_lt_e hf
    dsimp only at hf
    obtain ⟨rfl, rfl⟩ := k_r2 hf
    refine k_aload_n (i := 0) hA dX12_taleAt_21 rfl 0 rfl ?_
    refine k_iconst hA dX12_taleAt_22 kc_i_1 ?_
    refine k_callVi (As := [.int (1 : Int32)]) (rest := []) hA (m_M_refused l G a rv (1 : Int32) t_1 hq_2.symm) cd_X12_refused wd_1390 (hc_MT_0 G.2.1 a rv t_1) rfl rfl (Nat.le_of_ble_eq_true rfl) rfl rfl (Nat.le_of_ble_eq_true rfl) dX12_taleAt_23 ?_
    exact k_iret hA hr rfl dX12_taleAt_26
  have hf := k_iff hc hf
  refine k_iload_n (i := 2) hA dX12_taleAt_13 rfl 2 rfl ?_
  refine k_if_lt (tgt := 21) hA dX12_taleAt_14 rfl (fun hc => ?_) (fun hc => ?_)
  · have hf := k_ift hc hf
    obtain ⟨⟨rq_3, tq_3⟩, hq_3, hf⟩ := k_lt_e hf
    dsimp only at hf
    obtain ⟨rfl, rfl⟩ := k_r2 hf
    refine k_aload_n (i := 0) hA dX12_taleAt_21 rfl 0 rfl ?_
    refine k_iconst hA dX12_taleAt_22 kc_i_1 ?_
    refine k_callVi (As := [.int (1 : Int32)]) (rest := []) hA (m_M_refused l G a rv (1 : Int32) t_1 hq_3.symm) cd_X12_refused wd_1390 (hc_MT_0 G.2.1 a rv t_1) rfl rfl (Nat.le_of_ble_eq_true rfl) rfl rfl (Nat.le_of_ble_eq_true rfl) dX12_taleAt_23 ?_
    exact k_iret hA hr rfl dX12_taleAt_26
  have hf := k_iff hc hf
  refine k_iload_n (i := 3) hA dX12_taleAt_17 rfl 3 rfl ?_
  refine k_if_ge (tgt := 27) hA dX12_taleAt_18 rfl (fun hc => ?_) (fun hc => ?_)
  · have hf := k_ift hc hf
    obtain ⟨t_4, ht_4, hf⟩ := k_cv_e hf
    refine k_aload_n (i := 0) hA dX12_taleAt_27 rfl 0 rfl ?_
    refine k_iload_n (i := 1) hA dX12_taleAt_28 rfl 1 rfl ?_
    refine k_callVv (As := [.int x1]) (rest := []) hA (m_M_startsTales l G a rv x1 t_1 ht_4) cd_X12_startsTales wd_1633 (hc_MT_0 G.2.1 a rv t_1) rfl rfl (Nat.le_of_ble_eq_true rfl) rfl rfl (Nat.le_of_ble_eq_true rfl) dX12_taleAt_29 ?_
    refine k_iconst hA dX12_taleAt_32 kc_i_0 ?_
    refine k_istore (lv' := [(4, .int (0 : Int32)), (0, .ref (a 0)), (1, .int x1), (2, .int x2), (3, .int x3)]) hA dX12_taleAt_33 rfl (Nat.le_of_ble_eq_true rfl) rfl ?_
    refine k_pick (lv' := [(0, .ref (a 0)), (2, .int x2), (3, .int x3), (4, .int (0 : Int32))]) [1, 3, 4, 0] rfl ?_
    exact m_M_taleAt_35 l G a rv n hA hr n x2 x3 (0 : Int32) t_4 hf
  have hf := k_iff hc hf
  obtain ⟨⟨rq_5, tq_5⟩, hq_5, hf⟩ := k_lt_e hf
  dsimp only at hf
  obtain ⟨rfl, rfl⟩ := k_r2 hf
  refine k_aload_n (i := 0) hA dX12_taleAt_21 rfl 0 rfl ?_
  refine k_iconst hA dX12_taleAt_22 kc_i_1 ?_
  refine k_callVi (As := [.int (1 : Int32)]) (rest := []) hA (m_M_refused l G a rv (1 : Int32) t_1 hq_5.symm) cd_X12_refused wd_1390 (hc_MT_0 G.2.1 a rv t_1) rfl rfl (Nat.le_of_ble_eq_true rfl) rfl rfl (Nat.le_of_ble_eq_true rfl) dX12_taleAt_23 ?_
  exact k_iret hA hr rfl dX12_taleAt_26

def f_M_used_26 (n : Nat) : Nat → Int32 → k_St → Option (Int32 × k_St)
  | 0, _, _ => none
  | k + 1, x2, t => k_cl (f_M_nextTale n t) (fun r_2 t_1 => (if (k_b r_2) = 0 then k_lt (f_M_good x2 t_1) (fun q_3 => some (q_3.1, q_3.2)) else k_lt (x2 ||| (t_1.1 0 23)) (fun x2_4 => f_M_used_26 n k x2_4 t_1)))
def f_M_used (n : Nat) (x1 : Int32) (t : k_St) : Option (Int32 × k_St) := k_lt (k_sI t 0 0 (0 : Int32)) (fun t_1 => (if (k_b (f_M_arePieces t_1 x1)) = 0 then k_lt (f_M_refused (1 : Int32) t_1) (fun q_3 => some (q_3.1, q_3.2)) else k_cv (f_M_startsTales x1 t_1) (fun t_2 => f_M_used_26 n n (0 : Int32) t_2)))
theorem m_M_used_26 {p : Program} (l : Launch) {e : Env} {s : State} {m : MethodId} {args : Array Value} {below : List Frame} {meth : Method} {c : Code} (G : k_G) (a : Nat → Nat) (rv : Value) (n : Nat) {w0 : va_W} {r : Int32} {t' : k_St} (hA : k_Amb p s m args meth c cX12_used 3 "TaleSharesModel" G (va_A w0 s.heap.size)) (hr : meth.sig.returnType = (some .int)) : ∀ (k : Nat) (x2 : Int32) (t : k_St), f_M_used_26 n k x2 t = some (r, t') → k_Go p l e (k_rm 4) s m args below meth c (k_QI G w0 r (k_WT G.2.1 a rv t') args s below) 3 G (va_A w0 s.heap.size) (k_WT G.2.1 a rv t) 26 [(0, .ref (a 0)), (2, .int x2)] [] := by
  intro k
  induction k with
  | zero => intro x2 t hf; cases hf
  | succ k ih =>
  intro x2 t hf
  rw [f_M_used_26] at hf
  obtain ⟨r_2, t_1, ht_1, hf⟩ := k_cl_e hf
  refine k_aload_n (i := 0) hA dX12_used_26 rfl 0 rfl ?_
  refine k_callVi (As := []) (rest := []) hA (m_M_nextTale l G a rv n t ht_1) cd_X12_nextTale wd_1637 (hc_MT_0 G.2.1 a rv t) rfl rfl (Nat.le_of_ble_eq_true rfl) rfl rfl (Nat.le_of_ble_eq_true rfl) dX12_used_27 ?_
  refine k_if_eq (tgt := 43) hA dX12_used_30 rfl (fun hc => ?_) (fun hc => ?_)
  · have hf := k_ift hc hf
    obtain ⟨⟨rq_3, tq_3⟩, hq_3, hf⟩ := k_lt_e hf
    dsimp only at hf
    obtain ⟨rfl, rfl⟩ := k_r2 hf
    refine k_aload_n (i := 0) hA dX12_used_43 rfl 0 rfl ?_
    refine k_iload_n (i := 2) hA dX12_used_44 rfl 1 rfl ?_
    refine k_callVi (As := [.int x2]) (rest := []) hA (m_M_good l G a rv x2 t_1 hq_3.symm) cd_X12_good wd_1601 (hc_MT_0 G.2.1 a rv t_1) rfl rfl (Nat.le_of_ble_eq_true rfl) rfl rfl (Nat.le_of_ble_eq_true rfl) dX12_used_45 ?_
    exact k_iret hA hr rfl dX12_used_48
  have hf := k_iff hc hf
  obtain ⟨x2_4, ex2_4, hf⟩ := k_lt_e hf
  refine k_iload_n (i := 2) hA dX12_used_33 rfl 1 rfl ?_
  refine k_aload_n (i := 0) hA dX12_used_34 rfl 0 rfl ?_
  refine gt_MT_0_23 hA wd_1271 dX12_used_35 ?_
  refine k_ior hA dX12_used_38 ?_
  refine k_istore_n (i := 2) (lv' := [(2, .int x2_4), (0, .ref (a 0))]) hA dX12_used_39 rfl ex2_4 (Nat.le_of_ble_eq_true rfl) rfl ?_
  refine k_goto (tgt := 26) hA dX12_used_40 rfl ?_
  refine k_pick (lv' := [(0, .ref (a 0)), (2, .int x2_4)]) [1, 0] rfl ?_
  exact ih x2_4 t_1 hf

theorem m_M_used (l : Launch) (G : k_G) (a : Nat → Nat) (rv : Value) (n : Nat) (x1 : Int32) (t : k_St) {r : Int32} {t' : k_St} (hf : f_M_used n x1 t = some (r, t')) : k_CI l G yX12_used cX12_used 3 (some .int) 4 (k_WT G.2.1 a rv t) [.ref (a 0), .int x1] r (k_WT G.2.1 a rv t') := by
  refine k_startI (lv := [(0, .ref (a 0)), (1, .int x1)]) (by decide +kernel) (Nat.le_of_ble_eq_true rfl) rfl ?_
  intro p e s m args below meth c hA hr
  have hA : k_Amb p s m args meth c cX12_used 3 "TaleSharesModel" G _ := hA
  unfold f_M_used at hf
  obtain ⟨t_1, et_1, hf⟩ := k_lt_e hf
  refine k_aload_n (i := 0) hA dX12_used_0 rfl 0 rfl ?_
  refine k_iconst hA dX12_used_1 kc_i_0 ?_
  refine pt_MT_0_0 hA wd_1248 et_1 dX12_used_2 ?_
  refine k_aload_n (i := 0) hA dX12_used_5 rfl 0 rfl ?_
  refine k_iload_n (i := 1) hA dX12_used_6 rfl 1 rfl ?_
  refine k_callVi (As := [.int x1]) (rest := []) hA (m_M_arePieces l G a rv t_1 x1 rfl) cd_X12_arePieces wd_1669 (hc_MT_0 G.2.1 a rv t_1) rfl rfl (Nat.le_of_ble_eq_true rfl) rfl rfl (Nat.le_of_ble_eq_true rfl) dX12_used_7 ?_
  refine k_if_ne (tgt := 19) hA dX12_used_10 rfl (fun hc => ?_) (fun hc => ?_)
  · have hf := k_iff hc hf
    obtain ⟨t_2, ht_2, hf⟩ := k_cv_e hf
    refine k_iconst hA dX12_used_19 kc_i_0 ?_
    refine k_istore_n (i := 2) (lv' := [(2, .int (0 : Int32)), (0, .ref (a 0)), (1, .int x1)]) hA dX12_used_20 rfl rfl (Nat.le_of_ble_eq_true rfl) rfl ?_
    refine k_aload_n (i := 0) hA dX12_used_21 rfl 1 rfl ?_
    refine k_iload_n (i := 1) hA dX12_used_22 rfl 2 rfl ?_
    refine k_callVv (As := [.int x1]) (rest := []) hA (m_M_startsTales l G a rv x1 t_1 ht_2) cd_X12_startsTales wd_1633 (hc_MT_0 G.2.1 a rv t_1) rfl rfl (Nat.le_of_ble_eq_true rfl) rfl rfl (Nat.le_of_ble_eq_true rfl) dX12_used_23 ?_
    refine k_pick (lv' := [(0, .ref (a 0)), (2, .int (0 : Int32))]) [1, 0] rfl ?_
    exact m_M_used_26 l G a rv n hA hr n (0 : Int32) t_2 hf
  have hf := k_ift hc hf
  obtain ⟨⟨rq_3, tq_3⟩, hq_3, hf⟩ := k_lt_e hf
  dsimp only at hf
  obtain ⟨rfl, rfl⟩ := k_r2 hf
  refine k_aload_n (i := 0) hA dX12_used_13 rfl 0 rfl ?_
  refine k_iconst hA dX12_used_14 kc_i_1 ?_
  refine k_callVi (As := [.int (1 : Int32)]) (rest := []) hA (m_M_refused l G a rv (1 : Int32) t_1 hq_3.symm) cd_X12_refused wd_1390 (hc_MT_0 G.2.1 a rv t_1) rfl rfl (Nat.le_of_ble_eq_true rfl) rfl rfl (Nat.le_of_ble_eq_true rfl) dX12_used_15 ?_
  exact k_iret hA hr rfl dX12_used_18

def f_M_needed_26 (n : Nat) : Nat → Int32 → k_St → Option (Int32 × k_St)
  | 0, _, _ => none
  | k + 1, x2, t => k_cl (f_M_nextTale n t) (fun r_2 t_1 => (if (k_b r_2) = 0 then (if x2 = (-1 : Int32) then k_lt (f_M_good (0 : Int32) t_1) (fun q_4 => some (q_4.1, q_4.2)) else k_lt (f_M_good x2 t_1) (fun q_3 => some (q_3.1, q_3.2))) else k_lt (x2 &&& (t_1.1 0 23)) (fun x2_5 => f_M_needed_26 n k x2_5 t_1)))
def f_M_needed (n : Nat) (x1 : Int32) (t : k_St) : Option (Int32 × k_St) := k_lt (k_sI t 0 0 (0 : Int32)) (fun t_1 => (if (k_b (f_M_arePieces t_1 x1)) = 0 then k_lt (f_M_refused (1 : Int32) t_1) (fun q_3 => some (q_3.1, q_3.2)) else k_cv (f_M_startsTales x1 t_1) (fun t_2 => f_M_needed_26 n n (-1 : Int32) t_2)))
theorem m_M_needed_26 {p : Program} (l : Launch) {e : Env} {s : State} {m : MethodId} {args : Array Value} {below : List Frame} {meth : Method} {c : Code} (G : k_G) (a : Nat → Nat) (rv : Value) (n : Nat) {w0 : va_W} {r : Int32} {t' : k_St} (hA : k_Amb p s m args meth c cX12_needed 3 "TaleSharesModel" G (va_A w0 s.heap.size)) (hr : meth.sig.returnType = (some .int)) : ∀ (k : Nat) (x2 : Int32) (t : k_St), f_M_needed_26 n k x2 t = some (r, t') → k_Go p l e (k_rm 4) s m args below meth c (k_QI G w0 r (k_WT G.2.1 a rv t') args s below) 3 G (va_A w0 s.heap.size) (k_WT G.2.1 a rv t) 26 [(0, .ref (a 0)), (2, .int x2)] [] := by
  intro k
  induction k with
  | zero => intro x2 t hf; cases hf
  | succ k ih =>
  intro x2 t hf
  rw [f_M_needed_26] at hf
  obtain ⟨r_2, t_1, ht_1, hf⟩ := k_cl_e hf
  refine k_aload_n (i := 0) hA dX12_needed_26 rfl 0 rfl ?_
  refine k_callVi (As := []) (rest := []) hA (m_M_nextTale l G a rv n t ht_1) cd_X12_nextTale wd_1637 (hc_MT_0 G.2.1 a rv t) rfl rfl (Nat.le_of_ble_eq_true rfl) rfl rfl (Nat.le_of_ble_eq_true rfl) dX12_needed_27 ?_
  refine k_if_eq (tgt := 43) hA dX12_needed_30 rfl (fun hc => ?_) (fun hc => ?_)
  · have hf := k_ift hc hf
    refine k_aload_n (i := 0) hA dX12_needed_43 rfl 0 rfl ?_
    refine k_iload_n (i := 2) hA dX12_needed_44 rfl 1 rfl ?_
    refine k_iconst hA dX12_needed_45 kc_i_m1 ?_
    refine k_icmp_ne (tgt := 53) hA dX12_needed_46 rfl (fun hc => ?_) (fun hc => ?_)
    · have hf := k_iff hc hf
      obtain ⟨⟨rq_3, tq_3⟩, hq_3, hf⟩ := k_lt_e hf
      dsimp only at hf
      obtain ⟨rfl, rfl⟩ := k_r2 hf
      refine k_iload_n (i := 2) hA dX12_needed_53 rfl 1 rfl ?_
      refine k_callVi (As := [.int x2]) (rest := []) hA (m_M_good l G a rv x2 t_1 hq_3.symm) cd_X12_good wd_1601 (hc_MT_0 G.2.1 a rv t_1) rfl rfl (Nat.le_of_ble_eq_true rfl) rfl rfl (Nat.le_of_ble_eq_true rfl) dX12_needed_54 ?_
      exact k_iret hA hr rfl dX12_needed_57
    have hf := k_ift hc hf
    obtain ⟨⟨rq_4, tq_4⟩, hq_4, hf⟩ := k_lt_e hf
    dsimp only at hf
    obtain ⟨rfl, rfl⟩ := k_r2 hf
    refine k_iconst hA dX12_needed_49 kc_i_0 ?_
    refine k_goto (tgt := 54) hA dX12_needed_50 rfl ?_
    refine k_callVi (As := [.int (0 : Int32)]) (rest := []) hA (m_M_good l G a rv (0 : Int32) t_1 hq_4.symm) cd_X12_good wd_1601 (hc_MT_0 G.2.1 a rv t_1) rfl rfl (Nat.le_of_ble_eq_true rfl) rfl rfl (Nat.le_of_ble_eq_true rfl) dX12_needed_54 ?_
    exact k_iret hA hr rfl dX12_needed_57
  have hf := k_iff hc hf
  obtain ⟨x2_5, ex2_5, hf⟩ := k_lt_e hf
  refine k_iload_n (i := 2) hA dX12_needed_33 rfl 1 rfl ?_
  refine k_aload_n (i := 0) hA dX12_needed_34 rfl 0 rfl ?_
  refine gt_MT_0_23 hA wd_1271 dX12_needed_35 ?_
  refine k_iand hA dX12_needed_38 ?_
  refine k_istore_n (i := 2) (lv' := [(2, .int x2_5), (0, .ref (a 0))]) hA dX12_needed_39 rfl ex2_5 (Nat.le_of_ble_eq_true rfl) rfl ?_
  refine k_goto (tgt := 26) hA dX12_needed_40 rfl ?_
  refine k_pick (lv' := [(0, .ref (a 0)), (2, .int x2_5)]) [1, 0] rfl ?_
  exact ih x2_5 t_1 hf

theorem m_M_needed (l : Launch) (G : k_G) (a : Nat → Nat) (rv : Value) (n : Nat) (x1 : Int32) (t : k_St) {r : Int32} {t' : k_St} (hf : f_M_needed n x1 t = some (r, t')) : k_CI l G yX12_needed cX12_needed 3 (some .int) 4 (k_WT G.2.1 a rv t) [.ref (a 0), .int x1] r (k_WT G.2.1 a rv t') := by
  refine k_startI (lv := [(0, .ref (a 0)), (1, .int x1)]) (by decide +kernel) (Nat.le_of_ble_eq_true rfl) rfl ?_
  intro p e s m args below meth c hA hr
  have hA : k_Amb p s m args meth c cX12_needed 3 "TaleSharesModel" G _ := hA
  unfold f_M_needed at hf
  obtain ⟨t_1, et_1, hf⟩ := k_lt_e hf
  refine k_aload_n (i := 0) hA dX12_needed_0 rfl 0 rfl ?_
  refine k_iconst hA dX12_needed_1 kc_i_0 ?_
  refine pt_MT_0_0 hA wd_1248 et_1 dX12_needed_2 ?_
  refine k_aload_n (i := 0) hA dX12_needed_5 rfl 0 rfl ?_
  refine k_iload_n (i := 1) hA dX12_needed_6 rfl 1 rfl ?_
  refine k_callVi (As := [.int x1]) (rest := []) hA (m_M_arePieces l G a rv t_1 x1 rfl) cd_X12_arePieces wd_1669 (hc_MT_0 G.2.1 a rv t_1) rfl rfl (Nat.le_of_ble_eq_true rfl) rfl rfl (Nat.le_of_ble_eq_true rfl) dX12_needed_7 ?_
  refine k_if_ne (tgt := 19) hA dX12_needed_10 rfl (fun hc => ?_) (fun hc => ?_)
  · have hf := k_iff hc hf
    obtain ⟨t_2, ht_2, hf⟩ := k_cv_e hf
    refine k_iconst hA dX12_needed_19 kc_i_m1 ?_
    refine k_istore_n (i := 2) (lv' := [(2, .int (-1 : Int32)), (0, .ref (a 0)), (1, .int x1)]) hA dX12_needed_20 rfl rfl (Nat.le_of_ble_eq_true rfl) rfl ?_
    refine k_aload_n (i := 0) hA dX12_needed_21 rfl 1 rfl ?_
    refine k_iload_n (i := 1) hA dX12_needed_22 rfl 2 rfl ?_
    refine k_callVv (As := [.int x1]) (rest := []) hA (m_M_startsTales l G a rv x1 t_1 ht_2) cd_X12_startsTales wd_1633 (hc_MT_0 G.2.1 a rv t_1) rfl rfl (Nat.le_of_ble_eq_true rfl) rfl rfl (Nat.le_of_ble_eq_true rfl) dX12_needed_23 ?_
    refine k_pick (lv' := [(0, .ref (a 0)), (2, .int (-1 : Int32))]) [1, 0] rfl ?_
    exact m_M_needed_26 l G a rv n hA hr n (-1 : Int32) t_2 hf
  have hf := k_ift hc hf
  obtain ⟨⟨rq_3, tq_3⟩, hq_3, hf⟩ := k_lt_e hf
  dsimp only at hf
  obtain ⟨rfl, rfl⟩ := k_r2 hf
  refine k_aload_n (i := 0) hA dX12_needed_13 rfl 0 rfl ?_
  refine k_iconst hA dX12_needed_14 kc_i_1 ?_
  refine k_callVi (As := [.int (1 : Int32)]) (rest := []) hA (m_M_refused l G a rv (1 : Int32) t_1 hq_3.symm) cd_X12_refused wd_1390 (hc_MT_0 G.2.1 a rv t_1) rfl rfl (Nat.le_of_ble_eq_true rfl) rfl rfl (Nat.le_of_ble_eq_true rfl) dX12_needed_15 ?_
  exact k_iret hA hr rfl dX12_needed_18

