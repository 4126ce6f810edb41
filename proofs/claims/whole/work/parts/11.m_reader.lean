theorem dX8_clear_0 : decode cX8_clear 0 = .ok (.aload_n 0, 1) := by decide +kernel
theorem dX8_clear_1 : decode cX8_clear 1 = .ok (.iconst 0, 1) := by decide +kernel
theorem dX8_clear_2 : decode cX8_clear 2 = .ok (.putfield 33, 3) := by decide +kernel
theorem dX8_clear_5 : decode cX8_clear 5 = .ok (.aload_n 0, 1) := by decide +kernel
theorem dX8_clear_6 : decode cX8_clear 6 = .ok (.iconst 0, 1) := by decide +kernel
theorem dX8_clear_7 : decode cX8_clear 7 = .ok (.putfield 37, 3) := by decide +kernel
theorem dX8_clear_10 : decode cX8_clear 10 = .ok (.aload_n 0, 1) := by decide +kernel
theorem dX8_clear_11 : decode cX8_clear 11 = .ok (.iconst 0, 1) := by decide +kernel
theorem dX8_clear_12 : decode cX8_clear 12 = .ok (.putfield 40, 3) := by decide +kernel
theorem dX8_clear_15 : decode cX8_clear 15 = .ok (.aload_n 0, 1) := by decide +kernel
theorem dX8_clear_16 : decode cX8_clear 16 = .ok (.iconst 0, 1) := by decide +kernel
theorem dX8_clear_17 : decode cX8_clear 17 = .ok (.putfield 43, 3) := by decide +kernel
theorem dX8_clear_20 : decode cX8_clear 20 = .ok (.aload_n 0, 1) := by decide +kernel
theorem dX8_clear_21 : decode cX8_clear 21 = .ok (.iconst 0, 1) := by decide +kernel
theorem dX8_clear_22 : decode cX8_clear 22 = .ok (.putfield 46, 3) := by decide +kernel
theorem dX8_clear_25 : decode cX8_clear 25 = .ok (.aload_n 0, 1) := by decide +kernel
theorem dX8_clear_26 : decode cX8_clear 26 = .ok (.iconst 0, 1) := by decide +kernel
theorem dX8_clear_27 : decode cX8_clear 27 = .ok (.putfield 49, 3) := by decide +kernel
theorem dX8_clear_30 : decode cX8_clear 30 = .ok (.aload_n 0, 1) := by decide +kernel
theorem dX8_clear_31 : decode cX8_clear 31 = .ok (.iconst 0, 1) := by decide +kernel
theorem dX8_clear_32 : decode cX8_clear 32 = .ok (.putfield 52, 3) := by decide +kernel
theorem dX8_clear_35 : decode cX8_clear 35 = .ok (.aload_n 0, 1) := by decide +kernel
theorem dX8_clear_36 : decode cX8_clear 36 = .ok (.iconst 0, 1) := by decide +kernel
theorem dX8_clear_37 : decode cX8_clear 37 = .ok (.putfield 55, 3) := by decide +kernel
theorem dX8_clear_40 : decode cX8_clear 40 = .ok (.iconst 0, 1) := by decide +kernel
theorem dX8_clear_41 : decode cX8_clear 41 = .ok (.istore_n 1, 1) := by decide +kernel
theorem dX8_clear_42 : decode cX8_clear 42 = .ok (.iload_n 1, 1) := by decide +kernel
theorem dX8_clear_43 : decode cX8_clear 43 = .ok (.bipush 8, 2) := by decide +kernel
theorem dX8_clear_45 : decode cX8_clear 45 = .ok (.if_icmp .ge 16, 3) := by decide +kernel
theorem dX8_clear_48 : decode cX8_clear 48 = .ok (.aload_n 0, 1) := by decide +kernel
theorem dX8_clear_49 : decode cX8_clear 49 = .ok (.getfield 15, 3) := by decide +kernel
theorem dX8_clear_52 : decode cX8_clear 52 = .ok (.iload_n 1, 1) := by decide +kernel
theorem dX8_clear_53 : decode cX8_clear 53 = .ok (.iconst 0, 1) := by decide +kernel
theorem dX8_clear_54 : decode cX8_clear 54 = .ok (.iastore, 1) := by decide +kernel
theorem dX8_clear_55 : decode cX8_clear 55 = .ok (.iinc 1 1, 3) := by decide +kernel
theorem dX8_clear_58 : decode cX8_clear 58 = .ok (.goto (-16), 3) := by decide +kernel
theorem dX8_clear_61 : decode cX8_clear 61 = .ok (.iconst 0, 1) := by decide +kernel
theorem dX8_clear_62 : decode cX8_clear 62 = .ok (.istore_n 1, 1) := by decide +kernel
theorem dX8_clear_63 : decode cX8_clear 63 = .ok (.iload_n 1, 1) := by decide +kernel
theorem dX8_clear_64 : decode cX8_clear 64 = .ok (.iconst 5, 1) := by decide +kernel
theorem dX8_clear_65 : decode cX8_clear 65 = .ok (.if_icmp .ge 16, 3) := by decide +kernel
theorem dX8_clear_68 : decode cX8_clear 68 = .ok (.aload_n 0, 1) := by decide +kernel
theorem dX8_clear_69 : decode cX8_clear 69 = .ok (.getfield 27, 3) := by decide +kernel
theorem dX8_clear_72 : decode cX8_clear 72 = .ok (.iload_n 1, 1) := by decide +kernel
theorem dX8_clear_73 : decode cX8_clear 73 = .ok (.iconst 0, 1) := by decide +kernel
theorem dX8_clear_74 : decode cX8_clear 74 = .ok (.iastore, 1) := by decide +kernel
theorem dX8_clear_75 : decode cX8_clear 75 = .ok (.iinc 1 1, 3) := by decide +kernel
theorem dX8_clear_78 : decode cX8_clear 78 = .ok (.goto (-15), 3) := by decide +kernel
theorem dX8_clear_81 : decode cX8_clear 81 = .ok (.return_, 1) := by decide +kernel
theorem dX5_step_0 : decode cX5_step 0 = .ok (.aload_n 0, 1) := by decide +kernel
theorem dX5_step_1 : decode cX5_step 1 = .ok (.aload_n 0, 1) := by decide +kernel
theorem dX5_step_2 : decode cX5_step 2 = .ok (.getfield 45, 3) := by decide +kernel
theorem dX5_step_5 : decode cX5_step 5 = .ok (.putfield 72, 3) := by decide +kernel
theorem dX5_step_8 : decode cX5_step 8 = .ok (.aload_n 0, 1) := by decide +kernel
theorem dX5_step_9 : decode cX5_step 9 = .ok (.getfield 72, 3) := by decide +kernel
theorem dX5_step_12 : decode cX5_step 12 = .ok (.aload_n 0, 1) := by decide +kernel
theorem dX5_step_13 : decode cX5_step 13 = .ok (.getfield 42, 3) := by decide +kernel
theorem dX5_step_16 : decode cX5_step 16 = .ok (.if_icmp .ge 30, 3) := by decide +kernel
theorem dX5_step_19 : decode cX5_step 19 = .ok (.aload_n 0, 1) := by decide +kernel
theorem dX5_step_20 : decode cX5_step 20 = .ok (.getfield 9, 3) := by decide +kernel
theorem dX5_step_23 : decode cX5_step 23 = .ok (.aload_n 0, 1) := by decide +kernel
theorem dX5_step_24 : decode cX5_step 24 = .ok (.getfield 72, 3) := by decide +kernel
theorem dX5_step_27 : decode cX5_step 27 = .ok (.baload, 1) := by decide +kernel
theorem dX5_step_28 : decode cX5_step 28 = .ok (.bipush 32, 2) := by decide +kernel
theorem dX5_step_30 : decode cX5_step 30 = .ok (.if_icmp .ne 16, 3) := by decide +kernel
theorem dX5_step_33 : decode cX5_step 33 = .ok (.aload_n 0, 1) := by decide +kernel
theorem dX5_step_34 : decode cX5_step 34 = .ok (.dup, 1) := by decide +kernel
theorem dX5_step_35 : decode cX5_step 35 = .ok (.getfield 72, 3) := by decide +kernel
theorem dX5_step_38 : decode cX5_step 38 = .ok (.iconst 1, 1) := by decide +kernel
theorem dX5_step_39 : decode cX5_step 39 = .ok (.iadd, 1) := by decide +kernel
theorem dX5_step_40 : decode cX5_step 40 = .ok (.putfield 72, 3) := by decide +kernel
theorem dX5_step_43 : decode cX5_step 43 = .ok (.goto (-35), 3) := by decide +kernel
theorem dX5_step_46 : decode cX5_step 46 = .ok (.aload_n 0, 1) := by decide +kernel
theorem dX5_step_47 : decode cX5_step 47 = .ok (.getfield 72, 3) := by decide +kernel
theorem dX5_step_50 : decode cX5_step 50 = .ok (.aload_n 0, 1) := by decide +kernel
theorem dX5_step_51 : decode cX5_step 51 = .ok (.getfield 42, 3) := by decide +kernel
theorem dX5_step_54 : decode cX5_step 54 = .ok (.if_icmp .lt 27, 3) := by decide +kernel
theorem dX5_step_57 : decode cX5_step 57 = .ok (.aload_n 0, 1) := by decide +kernel
theorem dX5_step_58 : decode cX5_step 58 = .ok (.aload_n 0, 1) := by decide +kernel
theorem dX5_step_59 : decode cX5_step 59 = .ok (.getfield 42, 3) := by decide +kernel
theorem dX5_step_62 : decode cX5_step 62 = .ok (.putfield 72, 3) := by decide +kernel
theorem dX5_step_65 : decode cX5_step 65 = .ok (.aload_n 0, 1) := by decide +kernel
theorem dX5_step_66 : decode cX5_step 66 = .ok (.aload_n 0, 1) := by decide +kernel
theorem dX5_step_67 : decode cX5_step 67 = .ok (.getfield 42, 3) := by decide +kernel
theorem dX5_step_70 : decode cX5_step 70 = .ok (.putfield 45, 3) := by decide +kernel
theorem dX5_step_73 : decode cX5_step 73 = .ok (.aload_n 0, 1) := by decide +kernel
theorem dX5_step_74 : decode cX5_step 74 = .ok (.iconst 0, 1) := by decide +kernel
theorem dX5_step_75 : decode cX5_step 75 = .ok (.putfield 62, 3) := by decide +kernel
theorem dX5_step_78 : decode cX5_step 78 = .ok (.goto 98, 3) := by decide +kernel
theorem dX5_step_81 : decode cX5_step 81 = .ok (.aload_n 0, 1) := by decide +kernel
theorem dX5_step_82 : decode cX5_step 82 = .ok (.getfield 9, 3) := by decide +kernel
theorem dX5_step_85 : decode cX5_step 85 = .ok (.aload_n 0, 1) := by decide +kernel
theorem dX5_step_86 : decode cX5_step 86 = .ok (.getfield 72, 3) := by decide +kernel
theorem dX5_step_89 : decode cX5_step 89 = .ok (.baload, 1) := by decide +kernel
theorem dX5_step_90 : decode cX5_step 90 = .ok (.invokestatic 75, 3) := by decide +kernel
theorem dX5_step_93 : decode cX5_step 93 = .ok (.ifCond .eq 10, 3) := by decide +kernel
theorem dX5_step_96 : decode cX5_step 96 = .ok (.aload_n 0, 1) := by decide +kernel
theorem dX5_step_97 : decode cX5_step 97 = .ok (.invokevirtual 79, 3) := by decide +kernel
theorem dX5_step_100 : decode cX5_step 100 = .ok (.goto 76, 3) := by decide +kernel
theorem dX5_step_103 : decode cX5_step 103 = .ok (.aload_n 0, 1) := by decide +kernel
theorem dX5_step_104 : decode cX5_step 104 = .ok (.getfield 9, 3) := by decide +kernel
theorem dX5_step_107 : decode cX5_step 107 = .ok (.aload_n 0, 1) := by decide +kernel
theorem dX5_step_108 : decode cX5_step 108 = .ok (.getfield 72, 3) := by decide +kernel
theorem dX5_step_111 : decode cX5_step 111 = .ok (.baload, 1) := by decide +kernel
theorem dX5_step_112 : decode cX5_step 112 = .ok (.invokestatic 82, 3) := by decide +kernel
theorem dX5_step_115 : decode cX5_step 115 = .ok (.ifCond .eq 10, 3) := by decide +kernel
theorem dX5_step_118 : decode cX5_step 118 = .ok (.aload_n 0, 1) := by decide +kernel
theorem dX5_step_119 : decode cX5_step 119 = .ok (.invokevirtual 85, 3) := by decide +kernel
theorem dX5_step_122 : decode cX5_step 122 = .ok (.goto 54, 3) := by decide +kernel
theorem dX5_step_125 : decode cX5_step 125 = .ok (.aload_n 0, 1) := by decide +kernel
theorem dX5_step_126 : decode cX5_step 126 = .ok (.aload_n 0, 1) := by decide +kernel
theorem dX5_step_127 : decode cX5_step 127 = .ok (.getfield 9, 3) := by decide +kernel
theorem dX5_step_130 : decode cX5_step 130 = .ok (.aload_n 0, 1) := by decide +kernel
theorem dX5_step_131 : decode cX5_step 131 = .ok (.getfield 72, 3) := by decide +kernel
theorem dX5_step_134 : decode cX5_step 134 = .ok (.baload, 1) := by decide +kernel
theorem dX5_step_135 : decode cX5_step 135 = .ok (.bipush 59, 2) := by decide +kernel
theorem dX5_step_137 : decode cX5_step 137 = .ok (.if_icmp .ne 7, 3) := by decide +kernel
theorem dX5_step_140 : decode cX5_step 140 = .ok (.iconst 4, 1) := by decide +kernel
theorem dX5_step_141 : decode cX5_step 141 = .ok (.goto 22, 3) := by decide +kernel
theorem dX5_step_144 : decode cX5_step 144 = .ok (.aload_n 0, 1) := by decide +kernel
theorem dX5_step_145 : decode cX5_step 145 = .ok (.getfield 9, 3) := by decide +kernel
theorem dX5_step_148 : decode cX5_step 148 = .ok (.aload_n 0, 1) := by decide +kernel
theorem dX5_step_149 : decode cX5_step 149 = .ok (.getfield 72, 3) := by decide +kernel
theorem dX5_step_152 : decode cX5_step 152 = .ok (.baload, 1) := by decide +kernel
theorem dX5_step_153 : decode cX5_step 153 = .ok (.bipush 44, 2) := by decide +kernel
theorem dX5_step_155 : decode cX5_step 155 = .ok (.if_icmp .ne 7, 3) := by decide +kernel
theorem dX5_step_158 : decode cX5_step 158 = .ok (.iconst 5, 1) := by decide +kernel
theorem dX5_step_159 : decode cX5_step 159 = .ok (.goto 4, 3) := by decide +kernel
theorem dX5_step_162 : decode cX5_step 162 = .ok (.iconst 1, 1) := by decide +kernel
theorem dX5_step_163 : decode cX5_step 163 = .ok (.putfield 62, 3) := by decide +kernel
theorem dX5_step_166 : decode cX5_step 166 = .ok (.aload_n 0, 1) := by decide +kernel
theorem dX5_step_167 : decode cX5_step 167 = .ok (.aload_n 0, 1) := by decide +kernel
theorem dX5_step_168 : decode cX5_step 168 = .ok (.getfield 72, 3) := by decide +kernel
theorem dX5_step_171 : decode cX5_step 171 = .ok (.iconst 1, 1) := by decide +kernel
theorem dX5_step_172 : decode cX5_step 172 = .ok (.iadd, 1) := by decide +kernel
theorem dX5_step_173 : decode cX5_step 173 = .ok (.putfield 45, 3) := by decide +kernel
theorem dX5_step_176 : decode cX5_step 176 = .ok (.return_, 1) := by decide +kernel
theorem dX5_isLetter_0 : decode cX5_isLetter 0 = .ok (.iload_n 0, 1) := by decide +kernel
theorem dX5_isLetter_1 : decode cX5_isLetter 1 = .ok (.bipush 97, 2) := by decide +kernel
theorem dX5_isLetter_3 : decode cX5_isLetter 3 = .ok (.if_icmp .lt 13, 3) := by decide +kernel
theorem dX5_isLetter_6 : decode cX5_isLetter 6 = .ok (.iload_n 0, 1) := by decide +kernel
theorem dX5_isLetter_7 : decode cX5_isLetter 7 = .ok (.bipush 122, 2) := by decide +kernel
theorem dX5_isLetter_9 : decode cX5_isLetter 9 = .ok (.if_icmp .gt 7, 3) := by decide +kernel
theorem dX5_isLetter_12 : decode cX5_isLetter 12 = .ok (.iconst 1, 1) := by decide +kernel
theorem dX5_isLetter_13 : decode cX5_isLetter 13 = .ok (.goto 4, 3) := by decide +kernel
theorem dX5_isLetter_16 : decode cX5_isLetter 16 = .ok (.iconst 0, 1) := by decide +kernel
theorem dX5_isLetter_17 : decode cX5_isLetter 17 = .ok (.ireturn, 1) := by decide +kernel
theorem dX5_isDigit_0 : decode cX5_isDigit 0 = .ok (.iload_n 0, 1) := by decide +kernel
theorem dX5_isDigit_1 : decode cX5_isDigit 1 = .ok (.bipush 48, 2) := by decide +kernel
theorem dX5_isDigit_3 : decode cX5_isDigit 3 = .ok (.if_icmp .lt 13, 3) := by decide +kernel
theorem dX5_isDigit_6 : decode cX5_isDigit 6 = .ok (.iload_n 0, 1) := by decide +kernel
theorem dX5_isDigit_7 : decode cX5_isDigit 7 = .ok (.bipush 57, 2) := by decide +kernel
theorem dX5_isDigit_9 : decode cX5_isDigit 9 = .ok (.if_icmp .gt 7, 3) := by decide +kernel
theorem dX5_isDigit_12 : decode cX5_isDigit 12 = .ok (.iconst 1, 1) := by decide +kernel
theorem dX5_isDigit_13 : decode cX5_isDigit 13 = .ok (.goto 4, 3) := by decide +kernel
theorem dX5_isDigit_16 : decode cX5_isDigit 16 = .ok (.iconst 0, 1) := by decide +kernel
theorem dX5_isDigit_17 : decode cX5_isDigit 17 = .ok (.ireturn, 1) := by decide +kernel
theorem dX5_takeWhole_0 : decode cX5_takeWhole 0 = .ok (.aload_n 0, 1) := by decide +kernel
theorem dX5_takeWhole_1 : decode cX5_takeWhole 1 = .ok (.iconst 0, 1) := by decide +kernel
theorem dX5_takeWhole_2 : decode cX5_takeWhole 2 = .ok (.putfield 94, 3) := by decide +kernel
theorem dX5_takeWhole_5 : decode cX5_takeWhole 5 = .ok (.aload_n 0, 1) := by decide +kernel
theorem dX5_takeWhole_6 : decode cX5_takeWhole 6 = .ok (.aload_n 0, 1) := by decide +kernel
theorem dX5_takeWhole_7 : decode cX5_takeWhole 7 = .ok (.getfield 72, 3) := by decide +kernel
theorem dX5_takeWhole_10 : decode cX5_takeWhole 10 = .ok (.putfield 45, 3) := by decide +kernel
theorem dX5_takeWhole_13 : decode cX5_takeWhole 13 = .ok (.aload_n 0, 1) := by decide +kernel
theorem dX5_takeWhole_14 : decode cX5_takeWhole 14 = .ok (.getfield 45, 3) := by decide +kernel
theorem dX5_takeWhole_17 : decode cX5_takeWhole 17 = .ok (.aload_n 0, 1) := by decide +kernel
theorem dX5_takeWhole_18 : decode cX5_takeWhole 18 = .ok (.getfield 42, 3) := by decide +kernel
theorem dX5_takeWhole_21 : decode cX5_takeWhole 21 = .ok (.if_icmp .ge 55, 3) := by decide +kernel
theorem dX5_takeWhole_24 : decode cX5_takeWhole 24 = .ok (.aload_n 0, 1) := by decide +kernel
theorem dX5_takeWhole_25 : decode cX5_takeWhole 25 = .ok (.getfield 9, 3) := by decide +kernel
theorem dX5_takeWhole_28 : decode cX5_takeWhole 28 = .ok (.aload_n 0, 1) := by decide +kernel
theorem dX5_takeWhole_29 : decode cX5_takeWhole 29 = .ok (.getfield 45, 3) := by decide +kernel
theorem dX5_takeWhole_32 : decode cX5_takeWhole 32 = .ok (.baload, 1) := by decide +kernel
theorem dX5_takeWhole_33 : decode cX5_takeWhole 33 = .ok (.invokestatic 82, 3) := by decide +kernel
theorem dX5_takeWhole_36 : decode cX5_takeWhole 36 = .ok (.ifCond .eq 40, 3) := by decide +kernel
theorem dX5_takeWhole_39 : decode cX5_takeWhole 39 = .ok (.aload_n 0, 1) := by decide +kernel
theorem dX5_takeWhole_40 : decode cX5_takeWhole 40 = .ok (.aload_n 0, 1) := by decide +kernel
theorem dX5_takeWhole_41 : decode cX5_takeWhole 41 = .ok (.getfield 94, 3) := by decide +kernel
theorem dX5_takeWhole_44 : decode cX5_takeWhole 44 = .ok (.bipush 10, 2) := by decide +kernel
theorem dX5_takeWhole_46 : decode cX5_takeWhole 46 = .ok (.imul, 1) := by decide +kernel
theorem dX5_takeWhole_47 : decode cX5_takeWhole 47 = .ok (.aload_n 0, 1) := by decide +kernel
theorem dX5_takeWhole_48 : decode cX5_takeWhole 48 = .ok (.getfield 9, 3) := by decide +kernel
theorem dX5_takeWhole_51 : decode cX5_takeWhole 51 = .ok (.aload_n 0, 1) := by decide +kernel
theorem dX5_takeWhole_52 : decode cX5_takeWhole 52 = .ok (.getfield 45, 3) := by decide +kernel
theorem dX5_takeWhole_55 : decode cX5_takeWhole 55 = .ok (.baload, 1) := by decide +kernel
theorem dX5_takeWhole_56 : decode cX5_takeWhole 56 = .ok (.bipush 48, 2) := by decide +kernel
theorem dX5_takeWhole_58 : decode cX5_takeWhole 58 = .ok (.isub, 1) := by decide +kernel
theorem dX5_takeWhole_59 : decode cX5_takeWhole 59 = .ok (.iadd, 1) := by decide +kernel
theorem dX5_takeWhole_60 : decode cX5_takeWhole 60 = .ok (.putfield 94, 3) := by decide +kernel
theorem dX5_takeWhole_63 : decode cX5_takeWhole 63 = .ok (.aload_n 0, 1) := by decide +kernel
theorem dX5_takeWhole_64 : decode cX5_takeWhole 64 = .ok (.dup, 1) := by decide +kernel
theorem dX5_takeWhole_65 : decode cX5_takeWhole 65 = .ok (.getfield 45, 3) := by decide +kernel
theorem dX5_takeWhole_68 : decode cX5_takeWhole 68 = .ok (.iconst 1, 1) := by decide +kernel
theorem dX5_takeWhole_69 : decode cX5_takeWhole 69 = .ok (.iadd, 1) := by decide +kernel
theorem dX5_takeWhole_70 : decode cX5_takeWhole 70 = .ok (.putfield 45, 3) := by decide +kernel
theorem dX5_takeWhole_73 : decode cX5_takeWhole 73 = .ok (.goto (-60), 3) := by decide +kernel
theorem dX5_takeWhole_76 : decode cX5_takeWhole 76 = .ok (.aload_n 0, 1) := by decide +kernel
theorem dX5_takeWhole_77 : decode cX5_takeWhole 77 = .ok (.aload_n 0, 1) := by decide +kernel
theorem dX5_takeWhole_78 : decode cX5_takeWhole 78 = .ok (.getfield 45, 3) := by decide +kernel
theorem dX5_takeWhole_81 : decode cX5_takeWhole 81 = .ok (.aload_n 0, 1) := by decide +kernel
theorem dX5_takeWhole_82 : decode cX5_takeWhole 82 = .ok (.getfield 72, 3) := by decide +kernel
theorem dX5_takeWhole_85 : decode cX5_takeWhole 85 = .ok (.isub, 1) := by decide +kernel
theorem dX5_takeWhole_86 : decode cX5_takeWhole 86 = .ok (.iconst 3, 1) := by decide +kernel
theorem dX5_takeWhole_87 : decode cX5_takeWhole 87 = .ok (.if_icmp .gt 7, 3) := by decide +kernel
theorem dX5_takeWhole_90 : decode cX5_takeWhole 90 = .ok (.iconst 3, 1) := by decide +kernel
theorem dX5_takeWhole_91 : decode cX5_takeWhole 91 = .ok (.goto 4, 3) := by decide +kernel
theorem dX5_takeWhole_94 : decode cX5_takeWhole 94 = .ok (.iconst 1, 1) := by decide +kernel
theorem dX5_takeWhole_95 : decode cX5_takeWhole 95 = .ok (.putfield 62, 3) := by decide +kernel
theorem dX5_takeWhole_98 : decode cX5_takeWhole 98 = .ok (.return_, 1) := by decide +kernel
theorem dX5_takeWord_0 : decode cX5_takeWord 0 = .ok (.aload_n 0, 1) := by decide +kernel
theorem dX5_takeWord_1 : decode cX5_takeWord 1 = .ok (.lconst 0, 1) := by decide +kernel
theorem dX5_takeWord_2 : decode cX5_takeWord 2 = .ok (.putfield 88, 3) := by decide +kernel
theorem dX5_takeWord_5 : decode cX5_takeWord 5 = .ok (.aload_n 0, 1) := by decide +kernel
theorem dX5_takeWord_6 : decode cX5_takeWord 6 = .ok (.aload_n 0, 1) := by decide +kernel
theorem dX5_takeWord_7 : decode cX5_takeWord 7 = .ok (.getfield 72, 3) := by decide +kernel
theorem dX5_takeWord_10 : decode cX5_takeWord 10 = .ok (.putfield 45, 3) := by decide +kernel
theorem dX5_takeWord_13 : decode cX5_takeWord 13 = .ok (.aload_n 0, 1) := by decide +kernel
theorem dX5_takeWord_14 : decode cX5_takeWord 14 = .ok (.getfield 45, 3) := by decide +kernel
theorem dX5_takeWord_17 : decode cX5_takeWord 17 = .ok (.aload_n 0, 1) := by decide +kernel
theorem dX5_takeWord_18 : decode cX5_takeWord 18 = .ok (.getfield 42, 3) := by decide +kernel
theorem dX5_takeWord_21 : decode cX5_takeWord 21 = .ok (.if_icmp .ge 59, 3) := by decide +kernel
theorem dX5_takeWord_24 : decode cX5_takeWord 24 = .ok (.aload_n 0, 1) := by decide +kernel
theorem dX5_takeWord_25 : decode cX5_takeWord 25 = .ok (.getfield 9, 3) := by decide +kernel
theorem dX5_takeWord_28 : decode cX5_takeWord 28 = .ok (.aload_n 0, 1) := by decide +kernel
theorem dX5_takeWord_29 : decode cX5_takeWord 29 = .ok (.getfield 45, 3) := by decide +kernel
theorem dX5_takeWord_32 : decode cX5_takeWord 32 = .ok (.baload, 1) := by decide +kernel
theorem dX5_takeWord_33 : decode cX5_takeWord 33 = .ok (.invokestatic 75, 3) := by decide +kernel
theorem dX5_takeWord_36 : decode cX5_takeWord 36 = .ok (.ifCond .eq 44, 3) := by decide +kernel
theorem dX5_takeWord_39 : decode cX5_takeWord 39 = .ok (.aload_n 0, 1) := by decide +kernel
theorem dX5_takeWord_40 : decode cX5_takeWord 40 = .ok (.aload_n 0, 1) := by decide +kernel
theorem dX5_takeWord_41 : decode cX5_takeWord 41 = .ok (.getfield 88, 3) := by decide +kernel
theorem dX5_takeWord_44 : decode cX5_takeWord 44 = .ok (.ldc2_w 92, 3) := by decide +kernel
theorem dX5_takeWord_47 : decode cX5_takeWord 47 = .ok (.lmul, 1) := by decide +kernel
theorem dX5_takeWord_48 : decode cX5_takeWord 48 = .ok (.aload_n 0, 1) := by decide +kernel
theorem dX5_takeWord_49 : decode cX5_takeWord 49 = .ok (.getfield 9, 3) := by decide +kernel
theorem dX5_takeWord_52 : decode cX5_takeWord 52 = .ok (.aload_n 0, 1) := by decide +kernel
theorem dX5_takeWord_53 : decode cX5_takeWord 53 = .ok (.getfield 45, 3) := by decide +kernel
theorem dX5_takeWord_56 : decode cX5_takeWord 56 = .ok (.baload, 1) := by decide +kernel
theorem dX5_takeWord_57 : decode cX5_takeWord 57 = .ok (.bipush 97, 2) := by decide +kernel
theorem dX5_takeWord_59 : decode cX5_takeWord 59 = .ok (.isub, 1) := by decide +kernel
theorem dX5_takeWord_60 : decode cX5_takeWord 60 = .ok (.iconst 1, 1) := by decide +kernel
theorem dX5_takeWord_61 : decode cX5_takeWord 61 = .ok (.iadd, 1) := by decide +kernel
theorem dX5_takeWord_62 : decode cX5_takeWord 62 = .ok (.i2l, 1) := by decide +kernel
theorem dX5_takeWord_63 : decode cX5_takeWord 63 = .ok (.ladd, 1) := by decide +kernel
theorem dX5_takeWord_64 : decode cX5_takeWord 64 = .ok (.putfield 88, 3) := by decide +kernel
theorem dX5_takeWord_67 : decode cX5_takeWord 67 = .ok (.aload_n 0, 1) := by decide +kernel
theorem dX5_takeWord_68 : decode cX5_takeWord 68 = .ok (.dup, 1) := by decide +kernel
theorem dX5_takeWord_69 : decode cX5_takeWord 69 = .ok (.getfield 45, 3) := by decide +kernel
theorem dX5_takeWord_72 : decode cX5_takeWord 72 = .ok (.iconst 1, 1) := by decide +kernel
theorem dX5_takeWord_73 : decode cX5_takeWord 73 = .ok (.iadd, 1) := by decide +kernel
theorem dX5_takeWord_74 : decode cX5_takeWord 74 = .ok (.putfield 45, 3) := by decide +kernel
theorem dX5_takeWord_77 : decode cX5_takeWord 77 = .ok (.goto (-64), 3) := by decide +kernel
theorem dX5_takeWord_80 : decode cX5_takeWord 80 = .ok (.aload_n 0, 1) := by decide +kernel
theorem dX5_takeWord_81 : decode cX5_takeWord 81 = .ok (.aload_n 0, 1) := by decide +kernel
theorem dX5_takeWord_82 : decode cX5_takeWord 82 = .ok (.getfield 45, 3) := by decide +kernel
theorem dX5_takeWord_85 : decode cX5_takeWord 85 = .ok (.aload_n 0, 1) := by decide +kernel
theorem dX5_takeWord_86 : decode cX5_takeWord 86 = .ok (.getfield 72, 3) := by decide +kernel
theorem dX5_takeWord_89 : decode cX5_takeWord 89 = .ok (.isub, 1) := by decide +kernel
theorem dX5_takeWord_90 : decode cX5_takeWord 90 = .ok (.bipush 8, 2) := by decide +kernel
theorem dX5_takeWord_92 : decode cX5_takeWord 92 = .ok (.if_icmp .gt 7, 3) := by decide +kernel
theorem dX5_takeWord_95 : decode cX5_takeWord 95 = .ok (.iconst 2, 1) := by decide +kernel
theorem dX5_takeWord_96 : decode cX5_takeWord 96 = .ok (.goto 4, 3) := by decide +kernel
theorem dX5_takeWord_99 : decode cX5_takeWord 99 = .ok (.iconst 1, 1) := by decide +kernel
theorem dX5_takeWord_100 : decode cX5_takeWord 100 = .ok (.putfield 62, 3) := by decide +kernel
theorem dX5_takeWord_103 : decode cX5_takeWord 103 = .ok (.return_, 1) := by decide +kernel
theorem dX5_fail_0 : decode cX5_fail 0 = .ok (.aload_n 0, 1) := by decide +kernel
theorem dX5_fail_1 : decode cX5_fail 1 = .ok (.iload_n 1, 1) := by decide +kernel
theorem dX5_fail_2 : decode cX5_fail 2 = .ok (.putfield 52, 3) := by decide +kernel
theorem dX5_fail_5 : decode cX5_fail 5 = .ok (.iconst 0, 1) := by decide +kernel
theorem dX5_fail_6 : decode cX5_fail 6 = .ok (.ireturn, 1) := by decide +kernel
theorem dX5_says_0 : decode cX5_says 0 = .ok (.aload_n 0, 1) := by decide +kernel
theorem dX5_says_1 : decode cX5_says 1 = .ok (.getfield 62, 3) := by decide +kernel
theorem dX5_says_4 : decode cX5_says 4 = .ok (.iconst 2, 1) := by decide +kernel
theorem dX5_says_5 : decode cX5_says 5 = .ok (.if_icmp .ne 19, 3) := by decide +kernel
theorem dX5_says_8 : decode cX5_says 8 = .ok (.aload_n 0, 1) := by decide +kernel
theorem dX5_says_9 : decode cX5_says 9 = .ok (.getfield 45, 3) := by decide +kernel
theorem dX5_says_12 : decode cX5_says 12 = .ok (.aload_n 0, 1) := by decide +kernel
theorem dX5_says_13 : decode cX5_says 13 = .ok (.getfield 72, 3) := by decide +kernel
theorem dX5_says_16 : decode cX5_says 16 = .ok (.isub, 1) := by decide +kernel
theorem dX5_says_17 : decode cX5_says 17 = .ok (.aload_n 1, 1) := by decide +kernel
theorem dX5_says_18 : decode cX5_says 18 = .ok (.invokevirtual 97, 3) := by decide +kernel
theorem dX5_says_21 : decode cX5_says 21 = .ok (.if_icmp .eq 5, 3) := by decide +kernel
theorem dX5_says_24 : decode cX5_says 24 = .ok (.iconst 0, 1) := by decide +kernel
theorem dX5_says_25 : decode cX5_says 25 = .ok (.ireturn, 1) := by decide +kernel
theorem dX5_says_26 : decode cX5_says 26 = .ok (.iconst 0, 1) := by decide +kernel
theorem dX5_says_27 : decode cX5_says 27 = .ok (.istore_n 2, 1) := by decide +kernel
theorem dX5_says_28 : decode cX5_says 28 = .ok (.iload_n 2, 1) := by decide +kernel
theorem dX5_says_29 : decode cX5_says 29 = .ok (.aload_n 1, 1) := by decide +kernel
theorem dX5_says_30 : decode cX5_says 30 = .ok (.invokevirtual 97, 3) := by decide +kernel
theorem dX5_says_33 : decode cX5_says 33 = .ok (.if_icmp .ge 30, 3) := by decide +kernel
theorem dX5_says_36 : decode cX5_says 36 = .ok (.aload_n 0, 1) := by decide +kernel
theorem dX5_says_37 : decode cX5_says 37 = .ok (.getfield 9, 3) := by decide +kernel
theorem dX5_says_40 : decode cX5_says 40 = .ok (.aload_n 0, 1) := by decide +kernel
theorem dX5_says_41 : decode cX5_says 41 = .ok (.getfield 72, 3) := by decide +kernel
theorem dX5_says_44 : decode cX5_says 44 = .ok (.iload_n 2, 1) := by decide +kernel
theorem dX5_says_45 : decode cX5_says 45 = .ok (.iadd, 1) := by decide +kernel
theorem dX5_says_46 : decode cX5_says 46 = .ok (.baload, 1) := by decide +kernel
theorem dX5_says_47 : decode cX5_says 47 = .ok (.aload_n 1, 1) := by decide +kernel
theorem dX5_says_48 : decode cX5_says 48 = .ok (.iload_n 2, 1) := by decide +kernel
theorem dX5_says_49 : decode cX5_says 49 = .ok (.invokevirtual 102, 3) := by decide +kernel
theorem dX5_says_52 : decode cX5_says 52 = .ok (.if_icmp .eq 5, 3) := by decide +kernel
theorem dX5_says_55 : decode cX5_says 55 = .ok (.iconst 0, 1) := by decide +kernel
theorem dX5_says_56 : decode cX5_says 56 = .ok (.ireturn, 1) := by decide +kernel
theorem dX5_says_57 : decode cX5_says 57 = .ok (.iinc 2 1, 3) := by decide +kernel
theorem dX5_says_60 : decode cX5_says 60 = .ok (.goto (-32), 3) := by decide +kernel
theorem dX5_says_63 : decode cX5_says 63 = .ok (.iconst 1, 1) := by decide +kernel
theorem dX5_says_64 : decode cX5_says 64 = .ok (.ireturn, 1) := by decide +kernel
theorem dX5_readMixed_0 : decode cX5_readMixed 0 = .ok (.aload_n 0, 1) := by decide +kernel
theorem dX5_readMixed_1 : decode cX5_readMixed 1 = .ok (.aload_n 0, 1) := by decide +kernel
theorem dX5_readMixed_2 : decode cX5_readMixed 2 = .ok (.getfield 18, 3) := by decide +kernel
theorem dX5_readMixed_5 : decode cX5_readMixed 5 = .ok (.getfield 220, 3) := by decide +kernel
theorem dX5_readMixed_8 : decode cX5_readMixed 8 = .ok (.ifCond .le 7, 3) := by decide +kernel
theorem dX5_readMixed_11 : decode cX5_readMixed 11 = .ok (.iconst 1, 1) := by decide +kernel
theorem dX5_readMixed_12 : decode cX5_readMixed 12 = .ok (.goto 4, 3) := by decide +kernel
theorem dX5_readMixed_15 : decode cX5_readMixed 15 = .ok (.iconst 0, 1) := by decide +kernel
theorem dX5_readMixed_16 : decode cX5_readMixed 16 = .ok (.iconst 0, 1) := by decide +kernel
theorem dX5_readMixed_17 : decode cX5_readMixed 17 = .ok (.invokevirtual 160, 3) := by decide +kernel
theorem dX5_readMixed_20 : decode cX5_readMixed 20 = .ok (.ifCond .ne 5, 3) := by decide +kernel
theorem dX5_readMixed_23 : decode cX5_readMixed 23 = .ok (.iconst 0, 1) := by decide +kernel
theorem dX5_readMixed_24 : decode cX5_readMixed 24 = .ok (.ireturn, 1) := by decide +kernel
theorem dX5_readMixed_25 : decode cX5_readMixed 25 = .ok (.iconst 0, 1) := by decide +kernel
theorem dX5_readMixed_26 : decode cX5_readMixed 26 = .ok (.istore_n 1, 1) := by decide +kernel
theorem dX5_readMixed_27 : decode cX5_readMixed 27 = .ok (.iload_n 1, 1) := by decide +kernel
theorem dX5_readMixed_28 : decode cX5_readMixed 28 = .ok (.bipush 6, 2) := by decide +kernel
theorem dX5_readMixed_30 : decode cX5_readMixed 30 = .ok (.if_icmp .gt 82, 3) := by decide +kernel
theorem dX5_readMixed_33 : decode cX5_readMixed 33 = .ok (.aload_n 0, 1) := by decide +kernel
theorem dX5_readMixed_34 : decode cX5_readMixed 34 = .ok (.aload_n 0, 1) := by decide +kernel
theorem dX5_readMixed_35 : decode cX5_readMixed 35 = .ok (.getfield 22, 3) := by decide +kernel
theorem dX5_readMixed_38 : decode cX5_readMixed 38 = .ok (.aload_n 0, 1) := by decide +kernel
theorem dX5_readMixed_39 : decode cX5_readMixed 39 = .ok (.getfield 18, 3) := by decide +kernel
theorem dX5_readMixed_42 : decode cX5_readMixed 42 = .ok (.getfield 65, 3) := by decide +kernel
theorem dX5_readMixed_45 : decode cX5_readMixed 45 = .ok (.invokevirtual 184, 3) := by decide +kernel
theorem dX5_readMixed_48 : decode cX5_readMixed 48 = .ok (.istore_n 2, 1) := by decide +kernel
theorem dX5_readMixed_49 : decode cX5_readMixed 49 = .ok (.iload_n 2, 1) := by decide +kernel
theorem dX5_readMixed_50 : decode cX5_readMixed 50 = .ok (.iconst (-1), 1) := by decide +kernel
theorem dX5_readMixed_51 : decode cX5_readMixed 51 = .ok (.if_icmp .ne 5, 3) := by decide +kernel
theorem dX5_readMixed_54 : decode cX5_readMixed 54 = .ok (.iconst 0, 1) := by decide +kernel
theorem dX5_readMixed_55 : decode cX5_readMixed 55 = .ok (.ireturn, 1) := by decide +kernel
theorem dX5_readMixed_56 : decode cX5_readMixed 56 = .ok (.iload_n 1, 1) := by decide +kernel
theorem dX5_readMixed_57 : decode cX5_readMixed 57 = .ok (.bipush 6, 2) := by decide +kernel
theorem dX5_readMixed_59 : decode cX5_readMixed 59 = .ok (.if_icmp .lt 9, 3) := by decide +kernel
theorem dX5_readMixed_62 : decode cX5_readMixed 62 = .ok (.aload_n 0, 1) := by decide +kernel
theorem dX5_readMixed_63 : decode cX5_readMixed 63 = .ok (.iconst 5, 1) := by decide +kernel
theorem dX5_readMixed_64 : decode cX5_readMixed 64 = .ok (.invokevirtual 68, 3) := by decide +kernel
theorem dX5_readMixed_67 : decode cX5_readMixed 67 = .ok (.ireturn, 1) := by decide +kernel
theorem dX5_readMixed_68 : decode cX5_readMixed 68 = .ok (.aload_n 0, 1) := by decide +kernel
theorem dX5_readMixed_69 : decode cX5_readMixed 69 = .ok (.getfield 18, 3) := by decide +kernel
theorem dX5_readMixed_72 : decode cX5_readMixed 72 = .ok (.getfield 222, 3) := by decide +kernel
theorem dX5_readMixed_75 : decode cX5_readMixed 75 = .ok (.iload_n 1, 1) := by decide +kernel
theorem dX5_readMixed_76 : decode cX5_readMixed 76 = .ok (.iload_n 2, 1) := by decide +kernel
theorem dX5_readMixed_77 : decode cX5_readMixed 77 = .ok (.iastore, 1) := by decide +kernel
theorem dX5_readMixed_78 : decode cX5_readMixed 78 = .ok (.aload_n 0, 1) := by decide +kernel
theorem dX5_readMixed_79 : decode cX5_readMixed 79 = .ok (.getfield 18, 3) := by decide +kernel
theorem dX5_readMixed_82 : decode cX5_readMixed 82 = .ok (.iload_n 1, 1) := by decide +kernel
theorem dX5_readMixed_83 : decode cX5_readMixed 83 = .ok (.iconst 1, 1) := by decide +kernel
theorem dX5_readMixed_84 : decode cX5_readMixed 84 = .ok (.iadd, 1) := by decide +kernel
theorem dX5_readMixed_85 : decode cX5_readMixed 85 = .ok (.putfield 220, 3) := by decide +kernel
theorem dX5_readMixed_88 : decode cX5_readMixed 88 = .ok (.aload_n 0, 1) := by decide +kernel
theorem dX5_readMixed_89 : decode cX5_readMixed 89 = .ok (.invokevirtual 55, 3) := by decide +kernel
theorem dX5_readMixed_92 : decode cX5_readMixed 92 = .ok (.aload_n 0, 1) := by decide +kernel
theorem dX5_readMixed_93 : decode cX5_readMixed 93 = .ok (.getfield 62, 3) := by decide +kernel
theorem dX5_readMixed_96 : decode cX5_readMixed 96 = .ok (.iconst 5, 1) := by decide +kernel
theorem dX5_readMixed_97 : decode cX5_readMixed 97 = .ok (.if_icmp .eq 5, 3) := by decide +kernel
theorem dX5_readMixed_100 : decode cX5_readMixed 100 = .ok (.iconst 1, 1) := by decide +kernel
theorem dX5_readMixed_101 : decode cX5_readMixed 101 = .ok (.ireturn, 1) := by decide +kernel
theorem dX5_readMixed_102 : decode cX5_readMixed 102 = .ok (.aload_n 0, 1) := by decide +kernel
theorem dX5_readMixed_103 : decode cX5_readMixed 103 = .ok (.invokevirtual 55, 3) := by decide +kernel
theorem dX5_readMixed_106 : decode cX5_readMixed 106 = .ok (.iinc 1 1, 3) := by decide +kernel
theorem dX5_readMixed_109 : decode cX5_readMixed 109 = .ok (.goto (-82), 3) := by decide +kernel
theorem dX5_readMixed_112 : decode cX5_readMixed 112 = .ok (.aload_n 0, 1) := by decide +kernel
theorem dX5_readMixed_113 : decode cX5_readMixed 113 = .ok (.iconst 5, 1) := by decide +kernel
theorem dX5_readMixed_114 : decode cX5_readMixed 114 = .ok (.invokevirtual 68, 3) := by decide +kernel
theorem dX5_readMixed_117 : decode cX5_readMixed 117 = .ok (.ireturn, 1) := by decide +kernel
theorem dX5_passFirstWord_0 : decode cX5_passFirstWord 0 = .ok (.iload_n 1, 1) := by decide +kernel
theorem dX5_passFirstWord_1 : decode cX5_passFirstWord 1 = .ok (.ifCond .eq 9, 3) := by decide +kernel
theorem dX5_passFirstWord_4 : decode cX5_passFirstWord 4 = .ok (.aload_n 0, 1) := by decide +kernel
theorem dX5_passFirstWord_5 : decode cX5_passFirstWord 5 = .ok (.iconst 3, 1) := by decide +kernel
theorem dX5_passFirstWord_6 : decode cX5_passFirstWord 6 = .ok (.invokevirtual 68, 3) := by decide +kernel
theorem dX5_passFirstWord_9 : decode cX5_passFirstWord 9 = .ok (.ireturn, 1) := by decide +kernel
theorem dX5_passFirstWord_10 : decode cX5_passFirstWord 10 = .ok (.iload_n 2, 1) := by decide +kernel
theorem dX5_passFirstWord_11 : decode cX5_passFirstWord 11 = .ok (.ifCond .eq 9, 3) := by decide +kernel
theorem dX5_passFirstWord_14 : decode cX5_passFirstWord 14 = .ok (.aload_n 0, 1) := by decide +kernel
theorem dX5_passFirstWord_15 : decode cX5_passFirstWord 15 = .ok (.iconst 5, 1) := by decide +kernel
theorem dX5_passFirstWord_16 : decode cX5_passFirstWord 16 = .ok (.invokevirtual 68, 3) := by decide +kernel
theorem dX5_passFirstWord_19 : decode cX5_passFirstWord 19 = .ok (.ireturn, 1) := by decide +kernel
theorem dX5_passFirstWord_20 : decode cX5_passFirstWord 20 = .ok (.aload_n 0, 1) := by decide +kernel
theorem dX5_passFirstWord_21 : decode cX5_passFirstWord 21 = .ok (.getfield 48, 3) := by decide +kernel
theorem dX5_passFirstWord_24 : decode cX5_passFirstWord 24 = .ok (.ifCond .ne 10, 3) := by decide +kernel
theorem dX5_passFirstWord_27 : decode cX5_passFirstWord 27 = .ok (.aload_n 0, 1) := by decide +kernel
theorem dX5_passFirstWord_28 : decode cX5_passFirstWord 28 = .ok (.bipush 6, 2) := by decide +kernel
theorem dX5_passFirstWord_30 : decode cX5_passFirstWord 30 = .ok (.invokevirtual 68, 3) := by decide +kernel
theorem dX5_passFirstWord_33 : decode cX5_passFirstWord 33 = .ok (.ireturn, 1) := by decide +kernel
theorem dX5_passFirstWord_34 : decode cX5_passFirstWord 34 = .ok (.aload_n 0, 1) := by decide +kernel
theorem dX5_passFirstWord_35 : decode cX5_passFirstWord 35 = .ok (.invokevirtual 55, 3) := by decide +kernel
theorem dX5_passFirstWord_38 : decode cX5_passFirstWord 38 = .ok (.iconst 1, 1) := by decide +kernel
theorem dX5_passFirstWord_39 : decode cX5_passFirstWord 39 = .ok (.ireturn, 1) := by decide +kernel
theorem dX5_nameHere_0 : decode cX5_nameHere 0 = .ok (.aload_n 0, 1) := by decide +kernel
theorem dX5_nameHere_1 : decode cX5_nameHere 1 = .ok (.invokevirtual 225, 3) := by decide +kernel
theorem dX5_nameHere_4 : decode cX5_nameHere 4 = .ok (.ifCond .ne 11, 3) := by decide +kernel
theorem dX5_nameHere_7 : decode cX5_nameHere 7 = .ok (.aload_n 0, 1) := by decide +kernel
theorem dX5_nameHere_8 : decode cX5_nameHere 8 = .ok (.iconst 1, 1) := by decide +kernel
theorem dX5_nameHere_9 : decode cX5_nameHere 9 = .ok (.invokevirtual 68, 3) := by decide +kernel
theorem dX5_nameHere_12 : decode cX5_nameHere 12 = .ok (.pop, 1) := by decide +kernel
theorem dX5_nameHere_13 : decode cX5_nameHere 13 = .ok (.iconst (-1), 1) := by decide +kernel
theorem dX5_nameHere_14 : decode cX5_nameHere 14 = .ok (.ireturn, 1) := by decide +kernel
theorem dX5_nameHere_15 : decode cX5_nameHere 15 = .ok (.aload_n 0, 1) := by decide +kernel
theorem dX5_nameHere_16 : decode cX5_nameHere 16 = .ok (.aload_n 1, 1) := by decide +kernel
theorem dX5_nameHere_17 : decode cX5_nameHere 17 = .ok (.iload_n 2, 1) := by decide +kernel
theorem dX5_nameHere_18 : decode cX5_nameHere 18 = .ok (.invokevirtual 228, 3) := by decide +kernel
theorem dX5_nameHere_21 : decode cX5_nameHere 21 = .ok (.istore_n 3, 1) := by decide +kernel
theorem dX5_nameHere_22 : decode cX5_nameHere 22 = .ok (.iload_n 3, 1) := by decide +kernel
theorem dX5_nameHere_23 : decode cX5_nameHere 23 = .ok (.iconst (-1), 1) := by decide +kernel
theorem dX5_nameHere_24 : decode cX5_nameHere 24 = .ok (.if_icmp .ne 9, 3) := by decide +kernel
theorem dX5_nameHere_27 : decode cX5_nameHere 27 = .ok (.aload_n 0, 1) := by decide +kernel
theorem dX5_nameHere_28 : decode cX5_nameHere 28 = .ok (.iconst 2, 1) := by decide +kernel
theorem dX5_nameHere_29 : decode cX5_nameHere 29 = .ok (.invokevirtual 68, 3) := by decide +kernel
theorem dX5_nameHere_32 : decode cX5_nameHere 32 = .ok (.pop, 1) := by decide +kernel
theorem dX5_nameHere_33 : decode cX5_nameHere 33 = .ok (.iload_n 3, 1) := by decide +kernel
theorem dX5_nameHere_34 : decode cX5_nameHere 34 = .ok (.ireturn, 1) := by decide +kernel
theorem dX5_isName_0 : decode cX5_isName 0 = .ok (.aload_n 0, 1) := by decide +kernel
theorem dX5_isName_1 : decode cX5_isName 1 = .ok (.getfield 62, 3) := by decide +kernel
theorem dX5_isName_4 : decode cX5_isName 4 = .ok (.iconst 2, 1) := by decide +kernel
theorem dX5_isName_5 : decode cX5_isName 5 = .ok (.if_icmp .ne 70, 3) := by decide +kernel
theorem dX5_isName_8 : decode cX5_isName 8 = .ok (.aload_n 0, 1) := by decide +kernel
theorem dX5_isName_9 : decode cX5_isName 9 = .ok (.ldc 106, 2) := by decide +kernel
theorem dX5_isName_11 : decode cX5_isName 11 = .ok (.invokevirtual 108, 3) := by decide +kernel
theorem dX5_isName_14 : decode cX5_isName 14 = .ok (.ifCond .ne 61, 3) := by decide +kernel
theorem dX5_isName_17 : decode cX5_isName 17 = .ok (.aload_n 0, 1) := by decide +kernel
theorem dX5_isName_18 : decode cX5_isName 18 = .ok (.ldc 115, 2) := by decide +kernel
theorem dX5_isName_20 : decode cX5_isName 20 = .ok (.invokevirtual 108, 3) := by decide +kernel
theorem dX5_isName_23 : decode cX5_isName 23 = .ok (.ifCond .ne 52, 3) := by decide +kernel
theorem dX5_isName_26 : decode cX5_isName 26 = .ok (.aload_n 0, 1) := by decide +kernel
theorem dX5_isName_27 : decode cX5_isName 27 = .ok (.ldc 120, 2) := by decide +kernel
theorem dX5_isName_29 : decode cX5_isName 29 = .ok (.invokevirtual 108, 3) := by decide +kernel
theorem dX5_isName_32 : decode cX5_isName 32 = .ok (.ifCond .ne 43, 3) := by decide +kernel
theorem dX5_isName_35 : decode cX5_isName 35 = .ok (.aload_n 0, 1) := by decide +kernel
theorem dX5_isName_36 : decode cX5_isName 36 = .ok (.ldc 125, 2) := by decide +kernel
theorem dX5_isName_38 : decode cX5_isName 38 = .ok (.invokevirtual 108, 3) := by decide +kernel
theorem dX5_isName_41 : decode cX5_isName 41 = .ok (.ifCond .ne 34, 3) := by decide +kernel
theorem dX5_isName_44 : decode cX5_isName 44 = .ok (.aload_n 0, 1) := by decide +kernel
theorem dX5_isName_45 : decode cX5_isName 45 = .ok (.ldc 130, 2) := by decide +kernel
theorem dX5_isName_47 : decode cX5_isName 47 = .ok (.invokevirtual 108, 3) := by decide +kernel
theorem dX5_isName_50 : decode cX5_isName 50 = .ok (.ifCond .ne 25, 3) := by decide +kernel
theorem dX5_isName_53 : decode cX5_isName 53 = .ok (.aload_n 0, 1) := by decide +kernel
theorem dX5_isName_54 : decode cX5_isName 54 = .ok (.ldc 135, 2) := by decide +kernel
theorem dX5_isName_56 : decode cX5_isName 56 = .ok (.invokevirtual 108, 3) := by decide +kernel
theorem dX5_isName_59 : decode cX5_isName 59 = .ok (.ifCond .ne 16, 3) := by decide +kernel
theorem dX5_isName_62 : decode cX5_isName 62 = .ok (.aload_n 0, 1) := by decide +kernel
theorem dX5_isName_63 : decode cX5_isName 63 = .ok (.ldc 140, 2) := by decide +kernel
theorem dX5_isName_65 : decode cX5_isName 65 = .ok (.invokevirtual 108, 3) := by decide +kernel
theorem dX5_isName_68 : decode cX5_isName 68 = .ok (.ifCond .ne 7, 3) := by decide +kernel
theorem dX5_isName_71 : decode cX5_isName 71 = .ok (.iconst 1, 1) := by decide +kernel
theorem dX5_isName_72 : decode cX5_isName 72 = .ok (.goto 4, 3) := by decide +kernel
theorem dX5_isName_75 : decode cX5_isName 75 = .ok (.iconst 0, 1) := by decide +kernel
theorem dX5_isName_76 : decode cX5_isName 76 = .ok (.ireturn, 1) := by decide +kernel
theorem dX5_indexIn_0 : decode cX5_indexIn 0 = .ok (.iconst 0, 1) := by decide +kernel
theorem dX5_indexIn_1 : decode cX5_indexIn 1 = .ok (.istore_n 3, 1) := by decide +kernel
theorem dX5_indexIn_2 : decode cX5_indexIn 2 = .ok (.iload_n 3, 1) := by decide +kernel
theorem dX5_indexIn_3 : decode cX5_indexIn 3 = .ok (.iload_n 2, 1) := by decide +kernel
theorem dX5_indexIn_4 : decode cX5_indexIn 4 = .ok (.if_icmp .ge 28, 3) := by decide +kernel
theorem dX5_indexIn_7 : decode cX5_indexIn 7 = .ok (.iload_n 3, 1) := by decide +kernel
theorem dX5_indexIn_8 : decode cX5_indexIn 8 = .ok (.aload_n 1, 1) := by decide +kernel
theorem dX5_indexIn_9 : decode cX5_indexIn 9 = .ok (.arraylength, 1) := by decide +kernel
theorem dX5_indexIn_10 : decode cX5_indexIn 10 = .ok (.if_icmp .ge 22, 3) := by decide +kernel
theorem dX5_indexIn_13 : decode cX5_indexIn 13 = .ok (.aload_n 1, 1) := by decide +kernel
theorem dX5_indexIn_14 : decode cX5_indexIn 14 = .ok (.iload_n 3, 1) := by decide +kernel
theorem dX5_indexIn_15 : decode cX5_indexIn 15 = .ok (.laload, 1) := by decide +kernel
theorem dX5_indexIn_16 : decode cX5_indexIn 16 = .ok (.aload_n 0, 1) := by decide +kernel
theorem dX5_indexIn_17 : decode cX5_indexIn 17 = .ok (.getfield 88, 3) := by decide +kernel
theorem dX5_indexIn_20 : decode cX5_indexIn 20 = .ok (.lcmp, 1) := by decide +kernel
theorem dX5_indexIn_21 : decode cX5_indexIn 21 = .ok (.ifCond .ne 5, 3) := by decide +kernel
theorem dX5_indexIn_24 : decode cX5_indexIn 24 = .ok (.iload_n 3, 1) := by decide +kernel
theorem dX5_indexIn_25 : decode cX5_indexIn 25 = .ok (.ireturn, 1) := by decide +kernel
theorem dX5_indexIn_26 : decode cX5_indexIn 26 = .ok (.iinc 3 1, 3) := by decide +kernel
theorem dX5_indexIn_29 : decode cX5_indexIn 29 = .ok (.goto (-27), 3) := by decide +kernel
theorem dX5_indexIn_32 : decode cX5_indexIn 32 = .ok (.iconst (-1), 1) := by decide +kernel
theorem dX5_indexIn_33 : decode cX5_indexIn 33 = .ok (.ireturn, 1) := by decide +kernel
theorem dX5_readSilent_0 : decode cX5_readSilent 0 = .ok (.aload_n 0, 1) := by decide +kernel
theorem dX5_readSilent_1 : decode cX5_readSilent 1 = .ok (.iconst 0, 1) := by decide +kernel
theorem dX5_readSilent_2 : decode cX5_readSilent 2 = .ok (.iconst 0, 1) := by decide +kernel
theorem dX5_readSilent_3 : decode cX5_readSilent 3 = .ok (.invokevirtual 160, 3) := by decide +kernel
theorem dX5_readSilent_6 : decode cX5_readSilent 6 = .ok (.ifCond .ne 5, 3) := by decide +kernel
theorem dX5_readSilent_9 : decode cX5_readSilent 9 = .ok (.iconst 0, 1) := by decide +kernel
theorem dX5_readSilent_10 : decode cX5_readSilent 10 = .ok (.ireturn, 1) := by decide +kernel
theorem dX5_readSilent_11 : decode cX5_readSilent 11 = .ok (.aload_n 0, 1) := by decide +kernel
theorem dX5_readSilent_12 : decode cX5_readSilent 12 = .ok (.aload_n 0, 1) := by decide +kernel
theorem dX5_readSilent_13 : decode cX5_readSilent 13 = .ok (.getfield 26, 3) := by decide +kernel
theorem dX5_readSilent_16 : decode cX5_readSilent 16 = .ok (.aload_n 0, 1) := by decide +kernel
theorem dX5_readSilent_17 : decode cX5_readSilent 17 = .ok (.getfield 18, 3) := by decide +kernel
theorem dX5_readSilent_20 : decode cX5_readSilent 20 = .ok (.getfield 194, 3) := by decide +kernel
theorem dX5_readSilent_23 : decode cX5_readSilent 23 = .ok (.invokevirtual 184, 3) := by decide +kernel
theorem dX5_readSilent_26 : decode cX5_readSilent 26 = .ok (.istore_n 1, 1) := by decide +kernel
theorem dX5_readSilent_27 : decode cX5_readSilent 27 = .ok (.iload_n 1, 1) := by decide +kernel
theorem dX5_readSilent_28 : decode cX5_readSilent 28 = .ok (.iconst (-1), 1) := by decide +kernel
theorem dX5_readSilent_29 : decode cX5_readSilent 29 = .ok (.if_icmp .ne 5, 3) := by decide +kernel
theorem dX5_readSilent_32 : decode cX5_readSilent 32 = .ok (.iconst 0, 1) := by decide +kernel
theorem dX5_readSilent_33 : decode cX5_readSilent 33 = .ok (.ireturn, 1) := by decide +kernel
theorem dX5_readSilent_34 : decode cX5_readSilent 34 = .ok (.aload_n 0, 1) := by decide +kernel
theorem dX5_readSilent_35 : decode cX5_readSilent 35 = .ok (.getfield 18, 3) := by decide +kernel
theorem dX5_readSilent_38 : decode cX5_readSilent 38 = .ok (.iload_n 1, 1) := by decide +kernel
theorem dX5_readSilent_39 : decode cX5_readSilent 39 = .ok (.invokevirtual 215, 3) := by decide +kernel
theorem dX5_readSilent_42 : decode cX5_readSilent 42 = .ok (.ifCond .eq 9, 3) := by decide +kernel
theorem dX5_readSilent_45 : decode cX5_readSilent 45 = .ok (.aload_n 0, 1) := by decide +kernel
theorem dX5_readSilent_46 : decode cX5_readSilent 46 = .ok (.iconst 3, 1) := by decide +kernel
theorem dX5_readSilent_47 : decode cX5_readSilent 47 = .ok (.invokevirtual 68, 3) := by decide +kernel
theorem dX5_readSilent_50 : decode cX5_readSilent 50 = .ok (.ireturn, 1) := by decide +kernel
theorem dX5_readSilent_51 : decode cX5_readSilent 51 = .ok (.aload_n 0, 1) := by decide +kernel
theorem dX5_readSilent_52 : decode cX5_readSilent 52 = .ok (.invokevirtual 55, 3) := by decide +kernel
theorem dX5_readSilent_55 : decode cX5_readSilent 55 = .ok (.aload_n 0, 1) := by decide +kernel
theorem dX5_readSilent_56 : decode cX5_readSilent 56 = .ok (.getfield 18, 3) := by decide +kernel
theorem dX5_readSilent_59 : decode cX5_readSilent 59 = .ok (.dup, 1) := by decide +kernel
theorem dX5_readSilent_60 : decode cX5_readSilent 60 = .ok (.getfield 218, 3) := by decide +kernel
theorem dX5_readSilent_63 : decode cX5_readSilent 63 = .ok (.iconst 1, 1) := by decide +kernel
theorem dX5_readSilent_64 : decode cX5_readSilent 64 = .ok (.iload_n 1, 1) := by decide +kernel
theorem dX5_readSilent_65 : decode cX5_readSilent 65 = .ok (.ishl, 1) := by decide +kernel
theorem dX5_readSilent_66 : decode cX5_readSilent 66 = .ok (.ior, 1) := by decide +kernel
theorem dX5_readSilent_67 : decode cX5_readSilent 67 = .ok (.putfield 218, 3) := by decide +kernel
theorem dX5_readSilent_70 : decode cX5_readSilent 70 = .ok (.iconst 1, 1) := by decide +kernel
theorem dX5_readSilent_71 : decode cX5_readSilent 71 = .ok (.ireturn, 1) := by decide +kernel
theorem dX8_isSilent_0 : decode cX8_isSilent 0 = .ok (.aload_n 0, 1) := by decide +kernel
theorem dX8_isSilent_1 : decode cX8_isSilent 1 = .ok (.getfield 52, 3) := by decide +kernel
theorem dX8_isSilent_4 : decode cX8_isSilent 4 = .ok (.iload_n 1, 1) := by decide +kernel
theorem dX8_isSilent_5 : decode cX8_isSilent 5 = .ok (.ishr, 1) := by decide +kernel
theorem dX8_isSilent_6 : decode cX8_isSilent 6 = .ok (.iconst 1, 1) := by decide +kernel
theorem dX8_isSilent_7 : decode cX8_isSilent 7 = .ok (.iand, 1) := by decide +kernel
theorem dX8_isSilent_8 : decode cX8_isSilent 8 = .ok (.ifCond .eq 7, 3) := by decide +kernel
theorem dX8_isSilent_11 : decode cX8_isSilent 11 = .ok (.iconst 1, 1) := by decide +kernel
theorem dX8_isSilent_12 : decode cX8_isSilent 12 = .ok (.goto 4, 3) := by decide +kernel
theorem dX8_isSilent_15 : decode cX8_isSilent 15 = .ok (.iconst 0, 1) := by decide +kernel
theorem dX8_isSilent_16 : decode cX8_isSilent 16 = .ok (.ireturn, 1) := by decide +kernel
theorem dX5_readHeard_0 : decode cX5_readHeard 0 = .ok (.aload_n 0, 1) := by decide +kernel
theorem dX5_readHeard_1 : decode cX5_readHeard 1 = .ok (.iconst 0, 1) := by decide +kernel
theorem dX5_readHeard_2 : decode cX5_readHeard 2 = .ok (.aload_n 0, 1) := by decide +kernel
theorem dX5_readHeard_3 : decode cX5_readHeard 3 = .ok (.getfield 18, 3) := by decide +kernel
theorem dX5_readHeard_6 : decode cX5_readHeard 6 = .ok (.getfield 210, 3) := by decide +kernel
theorem dX5_readHeard_9 : decode cX5_readHeard 9 = .ok (.bipush 14, 2) := by decide +kernel
theorem dX5_readHeard_11 : decode cX5_readHeard 11 = .ok (.if_icmp .lt 7, 3) := by decide +kernel
theorem dX5_readHeard_14 : decode cX5_readHeard 14 = .ok (.iconst 1, 1) := by decide +kernel
theorem dX5_readHeard_15 : decode cX5_readHeard 15 = .ok (.goto 4, 3) := by decide +kernel
theorem dX5_readHeard_18 : decode cX5_readHeard 18 = .ok (.iconst 0, 1) := by decide +kernel
theorem dX5_readHeard_19 : decode cX5_readHeard 19 = .ok (.invokevirtual 160, 3) := by decide +kernel
theorem dX5_readHeard_22 : decode cX5_readHeard 22 = .ok (.ifCond .ne 5, 3) := by decide +kernel
theorem dX5_readHeard_25 : decode cX5_readHeard 25 = .ok (.iconst 0, 1) := by decide +kernel
theorem dX5_readHeard_26 : decode cX5_readHeard 26 = .ok (.ireturn, 1) := by decide +kernel
theorem dX5_readHeard_27 : decode cX5_readHeard 27 = .ok (.aload_n 0, 1) := by decide +kernel
theorem dX5_readHeard_28 : decode cX5_readHeard 28 = .ok (.aload_n 0, 1) := by decide +kernel
theorem dX5_readHeard_29 : decode cX5_readHeard 29 = .ok (.getfield 26, 3) := by decide +kernel
theorem dX5_readHeard_32 : decode cX5_readHeard 32 = .ok (.aload_n 0, 1) := by decide +kernel
theorem dX5_readHeard_33 : decode cX5_readHeard 33 = .ok (.getfield 18, 3) := by decide +kernel
theorem dX5_readHeard_36 : decode cX5_readHeard 36 = .ok (.getfield 194, 3) := by decide +kernel
theorem dX5_readHeard_39 : decode cX5_readHeard 39 = .ok (.invokevirtual 184, 3) := by decide +kernel
theorem dX5_readHeard_42 : decode cX5_readHeard 42 = .ok (.istore_n 1, 1) := by decide +kernel
theorem dX5_readHeard_43 : decode cX5_readHeard 43 = .ok (.iload_n 1, 1) := by decide +kernel
theorem dX5_readHeard_44 : decode cX5_readHeard 44 = .ok (.iconst (-1), 1) := by decide +kernel
theorem dX5_readHeard_45 : decode cX5_readHeard 45 = .ok (.if_icmp .ne 5, 3) := by decide +kernel
theorem dX5_readHeard_48 : decode cX5_readHeard 48 = .ok (.iconst 0, 1) := by decide +kernel
theorem dX5_readHeard_49 : decode cX5_readHeard 49 = .ok (.ireturn, 1) := by decide +kernel
theorem dX5_readHeard_50 : decode cX5_readHeard 50 = .ok (.aload_n 0, 1) := by decide +kernel
theorem dX5_readHeard_51 : decode cX5_readHeard 51 = .ok (.invokevirtual 55, 3) := by decide +kernel
theorem dX5_readHeard_54 : decode cX5_readHeard 54 = .ok (.aload_n 0, 1) := by decide +kernel
theorem dX5_readHeard_55 : decode cX5_readHeard 55 = .ok (.aload_n 0, 1) := by decide +kernel
theorem dX5_readHeard_56 : decode cX5_readHeard 56 = .ok (.getfield 22, 3) := by decide +kernel
theorem dX5_readHeard_59 : decode cX5_readHeard 59 = .ok (.aload_n 0, 1) := by decide +kernel
theorem dX5_readHeard_60 : decode cX5_readHeard 60 = .ok (.getfield 18, 3) := by decide +kernel
theorem dX5_readHeard_63 : decode cX5_readHeard 63 = .ok (.getfield 65, 3) := by decide +kernel
theorem dX5_readHeard_66 : decode cX5_readHeard 66 = .ok (.invokevirtual 184, 3) := by decide +kernel
theorem dX5_readHeard_69 : decode cX5_readHeard 69 = .ok (.istore_n 2, 1) := by decide +kernel
theorem dX5_readHeard_70 : decode cX5_readHeard 70 = .ok (.iload_n 2, 1) := by decide +kernel
theorem dX5_readHeard_71 : decode cX5_readHeard 71 = .ok (.iconst (-1), 1) := by decide +kernel
theorem dX5_readHeard_72 : decode cX5_readHeard 72 = .ok (.if_icmp .ne 5, 3) := by decide +kernel
theorem dX5_readHeard_75 : decode cX5_readHeard 75 = .ok (.iconst 0, 1) := by decide +kernel
theorem dX5_readHeard_76 : decode cX5_readHeard 76 = .ok (.ireturn, 1) := by decide +kernel
theorem dX5_readHeard_77 : decode cX5_readHeard 77 = .ok (.aload_n 0, 1) := by decide +kernel
theorem dX5_readHeard_78 : decode cX5_readHeard 78 = .ok (.getfield 18, 3) := by decide +kernel
theorem dX5_readHeard_81 : decode cX5_readHeard 81 = .ok (.getfield 213, 3) := by decide +kernel
theorem dX5_readHeard_84 : decode cX5_readHeard 84 = .ok (.iload_n 1, 1) := by decide +kernel
theorem dX5_readHeard_85 : decode cX5_readHeard 85 = .ok (.iaload, 1) := by decide +kernel
theorem dX5_readHeard_86 : decode cX5_readHeard 86 = .ok (.iload_n 2, 1) := by decide +kernel
theorem dX5_readHeard_87 : decode cX5_readHeard 87 = .ok (.ishr, 1) := by decide +kernel
theorem dX5_readHeard_88 : decode cX5_readHeard 88 = .ok (.iconst 1, 1) := by decide +kernel
theorem dX5_readHeard_89 : decode cX5_readHeard 89 = .ok (.iand, 1) := by decide +kernel
theorem dX5_readHeard_90 : decode cX5_readHeard 90 = .ok (.ifCond .eq 9, 3) := by decide +kernel
theorem dX5_readHeard_93 : decode cX5_readHeard 93 = .ok (.aload_n 0, 1) := by decide +kernel
theorem dX5_readHeard_94 : decode cX5_readHeard 94 = .ok (.iconst 3, 1) := by decide +kernel
theorem dX5_readHeard_95 : decode cX5_readHeard 95 = .ok (.invokevirtual 68, 3) := by decide +kernel
theorem dX5_readHeard_98 : decode cX5_readHeard 98 = .ok (.ireturn, 1) := by decide +kernel
theorem dX5_readHeard_99 : decode cX5_readHeard 99 = .ok (.aload_n 0, 1) := by decide +kernel
theorem dX5_readHeard_100 : decode cX5_readHeard 100 = .ok (.invokevirtual 55, 3) := by decide +kernel
theorem dX5_readHeard_103 : decode cX5_readHeard 103 = .ok (.aload_n 0, 1) := by decide +kernel
theorem dX5_readHeard_104 : decode cX5_readHeard 104 = .ok (.getfield 18, 3) := by decide +kernel
theorem dX5_readHeard_107 : decode cX5_readHeard 107 = .ok (.getfield 213, 3) := by decide +kernel
theorem dX5_readHeard_110 : decode cX5_readHeard 110 = .ok (.iload_n 1, 1) := by decide +kernel
theorem dX5_readHeard_111 : decode cX5_readHeard 111 = .ok (.dup2, 1) := by decide +kernel
theorem dX5_readHeard_112 : decode cX5_readHeard 112 = .ok (.iaload, 1) := by decide +kernel
theorem dX5_readHeard_113 : decode cX5_readHeard 113 = .ok (.iconst 1, 1) := by decide +kernel
theorem dX5_readHeard_114 : decode cX5_readHeard 114 = .ok (.iload_n 2, 1) := by decide +kernel
theorem dX5_readHeard_115 : decode cX5_readHeard 115 = .ok (.ishl, 1) := by decide +kernel
theorem dX5_readHeard_116 : decode cX5_readHeard 116 = .ok (.ior, 1) := by decide +kernel
theorem dX5_readHeard_117 : decode cX5_readHeard 117 = .ok (.iastore, 1) := by decide +kernel
theorem dX5_readHeard_118 : decode cX5_readHeard 118 = .ok (.aload_n 0, 1) := by decide +kernel
theorem dX5_readHeard_119 : decode cX5_readHeard 119 = .ok (.getfield 18, 3) := by decide +kernel
theorem dX5_readHeard_122 : decode cX5_readHeard 122 = .ok (.dup, 1) := by decide +kernel
theorem dX5_readHeard_123 : decode cX5_readHeard 123 = .ok (.getfield 210, 3) := by decide +kernel
theorem dX5_readHeard_126 : decode cX5_readHeard 126 = .ok (.iconst 1, 1) := by decide +kernel
theorem dX5_readHeard_127 : decode cX5_readHeard 127 = .ok (.iadd, 1) := by decide +kernel
theorem dX5_readHeard_128 : decode cX5_readHeard 128 = .ok (.putfield 210, 3) := by decide +kernel
theorem dX5_readHeard_131 : decode cX5_readHeard 131 = .ok (.iconst 1, 1) := by decide +kernel
theorem dX5_readHeard_132 : decode cX5_readHeard 132 = .ok (.ireturn, 1) := by decide +kernel
theorem dX5_readHouse_0 : decode cX5_readHouse 0 = .ok (.aload_n 0, 1) := by decide +kernel
theorem dX5_readHouse_1 : decode cX5_readHouse 1 = .ok (.getfield 18, 3) := by decide +kernel
theorem dX5_readHouse_4 : decode cX5_readHouse 4 = .ok (.getfield 194, 3) := by decide +kernel
theorem dX5_readHouse_7 : decode cX5_readHouse 7 = .ok (.istore_n 1, 1) := by decide +kernel
theorem dX5_readHouse_8 : decode cX5_readHouse 8 = .ok (.aload_n 0, 1) := by decide +kernel
theorem dX5_readHouse_9 : decode cX5_readHouse 9 = .ok (.iconst 0, 1) := by decide +kernel
theorem dX5_readHouse_10 : decode cX5_readHouse 10 = .ok (.iload_n 1, 1) := by decide +kernel
theorem dX5_readHouse_11 : decode cX5_readHouse 11 = .ok (.iconst 5, 1) := by decide +kernel
theorem dX5_readHouse_12 : decode cX5_readHouse 12 = .ok (.if_icmp .lt 7, 3) := by decide +kernel
theorem dX5_readHouse_15 : decode cX5_readHouse 15 = .ok (.iconst 1, 1) := by decide +kernel
theorem dX5_readHouse_16 : decode cX5_readHouse 16 = .ok (.goto 4, 3) := by decide +kernel
theorem dX5_readHouse_19 : decode cX5_readHouse 19 = .ok (.iconst 0, 1) := by decide +kernel
theorem dX5_readHouse_20 : decode cX5_readHouse 20 = .ok (.invokevirtual 160, 3) := by decide +kernel
theorem dX5_readHouse_23 : decode cX5_readHouse 23 = .ok (.ifCond .eq 10, 3) := by decide +kernel
theorem dX5_readHouse_26 : decode cX5_readHouse 26 = .ok (.aload_n 0, 1) := by decide +kernel
theorem dX5_readHouse_27 : decode cX5_readHouse 27 = .ok (.invokevirtual 164, 3) := by decide +kernel
theorem dX5_readHouse_30 : decode cX5_readHouse 30 = .ok (.ifCond .ne 5, 3) := by decide +kernel
theorem dX5_readHouse_33 : decode cX5_readHouse 33 = .ok (.iconst 0, 1) := by decide +kernel
theorem dX5_readHouse_34 : decode cX5_readHouse 34 = .ok (.ireturn, 1) := by decide +kernel
theorem dX5_readHouse_35 : decode cX5_readHouse 35 = .ok (.aload_n 0, 1) := by decide +kernel
theorem dX5_readHouse_36 : decode cX5_readHouse 36 = .ok (.getfield 26, 3) := by decide +kernel
theorem dX5_readHouse_39 : decode cX5_readHouse 39 = .ok (.iload_n 1, 1) := by decide +kernel
theorem dX5_readHouse_40 : decode cX5_readHouse 40 = .ok (.aload_n 0, 1) := by decide +kernel
theorem dX5_readHouse_41 : decode cX5_readHouse 41 = .ok (.getfield 88, 3) := by decide +kernel
theorem dX5_readHouse_44 : decode cX5_readHouse 44 = .ok (.lastore, 1) := by decide +kernel
theorem dX5_readHouse_45 : decode cX5_readHouse 45 = .ok (.aload_n 0, 1) := by decide +kernel
theorem dX5_readHouse_46 : decode cX5_readHouse 46 = .ok (.invokevirtual 55, 3) := by decide +kernel
theorem dX5_readHouse_49 : decode cX5_readHouse 49 = .ok (.aload_n 0, 1) := by decide +kernel
theorem dX5_readHouse_50 : decode cX5_readHouse 50 = .ok (.ldc 197, 2) := by decide +kernel
theorem dX5_readHouse_52 : decode cX5_readHouse 52 = .ok (.invokevirtual 147, 3) := by decide +kernel
theorem dX5_readHouse_55 : decode cX5_readHouse 55 = .ok (.ifCond .eq 13, 3) := by decide +kernel
theorem dX5_readHouse_58 : decode cX5_readHouse 58 = .ok (.aload_n 0, 1) := by decide +kernel
theorem dX5_readHouse_59 : decode cX5_readHouse 59 = .ok (.iconst 0, 1) := by decide +kernel
theorem dX5_readHouse_60 : decode cX5_readHouse 60 = .ok (.bipush 99, 2) := by decide +kernel
theorem dX5_readHouse_62 : decode cX5_readHouse 62 = .ok (.invokevirtual 150, 3) := by decide +kernel
theorem dX5_readHouse_65 : decode cX5_readHouse 65 = .ok (.ifCond .ne 5, 3) := by decide +kernel
theorem dX5_readHouse_68 : decode cX5_readHouse 68 = .ok (.iconst 0, 1) := by decide +kernel
theorem dX5_readHouse_69 : decode cX5_readHouse 69 = .ok (.ireturn, 1) := by decide +kernel
theorem dX5_readHouse_70 : decode cX5_readHouse 70 = .ok (.aload_n 0, 1) := by decide +kernel
theorem dX5_readHouse_71 : decode cX5_readHouse 71 = .ok (.getfield 18, 3) := by decide +kernel
theorem dX5_readHouse_74 : decode cX5_readHouse 74 = .ok (.getfield 199, 3) := by decide +kernel
theorem dX5_readHouse_77 : decode cX5_readHouse 77 = .ok (.iload_n 1, 1) := by decide +kernel
theorem dX5_readHouse_78 : decode cX5_readHouse 78 = .ok (.aload_n 0, 1) := by decide +kernel
theorem dX5_readHouse_79 : decode cX5_readHouse 79 = .ok (.getfield 94, 3) := by decide +kernel
theorem dX5_readHouse_82 : decode cX5_readHouse 82 = .ok (.iastore, 1) := by decide +kernel
theorem dX5_readHouse_83 : decode cX5_readHouse 83 = .ok (.aload_n 0, 1) := by decide +kernel
theorem dX5_readHouse_84 : decode cX5_readHouse 84 = .ok (.ldc 202, 2) := by decide +kernel
theorem dX5_readHouse_86 : decode cX5_readHouse 86 = .ok (.invokevirtual 147, 3) := by decide +kernel
theorem dX5_readHouse_89 : decode cX5_readHouse 89 = .ok (.ifCond .eq 13, 3) := by decide +kernel
theorem dX5_readHouse_92 : decode cX5_readHouse 92 = .ok (.aload_n 0, 1) := by decide +kernel
theorem dX5_readHouse_93 : decode cX5_readHouse 93 = .ok (.iconst 0, 1) := by decide +kernel
theorem dX5_readHouse_94 : decode cX5_readHouse 94 = .ok (.bipush 23, 2) := by decide +kernel
theorem dX5_readHouse_96 : decode cX5_readHouse 96 = .ok (.invokevirtual 150, 3) := by decide +kernel
theorem dX5_readHouse_99 : decode cX5_readHouse 99 = .ok (.ifCond .ne 5, 3) := by decide +kernel
theorem dX5_readHouse_102 : decode cX5_readHouse 102 = .ok (.iconst 0, 1) := by decide +kernel
theorem dX5_readHouse_103 : decode cX5_readHouse 103 = .ok (.ireturn, 1) := by decide +kernel
theorem dX5_readHouse_104 : decode cX5_readHouse 104 = .ok (.aload_n 0, 1) := by decide +kernel
theorem dX5_readHouse_105 : decode cX5_readHouse 105 = .ok (.getfield 18, 3) := by decide +kernel
theorem dX5_readHouse_108 : decode cX5_readHouse 108 = .ok (.getfield 204, 3) := by decide +kernel
theorem dX5_readHouse_111 : decode cX5_readHouse 111 = .ok (.iload_n 1, 1) := by decide +kernel
theorem dX5_readHouse_112 : decode cX5_readHouse 112 = .ok (.aload_n 0, 1) := by decide +kernel
theorem dX5_readHouse_113 : decode cX5_readHouse 113 = .ok (.getfield 94, 3) := by decide +kernel
theorem dX5_readHouse_116 : decode cX5_readHouse 116 = .ok (.iastore, 1) := by decide +kernel
theorem dX5_readHouse_117 : decode cX5_readHouse 117 = .ok (.aload_n 0, 1) := by decide +kernel
theorem dX5_readHouse_118 : decode cX5_readHouse 118 = .ok (.ldc 206, 2) := by decide +kernel
theorem dX5_readHouse_120 : decode cX5_readHouse 120 = .ok (.invokevirtual 147, 3) := by decide +kernel
theorem dX5_readHouse_123 : decode cX5_readHouse 123 = .ok (.ifCond .eq 21, 3) := by decide +kernel
theorem dX5_readHouse_126 : decode cX5_readHouse 126 = .ok (.aload_n 0, 1) := by decide +kernel
theorem dX5_readHouse_127 : decode cX5_readHouse 127 = .ok (.aload_n 0, 1) := by decide +kernel
theorem dX5_readHouse_128 : decode cX5_readHouse 128 = .ok (.getfield 18, 3) := by decide +kernel
theorem dX5_readHouse_131 : decode cX5_readHouse 131 = .ok (.getfield 204, 3) := by decide +kernel
theorem dX5_readHouse_134 : decode cX5_readHouse 134 = .ok (.iload_n 1, 1) := by decide +kernel
theorem dX5_readHouse_135 : decode cX5_readHouse 135 = .ok (.iaload, 1) := by decide +kernel
theorem dX5_readHouse_136 : decode cX5_readHouse 136 = .ok (.bipush 23, 2) := by decide +kernel
theorem dX5_readHouse_138 : decode cX5_readHouse 138 = .ok (.invokevirtual 150, 3) := by decide +kernel
theorem dX5_readHouse_141 : decode cX5_readHouse 141 = .ok (.ifCond .ne 5, 3) := by decide +kernel
theorem dX5_readHouse_144 : decode cX5_readHouse 144 = .ok (.iconst 0, 1) := by decide +kernel
theorem dX5_readHouse_145 : decode cX5_readHouse 145 = .ok (.ireturn, 1) := by decide +kernel
theorem dX5_readHouse_146 : decode cX5_readHouse 146 = .ok (.aload_n 0, 1) := by decide +kernel
theorem dX5_readHouse_147 : decode cX5_readHouse 147 = .ok (.getfield 18, 3) := by decide +kernel
theorem dX5_readHouse_150 : decode cX5_readHouse 150 = .ok (.getfield 208, 3) := by decide +kernel
theorem dX5_readHouse_153 : decode cX5_readHouse 153 = .ok (.iload_n 1, 1) := by decide +kernel
theorem dX5_readHouse_154 : decode cX5_readHouse 154 = .ok (.aload_n 0, 1) := by decide +kernel
theorem dX5_readHouse_155 : decode cX5_readHouse 155 = .ok (.getfield 94, 3) := by decide +kernel
theorem dX5_readHouse_158 : decode cX5_readHouse 158 = .ok (.iastore, 1) := by decide +kernel
theorem dX5_readHouse_159 : decode cX5_readHouse 159 = .ok (.aload_n 0, 1) := by decide +kernel
theorem dX5_readHouse_160 : decode cX5_readHouse 160 = .ok (.getfield 18, 3) := by decide +kernel
theorem dX5_readHouse_163 : decode cX5_readHouse 163 = .ok (.dup, 1) := by decide +kernel
theorem dX5_readHouse_164 : decode cX5_readHouse 164 = .ok (.getfield 194, 3) := by decide +kernel
theorem dX5_readHouse_167 : decode cX5_readHouse 167 = .ok (.iconst 1, 1) := by decide +kernel
theorem dX5_readHouse_168 : decode cX5_readHouse 168 = .ok (.iadd, 1) := by decide +kernel
theorem dX5_readHouse_169 : decode cX5_readHouse 169 = .ok (.putfield 194, 3) := by decide +kernel
theorem dX5_readHouse_172 : decode cX5_readHouse 172 = .ok (.iconst 1, 1) := by decide +kernel
theorem dX5_readHouse_173 : decode cX5_readHouse 173 = .ok (.ireturn, 1) := by decide +kernel
theorem dX5_isNewName_0 : decode cX5_isNewName 0 = .ok (.aload_n 0, 1) := by decide +kernel
theorem dX5_isNewName_1 : decode cX5_isNewName 1 = .ok (.invokevirtual 225, 3) := by decide +kernel
theorem dX5_isNewName_4 : decode cX5_isNewName 4 = .ok (.ifCond .ne 9, 3) := by decide +kernel
theorem dX5_isNewName_7 : decode cX5_isNewName 7 = .ok (.aload_n 0, 1) := by decide +kernel
theorem dX5_isNewName_8 : decode cX5_isNewName 8 = .ok (.iconst 1, 1) := by decide +kernel
theorem dX5_isNewName_9 : decode cX5_isNewName 9 = .ok (.invokevirtual 68, 3) := by decide +kernel
theorem dX5_isNewName_12 : decode cX5_isNewName 12 = .ok (.ireturn, 1) := by decide +kernel
theorem dX5_isNewName_13 : decode cX5_isNewName 13 = .ok (.aload_n 0, 1) := by decide +kernel
theorem dX5_isNewName_14 : decode cX5_isNewName 14 = .ok (.aload_n 0, 1) := by decide +kernel
theorem dX5_isNewName_15 : decode cX5_isNewName 15 = .ok (.getfield 22, 3) := by decide +kernel
theorem dX5_isNewName_18 : decode cX5_isNewName 18 = .ok (.aload_n 0, 1) := by decide +kernel
theorem dX5_isNewName_19 : decode cX5_isNewName 19 = .ok (.getfield 18, 3) := by decide +kernel
theorem dX5_isNewName_22 : decode cX5_isNewName 22 = .ok (.getfield 65, 3) := by decide +kernel
theorem dX5_isNewName_25 : decode cX5_isNewName 25 = .ok (.invokevirtual 228, 3) := by decide +kernel
theorem dX5_isNewName_28 : decode cX5_isNewName 28 = .ok (.iconst (-1), 1) := by decide +kernel
theorem dX5_isNewName_29 : decode cX5_isNewName 29 = .ok (.if_icmp .ne 22, 3) := by decide +kernel
theorem dX5_isNewName_32 : decode cX5_isNewName 32 = .ok (.aload_n 0, 1) := by decide +kernel
theorem dX5_isNewName_33 : decode cX5_isNewName 33 = .ok (.aload_n 0, 1) := by decide +kernel
theorem dX5_isNewName_34 : decode cX5_isNewName 34 = .ok (.getfield 26, 3) := by decide +kernel
theorem dX5_isNewName_37 : decode cX5_isNewName 37 = .ok (.aload_n 0, 1) := by decide +kernel
theorem dX5_isNewName_38 : decode cX5_isNewName 38 = .ok (.getfield 18, 3) := by decide +kernel
theorem dX5_isNewName_41 : decode cX5_isNewName 41 = .ok (.getfield 194, 3) := by decide +kernel
theorem dX5_isNewName_44 : decode cX5_isNewName 44 = .ok (.invokevirtual 228, 3) := by decide +kernel
theorem dX5_isNewName_47 : decode cX5_isNewName 47 = .ok (.iconst (-1), 1) := by decide +kernel
theorem dX5_isNewName_48 : decode cX5_isNewName 48 = .ok (.if_icmp .eq 7, 3) := by decide +kernel
theorem dX5_isNewName_51 : decode cX5_isNewName 51 = .ok (.iconst 1, 1) := by decide +kernel
theorem dX5_isNewName_52 : decode cX5_isNewName 52 = .ok (.goto 4, 3) := by decide +kernel
theorem dX5_isNewName_55 : decode cX5_isNewName 55 = .ok (.iconst 0, 1) := by decide +kernel
theorem dX5_isNewName_56 : decode cX5_isNewName 56 = .ok (.istore_n 1, 1) := by decide +kernel
theorem dX5_isNewName_57 : decode cX5_isNewName 57 = .ok (.iload_n 1, 1) := by decide +kernel
theorem dX5_isNewName_58 : decode cX5_isNewName 58 = .ok (.ifCond .eq 11, 3) := by decide +kernel
theorem dX5_isNewName_61 : decode cX5_isNewName 61 = .ok (.aload_n 0, 1) := by decide +kernel
theorem dX5_isNewName_62 : decode cX5_isNewName 62 = .ok (.iconst 3, 1) := by decide +kernel
theorem dX5_isNewName_63 : decode cX5_isNewName 63 = .ok (.invokevirtual 68, 3) := by decide +kernel
theorem dX5_isNewName_66 : decode cX5_isNewName 66 = .ok (.ifCond .eq 7, 3) := by decide +kernel
theorem dX5_isNewName_69 : decode cX5_isNewName 69 = .ok (.iconst 1, 1) := by decide +kernel
theorem dX5_isNewName_70 : decode cX5_isNewName 70 = .ok (.goto 4, 3) := by decide +kernel
theorem dX5_isNewName_73 : decode cX5_isNewName 73 = .ok (.iconst 0, 1) := by decide +kernel
theorem dX5_isNewName_74 : decode cX5_isNewName 74 = .ok (.ireturn, 1) := by decide +kernel
theorem dX5_passWord_0 : decode cX5_passWord 0 = .ok (.aload_n 0, 1) := by decide +kernel
theorem dX5_passWord_1 : decode cX5_passWord 1 = .ok (.aload_n 1, 1) := by decide +kernel
theorem dX5_passWord_2 : decode cX5_passWord 2 = .ok (.invokevirtual 108, 3) := by decide +kernel
theorem dX5_passWord_5 : decode cX5_passWord 5 = .ok (.ifCond .ne 9, 3) := by decide +kernel
theorem dX5_passWord_8 : decode cX5_passWord 8 = .ok (.aload_n 0, 1) := by decide +kernel
theorem dX5_passWord_9 : decode cX5_passWord 9 = .ok (.iconst 1, 1) := by decide +kernel
theorem dX5_passWord_10 : decode cX5_passWord 10 = .ok (.invokevirtual 68, 3) := by decide +kernel
theorem dX5_passWord_13 : decode cX5_passWord 13 = .ok (.ireturn, 1) := by decide +kernel
theorem dX5_passWord_14 : decode cX5_passWord 14 = .ok (.aload_n 0, 1) := by decide +kernel
theorem dX5_passWord_15 : decode cX5_passWord 15 = .ok (.invokevirtual 55, 3) := by decide +kernel
theorem dX5_passWord_18 : decode cX5_passWord 18 = .ok (.iconst 1, 1) := by decide +kernel
theorem dX5_passWord_19 : decode cX5_passWord 19 = .ok (.ireturn, 1) := by decide +kernel
theorem dX5_passWhole_0 : decode cX5_passWhole 0 = .ok (.aload_n 0, 1) := by decide +kernel
theorem dX5_passWhole_1 : decode cX5_passWhole 1 = .ok (.getfield 62, 3) := by decide +kernel
theorem dX5_passWhole_4 : decode cX5_passWhole 4 = .ok (.iconst 3, 1) := by decide +kernel
theorem dX5_passWhole_5 : decode cX5_passWhole 5 = .ok (.if_icmp .eq 9, 3) := by decide +kernel
theorem dX5_passWhole_8 : decode cX5_passWhole 8 = .ok (.aload_n 0, 1) := by decide +kernel
theorem dX5_passWhole_9 : decode cX5_passWhole 9 = .ok (.iconst 1, 1) := by decide +kernel
theorem dX5_passWhole_10 : decode cX5_passWhole 10 = .ok (.invokevirtual 68, 3) := by decide +kernel
theorem dX5_passWhole_13 : decode cX5_passWhole 13 = .ok (.ireturn, 1) := by decide +kernel
theorem dX5_passWhole_14 : decode cX5_passWhole 14 = .ok (.aload_n 0, 1) := by decide +kernel
theorem dX5_passWhole_15 : decode cX5_passWhole 15 = .ok (.getfield 94, 3) := by decide +kernel
theorem dX5_passWhole_18 : decode cX5_passWhole 18 = .ok (.iload_n 1, 1) := by decide +kernel
theorem dX5_passWhole_19 : decode cX5_passWhole 19 = .ok (.if_icmp .lt 11, 3) := by decide +kernel
theorem dX5_passWhole_22 : decode cX5_passWhole 22 = .ok (.aload_n 0, 1) := by decide +kernel
theorem dX5_passWhole_23 : decode cX5_passWhole 23 = .ok (.getfield 94, 3) := by decide +kernel
theorem dX5_passWhole_26 : decode cX5_passWhole 26 = .ok (.iload_n 2, 1) := by decide +kernel
theorem dX5_passWhole_27 : decode cX5_passWhole 27 = .ok (.if_icmp .le 9, 3) := by decide +kernel
theorem dX5_passWhole_30 : decode cX5_passWhole 30 = .ok (.aload_n 0, 1) := by decide +kernel
theorem dX5_passWhole_31 : decode cX5_passWhole 31 = .ok (.iconst 4, 1) := by decide +kernel
theorem dX5_passWhole_32 : decode cX5_passWhole 32 = .ok (.invokevirtual 68, 3) := by decide +kernel
theorem dX5_passWhole_35 : decode cX5_passWhole 35 = .ok (.ireturn, 1) := by decide +kernel
theorem dX5_passWhole_36 : decode cX5_passWhole 36 = .ok (.aload_n 0, 1) := by decide +kernel
theorem dX5_passWhole_37 : decode cX5_passWhole 37 = .ok (.getfield 94, 3) := by decide +kernel
theorem dX5_passWhole_40 : decode cX5_passWhole 40 = .ok (.istore_n 3, 1) := by decide +kernel
theorem dX5_passWhole_41 : decode cX5_passWhole 41 = .ok (.aload_n 0, 1) := by decide +kernel
theorem dX5_passWhole_42 : decode cX5_passWhole 42 = .ok (.invokevirtual 55, 3) := by decide +kernel
theorem dX5_passWhole_45 : decode cX5_passWhole 45 = .ok (.aload_n 0, 1) := by decide +kernel
theorem dX5_passWhole_46 : decode cX5_passWhole 46 = .ok (.iload_n 3, 1) := by decide +kernel
theorem dX5_passWhole_47 : decode cX5_passWhole 47 = .ok (.putfield 94, 3) := by decide +kernel
theorem dX5_passWhole_50 : decode cX5_passWhole 50 = .ok (.iconst 1, 1) := by decide +kernel
theorem dX5_passWhole_51 : decode cX5_passWhole 51 = .ok (.ireturn, 1) := by decide +kernel
theorem dX5_readFollows_0 : decode cX5_readFollows 0 = .ok (.aload_n 0, 1) := by decide +kernel
theorem dX5_readFollows_1 : decode cX5_readFollows 1 = .ok (.iconst 0, 1) := by decide +kernel
theorem dX5_readFollows_2 : decode cX5_readFollows 2 = .ok (.aload_n 0, 1) := by decide +kernel
theorem dX5_readFollows_3 : decode cX5_readFollows 3 = .ok (.getfield 18, 3) := by decide +kernel
theorem dX5_readFollows_6 : decode cX5_readFollows 6 = .ok (.getfield 182, 3) := by decide +kernel
theorem dX5_readFollows_9 : decode cX5_readFollows 9 = .ok (.bipush 14, 2) := by decide +kernel
theorem dX5_readFollows_11 : decode cX5_readFollows 11 = .ok (.if_icmp .lt 7, 3) := by decide +kernel
theorem dX5_readFollows_14 : decode cX5_readFollows 14 = .ok (.iconst 1, 1) := by decide +kernel
theorem dX5_readFollows_15 : decode cX5_readFollows 15 = .ok (.goto 4, 3) := by decide +kernel
theorem dX5_readFollows_18 : decode cX5_readFollows 18 = .ok (.iconst 0, 1) := by decide +kernel
theorem dX5_readFollows_19 : decode cX5_readFollows 19 = .ok (.invokevirtual 160, 3) := by decide +kernel
theorem dX5_readFollows_22 : decode cX5_readFollows 22 = .ok (.ifCond .ne 5, 3) := by decide +kernel
theorem dX5_readFollows_25 : decode cX5_readFollows 25 = .ok (.iconst 0, 1) := by decide +kernel
theorem dX5_readFollows_26 : decode cX5_readFollows 26 = .ok (.ireturn, 1) := by decide +kernel
theorem dX5_readFollows_27 : decode cX5_readFollows 27 = .ok (.aload_n 0, 1) := by decide +kernel
theorem dX5_readFollows_28 : decode cX5_readFollows 28 = .ok (.aload_n 0, 1) := by decide +kernel
theorem dX5_readFollows_29 : decode cX5_readFollows 29 = .ok (.getfield 22, 3) := by decide +kernel
theorem dX5_readFollows_32 : decode cX5_readFollows 32 = .ok (.aload_n 0, 1) := by decide +kernel
theorem dX5_readFollows_33 : decode cX5_readFollows 33 = .ok (.getfield 18, 3) := by decide +kernel
theorem dX5_readFollows_36 : decode cX5_readFollows 36 = .ok (.getfield 65, 3) := by decide +kernel
theorem dX5_readFollows_39 : decode cX5_readFollows 39 = .ok (.invokevirtual 184, 3) := by decide +kernel
theorem dX5_readFollows_42 : decode cX5_readFollows 42 = .ok (.istore_n 1, 1) := by decide +kernel
theorem dX5_readFollows_43 : decode cX5_readFollows 43 = .ok (.iload_n 1, 1) := by decide +kernel
theorem dX5_readFollows_44 : decode cX5_readFollows 44 = .ok (.iconst (-1), 1) := by decide +kernel
theorem dX5_readFollows_45 : decode cX5_readFollows 45 = .ok (.if_icmp .ne 5, 3) := by decide +kernel
theorem dX5_readFollows_48 : decode cX5_readFollows 48 = .ok (.iconst 0, 1) := by decide +kernel
theorem dX5_readFollows_49 : decode cX5_readFollows 49 = .ok (.ireturn, 1) := by decide +kernel
theorem dX5_readFollows_50 : decode cX5_readFollows 50 = .ok (.aload_n 0, 1) := by decide +kernel
theorem dX5_readFollows_51 : decode cX5_readFollows 51 = .ok (.invokevirtual 55, 3) := by decide +kernel
theorem dX5_readFollows_54 : decode cX5_readFollows 54 = .ok (.aload_n 0, 1) := by decide +kernel
theorem dX5_readFollows_55 : decode cX5_readFollows 55 = .ok (.aload_n 0, 1) := by decide +kernel
theorem dX5_readFollows_56 : decode cX5_readFollows 56 = .ok (.getfield 22, 3) := by decide +kernel
theorem dX5_readFollows_59 : decode cX5_readFollows 59 = .ok (.aload_n 0, 1) := by decide +kernel
theorem dX5_readFollows_60 : decode cX5_readFollows 60 = .ok (.getfield 18, 3) := by decide +kernel
theorem dX5_readFollows_63 : decode cX5_readFollows 63 = .ok (.getfield 65, 3) := by decide +kernel
theorem dX5_readFollows_66 : decode cX5_readFollows 66 = .ok (.invokevirtual 184, 3) := by decide +kernel
theorem dX5_readFollows_69 : decode cX5_readFollows 69 = .ok (.istore_n 2, 1) := by decide +kernel
theorem dX5_readFollows_70 : decode cX5_readFollows 70 = .ok (.iload_n 2, 1) := by decide +kernel
theorem dX5_readFollows_71 : decode cX5_readFollows 71 = .ok (.iconst (-1), 1) := by decide +kernel
theorem dX5_readFollows_72 : decode cX5_readFollows 72 = .ok (.if_icmp .ne 5, 3) := by decide +kernel
theorem dX5_readFollows_75 : decode cX5_readFollows 75 = .ok (.iconst 0, 1) := by decide +kernel
theorem dX5_readFollows_76 : decode cX5_readFollows 76 = .ok (.ireturn, 1) := by decide +kernel
theorem dX5_readFollows_77 : decode cX5_readFollows 77 = .ok (.iload_n 2, 1) := by decide +kernel
theorem dX5_readFollows_78 : decode cX5_readFollows 78 = .ok (.iload_n 1, 1) := by decide +kernel
theorem dX5_readFollows_79 : decode cX5_readFollows 79 = .ok (.if_icmp .eq 15, 3) := by decide +kernel
theorem dX5_readFollows_82 : decode cX5_readFollows 82 = .ok (.aload_n 0, 1) := by decide +kernel
theorem dX5_readFollows_83 : decode cX5_readFollows 83 = .ok (.getfield 18, 3) := by decide +kernel
theorem dX5_readFollows_86 : decode cX5_readFollows 86 = .ok (.iload_n 1, 1) := by decide +kernel
theorem dX5_readFollows_87 : decode cX5_readFollows 87 = .ok (.iload_n 2, 1) := by decide +kernel
theorem dX5_readFollows_88 : decode cX5_readFollows 88 = .ok (.invokevirtual 188, 3) := by decide +kernel
theorem dX5_readFollows_91 : decode cX5_readFollows 91 = .ok (.ifCond .eq 9, 3) := by decide +kernel
theorem dX5_readFollows_94 : decode cX5_readFollows 94 = .ok (.aload_n 0, 1) := by decide +kernel
theorem dX5_readFollows_95 : decode cX5_readFollows 95 = .ok (.iconst 3, 1) := by decide +kernel
theorem dX5_readFollows_96 : decode cX5_readFollows 96 = .ok (.invokevirtual 68, 3) := by decide +kernel
theorem dX5_readFollows_99 : decode cX5_readFollows 99 = .ok (.ireturn, 1) := by decide +kernel
theorem dX5_readFollows_100 : decode cX5_readFollows 100 = .ok (.aload_n 0, 1) := by decide +kernel
theorem dX5_readFollows_101 : decode cX5_readFollows 101 = .ok (.invokevirtual 55, 3) := by decide +kernel
theorem dX5_readFollows_104 : decode cX5_readFollows 104 = .ok (.aload_n 0, 1) := by decide +kernel
theorem dX5_readFollows_105 : decode cX5_readFollows 105 = .ok (.getfield 18, 3) := by decide +kernel
theorem dX5_readFollows_108 : decode cX5_readFollows 108 = .ok (.getfield 191, 3) := by decide +kernel
theorem dX5_readFollows_111 : decode cX5_readFollows 111 = .ok (.iload_n 1, 1) := by decide +kernel
theorem dX5_readFollows_112 : decode cX5_readFollows 112 = .ok (.dup2, 1) := by decide +kernel
theorem dX5_readFollows_113 : decode cX5_readFollows 113 = .ok (.iaload, 1) := by decide +kernel
theorem dX5_readFollows_114 : decode cX5_readFollows 114 = .ok (.iconst 1, 1) := by decide +kernel
theorem dX5_readFollows_115 : decode cX5_readFollows 115 = .ok (.iload_n 2, 1) := by decide +kernel
theorem dX5_readFollows_116 : decode cX5_readFollows 116 = .ok (.ishl, 1) := by decide +kernel
theorem dX5_readFollows_117 : decode cX5_readFollows 117 = .ok (.ior, 1) := by decide +kernel
theorem dX5_readFollows_118 : decode cX5_readFollows 118 = .ok (.iastore, 1) := by decide +kernel
theorem dX5_readFollows_119 : decode cX5_readFollows 119 = .ok (.aload_n 0, 1) := by decide +kernel
theorem dX5_readFollows_120 : decode cX5_readFollows 120 = .ok (.getfield 18, 3) := by decide +kernel
theorem dX5_readFollows_123 : decode cX5_readFollows 123 = .ok (.dup, 1) := by decide +kernel
theorem dX5_readFollows_124 : decode cX5_readFollows 124 = .ok (.getfield 182, 3) := by decide +kernel
theorem dX5_readFollows_127 : decode cX5_readFollows 127 = .ok (.iconst 1, 1) := by decide +kernel
theorem dX5_readFollows_128 : decode cX5_readFollows 128 = .ok (.iadd, 1) := by decide +kernel
theorem dX5_readFollows_129 : decode cX5_readFollows 129 = .ok (.putfield 182, 3) := by decide +kernel
theorem dX5_readFollows_132 : decode cX5_readFollows 132 = .ok (.iconst 1, 1) := by decide +kernel
theorem dX5_readFollows_133 : decode cX5_readFollows 133 = .ok (.ireturn, 1) := by decide +kernel
theorem dX8_mayFollow_0 : decode cX8_mayFollow 0 = .ok (.aload_n 0, 1) := by decide +kernel
theorem dX8_mayFollow_1 : decode cX8_mayFollow 1 = .ok (.getfield 15, 3) := by decide +kernel
theorem dX8_mayFollow_4 : decode cX8_mayFollow 4 = .ok (.iload_n 1, 1) := by decide +kernel
theorem dX8_mayFollow_5 : decode cX8_mayFollow 5 = .ok (.iaload, 1) := by decide +kernel
theorem dX8_mayFollow_6 : decode cX8_mayFollow 6 = .ok (.iload_n 2, 1) := by decide +kernel
theorem dX8_mayFollow_7 : decode cX8_mayFollow 7 = .ok (.ishr, 1) := by decide +kernel
theorem dX8_mayFollow_8 : decode cX8_mayFollow 8 = .ok (.iconst 1, 1) := by decide +kernel
theorem dX8_mayFollow_9 : decode cX8_mayFollow 9 = .ok (.iand, 1) := by decide +kernel
theorem dX8_mayFollow_10 : decode cX8_mayFollow 10 = .ok (.ifCond .eq 7, 3) := by decide +kernel
theorem dX8_mayFollow_13 : decode cX8_mayFollow 13 = .ok (.iconst 1, 1) := by decide +kernel
theorem dX8_mayFollow_14 : decode cX8_mayFollow 14 = .ok (.goto 4, 3) := by decide +kernel
theorem dX8_mayFollow_17 : decode cX8_mayFollow 17 = .ok (.iconst 0, 1) := by decide +kernel
theorem dX8_mayFollow_18 : decode cX8_mayFollow 18 = .ok (.ireturn, 1) := by decide +kernel
def f_Te_clearS_63 (n : Nat) : Nat → Int32 → k_St → Option k_St
  | 0, _, _ => none
  | k + 1, x1, t => (if (5 : Int32) ≤ x1 then some t else k_gi x1 5 (k_lt (k_sI t 16 x1.toNatClampNeg (0 : Int32)) (fun t_2 => k_lt (x1 + (1 : Int32)) (fun x1_3 => f_Te_clearS_63 n k x1_3 t_2))))
def f_Te_clearS_42 (n : Nat) : Nat → Int32 → k_St → Option k_St
  | 0, _, _ => none
  | k + 1, x1, t => (if (8 : Int32) ≤ x1 then f_Te_clearS_63 n n (0 : Int32) t else k_gi x1 8 (k_lt (k_sI t 12 x1.toNatClampNeg (0 : Int32)) (fun t_2 => k_lt (x1 + (1 : Int32)) (fun x1_3 => f_Te_clearS_42 n k x1_3 t_2))))
def f_Te_clearS (n : Nat) (t : k_St) : Option k_St := k_lt (k_sI t 10 0 (0 : Int32)) (fun t_1 => k_lt (k_sI t_1 10 1 (0 : Int32)) (fun t_2 => k_lt (k_sI t_2 10 2 (0 : Int32)) (fun t_3 => k_lt (k_sI t_3 10 3 (0 : Int32)) (fun t_4 => k_lt (k_sI t_4 10 4 (0 : Int32)) (fun t_5 => k_lt (k_sI t_5 10 5 (0 : Int32)) (fun t_6 => k_lt (k_sI t_6 10 6 (0 : Int32)) (fun t_7 => k_lt (k_sI t_7 10 7 (0 : Int32)) (fun t_8 => f_Te_clearS_42 n n (0 : Int32) t_8))))))))
theorem m_Te_clearS_63 {p : Program} (l : Launch) {e : Env} {s : State} {m : MethodId} {args : Array Value} {below : List Frame} {meth : Method} {c : Code} (G : k_G) (a : Nat → Nat) (n : Nat) {w0 : va_W} {t' : k_St} (hA : k_Amb p s m args meth c cX8_clear 2 "TaleShares$Terrace" G (va_A w0 s.heap.size)) (hr : meth.sig.returnType = none) : ∀ (k : Nat) (x1 : Int32) (t : k_St), f_Te_clearS_63 n k x1 t = some t' → k_Go p l e (k_rm 1) s m args below meth c (k_QV G w0 (k_WX G.2.1 a (.ref (a 10)) t') args s below) 2 G (va_A w0 s.heap.size) (k_WX G.2.1 a (.ref (a 10)) t) 63 [(0, .ref (a 10)), (1, .int x1)] [] := by
  intro k
  induction k with
  | zero => intro x1 t hf; cases hf
  | succ k ih =>
  intro x1 t hf
  rw [f_Te_clearS_63] at hf
  refine k_iload_n (i := 1) hA dX8_clear_63 rfl 1 rfl ?_
  refine k_iconst hA dX8_clear_64 kc_i_5 ?_
  refine k_icmp_ge (tgt := 81) hA dX8_clear_65 rfl (fun hc => ?_) (fun hc => ?_)
  · have hf := k_ift hc hf
    obtain rfl := k_r1 hf
    exact k_vret hA hr dX8_clear_81
  have hf := k_iff hc hf
  obtain ⟨hi_1, hf⟩ := k_gi_e hf
  obtain ⟨t_2, et_2, hf⟩ := k_lt_e hf
  obtain ⟨x1_3, ex1_3, hf⟩ := k_lt_e hf
  refine k_aload_n (i := 0) hA dX8_clear_68 rfl 0 rfl ?_
  refine gt_X_10_13 hA wd_208 dX8_clear_69 ?_
  refine k_iload_n (i := 1) hA dX8_clear_72 rfl 1 rfl ?_
  refine k_iconst hA dX8_clear_73 kc_i_0 ?_
  refine sr_X_16 hA hi_1 et_2 dX8_clear_74 ?_
  refine k_iinc (j := 1) (v := x1_3) (lv' := [(1, .int x1_3), (0, .ref (a 10))]) hA dX8_clear_75 rfl (k_inc ex1_3 kc_i_1) (Nat.le_of_ble_eq_true rfl) rfl ?_
  refine k_goto (tgt := 63) hA dX8_clear_78 rfl ?_
  refine k_pick (lv' := [(0, .ref (a 10)), (1, .int x1_3)]) [1, 0] rfl ?_
  exact ih x1_3 t_2 hf

theorem m_Te_clearS_42 {p : Program} (l : Launch) {e : Env} {s : State} {m : MethodId} {args : Array Value} {below : List Frame} {meth : Method} {c : Code} (G : k_G) (a : Nat → Nat) (n : Nat) {w0 : va_W} {t' : k_St} (hA : k_Amb p s m args meth c cX8_clear 2 "TaleShares$Terrace" G (va_A w0 s.heap.size)) (hr : meth.sig.returnType = none) : ∀ (k : Nat) (x1 : Int32) (t : k_St), f_Te_clearS_42 n k x1 t = some t' → k_Go p l e (k_rm 1) s m args below meth c (k_QV G w0 (k_WX G.2.1 a (.ref (a 10)) t') args s below) 2 G (va_A w0 s.heap.size) (k_WX G.2.1 a (.ref (a 10)) t) 42 [(0, .ref (a 10)), (1, .int x1)] [] := by
  intro k
  induction k with
  | zero => intro x1 t hf; cases hf
  | succ k ih =>
  intro x1 t hf
  rw [f_Te_clearS_42] at hf
  refine k_iload_n (i := 1) hA dX8_clear_42 rfl 1 rfl ?_
  refine k_bipush hA dX8_clear_43 kc_b_8 ?_
  refine k_icmp_ge (tgt := 61) hA dX8_clear_45 rfl (fun hc => ?_) (fun hc => ?_)
  · have hf := k_ift hc hf
    refine k_iconst hA dX8_clear_61 kc_i_0 ?_
    refine k_istore_n (i := 1) (lv' := [(1, .int (0 : Int32)), (0, .ref (a 10))]) hA dX8_clear_62 rfl rfl (Nat.le_of_ble_eq_true rfl) rfl ?_
    refine k_pick (lv' := [(0, .ref (a 10)), (1, .int (0 : Int32))]) [1, 0] rfl ?_
    exact m_Te_clearS_63 l G a n hA hr n (0 : Int32) t hf
  have hf := k_iff hc hf
  obtain ⟨hi_1, hf⟩ := k_gi_e hf
  obtain ⟨t_2, et_2, hf⟩ := k_lt_e hf
  obtain ⟨x1_3, ex1_3, hf⟩ := k_lt_e hf
  refine k_aload_n (i := 0) hA dX8_clear_48 rfl 0 rfl ?_
  refine gt_X_10_9 hA wd_193 dX8_clear_49 ?_
  refine k_iload_n (i := 1) hA dX8_clear_52 rfl 1 rfl ?_
  refine k_iconst hA dX8_clear_53 kc_i_0 ?_
  refine sr_X_12 hA hi_1 et_2 dX8_clear_54 ?_
  refine k_iinc (j := 1) (v := x1_3) (lv' := [(1, .int x1_3), (0, .ref (a 10))]) hA dX8_clear_55 rfl (k_inc ex1_3 kc_i_1) (Nat.le_of_ble_eq_true rfl) rfl ?_
  refine k_goto (tgt := 42) hA dX8_clear_58 rfl ?_
  refine k_pick (lv' := [(0, .ref (a 10)), (1, .int x1_3)]) [1, 0] rfl ?_
  exact ih x1_3 t_2 hf

theorem m_Te_clearS (l : Launch) (G : k_G) (a : Nat → Nat) (n : Nat) (t : k_St) {t' : k_St} (hf : f_Te_clearS n t = some t') : k_CV l G yX8_clear cX8_clear 2 none 1 (k_WX G.2.1 a (.ref (a 10)) t) [.ref (a 10)] (k_WX G.2.1 a (.ref (a 10)) t') := by
  refine k_startV (lv := [(0, .ref (a 10))]) (by decide +kernel) (Nat.le_of_ble_eq_true rfl) rfl ?_
  intro p e s m args below meth c hA hr
  have hA : k_Amb p s m args meth c cX8_clear 2 "TaleShares$Terrace" G _ := hA
  unfold f_Te_clearS at hf
  obtain ⟨t_1, et_1, hf⟩ := k_lt_e hf
  obtain ⟨t_2, et_2, hf⟩ := k_lt_e hf
  obtain ⟨t_3, et_3, hf⟩ := k_lt_e hf
  obtain ⟨t_4, et_4, hf⟩ := k_lt_e hf
  obtain ⟨t_5, et_5, hf⟩ := k_lt_e hf
  obtain ⟨t_6, et_6, hf⟩ := k_lt_e hf
  obtain ⟨t_7, et_7, hf⟩ := k_lt_e hf
  obtain ⟨t_8, et_8, hf⟩ := k_lt_e hf
  refine k_aload_n (i := 0) hA dX8_clear_0 rfl 0 rfl ?_
  refine k_iconst hA dX8_clear_1 kc_i_0 ?_
  refine pt_X_10_0 hA wd_157 et_1 dX8_clear_2 ?_
  refine k_aload_n (i := 0) hA dX8_clear_5 rfl 0 rfl ?_
  refine k_iconst hA dX8_clear_6 kc_i_0 ?_
  refine pt_X_10_1 hA wd_161 et_2 dX8_clear_7 ?_
  refine k_aload_n (i := 0) hA dX8_clear_10 rfl 0 rfl ?_
  refine k_iconst hA dX8_clear_11 kc_i_0 ?_
  refine pt_X_10_2 hA wd_166 et_3 dX8_clear_12 ?_
  refine k_aload_n (i := 0) hA dX8_clear_15 rfl 0 rfl ?_
  refine k_iconst hA dX8_clear_16 kc_i_0 ?_
  refine pt_X_10_3 hA wd_169 et_4 dX8_clear_17 ?_
  refine k_aload_n (i := 0) hA dX8_clear_20 rfl 0 rfl ?_
  refine k_iconst hA dX8_clear_21 kc_i_0 ?_
  refine pt_X_10_4 hA wd_174 et_5 dX8_clear_22 ?_
  refine k_aload_n (i := 0) hA dX8_clear_25 rfl 0 rfl ?_
  refine k_iconst hA dX8_clear_26 kc_i_0 ?_
  refine pt_X_10_5 hA wd_178 et_6 dX8_clear_27 ?_
  refine k_aload_n (i := 0) hA dX8_clear_30 rfl 0 rfl ?_
  refine k_iconst hA dX8_clear_31 kc_i_0 ?_
  refine pt_X_10_6 hA wd_182 et_7 dX8_clear_32 ?_
  refine k_aload_n (i := 0) hA dX8_clear_35 rfl 0 rfl ?_
  refine k_iconst hA dX8_clear_36 kc_i_0 ?_
  refine pt_X_10_7 hA wd_186 et_8 dX8_clear_37 ?_
  refine k_iconst hA dX8_clear_40 kc_i_0 ?_
  refine k_istore_n (i := 1) (lv' := [(1, .int (0 : Int32)), (0, .ref (a 10))]) hA dX8_clear_41 rfl rfl (Nat.le_of_ble_eq_true rfl) rfl ?_
  refine k_pick (lv' := [(0, .ref (a 10)), (1, .int (0 : Int32))]) [1, 0] rfl ?_
  exact m_Te_clearS_42 l G a n hA hr n (0 : Int32) t_8 hf

def f_Re_isLetter (x0 : Int32) : Bool := (if x0 < (97 : Int32) then false else (if (122 : Int32) < x0 then false else true))
theorem m_Re_isLetter (l : Launch) (G : k_G) (w : va_W) (x0 : Int32) {r : Bool} (hf : f_Re_isLetter x0 = r) : k_CI l G yX5_isLetter cX5_isLetter 1 (some .boolean) 1 w [.int x0] (k_b r) w := by
  refine k_startI (lv := [(0, .int x0)]) (by decide +kernel) (Nat.le_of_ble_eq_true rfl) rfl ?_
  intro p e s m args below meth c hA hr
  have hA : k_Amb p s m args meth c cX5_isLetter 1 "TaleShares$Reader" G _ := hA
  unfold f_Re_isLetter at hf
  refine k_iload_n (i := 0) hA dX5_isLetter_0 rfl 0 rfl ?_
  refine k_bipush hA dX5_isLetter_1 kc_b_97 ?_
  refine k_icmp_lt (tgt := 16) hA dX5_isLetter_3 rfl (fun hc => ?_) (fun hc => ?_)
  · have hf := k_ift hc hf
    subst hf
    refine k_iconst hA dX5_isLetter_16 kc_i_0 ?_
    exact k_iret hA hr (k_narB (k_b01 _)) dX5_isLetter_17
  have hf := k_iff hc hf
  refine k_iload_n (i := 0) hA dX5_isLetter_6 rfl 0 rfl ?_
  refine k_bipush hA dX5_isLetter_7 kc_b_122 ?_
  refine k_icmp_gt (tgt := 16) hA dX5_isLetter_9 rfl (fun hc => ?_) (fun hc => ?_)
  · have hf := k_ift hc hf
    subst hf
    refine k_iconst hA dX5_isLetter_16 kc_i_0 ?_
    exact k_iret hA hr (k_narB (k_b01 _)) dX5_isLetter_17
  have hf := k_iff hc hf
  subst hf
  refine k_iconst hA dX5_isLetter_12 kc_i_1 ?_
  refine k_goto (tgt := 17) hA dX5_isLetter_13 rfl ?_
  exact k_iret hA hr (k_narB (k_b01 _)) dX5_isLetter_17

def f_Re_isDigit (x0 : Int32) : Bool := (if x0 < (48 : Int32) then false else (if (57 : Int32) < x0 then false else true))
theorem m_Re_isDigit (l : Launch) (G : k_G) (w : va_W) (x0 : Int32) {r : Bool} (hf : f_Re_isDigit x0 = r) : k_CI l G yX5_isDigit cX5_isDigit 1 (some .boolean) 1 w [.int x0] (k_b r) w := by
  refine k_startI (lv := [(0, .int x0)]) (by decide +kernel) (Nat.le_of_ble_eq_true rfl) rfl ?_
  intro p e s m args below meth c hA hr
  have hA : k_Amb p s m args meth c cX5_isDigit 1 "TaleShares$Reader" G _ := hA
  unfold f_Re_isDigit at hf
  refine k_iload_n (i := 0) hA dX5_isDigit_0 rfl 0 rfl ?_
  refine k_bipush hA dX5_isDigit_1 kc_b_48 ?_
  refine k_icmp_lt (tgt := 16) hA dX5_isDigit_3 rfl (fun hc => ?_) (fun hc => ?_)
  · have hf := k_ift hc hf
    subst hf
    refine k_iconst hA dX5_isDigit_16 kc_i_0 ?_
    exact k_iret hA hr (k_narB (k_b01 _)) dX5_isDigit_17
  have hf := k_iff hc hf
  refine k_iload_n (i := 0) hA dX5_isDigit_6 rfl 0 rfl ?_
  refine k_bipush hA dX5_isDigit_7 kc_b_57 ?_
  refine k_icmp_gt (tgt := 16) hA dX5_isDigit_9 rfl (fun hc => ?_) (fun hc => ?_)
  · have hf := k_ift hc hf
    subst hf
    refine k_iconst hA dX5_isDigit_16 kc_i_0 ?_
    exact k_iret hA hr (k_narB (k_b01 _)) dX5_isDigit_17
  have hf := k_iff hc hf
  subst hf
  refine k_iconst hA dX5_isDigit_12 kc_i_1 ?_
  refine k_goto (tgt := 17) hA dX5_isDigit_13 rfl ?_
  exact k_iret hA hr (k_narB (k_b01 _)) dX5_isDigit_17

def f_Re_takeWhole_76 (n : Nat) (t : k_St) : Option k_St := (if (3 : Int32) < ((t.1 18 4) - (t.1 18 1)) then k_lt (k_sI t 18 5 (1 : Int32)) (fun t_1 => some t_1) else k_lt (k_sI t 18 5 (3 : Int32)) (fun t_2 => some t_2))
def f_Re_takeWhole_13 (n : Nat) : Nat → k_St → Option k_St
  | 0, _ => none
  | k + 1, t => (if (t.1 18 3) ≤ (t.1 18 4) then f_Re_takeWhole_76 n t else k_gi (t.1 18 4) 900 ((if (k_b (f_Re_isDigit (t.1 1 (t.1 18 4).toNatClampNeg))) = 0 then f_Re_takeWhole_76 n t else k_gi (t.1 18 4) 900 (k_lt (k_sI t 18 6 (((t.1 18 6) * (10 : Int32)) + ((t.1 1 (t.1 18 4).toNatClampNeg) - (48 : Int32)))) (fun t_3 => k_lt (k_sI t_3 18 4 ((t_3.1 18 4) + (1 : Int32))) (fun t_4 => f_Re_takeWhole_13 n k t_4))))))
def f_Re_takeWhole (n : Nat) (t : k_St) : Option k_St := k_lt (k_sI t 18 6 (0 : Int32)) (fun t_1 => k_lt (k_sI t_1 18 4 (t_1.1 18 1)) (fun t_2 => f_Re_takeWhole_13 n n t_2))
theorem m_Re_takeWhole_76 {p : Program} (l : Launch) {e : Env} {s : State} {m : MethodId} {args : Array Value} {below : List Frame} {meth : Method} {c : Code} (G : k_G) (a : Nat → Nat) (n : Nat) {w0 : va_W} {t' : k_St} (hA : k_Amb p s m args meth c cX5_takeWhole 1 "TaleShares$Reader" G (va_A w0 s.heap.size)) (hr : meth.sig.returnType = none) : ∀ (t : k_St), f_Re_takeWhole_76 n t = some t' → k_Go p l e (k_rm 2) s m args below meth c (k_QV G w0 (k_WX G.2.1 a (.ref (a 10)) t') args s below) 1 G (va_A w0 s.heap.size) (k_WX G.2.1 a (.ref (a 10)) t) 76 [(0, .ref (a 18))] [] := by
  intro t hf
  unfold f_Re_takeWhole_76 at hf
  refine k_aload_n (i := 0) hA dX5_takeWhole_76 rfl 0 rfl ?_
  refine k_aload_n (i := 0) hA dX5_takeWhole_77 rfl 0 rfl ?_
  refine gt_X_18_5 hA wd_262 dX5_takeWhole_78 ?_
  refine k_aload_n (i := 0) hA dX5_takeWhole_81 rfl 0 rfl ?_
  refine gt_X_18_1 hA wd_257 dX5_takeWhole_82 ?_
  refine k_isub hA dX5_takeWhole_85 ?_
  refine k_iconst hA dX5_takeWhole_86 kc_i_3 ?_
  refine k_icmp_gt (tgt := 94) hA dX5_takeWhole_87 rfl (fun hc => ?_) (fun hc => ?_)
  · have hf := k_ift hc hf
    obtain ⟨t_1, et_1, hf⟩ := k_lt_e hf
    obtain rfl := k_r1 hf
    refine k_iconst hA dX5_takeWhole_94 kc_i_1 ?_
    refine pt_X_18_6 hA wd_263 et_1 dX5_takeWhole_95 ?_
    exact k_vret hA hr dX5_takeWhole_98
  have hf := k_iff hc hf
  obtain ⟨t_2, et_2, hf⟩ := k_lt_e hf
  obtain rfl := k_r1 hf
  refine k_iconst hA dX5_takeWhole_90 kc_i_3 ?_
  refine k_goto (tgt := 95) hA dX5_takeWhole_91 rfl ?_
  refine pt_X_18_6 hA wd_263 et_2 dX5_takeWhole_95 ?_
  exact k_vret hA hr dX5_takeWhole_98

theorem m_Re_takeWhole_13 {p : Program} (l : Launch) {e : Env} {s : State} {m : MethodId} {args : Array Value} {below : List Frame} {meth : Method} {c : Code} (G : k_G) (a : Nat → Nat) (n : Nat) {w0 : va_W} {t' : k_St} (hA : k_Amb p s m args meth c cX5_takeWhole 1 "TaleShares$Reader" G (va_A w0 s.heap.size)) (hr : meth.sig.returnType = none) : ∀ (k : Nat) (t : k_St), f_Re_takeWhole_13 n k t = some t' → k_Go p l e (k_rm 2) s m args below meth c (k_QV G w0 (k_WX G.2.1 a (.ref (a 10)) t') args s below) 1 G (va_A w0 s.heap.size) (k_WX G.2.1 a (.ref (a 10)) t) 13 [(0, .ref (a 18))] [] := by
  intro k
  induction k with
  | zero => intro t hf; cases hf
  | succ k ih =>
  intro t hf
  rw [f_Re_takeWhole_13] at hf
  refine k_aload_n (i := 0) hA dX5_takeWhole_13 rfl 0 rfl ?_
  refine gt_X_18_5 hA wd_262 dX5_takeWhole_14 ?_
  refine k_aload_n (i := 0) hA dX5_takeWhole_17 rfl 0 rfl ?_
  refine gt_X_18_4 hA wd_261 dX5_takeWhole_18 ?_
  refine k_icmp_ge (tgt := 76) hA dX5_takeWhole_21 rfl (fun hc => ?_) (fun hc => ?_)
  · have hf := k_ift hc hf
    exact m_Re_takeWhole_76 l G a n hA hr t hf
  have hf := k_iff hc hf
  obtain ⟨hi_1, hf⟩ := k_gi_e hf
  refine k_aload_n (i := 0) hA dX5_takeWhole_24 rfl 0 rfl ?_
  refine gt_X_18_3 hA wd_260 dX5_takeWhole_25 ?_
  refine k_aload_n (i := 0) hA dX5_takeWhole_28 rfl 0 rfl ?_
  refine gt_X_18_5 hA wd_262 dX5_takeWhole_29 ?_
  refine ld_X_1 hA hi_1 dX5_takeWhole_32 ?_
  refine k_callSi (As := [.int (t.1 1 (t.1 18 4).toNatClampNeg)]) (rest := []) hA (m_Re_isDigit l G (k_WX G.2.1 a (.ref (a 10)) t) (t.1 1 (t.1 18 4).toNatClampNeg) rfl) cd_X5_isDigit wd_507 (Nat.le_of_ble_eq_true rfl) rfl rfl (Nat.le_of_ble_eq_true rfl) dX5_takeWhole_33 ?_
  refine k_if_eq (tgt := 76) hA dX5_takeWhole_36 rfl (fun hc => ?_) (fun hc => ?_)
  · have hf := k_ift hc hf
    exact m_Re_takeWhole_76 l G a n hA hr t hf
  have hf := k_iff hc hf
  obtain ⟨hi_2, hf⟩ := k_gi_e hf
  obtain ⟨t_3, et_3, hf⟩ := k_lt_e hf
  obtain ⟨t_4, et_4, hf⟩ := k_lt_e hf
  refine k_aload_n (i := 0) hA dX5_takeWhole_39 rfl 0 rfl ?_
  refine k_aload_n (i := 0) hA dX5_takeWhole_40 rfl 0 rfl ?_
  refine gt_X_18_7 hA wd_264 dX5_takeWhole_41 ?_
  refine k_bipush hA dX5_takeWhole_44 kc_b_10 ?_
  refine k_imul hA dX5_takeWhole_46 ?_
  refine k_aload_n (i := 0) hA dX5_takeWhole_47 rfl 0 rfl ?_
  refine gt_X_18_3 hA wd_260 dX5_takeWhole_48 ?_
  refine k_aload_n (i := 0) hA dX5_takeWhole_51 rfl 0 rfl ?_
  refine gt_X_18_5 hA wd_262 dX5_takeWhole_52 ?_
  refine ld_X_1 hA hi_2 dX5_takeWhole_55 ?_
  refine k_bipush hA dX5_takeWhole_56 kc_b_48 ?_
  refine k_isub hA dX5_takeWhole_58 ?_
  refine k_iadd hA dX5_takeWhole_59 ?_
  refine pt_X_18_7 hA wd_264 et_3 dX5_takeWhole_60 ?_
  refine k_aload_n (i := 0) hA dX5_takeWhole_63 rfl 0 rfl ?_
  refine k_dup hA dX5_takeWhole_64 rfl ?_
  refine gt_X_18_5 hA wd_262 dX5_takeWhole_65 ?_
  refine k_iconst hA dX5_takeWhole_68 kc_i_1 ?_
  refine k_iadd hA dX5_takeWhole_69 ?_
  refine pt_X_18_5 hA wd_262 et_4 dX5_takeWhole_70 ?_
  refine k_goto (tgt := 13) hA dX5_takeWhole_73 rfl ?_
  exact ih t_4 hf

theorem m_Re_takeWhole (l : Launch) (G : k_G) (a : Nat → Nat) (n : Nat) (t : k_St) {t' : k_St} (hf : f_Re_takeWhole n t = some t') : k_CV l G yX5_takeWhole cX5_takeWhole 1 none 2 (k_WX G.2.1 a (.ref (a 10)) t) [.ref (a 18)] (k_WX G.2.1 a (.ref (a 10)) t') := by
  refine k_startV (lv := [(0, .ref (a 18))]) (by decide +kernel) (Nat.le_of_ble_eq_true rfl) rfl ?_
  intro p e s m args below meth c hA hr
  have hA : k_Amb p s m args meth c cX5_takeWhole 1 "TaleShares$Reader" G _ := hA
  unfold f_Re_takeWhole at hf
  obtain ⟨t_1, et_1, hf⟩ := k_lt_e hf
  obtain ⟨t_2, et_2, hf⟩ := k_lt_e hf
  refine k_aload_n (i := 0) hA dX5_takeWhole_0 rfl 0 rfl ?_
  refine k_iconst hA dX5_takeWhole_1 kc_i_0 ?_
  refine pt_X_18_7 hA wd_264 et_1 dX5_takeWhole_2 ?_
  refine k_aload_n (i := 0) hA dX5_takeWhole_5 rfl 0 rfl ?_
  refine k_aload_n (i := 0) hA dX5_takeWhole_6 rfl 0 rfl ?_
  refine gt_X_18_1 hA wd_257 dX5_takeWhole_7 ?_
  refine pt_X_18_5 hA wd_262 et_2 dX5_takeWhole_10 ?_
  exact m_Re_takeWhole_13 l G a n hA hr n t_2 hf

def f_Re_takeWord_80 (n : Nat) (t : k_St) : Option k_St := (if (8 : Int32) < ((t.1 18 4) - (t.1 18 1)) then k_lt (k_sI t 18 5 (1 : Int32)) (fun t_1 => some t_1) else k_lt (k_sI t 18 5 (2 : Int32)) (fun t_2 => some t_2))
def f_Re_takeWord_13 (n : Nat) : Nat → k_St → Option k_St
  | 0, _ => none
  | k + 1, t => (if (t.1 18 3) ≤ (t.1 18 4) then f_Re_takeWord_80 n t else k_gi (t.1 18 4) 900 ((if (k_b (f_Re_isLetter (t.1 1 (t.1 18 4).toNatClampNeg))) = 0 then f_Re_takeWord_80 n t else k_gi (t.1 18 4) 900 (k_lt (k_sL t 18 7 (((t.2 18 7) * (32 : Int64)) + ((((t.1 1 (t.1 18 4).toNatClampNeg) - (97 : Int32)) + (1 : Int32)).toInt64))) (fun t_3 => k_lt (k_sI t_3 18 4 ((t_3.1 18 4) + (1 : Int32))) (fun t_4 => f_Re_takeWord_13 n k t_4))))))
def f_Re_takeWord (n : Nat) (t : k_St) : Option k_St := k_lt (k_sL t 18 7 (0 : Int64)) (fun t_1 => k_lt (k_sI t_1 18 4 (t_1.1 18 1)) (fun t_2 => f_Re_takeWord_13 n n t_2))
theorem m_Re_takeWord_80 {p : Program} (l : Launch) {e : Env} {s : State} {m : MethodId} {args : Array Value} {below : List Frame} {meth : Method} {c : Code} (G : k_G) (a : Nat → Nat) (n : Nat) {w0 : va_W} {t' : k_St} (hA : k_Amb p s m args meth c cX5_takeWord 1 "TaleShares$Reader" G (va_A w0 s.heap.size)) (hr : meth.sig.returnType = none) : ∀ (t : k_St), f_Re_takeWord_80 n t = some t' → k_Go p l e (k_rm 2) s m args below meth c (k_QV G w0 (k_WX G.2.1 a (.ref (a 10)) t') args s below) 1 G (va_A w0 s.heap.size) (k_WX G.2.1 a (.ref (a 10)) t) 80 [(0, .ref (a 18))] [] := by
  intro t hf
  unfold f_Re_takeWord_80 at hf
  refine k_aload_n (i := 0) hA dX5_takeWord_80 rfl 0 rfl ?_
  refine k_aload_n (i := 0) hA dX5_takeWord_81 rfl 0 rfl ?_
  refine gt_X_18_5 hA wd_262 dX5_takeWord_82 ?_
  refine k_aload_n (i := 0) hA dX5_takeWord_85 rfl 0 rfl ?_
  refine gt_X_18_1 hA wd_257 dX5_takeWord_86 ?_
  refine k_isub hA dX5_takeWord_89 ?_
  refine k_bipush hA dX5_takeWord_90 kc_b_8 ?_
  refine k_icmp_gt (tgt := 99) hA dX5_takeWord_92 rfl (fun hc => ?_) (fun hc => ?_)
  · have hf := k_ift hc hf
    obtain ⟨t_1, et_1, hf⟩ := k_lt_e hf
    obtain rfl := k_r1 hf
    refine k_iconst hA dX5_takeWord_99 kc_i_1 ?_
    refine pt_X_18_6 hA wd_263 et_1 dX5_takeWord_100 ?_
    exact k_vret hA hr dX5_takeWord_103
  have hf := k_iff hc hf
  obtain ⟨t_2, et_2, hf⟩ := k_lt_e hf
  obtain rfl := k_r1 hf
  refine k_iconst hA dX5_takeWord_95 kc_i_2 ?_
  refine k_goto (tgt := 100) hA dX5_takeWord_96 rfl ?_
  refine pt_X_18_6 hA wd_263 et_2 dX5_takeWord_100 ?_
  exact k_vret hA hr dX5_takeWord_103

theorem m_Re_takeWord_13 {p : Program} (l : Launch) {e : Env} {s : State} {m : MethodId} {args : Array Value} {below : List Frame} {meth : Method} {c : Code} (G : k_G) (a : Nat → Nat) (n : Nat) {w0 : va_W} {t' : k_St} (hA : k_Amb p s m args meth c cX5_takeWord 1 "TaleShares$Reader" G (va_A w0 s.heap.size)) (hr : meth.sig.returnType = none) : ∀ (k : Nat) (t : k_St), f_Re_takeWord_13 n k t = some t' → k_Go p l e (k_rm 2) s m args below meth c (k_QV G w0 (k_WX G.2.1 a (.ref (a 10)) t') args s below) 1 G (va_A w0 s.heap.size) (k_WX G.2.1 a (.ref (a 10)) t) 13 [(0, .ref (a 18))] [] := by
  intro k
  induction k with
  | zero => intro t hf; cases hf
  | succ k ih =>
  intro t hf
  rw [f_Re_takeWord_13] at hf
  refine k_aload_n (i := 0) hA dX5_takeWord_13 rfl 0 rfl ?_
  refine gt_X_18_5 hA wd_262 dX5_takeWord_14 ?_
  refine k_aload_n (i := 0) hA dX5_takeWord_17 rfl 0 rfl ?_
  refine gt_X_18_4 hA wd_261 dX5_takeWord_18 ?_
  refine k_icmp_ge (tgt := 80) hA dX5_takeWord_21 rfl (fun hc => ?_) (fun hc => ?_)
  · have hf := k_ift hc hf
    exact m_Re_takeWord_80 l G a n hA hr t hf
  have hf := k_iff hc hf
  obtain ⟨hi_1, hf⟩ := k_gi_e hf
  refine k_aload_n (i := 0) hA dX5_takeWord_24 rfl 0 rfl ?_
  refine gt_X_18_3 hA wd_260 dX5_takeWord_25 ?_
  refine k_aload_n (i := 0) hA dX5_takeWord_28 rfl 0 rfl ?_
  refine gt_X_18_5 hA wd_262 dX5_takeWord_29 ?_
  refine ld_X_1 hA hi_1 dX5_takeWord_32 ?_
  refine k_callSi (As := [.int (t.1 1 (t.1 18 4).toNatClampNeg)]) (rest := []) hA (m_Re_isLetter l G (k_WX G.2.1 a (.ref (a 10)) t) (t.1 1 (t.1 18 4).toNatClampNeg) rfl) cd_X5_isLetter wd_499 (Nat.le_of_ble_eq_true rfl) rfl rfl (Nat.le_of_ble_eq_true rfl) dX5_takeWord_33 ?_
  refine k_if_eq (tgt := 80) hA dX5_takeWord_36 rfl (fun hc => ?_) (fun hc => ?_)
  · have hf := k_ift hc hf
    exact m_Re_takeWord_80 l G a n hA hr t hf
  have hf := k_iff hc hf
  obtain ⟨hi_2, hf⟩ := k_gi_e hf
  obtain ⟨t_3, et_3, hf⟩ := k_lt_e hf
  obtain ⟨t_4, et_4, hf⟩ := k_lt_e hf
  refine k_aload_n (i := 0) hA dX5_takeWord_39 rfl 0 rfl ?_
  refine k_aload_n (i := 0) hA dX5_takeWord_40 rfl 0 rfl ?_
  refine gt_X_18_8 hA wd_265 dX5_takeWord_41 ?_
  refine k_ldc2 hA wd_506 dX5_takeWord_44 ?_
  refine k_lmul hA dX5_takeWord_47 ?_
  refine k_aload_n (i := 0) hA dX5_takeWord_48 rfl 0 rfl ?_
  refine gt_X_18_3 hA wd_260 dX5_takeWord_49 ?_
  refine k_aload_n (i := 0) hA dX5_takeWord_52 rfl 0 rfl ?_
  refine gt_X_18_5 hA wd_262 dX5_takeWord_53 ?_
  refine ld_X_1 hA hi_2 dX5_takeWord_56 ?_
  refine k_bipush hA dX5_takeWord_57 kc_b_97 ?_
  refine k_isub hA dX5_takeWord_59 ?_
  refine k_iconst hA dX5_takeWord_60 kc_i_1 ?_
  refine k_iadd hA dX5_takeWord_61 ?_
  refine k_i2l hA dX5_takeWord_62 ?_
  refine k_ladd hA dX5_takeWord_63 ?_
  refine pt_X_18_8 hA wd_265 et_3 dX5_takeWord_64 ?_
  refine k_aload_n (i := 0) hA dX5_takeWord_67 rfl 0 rfl ?_
  refine k_dup hA dX5_takeWord_68 rfl ?_
  refine gt_X_18_5 hA wd_262 dX5_takeWord_69 ?_
  refine k_iconst hA dX5_takeWord_72 kc_i_1 ?_
  refine k_iadd hA dX5_takeWord_73 ?_
  refine pt_X_18_5 hA wd_262 et_4 dX5_takeWord_74 ?_
  refine k_goto (tgt := 13) hA dX5_takeWord_77 rfl ?_
  exact ih t_4 hf

theorem m_Re_takeWord (l : Launch) (G : k_G) (a : Nat → Nat) (n : Nat) (t : k_St) {t' : k_St} (hf : f_Re_takeWord n t = some t') : k_CV l G yX5_takeWord cX5_takeWord 1 none 2 (k_WX G.2.1 a (.ref (a 10)) t) [.ref (a 18)] (k_WX G.2.1 a (.ref (a 10)) t') := by
  refine k_startV (lv := [(0, .ref (a 18))]) (by decide +kernel) (Nat.le_of_ble_eq_true rfl) rfl ?_
  intro p e s m args below meth c hA hr
  have hA : k_Amb p s m args meth c cX5_takeWord 1 "TaleShares$Reader" G _ := hA
  unfold f_Re_takeWord at hf
  obtain ⟨t_1, et_1, hf⟩ := k_lt_e hf
  obtain ⟨t_2, et_2, hf⟩ := k_lt_e hf
  refine k_aload_n (i := 0) hA dX5_takeWord_0 rfl 0 rfl ?_
  refine k_lconst hA dX5_takeWord_1 kc_l_0 ?_
  refine pt_X_18_8 hA wd_265 et_1 dX5_takeWord_2 ?_
  refine k_aload_n (i := 0) hA dX5_takeWord_5 rfl 0 rfl ?_
  refine k_aload_n (i := 0) hA dX5_takeWord_6 rfl 0 rfl ?_
  refine gt_X_18_1 hA wd_257 dX5_takeWord_7 ?_
  refine pt_X_18_5 hA wd_262 et_2 dX5_takeWord_10 ?_
  exact m_Re_takeWord_13 l G a n hA hr n t_2 hf

def f_Re_step_46 (n : Nat) (t : k_St) : Option k_St := (if (t.1 18 1) < (t.1 18 3) then k_gi (t.1 18 1) 900 ((if (k_b (f_Re_isLetter (t.1 1 (t.1 18 1).toNatClampNeg))) = 0 then k_gi (t.1 18 1) 900 ((if (k_b (f_Re_isDigit (t.1 1 (t.1 18 1).toNatClampNeg))) = 0 then k_gi (t.1 18 1) 900 ((if (t.1 1 (t.1 18 1).toNatClampNeg) = (59 : Int32) then k_lt (k_sI t 18 5 (4 : Int32)) (fun t_9 => k_lt (k_sI t_9 18 4 ((t_9.1 18 1) + (1 : Int32))) (fun t_10 => some t_10)) else k_gi (t.1 18 1) 900 ((if (t.1 1 (t.1 18 1).toNatClampNeg) = (44 : Int32) then k_lt (k_sI t 18 5 (5 : Int32)) (fun t_7 => k_lt (k_sI t_7 18 4 ((t_7.1 18 1) + (1 : Int32))) (fun t_8 => some t_8)) else k_lt (k_sI t 18 5 (1 : Int32)) (fun t_5 => k_lt (k_sI t_5 18 4 ((t_5.1 18 1) + (1 : Int32))) (fun t_6 => some t_6)))))) else k_cv (f_Re_takeWhole n t) (fun t_11 => some t_11))) else k_cv (f_Re_takeWord n t) (fun t_12 => some t_12))) else k_lt (k_sI t 18 1 (t.1 18 3)) (fun t_13 => k_lt (k_sI t_13 18 4 (t_13.1 18 3)) (fun t_14 => k_lt (k_sI t_14 18 5 (0 : Int32)) (fun t_15 => some t_15))))
def f_Re_step_8 (n : Nat) : Nat → k_St → Option k_St
  | 0, _ => none
  | k + 1, t => (if (t.1 18 3) ≤ (t.1 18 1) then f_Re_step_46 n t else k_gi (t.1 18 1) 900 ((if (t.1 1 (t.1 18 1).toNatClampNeg) = (32 : Int32) then k_lt (k_sI t 18 1 ((t.1 18 1) + (1 : Int32))) (fun t_2 => f_Re_step_8 n k t_2) else f_Re_step_46 n t)))
def f_Re_step (n : Nat) (t : k_St) : Option k_St := k_lt (k_sI t 18 1 (t.1 18 4)) (fun t_1 => f_Re_step_8 n n t_1)
theorem m_Re_step_46 {p : Program} (l : Launch) {e : Env} {s : State} {m : MethodId} {args : Array Value} {below : List Frame} {meth : Method} {c : Code} (G : k_G) (a : Nat → Nat) (n : Nat) {w0 : va_W} {t' : k_St} (hA : k_Amb p s m args meth c cX5_step 1 "TaleShares$Reader" G (va_A w0 s.heap.size)) (hr : meth.sig.returnType = none) : ∀ (t : k_St), f_Re_step_46 n t = some t' → k_Go p l e (k_rm 3) s m args below meth c (k_QV G w0 (k_WX G.2.1 a (.ref (a 10)) t') args s below) 1 G (va_A w0 s.heap.size) (k_WX G.2.1 a (.ref (a 10)) t) 46 [(0, .ref (a 18))] [] := by
  intro t hf
  unfold f_Re_step_46 at hf
  refine k_aload_n (i := 0) hA dX5_step_46 rfl 0 rfl ?_
  refine gt_X_18_1 hA wd_257 dX5_step_47 ?_
  refine k_aload_n (i := 0) hA dX5_step_50 rfl 0 rfl ?_
  refine gt_X_18_4 hA wd_261 dX5_step_51 ?_
  refine k_icmp_lt (tgt := 81) hA dX5_step_54 rfl (fun hc => ?_) (fun hc => ?_)
  · have hf := k_ift hc hf
    obtain ⟨hi_1, hf⟩ := k_gi_e hf
    refine k_aload_n (i := 0) hA dX5_step_81 rfl 0 rfl ?_
    refine gt_X_18_3 hA wd_260 dX5_step_82 ?_
    refine k_aload_n (i := 0) hA dX5_step_85 rfl 0 rfl ?_
    refine gt_X_18_1 hA wd_257 dX5_step_86 ?_
    refine ld_X_1 hA hi_1 dX5_step_89 ?_
    refine k_callSi (As := [.int (t.1 1 (t.1 18 1).toNatClampNeg)]) (rest := []) hA (m_Re_isLetter l G (k_WX G.2.1 a (.ref (a 10)) t) (t.1 1 (t.1 18 1).toNatClampNeg) rfl) cd_X5_isLetter wd_499 (Nat.le_of_ble_eq_true rfl) rfl rfl (Nat.le_of_ble_eq_true rfl) dX5_step_90 ?_
    refine k_if_eq (tgt := 103) hA dX5_step_93 rfl (fun hc => ?_) (fun hc => ?_)
    · have hf := k_ift hc hf
      obtain ⟨hi_2, hf⟩ := k_gi_e hf
      refine k_aload_n (i := 0) hA dX5_step_103 rfl 0 rfl ?_
      refine gt_X_18_3 hA wd_260 dX5_step_104 ?_
      refine k_aload_n (i := 0) hA dX5_step_107 rfl 0 rfl ?_
      refine gt_X_18_1 hA wd_257 dX5_step_108 ?_
      refine ld_X_1 hA hi_2 dX5_step_111 ?_
      refine k_callSi (As := [.int (t.1 1 (t.1 18 1).toNatClampNeg)]) (rest := []) hA (m_Re_isDigit l G (k_WX G.2.1 a (.ref (a 10)) t) (t.1 1 (t.1 18 1).toNatClampNeg) rfl) cd_X5_isDigit wd_507 (Nat.le_of_ble_eq_true rfl) rfl rfl (Nat.le_of_ble_eq_true rfl) dX5_step_112 ?_
      refine k_if_eq (tgt := 125) hA dX5_step_115 rfl (fun hc => ?_) (fun hc => ?_)
      · have hf := k_ift hc hf
        obtain ⟨hi_3, hf⟩ := k_gi_e hf
        refine k_aload_n (i := 0) hA dX5_step_125 rfl 0 rfl ?_
        refine k_aload_n (i := 0) hA dX5_step_126 rfl 0 rfl ?_
        refine gt_X_18_3 hA wd_260 dX5_step_127 ?_
        refine k_aload_n (i := 0) hA dX5_step_130 rfl 0 rfl ?_
        refine gt_X_18_1 hA wd_257 dX5_step_131 ?_
        refine ld_X_1 hA hi_3 dX5_step_134 ?_
        refine k_bipush hA dX5_step_135 kc_b_59 ?_
        refine k_icmp_ne (tgt := 144) hA dX5_step_137 rfl (fun hc => ?_) (fun hc => ?_)
        · have hf := k_iff hc hf
          obtain ⟨hi_4, hf⟩ := k_gi_e hf
          refine k_aload_n (i := 0) hA dX5_step_144 rfl 0 rfl ?_
          refine gt_X_18_3 hA wd_260 dX5_step_145 ?_
          refine k_aload_n (i := 0) hA dX5_step_148 rfl 0 rfl ?_
          refine gt_X_18_1 hA wd_257 dX5_step_149 ?_
          refine ld_X_1 hA hi_4 dX5_step_152 ?_
          refine k_bipush hA dX5_step_153 kc_b_44 ?_
          refine k_icmp_ne (tgt := 162) hA dX5_step_155 rfl (fun hc => ?_) (fun hc => ?_)
          · have hf := k_iff hc hf
            obtain ⟨t_5, et_5, hf⟩ := k_lt_e hf
            obtain ⟨t_6, et_6, hf⟩ := k_lt_e hf
            obtain rfl := k_r1 hf
            refine k_iconst hA dX5_step_162 kc_i_1 ?_
            refine pt_X_18_6 hA wd_263 et_5 dX5_step_163 ?_
            refine k_aload_n (i := 0) hA dX5_step_166 rfl 0 rfl ?_
            refine k_aload_n (i := 0) hA dX5_step_167 rfl 0 rfl ?_
            refine gt_X_18_1 hA wd_257 dX5_step_168 ?_
            refine k_iconst hA dX5_step_171 kc_i_1 ?_
            refine k_iadd hA dX5_step_172 ?_
            refine pt_X_18_5 hA wd_262 et_6 dX5_step_173 ?_
            exact k_vret hA hr dX5_step_176
          have hf := k_ift hc hf
          obtain ⟨t_7, et_7, hf⟩ := k_lt_e hf
          obtain ⟨t_8, et_8, hf⟩ := k_lt_e hf
          obtain rfl := k_r1 hf
          refine k_iconst hA dX5_step_158 kc_i_5 ?_
          refine k_goto (tgt := 163) hA dX5_step_159 rfl ?_
          refine pt_X_18_6 hA wd_263 et_7 dX5_step_163 ?_
          refine k_aload_n (i := 0) hA dX5_step_166 rfl 0 rfl ?_
          refine k_aload_n (i := 0) hA dX5_step_167 rfl 0 rfl ?_
          refine gt_X_18_1 hA wd_257 dX5_step_168 ?_
          refine k_iconst hA dX5_step_171 kc_i_1 ?_
          refine k_iadd hA dX5_step_172 ?_
          refine pt_X_18_5 hA wd_262 et_8 dX5_step_173 ?_
          exact k_vret hA hr dX5_step_176
        have hf := k_ift hc hf
        obtain ⟨t_9, et_9, hf⟩ := k_lt_e hf
        obtain ⟨t_10, et_10, hf⟩ := k_lt_e hf
        obtain rfl := k_r1 hf
        refine k_iconst hA dX5_step_140 kc_i_4 ?_
        refine k_goto (tgt := 163) hA dX5_step_141 rfl ?_
        refine pt_X_18_6 hA wd_263 et_9 dX5_step_163 ?_
        refine k_aload_n (i := 0) hA dX5_step_166 rfl 0 rfl ?_
        refine k_aload_n (i := 0) hA dX5_step_167 rfl 0 rfl ?_
        refine gt_X_18_1 hA wd_257 dX5_step_168 ?_
        refine k_iconst hA dX5_step_171 kc_i_1 ?_
        refine k_iadd hA dX5_step_172 ?_
        refine pt_X_18_5 hA wd_262 et_10 dX5_step_173 ?_
        exact k_vret hA hr dX5_step_176
      have hf := k_iff hc hf
      obtain ⟨t_11, ht_11, hf⟩ := k_cv_e hf
      obtain rfl := k_r1 hf
      refine k_aload_n (i := 0) hA dX5_step_118 rfl 0 rfl ?_
      refine k_callVv (As := []) (rest := []) hA (m_Re_takeWhole l G a n t ht_11) cd_X5_takeWhole wd_510 (hc_X_18 G.2.1 a (.ref (a 10)) t) rfl rfl (Nat.le_of_ble_eq_true rfl) rfl rfl (Nat.le_of_ble_eq_true rfl) dX5_step_119 ?_
      refine k_goto (tgt := 176) hA dX5_step_122 rfl ?_
      exact k_vret hA hr dX5_step_176
    have hf := k_iff hc hf
    obtain ⟨t_12, ht_12, hf⟩ := k_cv_e hf
    obtain rfl := k_r1 hf
    refine k_aload_n (i := 0) hA dX5_step_96 rfl 0 rfl ?_
    refine k_callVv (As := []) (rest := []) hA (m_Re_takeWord l G a n t ht_12) cd_X5_takeWord wd_502 (hc_X_18 G.2.1 a (.ref (a 10)) t) rfl rfl (Nat.le_of_ble_eq_true rfl) rfl rfl (Nat.le_of_ble_eq_true rfl) dX5_step_97 ?_
    refine k_goto (tgt := 176) hA dX5_step_100 rfl ?_
    exact k_vret hA hr dX5_step_176
  have hf := k_iff hc hf
  obtain ⟨t_13, et_13, hf⟩ := k_lt_e hf
  obtain ⟨t_14, et_14, hf⟩ := k_lt_e hf
  obtain ⟨t_15, et_15, hf⟩ := k_lt_e hf
  obtain rfl := k_r1 hf
  refine k_aload_n (i := 0) hA dX5_step_57 rfl 0 rfl ?_
  refine k_aload_n (i := 0) hA dX5_step_58 rfl 0 rfl ?_
  refine gt_X_18_4 hA wd_261 dX5_step_59 ?_
  refine pt_X_18_1 hA wd_257 et_13 dX5_step_62 ?_
  refine k_aload_n (i := 0) hA dX5_step_65 rfl 0 rfl ?_
  refine k_aload_n (i := 0) hA dX5_step_66 rfl 0 rfl ?_
  refine gt_X_18_4 hA wd_261 dX5_step_67 ?_
  refine pt_X_18_5 hA wd_262 et_14 dX5_step_70 ?_
  refine k_aload_n (i := 0) hA dX5_step_73 rfl 0 rfl ?_
  refine k_iconst hA dX5_step_74 kc_i_0 ?_
  refine pt_X_18_6 hA wd_263 et_15 dX5_step_75 ?_
  refine k_goto (tgt := 176) hA dX5_step_78 rfl ?_
  exact k_vret hA hr dX5_step_176

theorem m_Re_step_8 {p : Program} (l : Launch) {e : Env} {s : State} {m : MethodId} {args : Array Value} {below : List Frame} {meth : Method} {c : Code} (G : k_G) (a : Nat → Nat) (n : Nat) {w0 : va_W} {t' : k_St} (hA : k_Amb p s m args meth c cX5_step 1 "TaleShares$Reader" G (va_A w0 s.heap.size)) (hr : meth.sig.returnType = none) : ∀ (k : Nat) (t : k_St), f_Re_step_8 n k t = some t' → k_Go p l e (k_rm 3) s m args below meth c (k_QV G w0 (k_WX G.2.1 a (.ref (a 10)) t') args s below) 1 G (va_A w0 s.heap.size) (k_WX G.2.1 a (.ref (a 10)) t) 8 [(0, .ref (a 18))] [] := by
  intro k
  induction k with
  | zero => intro t hf; cases hf
  | succ k ih =>
  intro t hf
  rw [f_Re_step_8] at hf
  refine k_aload_n (i := 0) hA dX5_step_8 rfl 0 rfl ?_
  refine gt_X_18_1 hA wd_257 dX5_step_9 ?_
  refine k_aload_n (i := 0) hA dX5_step_12 rfl 0 rfl ?_
  refine gt_X_18_4 hA wd_261 dX5_step_13 ?_
  refine k_icmp_ge (tgt := 46) hA dX5_step_16 rfl (fun hc => ?_) (fun hc => ?_)
  · have hf := k_ift hc hf
    exact m_Re_step_46 l G a n hA hr t hf
  have hf := k_iff hc hf
  obtain ⟨hi_1, hf⟩ := k_gi_e hf
  refine k_aload_n (i := 0) hA dX5_step_19 rfl 0 rfl ?_
  refine gt_X_18_3 hA wd_260 dX5_step_20 ?_
  refine k_aload_n (i := 0) hA dX5_step_23 rfl 0 rfl ?_
  refine gt_X_18_1 hA wd_257 dX5_step_24 ?_
  refine ld_X_1 hA hi_1 dX5_step_27 ?_
  refine k_bipush hA dX5_step_28 kc_b_32 ?_
  refine k_icmp_ne (tgt := 46) hA dX5_step_30 rfl (fun hc => ?_) (fun hc => ?_)
  · have hf := k_iff hc hf
    exact m_Re_step_46 l G a n hA hr t hf
  have hf := k_ift hc hf
  obtain ⟨t_2, et_2, hf⟩ := k_lt_e hf
  refine k_aload_n (i := 0) hA dX5_step_33 rfl 0 rfl ?_
  refine k_dup hA dX5_step_34 rfl ?_
  refine gt_X_18_1 hA wd_257 dX5_step_35 ?_
  refine k_iconst hA dX5_step_38 kc_i_1 ?_
  refine k_iadd hA dX5_step_39 ?_
  refine pt_X_18_1 hA wd_257 et_2 dX5_step_40 ?_
  refine k_goto (tgt := 8) hA dX5_step_43 rfl ?_
  exact ih t_2 hf

theorem m_Re_step (l : Launch) (G : k_G) (a : Nat → Nat) (n : Nat) (t : k_St) {t' : k_St} (hf : f_Re_step n t = some t') : k_CV l G yX5_step cX5_step 1 none 3 (k_WX G.2.1 a (.ref (a 10)) t) [.ref (a 18)] (k_WX G.2.1 a (.ref (a 10)) t') := by
  refine k_startV (lv := [(0, .ref (a 18))]) (by decide +kernel) (Nat.le_of_ble_eq_true rfl) rfl ?_
  intro p e s m args below meth c hA hr
  have hA : k_Amb p s m args meth c cX5_step 1 "TaleShares$Reader" G _ := hA
  unfold f_Re_step at hf
  obtain ⟨t_1, et_1, hf⟩ := k_lt_e hf
  refine k_aload_n (i := 0) hA dX5_step_0 rfl 0 rfl ?_
  refine k_aload_n (i := 0) hA dX5_step_1 rfl 0 rfl ?_
  refine gt_X_18_5 hA wd_262 dX5_step_2 ?_
  refine pt_X_18_1 hA wd_257 et_1 dX5_step_5 ?_
  exact m_Re_step_8 l G a n hA hr n t_1 hf

def f_Re_fail (x1 : Int32) (t : k_St) : Bool × k_St := k_lt (k_sI t 18 0 x1) (fun t_1 => (false, t_1))
theorem m_Re_fail (l : Launch) (G : k_G) (a : Nat → Nat) (x1 : Int32) (t : k_St) {r : Bool} {t' : k_St} (hf : f_Re_fail x1 t = (r, t')) : k_CI l G yX5_fail cX5_fail 2 (some .boolean) 1 (k_WX G.2.1 a (.ref (a 10)) t) [.ref (a 18), .int x1] (k_b r) (k_WX G.2.1 a (.ref (a 10)) t') := by
  refine k_startI (lv := [(0, .ref (a 18)), (1, .int x1)]) (by decide +kernel) (Nat.le_of_ble_eq_true rfl) rfl ?_
  intro p e s m args below meth c hA hr
  have hA : k_Amb p s m args meth c cX5_fail 2 "TaleShares$Reader" G _ := hA
  unfold f_Re_fail at hf
  obtain ⟨t_1, et_1, hf⟩ := k_lt_e hf
  obtain ⟨rfl, rfl⟩ := k_p2 hf
  refine k_aload_n (i := 0) hA dX5_fail_0 rfl 0 rfl ?_
  refine k_iload_n (i := 1) hA dX5_fail_1 rfl 1 rfl ?_
  refine pt_X_18_0 hA wd_255 et_1 dX5_fail_2 ?_
  refine k_iconst hA dX5_fail_5 kc_i_0 ?_
  exact k_iret hA hr (k_narB (k_b01 _)) dX5_fail_6

def f_Re_says_28 (n : Nat) (q : Nat) (t : k_St) : Nat → Int32 → Option Bool
  | 0, _ => none
  | k + 1, x2 => (if (k_slen q) ≤ x2 then some true else k_gi ((t.1 18 1) + x2) 900 (k_gi x2 (k_len.getD q 0) ((if (t.1 1 ((t.1 18 1) + x2).toNatClampNeg) = (k_sch q x2) then k_lt (x2 + (1 : Int32)) (fun x2_3 => f_Re_says_28 n q t k x2_3) else some false))))
def f_Re_says (n : Nat) (q : Nat) (t : k_St) : Option Bool := (if (t.1 18 5) = (2 : Int32) then (if ((t.1 18 4) - (t.1 18 1)) = (k_slen q) then f_Re_says_28 n q t n (0 : Int32) else some false) else some false)
theorem m_Re_says_28 {p : Program} (l : Launch) {e : Env} {s : State} {m : MethodId} {args : Array Value} {below : List Frame} {meth : Method} {c : Code} (G : k_G) (a : Nat → Nat) (n : Nat) (q : Nat) (hq : q < 16) (t : k_St) {w0 : va_W} {r : Bool} (hA : k_Amb p s m args meth c cX5_says 3 "TaleShares$Reader" G (va_A w0 s.heap.size)) (hr : meth.sig.returnType = (some .boolean)) : ∀ (k : Nat) (x2 : Int32), f_Re_says_28 n q t k x2 = some r → k_Go p l e (k_rm 5) s m args below meth c (k_QI G w0 (k_b r) (k_WX G.2.1 a (.ref (a 10)) t) args s below) 3 G (va_A w0 s.heap.size) (k_WX G.2.1 a (.ref (a 10)) t) 28 [(0, .ref (a 18)), (1, .ref (G.2.2.1 q)), (2, .int x2)] [] := by
  intro k
  induction k with
  | zero => intro x2 hf; cases hf
  | succ k ih =>
  intro x2 hf
  rw [f_Re_says_28] at hf
  refine k_iload_n (i := 2) hA dX5_says_28 rfl 2 rfl ?_
  refine k_aload_n (i := 1) hA dX5_says_29 rfl 1 rfl ?_
  refine k_slenR hA hq wd_523 (Nat.le_of_ble_eq_true rfl) (Nat.le_of_ble_eq_true rfl) dX5_says_30 ?_
  refine k_icmp_ge (tgt := 63) hA dX5_says_33 rfl (fun hc => ?_) (fun hc => ?_)
  · have hf := k_ift hc hf
    obtain rfl := k_r1 hf
    refine k_iconst hA dX5_says_63 kc_i_1 ?_
    exact k_iret hA hr (k_narB (k_b01 _)) dX5_says_64
  have hf := k_iff hc hf
  obtain ⟨hi_1, hf⟩ := k_gi_e hf
  obtain ⟨hi_2, hf⟩ := k_gi_e hf
  refine k_aload_n (i := 0) hA dX5_says_36 rfl 0 rfl ?_
  refine gt_X_18_3 hA wd_260 dX5_says_37 ?_
  refine k_aload_n (i := 0) hA dX5_says_40 rfl 0 rfl ?_
  refine gt_X_18_1 hA wd_257 dX5_says_41 ?_
  refine k_iload_n (i := 2) hA dX5_says_44 rfl 2 rfl ?_
  refine k_iadd hA dX5_says_45 ?_
  refine ld_X_1 hA hi_1 dX5_says_46 ?_
  refine k_aload_n (i := 1) hA dX5_says_47 rfl 1 rfl ?_
  refine k_iload_n (i := 2) hA dX5_says_48 rfl 2 rfl ?_
  refine k_scharR hA hq hi_2 wd_533 (Nat.le_of_ble_eq_true rfl) (Nat.le_of_ble_eq_true rfl) dX5_says_49 ?_
  refine k_icmp_eq (tgt := 57) hA dX5_says_52 rfl (fun hc => ?_) (fun hc => ?_)
  · have hf := k_ift hc hf
    obtain ⟨x2_3, ex2_3, hf⟩ := k_lt_e hf
    refine k_iinc (j := 2) (v := x2_3) (lv' := [(2, .int x2_3), (0, .ref (a 18)), (1, .ref (G.2.2.1 q))]) hA dX5_says_57 rfl (k_inc ex2_3 kc_i_1) (Nat.le_of_ble_eq_true rfl) rfl ?_
    refine k_goto (tgt := 28) hA dX5_says_60 rfl ?_
    refine k_pick (lv' := [(0, .ref (a 18)), (1, .ref (G.2.2.1 q)), (2, .int x2_3)]) [1, 2, 0] rfl ?_
    exact ih x2_3 hf
  have hf := k_iff hc hf
  obtain rfl := k_r1 hf
  refine k_iconst hA dX5_says_55 kc_i_0 ?_
  exact k_iret hA hr (k_narB (k_b01 _)) dX5_says_56

theorem m_Re_says (l : Launch) (G : k_G) (a : Nat → Nat) (n : Nat) (q : Nat) (hq : q < 16) (t : k_St) {r : Bool} (hf : f_Re_says n q t = some r) : k_CI l G yX5_says cX5_says 3 (some .boolean) 5 (k_WX G.2.1 a (.ref (a 10)) t) [.ref (a 18), .ref (G.2.2.1 q)] (k_b r) (k_WX G.2.1 a (.ref (a 10)) t) := by
  refine k_startI (lv := [(0, .ref (a 18)), (1, .ref (G.2.2.1 q))]) (by decide +kernel) (Nat.le_of_ble_eq_true rfl) rfl ?_
  intro p e s m args below meth c hA hr
  have hA : k_Amb p s m args meth c cX5_says 3 "TaleShares$Reader" G _ := hA
  unfold f_Re_says at hf
  refine k_aload_n (i := 0) hA dX5_says_0 rfl 0 rfl ?_
  refine gt_X_18_6 hA wd_263 dX5_says_1 ?_
  refine k_iconst hA dX5_says_4 kc_i_2 ?_
  refine k_icmp_ne (tgt := 24) hA dX5_says_5 rfl (fun hc => ?_) (fun hc => ?_)
  · have hf := k_iff hc hf
    obtain rfl := k_r1 hf
    refine k_iconst hA dX5_says_24 kc_i_0 ?_
    exact k_iret hA hr (k_narB (k_b01 _)) dX5_says_25
  have hf := k_ift hc hf
  refine k_aload_n (i := 0) hA dX5_says_8 rfl 0 rfl ?_
  refine gt_X_18_5 hA wd_262 dX5_says_9 ?_
  refine k_aload_n (i := 0) hA dX5_says_12 rfl 0 rfl ?_
  refine gt_X_18_1 hA wd_257 dX5_says_13 ?_
  refine k_isub hA dX5_says_16 ?_
  refine k_aload_n (i := 1) hA dX5_says_17 rfl 1 rfl ?_
  refine k_slenR hA hq wd_523 (Nat.le_of_ble_eq_true rfl) (Nat.le_of_ble_eq_true rfl) dX5_says_18 ?_
  refine k_icmp_eq (tgt := 26) hA dX5_says_21 rfl (fun hc => ?_) (fun hc => ?_)
  · have hf := k_ift hc hf
    refine k_iconst hA dX5_says_26 kc_i_0 ?_
    refine k_istore_n (i := 2) (lv' := [(2, .int (0 : Int32)), (0, .ref (a 18)), (1, .ref (G.2.2.1 q))]) hA dX5_says_27 rfl rfl (Nat.le_of_ble_eq_true rfl) rfl ?_
    refine k_pick (lv' := [(0, .ref (a 18)), (1, .ref (G.2.2.1 q)), (2, .int (0 : Int32))]) [1, 2, 0] rfl ?_
    exact m_Re_says_28 l G a n q hq t hA hr n (0 : Int32) hf
  have hf := k_iff hc hf
  obtain rfl := k_r1 hf
  refine k_iconst hA dX5_says_24 kc_i_0 ?_
  exact k_iret hA hr (k_narB (k_b01 _)) dX5_says_25

def f_Re_passFirstWord (n : Nat) (x1 : Int32) (x2 : Int32) (t : k_St) : Option (Bool × k_St) := (if x1 = 0 then (if x2 = 0 then (if (t.1 18 8) = 0 then k_lt (f_Re_fail (6 : Int32) t) (fun q_2 => some (q_2.1, q_2.2)) else k_cv (f_Re_step n t) (fun t_1 => some (true, t_1))) else k_lt (f_Re_fail (5 : Int32) t) (fun q_3 => some (q_3.1, q_3.2))) else k_lt (f_Re_fail (3 : Int32) t) (fun q_4 => some (q_4.1, q_4.2)))
theorem m_Re_passFirstWord (l : Launch) (G : k_G) (a : Nat → Nat) (n : Nat) (x1 : Int32) (x2 : Int32) (t : k_St) {r : Bool} {t' : k_St} (hf : f_Re_passFirstWord n x1 x2 t = some (r, t')) : k_CI l G yX5_passFirstWord cX5_passFirstWord 3 (some .boolean) 4 (k_WX G.2.1 a (.ref (a 10)) t) [.ref (a 18), .int x1, .int x2] (k_b r) (k_WX G.2.1 a (.ref (a 10)) t') := by
  refine k_startI (lv := [(0, .ref (a 18)), (1, .int x1), (2, .int x2)]) (by decide +kernel) (Nat.le_of_ble_eq_true rfl) rfl ?_
  intro p e s m args below meth c hA hr
  have hA : k_Amb p s m args meth c cX5_passFirstWord 3 "TaleShares$Reader" G _ := hA
  unfold f_Re_passFirstWord at hf
  refine k_iload_n (i := 1) hA dX5_passFirstWord_0 rfl 1 rfl ?_
  refine k_if_eq (tgt := 10) hA dX5_passFirstWord_1 rfl (fun hc => ?_) (fun hc => ?_)
  · have hf := k_ift hc hf
    refine k_iload_n (i := 2) hA dX5_passFirstWord_10 rfl 2 rfl ?_
    refine k_if_eq (tgt := 20) hA dX5_passFirstWord_11 rfl (fun hc => ?_) (fun hc => ?_)
    · have hf := k_ift hc hf
      refine k_aload_n (i := 0) hA dX5_passFirstWord_20 rfl 0 rfl ?_
      refine gt_X_18_9 hA wd_266 dX5_passFirstWord_21 ?_
      refine k_if_ne (tgt := 34) hA dX5_passFirstWord_24 rfl (fun hc => ?_) (fun hc => ?_)
      · have hf := k_iff hc hf
        obtain ⟨t_1, ht_1, hf⟩ := k_cv_e hf
        obtain ⟨rfl, rfl⟩ := k_r2 hf
        refine k_aload_n (i := 0) hA dX5_passFirstWord_34 rfl 0 rfl ?_
        refine k_callVv (As := []) (rest := []) hA (m_Re_step l G a n t ht_1) cd_X5_step wd_495 (hc_X_18 G.2.1 a (.ref (a 10)) t) rfl rfl (Nat.le_of_ble_eq_true rfl) rfl rfl (Nat.le_of_ble_eq_true rfl) dX5_passFirstWord_35 ?_
        refine k_iconst hA dX5_passFirstWord_38 kc_i_1 ?_
        exact k_iret hA hr (k_narB (k_b01 _)) dX5_passFirstWord_39
      have hf := k_ift hc hf
      obtain ⟨⟨rq_2, tq_2⟩, hq_2, hf⟩ := k_lt_e hf
      dsimp only at hf
      obtain ⟨rfl, rfl⟩ := k_r2 hf
      refine k_aload_n (i := 0) hA dX5_passFirstWord_27 rfl 0 rfl ?_
      refine k_bipush hA dX5_passFirstWord_28 kc_b_6 ?_
      refine k_callVi (As := [.int (6 : Int32)]) (rest := []) hA (m_Re_fail l G a (6 : Int32) t hq_2.symm) cd_X5_fail wd_575 (hc_X_18 G.2.1 a (.ref (a 10)) t) rfl rfl (Nat.le_of_ble_eq_true rfl) rfl rfl (Nat.le_of_ble_eq_true rfl) dX5_passFirstWord_30 ?_
      exact k_iret hA hr (k_narB (k_b01 _)) dX5_passFirstWord_33
    have hf := k_iff hc hf
    obtain ⟨⟨rq_3, tq_3⟩, hq_3, hf⟩ := k_lt_e hf
    dsimp only at hf
    obtain ⟨rfl, rfl⟩ := k_r2 hf
    refine k_aload_n (i := 0) hA dX5_passFirstWord_14 rfl 0 rfl ?_
    refine k_iconst hA dX5_passFirstWord_15 kc_i_5 ?_
    refine k_callVi (As := [.int (5 : Int32)]) (rest := []) hA (m_Re_fail l G a (5 : Int32) t hq_3.symm) cd_X5_fail wd_575 (hc_X_18 G.2.1 a (.ref (a 10)) t) rfl rfl (Nat.le_of_ble_eq_true rfl) rfl rfl (Nat.le_of_ble_eq_true rfl) dX5_passFirstWord_16 ?_
    exact k_iret hA hr (k_narB (k_b01 _)) dX5_passFirstWord_19
  have hf := k_iff hc hf
  obtain ⟨⟨rq_4, tq_4⟩, hq_4, hf⟩ := k_lt_e hf
  dsimp only at hf
  obtain ⟨rfl, rfl⟩ := k_r2 hf
  refine k_aload_n (i := 0) hA dX5_passFirstWord_4 rfl 0 rfl ?_
  refine k_iconst hA dX5_passFirstWord_5 kc_i_3 ?_
  refine k_callVi (As := [.int (3 : Int32)]) (rest := []) hA (m_Re_fail l G a (3 : Int32) t hq_4.symm) cd_X5_fail wd_575 (hc_X_18 G.2.1 a (.ref (a 10)) t) rfl rfl (Nat.le_of_ble_eq_true rfl) rfl rfl (Nat.le_of_ble_eq_true rfl) dX5_passFirstWord_6 ?_
  exact k_iret hA hr (k_narB (k_b01 _)) dX5_passFirstWord_9

def f_Re_isName (n : Nat) (t : k_St) : Option Bool := (if (t.1 18 5) = (2 : Int32) then k_cp (f_Re_says n 0 t) (fun r_1 => (if (k_b r_1) = 0 then k_cp (f_Re_says n 1 t) (fun r_2 => (if (k_b r_2) = 0 then k_cp (f_Re_says n 2 t) (fun r_3 => (if (k_b r_3) = 0 then k_cp (f_Re_says n 3 t) (fun r_4 => (if (k_b r_4) = 0 then k_cp (f_Re_says n 4 t) (fun r_5 => (if (k_b r_5) = 0 then k_cp (f_Re_says n 5 t) (fun r_6 => (if (k_b r_6) = 0 then k_cp (f_Re_says n 6 t) (fun r_7 => (if (k_b r_7) = 0 then some true else some false)) else some false)) else some false)) else some false)) else some false)) else some false)) else some false)) else some false)
theorem m_Re_isName (l : Launch) (G : k_G) (a : Nat → Nat) (n : Nat) (t : k_St) {r : Bool} (hf : f_Re_isName n t = some r) : k_CI l G yX5_isName cX5_isName 1 (some .boolean) 6 (k_WX G.2.1 a (.ref (a 10)) t) [.ref (a 18)] (k_b r) (k_WX G.2.1 a (.ref (a 10)) t) := by
  refine k_startI (lv := [(0, .ref (a 18))]) (by decide +kernel) (Nat.le_of_ble_eq_true rfl) rfl ?_
  intro p e s m args below meth c hA hr
  have hA : k_Amb p s m args meth c cX5_isName 1 "TaleShares$Reader" G _ := hA
  unfold f_Re_isName at hf
  refine k_aload_n (i := 0) hA dX5_isName_0 rfl 0 rfl ?_
  refine gt_X_18_6 hA wd_263 dX5_isName_1 ?_
  refine k_iconst hA dX5_isName_4 kc_i_2 ?_
  refine k_icmp_ne (tgt := 75) hA dX5_isName_5 rfl (fun hc => ?_) (fun hc => ?_)
  · have hf := k_iff hc hf
    obtain rfl := k_r1 hf
    refine k_iconst hA dX5_isName_75 kc_i_0 ?_
    exact k_iret hA hr (k_narB (k_b01 _)) dX5_isName_76
  have hf := k_ift hc hf
  obtain ⟨r_1, hr_1, hf⟩ := k_cp_e hf
  refine k_aload_n (i := 0) hA dX5_isName_8 rfl 0 rfl ?_
  refine k_ldcS hA sq_RX5_106 dX5_isName_9 ?_
  refine k_callVi (As := [.ref (G.2.2.1 0)]) (rest := []) hA (m_Re_says l G a n 0 (by decide) t hr_1) cd_X5_says wd_519 (hc_X_18 G.2.1 a (.ref (a 10)) t) rfl rfl (Nat.le_of_ble_eq_true rfl) rfl rfl (Nat.le_of_ble_eq_true rfl) dX5_isName_11 ?_
  refine k_if_ne (tgt := 75) hA dX5_isName_14 rfl (fun hc => ?_) (fun hc => ?_)
  · have hf := k_iff hc hf
    obtain rfl := k_r1 hf
    refine k_iconst hA dX5_isName_75 kc_i_0 ?_
    exact k_iret hA hr (k_narB (k_b01 _)) dX5_isName_76
  have hf := k_ift hc hf
  obtain ⟨r_2, hr_2, hf⟩ := k_cp_e hf
  refine k_aload_n (i := 0) hA dX5_isName_17 rfl 0 rfl ?_
  refine k_ldcS hA sq_RX5_115 dX5_isName_18 ?_
  refine k_callVi (As := [.ref (G.2.2.1 1)]) (rest := []) hA (m_Re_says l G a n 1 (by decide) t hr_2) cd_X5_says wd_519 (hc_X_18 G.2.1 a (.ref (a 10)) t) rfl rfl (Nat.le_of_ble_eq_true rfl) rfl rfl (Nat.le_of_ble_eq_true rfl) dX5_isName_20 ?_
  refine k_if_ne (tgt := 75) hA dX5_isName_23 rfl (fun hc => ?_) (fun hc => ?_)
  · have hf := k_iff hc hf
    obtain rfl := k_r1 hf
    refine k_iconst hA dX5_isName_75 kc_i_0 ?_
    exact k_iret hA hr (k_narB (k_b01 _)) dX5_isName_76
  have hf := k_ift hc hf
  obtain ⟨r_3, hr_3, hf⟩ := k_cp_e hf
  refine k_aload_n (i := 0) hA dX5_isName_26 rfl 0 rfl ?_
  refine k_ldcS hA sq_RX5_120 dX5_isName_27 ?_
  refine k_callVi (As := [.ref (G.2.2.1 2)]) (rest := []) hA (m_Re_says l G a n 2 (by decide) t hr_3) cd_X5_says wd_519 (hc_X_18 G.2.1 a (.ref (a 10)) t) rfl rfl (Nat.le_of_ble_eq_true rfl) rfl rfl (Nat.le_of_ble_eq_true rfl) dX5_isName_29 ?_
  refine k_if_ne (tgt := 75) hA dX5_isName_32 rfl (fun hc => ?_) (fun hc => ?_)
  · have hf := k_iff hc hf
    obtain rfl := k_r1 hf
    refine k_iconst hA dX5_isName_75 kc_i_0 ?_
    exact k_iret hA hr (k_narB (k_b01 _)) dX5_isName_76
  have hf := k_ift hc hf
  obtain ⟨r_4, hr_4, hf⟩ := k_cp_e hf
  refine k_aload_n (i := 0) hA dX5_isName_35 rfl 0 rfl ?_
  refine k_ldcS hA sq_RX5_125 dX5_isName_36 ?_
  refine k_callVi (As := [.ref (G.2.2.1 3)]) (rest := []) hA (m_Re_says l G a n 3 (by decide) t hr_4) cd_X5_says wd_519 (hc_X_18 G.2.1 a (.ref (a 10)) t) rfl rfl (Nat.le_of_ble_eq_true rfl) rfl rfl (Nat.le_of_ble_eq_true rfl) dX5_isName_38 ?_
  refine k_if_ne (tgt := 75) hA dX5_isName_41 rfl (fun hc => ?_) (fun hc => ?_)
  · have hf := k_iff hc hf
    obtain rfl := k_r1 hf
    refine k_iconst hA dX5_isName_75 kc_i_0 ?_
    exact k_iret hA hr (k_narB (k_b01 _)) dX5_isName_76
  have hf := k_ift hc hf
  obtain ⟨r_5, hr_5, hf⟩ := k_cp_e hf
  refine k_aload_n (i := 0) hA dX5_isName_44 rfl 0 rfl ?_
  refine k_ldcS hA sq_RX5_130 dX5_isName_45 ?_
  refine k_callVi (As := [.ref (G.2.2.1 4)]) (rest := []) hA (m_Re_says l G a n 4 (by decide) t hr_5) cd_X5_says wd_519 (hc_X_18 G.2.1 a (.ref (a 10)) t) rfl rfl (Nat.le_of_ble_eq_true rfl) rfl rfl (Nat.le_of_ble_eq_true rfl) dX5_isName_47 ?_
  refine k_if_ne (tgt := 75) hA dX5_isName_50 rfl (fun hc => ?_) (fun hc => ?_)
  · have hf := k_iff hc hf
    obtain rfl := k_r1 hf
    refine k_iconst hA dX5_isName_75 kc_i_0 ?_
    exact k_iret hA hr (k_narB (k_b01 _)) dX5_isName_76
  have hf := k_ift hc hf
  obtain ⟨r_6, hr_6, hf⟩ := k_cp_e hf
  refine k_aload_n (i := 0) hA dX5_isName_53 rfl 0 rfl ?_
  refine k_ldcS hA sq_RX5_135 dX5_isName_54 ?_
  refine k_callVi (As := [.ref (G.2.2.1 5)]) (rest := []) hA (m_Re_says l G a n 5 (by decide) t hr_6) cd_X5_says wd_519 (hc_X_18 G.2.1 a (.ref (a 10)) t) rfl rfl (Nat.le_of_ble_eq_true rfl) rfl rfl (Nat.le_of_ble_eq_true rfl) dX5_isName_56 ?_
  refine k_if_ne (tgt := 75) hA dX5_isName_59 rfl (fun hc => ?_) (fun hc => ?_)
  · have hf := k_iff hc hf
    obtain rfl := k_r1 hf
    refine k_iconst hA dX5_isName_75 kc_i_0 ?_
    exact k_iret hA hr (k_narB (k_b01 _)) dX5_isName_76
  have hf := k_ift hc hf
  obtain ⟨r_7, hr_7, hf⟩ := k_cp_e hf
  refine k_aload_n (i := 0) hA dX5_isName_62 rfl 0 rfl ?_
  refine k_ldcS hA sq_RX5_140 dX5_isName_63 ?_
  refine k_callVi (As := [.ref (G.2.2.1 6)]) (rest := []) hA (m_Re_says l G a n 6 (by decide) t hr_7) cd_X5_says wd_519 (hc_X_18 G.2.1 a (.ref (a 10)) t) rfl rfl (Nat.le_of_ble_eq_true rfl) rfl rfl (Nat.le_of_ble_eq_true rfl) dX5_isName_65 ?_
  refine k_if_ne (tgt := 75) hA dX5_isName_68 rfl (fun hc => ?_) (fun hc => ?_)
  · have hf := k_iff hc hf
    obtain rfl := k_r1 hf
    refine k_iconst hA dX5_isName_75 kc_i_0 ?_
    exact k_iret hA hr (k_narB (k_b01 _)) dX5_isName_76
  have hf := k_ift hc hf
  obtain rfl := k_r1 hf
  refine k_iconst hA dX5_isName_71 kc_i_1 ?_
  refine k_goto (tgt := 76) hA dX5_isName_72 rfl ?_
  exact k_iret hA hr (k_narB (k_b01 _)) dX5_isName_76

def f_Re_indexInP_2 (n : Nat) (t : k_St) : Nat → Int32 → Int32 → Option Int32
  | 0, _, _ => none
  | k + 1, x2, x3 => (if x2 ≤ x3 then some (-1 : Int32) else (if (8 : Int32) ≤ x3 then some (-1 : Int32) else k_gi x3 8 ((if (lg_cmp (t.2 19 x3.toNatClampNeg) (t.2 18 7)) = 0 then some x3 else k_lt (x3 + (1 : Int32)) (fun x3_2 => f_Re_indexInP_2 n t k x2 x3_2)))))
def f_Re_indexInP (n : Nat) (t : k_St) (x2 : Int32) : Option Int32 := f_Re_indexInP_2 n t n x2 (0 : Int32)
theorem m_Re_indexInP_2 {p : Program} (l : Launch) {e : Env} {s : State} {m : MethodId} {args : Array Value} {below : List Frame} {meth : Method} {c : Code} (G : k_G) (a : Nat → Nat) (n : Nat) (t : k_St) {w0 : va_W} {r : Int32} (hA : k_Amb p s m args meth c cX5_indexIn 4 "TaleShares$Reader" G (va_A w0 s.heap.size)) (hr : meth.sig.returnType = (some .int)) : ∀ (k : Nat) (x2 : Int32) (x3 : Int32), f_Re_indexInP_2 n t k x2 x3 = some r → k_Go p l e (k_rm 1) s m args below meth c (k_QI G w0 r (k_WX G.2.1 a (.ref (a 10)) t) args s below) 4 G (va_A w0 s.heap.size) (k_WX G.2.1 a (.ref (a 10)) t) 2 [(0, .ref (a 18)), (1, .ref (a 19)), (2, .int x2), (3, .int x3)] [] := by
  intro k
  induction k with
  | zero => intro x2 x3 hf; cases hf
  | succ k ih =>
  intro x2 x3 hf
  rw [f_Re_indexInP_2] at hf
  refine k_iload_n (i := 3) hA dX5_indexIn_2 rfl 3 rfl ?_
  refine k_iload_n (i := 2) hA dX5_indexIn_3 rfl 2 rfl ?_
  refine k_icmp_ge (tgt := 32) hA dX5_indexIn_4 rfl (fun hc => ?_) (fun hc => ?_)
  · have hf := k_ift hc hf
    obtain rfl := k_r1 hf
    refine k_iconst hA dX5_indexIn_32 kc_i_m1 ?_
    exact k_iret hA hr rfl dX5_indexIn_33
  have hf := k_iff hc hf
  refine k_iload_n (i := 3) hA dX5_indexIn_7 rfl 3 rfl ?_
  refine k_aload_n (i := 1) hA dX5_indexIn_8 rfl 1 rfl ?_
  refine k_alen (t0 := 2) (v := (8 : Int32)) hA (hc_X_19 G.2.1 a (.ref (a 10)) t) rfl rfl dX5_indexIn_9 ?_
  refine k_icmp_ge (tgt := 32) hA dX5_indexIn_10 rfl (fun hc => ?_) (fun hc => ?_)
  · have hf := k_ift hc hf
    obtain rfl := k_r1 hf
    refine k_iconst hA dX5_indexIn_32 kc_i_m1 ?_
    exact k_iret hA hr rfl dX5_indexIn_33
  have hf := k_iff hc hf
  obtain ⟨hi_1, hf⟩ := k_gi_e hf
  refine k_aload_n (i := 1) hA dX5_indexIn_13 rfl 1 rfl ?_
  refine k_iload_n (i := 3) hA dX5_indexIn_14 rfl 3 rfl ?_
  refine ld_X_19 hA hi_1 dX5_indexIn_15 ?_
  refine k_aload_n (i := 0) hA dX5_indexIn_16 rfl 0 rfl ?_
  refine gt_X_18_8 hA wd_265 dX5_indexIn_17 ?_
  refine k_lcmp hA dX5_indexIn_20 ?_
  refine k_if_ne (tgt := 26) hA dX5_indexIn_21 rfl (fun hc => ?_) (fun hc => ?_)
  · have hf := k_iff hc hf
    obtain ⟨x3_2, ex3_2, hf⟩ := k_lt_e hf
    refine k_iinc (j := 3) (v := x3_2) (lv' := [(3, .int x3_2), (0, .ref (a 18)), (1, .ref (a 19)), (2, .int x2)]) hA dX5_indexIn_26 rfl (k_inc ex3_2 kc_i_1) (Nat.le_of_ble_eq_true rfl) rfl ?_
    refine k_goto (tgt := 2) hA dX5_indexIn_29 rfl ?_
    refine k_pick (lv' := [(0, .ref (a 18)), (1, .ref (a 19)), (2, .int x2), (3, .int x3_2)]) [1, 2, 3, 0] rfl ?_
    exact ih x2 x3_2 hf
  have hf := k_ift hc hf
  obtain rfl := k_r1 hf
  refine k_iload_n (i := 3) hA dX5_indexIn_24 rfl 3 rfl ?_
  exact k_iret hA hr rfl dX5_indexIn_25

theorem m_Re_indexInP (l : Launch) (G : k_G) (a : Nat → Nat) (n : Nat) (t : k_St) (x2 : Int32) {r : Int32} (hf : f_Re_indexInP n t x2 = some r) : k_CI l G yX5_indexIn cX5_indexIn 4 (some .int) 1 (k_WX G.2.1 a (.ref (a 10)) t) [.ref (a 18), .ref (a 19), .int x2] r (k_WX G.2.1 a (.ref (a 10)) t) := by
  refine k_startI (lv := [(0, .ref (a 18)), (1, .ref (a 19)), (2, .int x2)]) (by decide +kernel) (Nat.le_of_ble_eq_true rfl) rfl ?_
  intro p e s m args below meth c hA hr
  have hA : k_Amb p s m args meth c cX5_indexIn 4 "TaleShares$Reader" G _ := hA
  unfold f_Re_indexInP at hf
  refine k_iconst hA dX5_indexIn_0 kc_i_0 ?_
  refine k_istore_n (i := 3) (lv' := [(3, .int (0 : Int32)), (0, .ref (a 18)), (1, .ref (a 19)), (2, .int x2)]) hA dX5_indexIn_1 rfl rfl (Nat.le_of_ble_eq_true rfl) rfl ?_
  refine k_pick (lv' := [(0, .ref (a 18)), (1, .ref (a 19)), (2, .int x2), (3, .int (0 : Int32))]) [1, 2, 3, 0] rfl ?_
  exact m_Re_indexInP_2 l G a n t hA hr n x2 (0 : Int32) hf

def f_Re_nameHereP (n : Nat) (x2 : Int32) (t : k_St) : Option (Int32 × k_St) := k_cp (f_Re_isName n t) (fun r_1 => (if (k_b r_1) = 0 then k_lt (f_Re_fail (1 : Int32) t) (fun q_4 => some ((-1 : Int32), q_4.2)) else k_cp (f_Re_indexInP n t x2) (fun r_2 => (if r_2 = (-1 : Int32) then k_lt (f_Re_fail (2 : Int32) t) (fun q_3 => some (r_2, q_3.2)) else some (r_2, t)))))
theorem m_Re_nameHereP (l : Launch) (G : k_G) (a : Nat → Nat) (n : Nat) (x2 : Int32) (t : k_St) {r : Int32} {t' : k_St} (hf : f_Re_nameHereP n x2 t = some (r, t')) : k_CI l G yX5_nameHere cX5_nameHere 4 (some .int) 7 (k_WX G.2.1 a (.ref (a 10)) t) [.ref (a 18), .ref (a 19), .int x2] r (k_WX G.2.1 a (.ref (a 10)) t') := by
  refine k_startI (lv := [(0, .ref (a 18)), (1, .ref (a 19)), (2, .int x2)]) (by decide +kernel) (Nat.le_of_ble_eq_true rfl) rfl ?_
  intro p e s m args below meth c hA hr
  have hA : k_Amb p s m args meth c cX5_nameHere 4 "TaleShares$Reader" G _ := hA
  unfold f_Re_nameHereP at hf
  obtain ⟨r_1, hr_1, hf⟩ := k_cp_e hf
  refine k_aload_n (i := 0) hA dX5_nameHere_0 rfl 0 rfl ?_
  refine k_callVi (As := []) (rest := []) hA (m_Re_isName l G a n t hr_1) cd_X5_isName wd_602 (hc_X_18 G.2.1 a (.ref (a 10)) t) rfl rfl (Nat.le_of_ble_eq_true rfl) rfl rfl (Nat.le_of_ble_eq_true rfl) dX5_nameHere_1 ?_
  refine k_if_ne (tgt := 15) hA dX5_nameHere_4 rfl (fun hc => ?_) (fun hc => ?_)
  · have hf := k_iff hc hf
    obtain ⟨r_2, hr_2, hf⟩ := k_cp_e hf
    refine k_aload_n (i := 0) hA dX5_nameHere_15 rfl 0 rfl ?_
    refine k_aload_n (i := 1) hA dX5_nameHere_16 rfl 1 rfl ?_
    refine k_iload_n (i := 2) hA dX5_nameHere_17 rfl 2 rfl ?_
    refine k_callVi (As := [.ref (a 19), .int x2]) (rest := []) hA (m_Re_indexInP l G a n t x2 hr_2) cd_X5_indexIn wd_611 (hc_X_18 G.2.1 a (.ref (a 10)) t) rfl rfl (Nat.le_of_ble_eq_true rfl) rfl rfl (Nat.le_of_ble_eq_true rfl) dX5_nameHere_18 ?_
    refine k_istore_n (i := 3) (lv' := [(3, .int r_2), (0, .ref (a 18)), (1, .ref (a 19)), (2, .int x2)]) hA dX5_nameHere_21 rfl rfl (Nat.le_of_ble_eq_true rfl) rfl ?_
    refine k_iload_n (i := 3) hA dX5_nameHere_22 rfl 0 rfl ?_
    refine k_iconst hA dX5_nameHere_23 kc_i_m1 ?_
    refine k_icmp_ne (tgt := 33) hA dX5_nameHere_24 rfl (fun hc => ?_) (fun hc => ?_)
    · have hf := k_iff hc hf
      obtain ⟨rfl, rfl⟩ := k_r2 hf
      refine k_iload_n (i := 3) hA dX5_nameHere_33 rfl 0 rfl ?_
      exact k_iret hA hr rfl dX5_nameHere_34
    have hf := k_ift hc hf
    obtain ⟨⟨rq_3, tq_3⟩, hq_3, hf⟩ := k_lt_e hf
    dsimp only at hf
    obtain ⟨rfl, rfl⟩ := k_r2 hf
    refine k_aload_n (i := 0) hA dX5_nameHere_27 rfl 1 rfl ?_
    refine k_iconst hA dX5_nameHere_28 kc_i_2 ?_
    refine k_callVi (As := [.int (2 : Int32)]) (rest := []) hA (m_Re_fail l G a (2 : Int32) t hq_3.symm) cd_X5_fail wd_575 (hc_X_18 G.2.1 a (.ref (a 10)) t) rfl rfl (Nat.le_of_ble_eq_true rfl) rfl rfl (Nat.le_of_ble_eq_true rfl) dX5_nameHere_29 ?_
    refine k_pop hA dX5_nameHere_32 rfl ?_
    refine k_iload_n (i := 3) hA dX5_nameHere_33 rfl 0 rfl ?_
    exact k_iret hA hr rfl dX5_nameHere_34
  have hf := k_ift hc hf
  obtain ⟨⟨rq_4, tq_4⟩, hq_4, hf⟩ := k_lt_e hf
  dsimp only at hf
  obtain ⟨rfl, rfl⟩ := k_r2 hf
  refine k_aload_n (i := 0) hA dX5_nameHere_7 rfl 0 rfl ?_
  refine k_iconst hA dX5_nameHere_8 kc_i_1 ?_
  refine k_callVi (As := [.int (1 : Int32)]) (rest := []) hA (m_Re_fail l G a (1 : Int32) t hq_4.symm) cd_X5_fail wd_575 (hc_X_18 G.2.1 a (.ref (a 10)) t) rfl rfl (Nat.le_of_ble_eq_true rfl) rfl rfl (Nat.le_of_ble_eq_true rfl) dX5_nameHere_9 ?_
  refine k_pop hA dX5_nameHere_12 rfl ?_
  refine k_iconst hA dX5_nameHere_13 kc_i_m1 ?_
  exact k_iret hA hr rfl dX5_nameHere_14

def f_Re_readMixed_27 (n : Nat) : Nat → Int32 → k_St → Option (Bool × k_St)
  | 0, _, _ => none
  | k + 1, x1, t => (if (6 : Int32) < x1 then k_lt (f_Re_fail (5 : Int32) t) (fun q_1 => some (q_1.1, q_1.2)) else k_cl (f_Re_nameHereP n (t.1 10 2) t) (fun r_3 t_2 => (if r_3 = (-1 : Int32) then some (false, t_2) else (if x1 < (6 : Int32) then k_gi x1 6 (k_lt (k_sI t_2 17 x1.toNatClampNeg r_3) (fun t_5 => k_lt (k_sI t_5 10 7 (x1 + (1 : Int32))) (fun t_6 => k_cv (f_Re_step n t_6) (fun t_7 => (if (t_7.1 18 5) = (5 : Int32) then k_cv (f_Re_step n t_7) (fun t_8 => k_lt (x1 + (1 : Int32)) (fun x1_9 => f_Re_readMixed_27 n k x1_9 t_8)) else some (true, t_7)))))) else k_lt (f_Re_fail (5 : Int32) t_2) (fun q_10 => some (q_10.1, q_10.2))))))
def f_Re_readMixed (n : Nat) (t : k_St) : Option (Bool × k_St) := (if (t.1 10 7) ≤ 0 then k_cl (f_Re_passFirstWord n (0 : Int32) (0 : Int32) t) (fun r_2 t_1 => (if (k_b r_2) = 0 then some (false, t_1) else f_Re_readMixed_27 n n (0 : Int32) t_1)) else k_cl (f_Re_passFirstWord n (1 : Int32) (0 : Int32) t) (fun r_4 t_3 => (if (k_b r_4) = 0 then some (false, t_3) else f_Re_readMixed_27 n n (0 : Int32) t_3)))
theorem m_Re_readMixed_27 {p : Program} (l : Launch) {e : Env} {s : State} {m : MethodId} {args : Array Value} {below : List Frame} {meth : Method} {c : Code} (G : k_G) (a : Nat → Nat) (n : Nat) {w0 : va_W} {r : Bool} {t' : k_St} (hA : k_Amb p s m args meth c cX5_readMixed 3 "TaleShares$Reader" G (va_A w0 s.heap.size)) (hr : meth.sig.returnType = (some .boolean)) : ∀ (k : Nat) (x1 : Int32) (t : k_St), f_Re_readMixed_27 n k x1 t = some (r, t') → k_Go p l e (k_rm 8) s m args below meth c (k_QI G w0 (k_b r) (k_WX G.2.1 a (.ref (a 10)) t') args s below) 3 G (va_A w0 s.heap.size) (k_WX G.2.1 a (.ref (a 10)) t) 27 [(0, .ref (a 18)), (1, .int x1)] [] := by
  intro k
  induction k with
  | zero => intro x1 t hf; cases hf
  | succ k ih =>
  intro x1 t hf
  rw [f_Re_readMixed_27] at hf
  refine k_iload_n (i := 1) hA dX5_readMixed_27 rfl 1 rfl ?_
  refine k_bipush hA dX5_readMixed_28 kc_b_6 ?_
  refine k_icmp_gt (tgt := 112) hA dX5_readMixed_30 rfl (fun hc => ?_) (fun hc => ?_)
  · have hf := k_ift hc hf
    obtain ⟨⟨rq_1, tq_1⟩, hq_1, hf⟩ := k_lt_e hf
    dsimp only at hf
    obtain ⟨rfl, rfl⟩ := k_r2 hf
    refine k_aload_n (i := 0) hA dX5_readMixed_112 rfl 0 rfl ?_
    refine k_iconst hA dX5_readMixed_113 kc_i_5 ?_
    refine k_callVi (As := [.int (5 : Int32)]) (rest := []) hA (m_Re_fail l G a (5 : Int32) t hq_1.symm) cd_X5_fail wd_575 (hc_X_18 G.2.1 a (.ref (a 10)) t) rfl rfl (Nat.le_of_ble_eq_true rfl) rfl rfl (Nat.le_of_ble_eq_true rfl) dX5_readMixed_114 ?_
    exact k_iret hA hr (k_narB (k_b01 _)) dX5_readMixed_117
  have hf := k_iff hc hf
  obtain ⟨r_3, t_2, ht_2, hf⟩ := k_cl_e hf
  refine k_aload_n (i := 0) hA dX5_readMixed_33 rfl 0 rfl ?_
  refine k_aload_n (i := 0) hA dX5_readMixed_34 rfl 0 rfl ?_
  refine gt_X_18_11 hA wd_268 dX5_readMixed_35 ?_
  refine k_aload_n (i := 0) hA dX5_readMixed_38 rfl 0 rfl ?_
  refine gt_X_18_10 hA wd_267 dX5_readMixed_39 ?_
  refine gt_X_10_2 hA wd_168 dX5_readMixed_42 ?_
  refine k_callVi (As := [.ref (a 19), .int (t.1 10 2)]) (rest := []) hA (m_Re_nameHereP l G a n (t.1 10 2) t ht_2) cd_X5_nameHere wd_627 (hc_X_18 G.2.1 a (.ref (a 10)) t) rfl rfl (Nat.le_of_ble_eq_true rfl) rfl rfl (Nat.le_of_ble_eq_true rfl) dX5_readMixed_45 ?_
  refine k_istore_n (i := 2) (lv' := [(2, .int r_3), (0, .ref (a 18)), (1, .int x1)]) hA dX5_readMixed_48 rfl rfl (Nat.le_of_ble_eq_true rfl) rfl ?_
  refine k_iload_n (i := 2) hA dX5_readMixed_49 rfl 0 rfl ?_
  refine k_iconst hA dX5_readMixed_50 kc_i_m1 ?_
  refine k_icmp_ne (tgt := 56) hA dX5_readMixed_51 rfl (fun hc => ?_) (fun hc => ?_)
  · have hf := k_iff hc hf
    refine k_iload_n (i := 1) hA dX5_readMixed_56 rfl 2 rfl ?_
    refine k_bipush hA dX5_readMixed_57 kc_b_6 ?_
    refine k_icmp_lt (tgt := 68) hA dX5_readMixed_59 rfl (fun hc => ?_) (fun hc => ?_)
    · have hf := k_ift hc hf
      obtain ⟨hi_4, hf⟩ := k_gi_e hf
      obtain ⟨t_5, et_5, hf⟩ := k_lt_e hf
      obtain ⟨t_6, et_6, hf⟩ := k_lt_e hf
      obtain ⟨t_7, ht_7, hf⟩ := k_cv_e hf
      refine k_aload_n (i := 0) hA dX5_readMixed_68 rfl 1 rfl ?_
      refine gt_X_18_10 hA wd_267 dX5_readMixed_69 ?_
      refine gt_X_10_14 hA wd_213 dX5_readMixed_72 ?_
      refine k_iload_n (i := 1) hA dX5_readMixed_75 rfl 2 rfl ?_
      refine k_iload_n (i := 2) hA dX5_readMixed_76 rfl 0 rfl ?_
      refine sr_X_17 hA hi_4 et_5 dX5_readMixed_77 ?_
      refine k_aload_n (i := 0) hA dX5_readMixed_78 rfl 1 rfl ?_
      refine gt_X_18_10 hA wd_267 dX5_readMixed_79 ?_
      refine k_iload_n (i := 1) hA dX5_readMixed_82 rfl 2 rfl ?_
      refine k_iconst hA dX5_readMixed_83 kc_i_1 ?_
      refine k_iadd hA dX5_readMixed_84 ?_
      refine pt_X_10_7 hA wd_187 et_6 dX5_readMixed_85 ?_
      refine k_aload_n (i := 0) hA dX5_readMixed_88 rfl 1 rfl ?_
      refine k_callVv (As := []) (rest := []) hA (m_Re_step l G a n t_6 ht_7) cd_X5_step wd_495 (hc_X_18 G.2.1 a (.ref (a 10)) t_6) rfl rfl (Nat.le_of_ble_eq_true rfl) rfl rfl (Nat.le_of_ble_eq_true rfl) dX5_readMixed_89 ?_
      refine k_aload_n (i := 0) hA dX5_readMixed_92 rfl 1 rfl ?_
      refine gt_X_18_6 hA wd_263 dX5_readMixed_93 ?_
      refine k_iconst hA dX5_readMixed_96 kc_i_5 ?_
      refine k_icmp_eq (tgt := 102) hA dX5_readMixed_97 rfl (fun hc => ?_) (fun hc => ?_)
      · have hf := k_ift hc hf
        obtain ⟨t_8, ht_8, hf⟩ := k_cv_e hf
        obtain ⟨x1_9, ex1_9, hf⟩ := k_lt_e hf
        refine k_aload_n (i := 0) hA dX5_readMixed_102 rfl 1 rfl ?_
        refine k_callVv (As := []) (rest := []) hA (m_Re_step l G a n t_7 ht_8) cd_X5_step wd_495 (hc_X_18 G.2.1 a (.ref (a 10)) t_7) rfl rfl (Nat.le_of_ble_eq_true rfl) rfl rfl (Nat.le_of_ble_eq_true rfl) dX5_readMixed_103 ?_
        refine k_iinc (j := 2) (v := x1_9) (lv' := [(1, .int x1_9), (2, .int r_3), (0, .ref (a 18))]) hA dX5_readMixed_106 rfl (k_inc ex1_9 kc_i_1) (Nat.le_of_ble_eq_true rfl) rfl ?_
        refine k_goto (tgt := 27) hA dX5_readMixed_109 rfl ?_
        refine k_pick (lv' := [(0, .ref (a 18)), (1, .int x1_9)]) [2, 0] rfl ?_
        exact ih x1_9 t_8 hf
      have hf := k_iff hc hf
      obtain ⟨rfl, rfl⟩ := k_r2 hf
      refine k_iconst hA dX5_readMixed_100 kc_i_1 ?_
      exact k_iret hA hr (k_narB (k_b01 _)) dX5_readMixed_101
    have hf := k_iff hc hf
    obtain ⟨⟨rq_10, tq_10⟩, hq_10, hf⟩ := k_lt_e hf
    dsimp only at hf
    obtain ⟨rfl, rfl⟩ := k_r2 hf
    refine k_aload_n (i := 0) hA dX5_readMixed_62 rfl 1 rfl ?_
    refine k_iconst hA dX5_readMixed_63 kc_i_5 ?_
    refine k_callVi (As := [.int (5 : Int32)]) (rest := []) hA (m_Re_fail l G a (5 : Int32) t_2 hq_10.symm) cd_X5_fail wd_575 (hc_X_18 G.2.1 a (.ref (a 10)) t_2) rfl rfl (Nat.le_of_ble_eq_true rfl) rfl rfl (Nat.le_of_ble_eq_true rfl) dX5_readMixed_64 ?_
    exact k_iret hA hr (k_narB (k_b01 _)) dX5_readMixed_67
  have hf := k_ift hc hf
  obtain ⟨rfl, rfl⟩ := k_r2 hf
  refine k_iconst hA dX5_readMixed_54 kc_i_0 ?_
  exact k_iret hA hr (k_narB (k_b01 _)) dX5_readMixed_55

theorem m_Re_readMixed (l : Launch) (G : k_G) (a : Nat → Nat) (n : Nat) (t : k_St) {r : Bool} {t' : k_St} (hf : f_Re_readMixed n t = some (r, t')) : k_CI l G yX5_readMixed cX5_readMixed 3 (some .boolean) 8 (k_WX G.2.1 a (.ref (a 10)) t) [.ref (a 18)] (k_b r) (k_WX G.2.1 a (.ref (a 10)) t') := by
  refine k_startI (lv := [(0, .ref (a 18))]) (by decide +kernel) (Nat.le_of_ble_eq_true rfl) rfl ?_
  intro p e s m args below meth c hA hr
  have hA : k_Amb p s m args meth c cX5_readMixed 3 "TaleShares$Reader" G _ := hA
  unfold f_Re_readMixed at hf
  refine k_aload_n (i := 0) hA dX5_readMixed_0 rfl 0 rfl ?_
  refine k_aload_n (i := 0) hA dX5_readMixed_1 rfl 0 rfl ?_
  refine gt_X_18_10 hA wd_267 dX5_readMixed_2 ?_
  refine gt_X_10_7 hA wd_187 dX5_readMixed_5 ?_
  refine k_if_le (tgt := 15) hA dX5_readMixed_8 rfl (fun hc => ?_) (fun hc => ?_)
  · have hf := k_ift hc hf
    obtain ⟨r_2, t_1, ht_1, hf⟩ := k_cl_e hf
    refine k_iconst hA dX5_readMixed_15 kc_i_0 ?_
    refine k_iconst hA dX5_readMixed_16 kc_i_0 ?_
    refine k_callVi (As := [.int (0 : Int32), .int (0 : Int32)]) (rest := []) hA (m_Re_passFirstWord l G a n (0 : Int32) (0 : Int32) t ht_1) cd_X5_passFirstWord wd_594 (hc_X_18 G.2.1 a (.ref (a 10)) t) rfl rfl (Nat.le_of_ble_eq_true rfl) rfl rfl (Nat.le_of_ble_eq_true rfl) dX5_readMixed_17 ?_
    refine k_if_ne (tgt := 25) hA dX5_readMixed_20 rfl (fun hc => ?_) (fun hc => ?_)
    · have hf := k_iff hc hf
      refine k_iconst hA dX5_readMixed_25 kc_i_0 ?_
      refine k_istore_n (i := 1) (lv' := [(1, .int (0 : Int32)), (0, .ref (a 18))]) hA dX5_readMixed_26 rfl rfl (Nat.le_of_ble_eq_true rfl) rfl ?_
      refine k_pick (lv' := [(0, .ref (a 18)), (1, .int (0 : Int32))]) [1, 0] rfl ?_
      exact m_Re_readMixed_27 l G a n hA hr n (0 : Int32) t_1 hf
    have hf := k_ift hc hf
    obtain ⟨rfl, rfl⟩ := k_r2 hf
    refine k_iconst hA dX5_readMixed_23 kc_i_0 ?_
    exact k_iret hA hr (k_narB (k_b01 _)) dX5_readMixed_24
  have hf := k_iff hc hf
  obtain ⟨r_4, t_3, ht_3, hf⟩ := k_cl_e hf
  refine k_iconst hA dX5_readMixed_11 kc_i_1 ?_
  refine k_goto (tgt := 16) hA dX5_readMixed_12 rfl ?_
  refine k_iconst hA dX5_readMixed_16 kc_i_0 ?_
  refine k_callVi (As := [.int (1 : Int32), .int (0 : Int32)]) (rest := []) hA (m_Re_passFirstWord l G a n (1 : Int32) (0 : Int32) t ht_3) cd_X5_passFirstWord wd_594 (hc_X_18 G.2.1 a (.ref (a 10)) t) rfl rfl (Nat.le_of_ble_eq_true rfl) rfl rfl (Nat.le_of_ble_eq_true rfl) dX5_readMixed_17 ?_
  refine k_if_ne (tgt := 25) hA dX5_readMixed_20 rfl (fun hc => ?_) (fun hc => ?_)
  · have hf := k_iff hc hf
    refine k_iconst hA dX5_readMixed_25 kc_i_0 ?_
    refine k_istore_n (i := 1) (lv' := [(1, .int (0 : Int32)), (0, .ref (a 18))]) hA dX5_readMixed_26 rfl rfl (Nat.le_of_ble_eq_true rfl) rfl ?_
    refine k_pick (lv' := [(0, .ref (a 18)), (1, .int (0 : Int32))]) [1, 0] rfl ?_
    exact m_Re_readMixed_27 l G a n hA hr n (0 : Int32) t_3 hf
  have hf := k_ift hc hf
  obtain ⟨rfl, rfl⟩ := k_r2 hf
  refine k_iconst hA dX5_readMixed_23 kc_i_0 ?_
  exact k_iret hA hr (k_narB (k_b01 _)) dX5_readMixed_24

def f_Re_indexInH_2 (n : Nat) (t : k_St) : Nat → Int32 → Int32 → Option Int32
  | 0, _, _ => none
  | k + 1, x2, x3 => (if x2 ≤ x3 then some (-1 : Int32) else (if (5 : Int32) ≤ x3 then some (-1 : Int32) else k_gi x3 5 ((if (lg_cmp (t.2 20 x3.toNatClampNeg) (t.2 18 7)) = 0 then some x3 else k_lt (x3 + (1 : Int32)) (fun x3_2 => f_Re_indexInH_2 n t k x2 x3_2)))))
def f_Re_indexInH (n : Nat) (t : k_St) (x2 : Int32) : Option Int32 := f_Re_indexInH_2 n t n x2 (0 : Int32)
theorem m_Re_indexInH_2 {p : Program} (l : Launch) {e : Env} {s : State} {m : MethodId} {args : Array Value} {below : List Frame} {meth : Method} {c : Code} (G : k_G) (a : Nat → Nat) (n : Nat) (t : k_St) {w0 : va_W} {r : Int32} (hA : k_Amb p s m args meth c cX5_indexIn 4 "TaleShares$Reader" G (va_A w0 s.heap.size)) (hr : meth.sig.returnType = (some .int)) : ∀ (k : Nat) (x2 : Int32) (x3 : Int32), f_Re_indexInH_2 n t k x2 x3 = some r → k_Go p l e (k_rm 1) s m args below meth c (k_QI G w0 r (k_WX G.2.1 a (.ref (a 10)) t) args s below) 4 G (va_A w0 s.heap.size) (k_WX G.2.1 a (.ref (a 10)) t) 2 [(0, .ref (a 18)), (1, .ref (a 20)), (2, .int x2), (3, .int x3)] [] := by
  intro k
  induction k with
  | zero => intro x2 x3 hf; cases hf
  | succ k ih =>
  intro x2 x3 hf
  rw [f_Re_indexInH_2] at hf
  refine k_iload_n (i := 3) hA dX5_indexIn_2 rfl 3 rfl ?_
  refine k_iload_n (i := 2) hA dX5_indexIn_3 rfl 2 rfl ?_
  refine k_icmp_ge (tgt := 32) hA dX5_indexIn_4 rfl (fun hc => ?_) (fun hc => ?_)
  · have hf := k_ift hc hf
    obtain rfl := k_r1 hf
    refine k_iconst hA dX5_indexIn_32 kc_i_m1 ?_
    exact k_iret hA hr rfl dX5_indexIn_33
  have hf := k_iff hc hf
  refine k_iload_n (i := 3) hA dX5_indexIn_7 rfl 3 rfl ?_
  refine k_aload_n (i := 1) hA dX5_indexIn_8 rfl 1 rfl ?_
  refine k_alen (t0 := 2) (v := (5 : Int32)) hA (hc_X_20 G.2.1 a (.ref (a 10)) t) rfl rfl dX5_indexIn_9 ?_
  refine k_icmp_ge (tgt := 32) hA dX5_indexIn_10 rfl (fun hc => ?_) (fun hc => ?_)
  · have hf := k_ift hc hf
    obtain rfl := k_r1 hf
    refine k_iconst hA dX5_indexIn_32 kc_i_m1 ?_
    exact k_iret hA hr rfl dX5_indexIn_33
  have hf := k_iff hc hf
  obtain ⟨hi_1, hf⟩ := k_gi_e hf
  refine k_aload_n (i := 1) hA dX5_indexIn_13 rfl 1 rfl ?_
  refine k_iload_n (i := 3) hA dX5_indexIn_14 rfl 3 rfl ?_
  refine ld_X_20 hA hi_1 dX5_indexIn_15 ?_
  refine k_aload_n (i := 0) hA dX5_indexIn_16 rfl 0 rfl ?_
  refine gt_X_18_8 hA wd_265 dX5_indexIn_17 ?_
  refine k_lcmp hA dX5_indexIn_20 ?_
  refine k_if_ne (tgt := 26) hA dX5_indexIn_21 rfl (fun hc => ?_) (fun hc => ?_)
  · have hf := k_iff hc hf
    obtain ⟨x3_2, ex3_2, hf⟩ := k_lt_e hf
    refine k_iinc (j := 3) (v := x3_2) (lv' := [(3, .int x3_2), (0, .ref (a 18)), (1, .ref (a 20)), (2, .int x2)]) hA dX5_indexIn_26 rfl (k_inc ex3_2 kc_i_1) (Nat.le_of_ble_eq_true rfl) rfl ?_
    refine k_goto (tgt := 2) hA dX5_indexIn_29 rfl ?_
    refine k_pick (lv' := [(0, .ref (a 18)), (1, .ref (a 20)), (2, .int x2), (3, .int x3_2)]) [1, 2, 3, 0] rfl ?_
    exact ih x2 x3_2 hf
  have hf := k_ift hc hf
  obtain rfl := k_r1 hf
  refine k_iload_n (i := 3) hA dX5_indexIn_24 rfl 3 rfl ?_
  exact k_iret hA hr rfl dX5_indexIn_25

theorem m_Re_indexInH (l : Launch) (G : k_G) (a : Nat → Nat) (n : Nat) (t : k_St) (x2 : Int32) {r : Int32} (hf : f_Re_indexInH n t x2 = some r) : k_CI l G yX5_indexIn cX5_indexIn 4 (some .int) 1 (k_WX G.2.1 a (.ref (a 10)) t) [.ref (a 18), .ref (a 20), .int x2] r (k_WX G.2.1 a (.ref (a 10)) t) := by
  refine k_startI (lv := [(0, .ref (a 18)), (1, .ref (a 20)), (2, .int x2)]) (by decide +kernel) (Nat.le_of_ble_eq_true rfl) rfl ?_
  intro p e s m args below meth c hA hr
  have hA : k_Amb p s m args meth c cX5_indexIn 4 "TaleShares$Reader" G _ := hA
  unfold f_Re_indexInH at hf
  refine k_iconst hA dX5_indexIn_0 kc_i_0 ?_
  refine k_istore_n (i := 3) (lv' := [(3, .int (0 : Int32)), (0, .ref (a 18)), (1, .ref (a 20)), (2, .int x2)]) hA dX5_indexIn_1 rfl rfl (Nat.le_of_ble_eq_true rfl) rfl ?_
  refine k_pick (lv' := [(0, .ref (a 18)), (1, .ref (a 20)), (2, .int x2), (3, .int (0 : Int32))]) [1, 2, 3, 0] rfl ?_
  exact m_Re_indexInH_2 l G a n t hA hr n x2 (0 : Int32) hf

def f_Re_nameHereH (n : Nat) (x2 : Int32) (t : k_St) : Option (Int32 × k_St) := k_cp (f_Re_isName n t) (fun r_1 => (if (k_b r_1) = 0 then k_lt (f_Re_fail (1 : Int32) t) (fun q_4 => some ((-1 : Int32), q_4.2)) else k_cp (f_Re_indexInH n t x2) (fun r_2 => (if r_2 = (-1 : Int32) then k_lt (f_Re_fail (2 : Int32) t) (fun q_3 => some (r_2, q_3.2)) else some (r_2, t)))))
theorem m_Re_nameHereH (l : Launch) (G : k_G) (a : Nat → Nat) (n : Nat) (x2 : Int32) (t : k_St) {r : Int32} {t' : k_St} (hf : f_Re_nameHereH n x2 t = some (r, t')) : k_CI l G yX5_nameHere cX5_nameHere 4 (some .int) 7 (k_WX G.2.1 a (.ref (a 10)) t) [.ref (a 18), .ref (a 20), .int x2] r (k_WX G.2.1 a (.ref (a 10)) t') := by
  refine k_startI (lv := [(0, .ref (a 18)), (1, .ref (a 20)), (2, .int x2)]) (by decide +kernel) (Nat.le_of_ble_eq_true rfl) rfl ?_
  intro p e s m args below meth c hA hr
  have hA : k_Amb p s m args meth c cX5_nameHere 4 "TaleShares$Reader" G _ := hA
  unfold f_Re_nameHereH at hf
  obtain ⟨r_1, hr_1, hf⟩ := k_cp_e hf
  refine k_aload_n (i := 0) hA dX5_nameHere_0 rfl 0 rfl ?_
  refine k_callVi (As := []) (rest := []) hA (m_Re_isName l G a n t hr_1) cd_X5_isName wd_602 (hc_X_18 G.2.1 a (.ref (a 10)) t) rfl rfl (Nat.le_of_ble_eq_true rfl) rfl rfl (Nat.le_of_ble_eq_true rfl) dX5_nameHere_1 ?_
  refine k_if_ne (tgt := 15) hA dX5_nameHere_4 rfl (fun hc => ?_) (fun hc => ?_)
  · have hf := k_iff hc hf
    obtain ⟨r_2, hr_2, hf⟩ := k_cp_e hf
    refine k_aload_n (i := 0) hA dX5_nameHere_15 rfl 0 rfl ?_
    refine k_aload_n (i := 1) hA dX5_nameHere_16 rfl 1 rfl ?_
    refine k_iload_n (i := 2) hA dX5_nameHere_17 rfl 2 rfl ?_
    refine k_callVi (As := [.ref (a 20), .int x2]) (rest := []) hA (m_Re_indexInH l G a n t x2 hr_2) cd_X5_indexIn wd_611 (hc_X_18 G.2.1 a (.ref (a 10)) t) rfl rfl (Nat.le_of_ble_eq_true rfl) rfl rfl (Nat.le_of_ble_eq_true rfl) dX5_nameHere_18 ?_
    refine k_istore_n (i := 3) (lv' := [(3, .int r_2), (0, .ref (a 18)), (1, .ref (a 20)), (2, .int x2)]) hA dX5_nameHere_21 rfl rfl (Nat.le_of_ble_eq_true rfl) rfl ?_
    refine k_iload_n (i := 3) hA dX5_nameHere_22 rfl 0 rfl ?_
    refine k_iconst hA dX5_nameHere_23 kc_i_m1 ?_
    refine k_icmp_ne (tgt := 33) hA dX5_nameHere_24 rfl (fun hc => ?_) (fun hc => ?_)
    · have hf := k_iff hc hf
      obtain ⟨rfl, rfl⟩ := k_r2 hf
      refine k_iload_n (i := 3) hA dX5_nameHere_33 rfl 0 rfl ?_
      exact k_iret hA hr rfl dX5_nameHere_34
    have hf := k_ift hc hf
    obtain ⟨⟨rq_3, tq_3⟩, hq_3, hf⟩ := k_lt_e hf
    dsimp only at hf
    obtain ⟨rfl, rfl⟩ := k_r2 hf
    refine k_aload_n (i := 0) hA dX5_nameHere_27 rfl 1 rfl ?_
    refine k_iconst hA dX5_nameHere_28 kc_i_2 ?_
    refine k_callVi (As := [.int (2 : Int32)]) (rest := []) hA (m_Re_fail l G a (2 : Int32) t hq_3.symm) cd_X5_fail wd_575 (hc_X_18 G.2.1 a (.ref (a 10)) t) rfl rfl (Nat.le_of_ble_eq_true rfl) rfl rfl (Nat.le_of_ble_eq_true rfl) dX5_nameHere_29 ?_
    refine k_pop hA dX5_nameHere_32 rfl ?_
    refine k_iload_n (i := 3) hA dX5_nameHere_33 rfl 0 rfl ?_
    exact k_iret hA hr rfl dX5_nameHere_34
  have hf := k_ift hc hf
  obtain ⟨⟨rq_4, tq_4⟩, hq_4, hf⟩ := k_lt_e hf
  dsimp only at hf
  obtain ⟨rfl, rfl⟩ := k_r2 hf
  refine k_aload_n (i := 0) hA dX5_nameHere_7 rfl 0 rfl ?_
  refine k_iconst hA dX5_nameHere_8 kc_i_1 ?_
  refine k_callVi (As := [.int (1 : Int32)]) (rest := []) hA (m_Re_fail l G a (1 : Int32) t hq_4.symm) cd_X5_fail wd_575 (hc_X_18 G.2.1 a (.ref (a 10)) t) rfl rfl (Nat.le_of_ble_eq_true rfl) rfl rfl (Nat.le_of_ble_eq_true rfl) dX5_nameHere_9 ?_
  refine k_pop hA dX5_nameHere_12 rfl ?_
  refine k_iconst hA dX5_nameHere_13 kc_i_m1 ?_
  exact k_iret hA hr rfl dX5_nameHere_14

def f_Te_isSilentS (t : k_St) (x1 : Int32) : Bool := (if (((t.1 10 6) >>> (x1 &&& 31)) &&& (1 : Int32)) = 0 then false else true)
theorem m_Te_isSilentS (l : Launch) (G : k_G) (a : Nat → Nat) (t : k_St) (x1 : Int32) {r : Bool} (hf : f_Te_isSilentS t x1 = r) : k_CI l G yX8_isSilent cX8_isSilent 2 (some .boolean) 1 (k_WX G.2.1 a (.ref (a 10)) t) [.ref (a 10), .int x1] (k_b r) (k_WX G.2.1 a (.ref (a 10)) t) := by
  refine k_startI (lv := [(0, .ref (a 10)), (1, .int x1)]) (by decide +kernel) (Nat.le_of_ble_eq_true rfl) rfl ?_
  intro p e s m args below meth c hA hr
  have hA : k_Amb p s m args meth c cX8_isSilent 2 "TaleShares$Terrace" G _ := hA
  unfold f_Te_isSilentS at hf
  refine k_aload_n (i := 0) hA dX8_isSilent_0 rfl 0 rfl ?_
  refine gt_X_10_6 hA wd_182 dX8_isSilent_1 ?_
  refine k_iload_n (i := 1) hA dX8_isSilent_4 rfl 1 rfl ?_
  refine k_ishr hA dX8_isSilent_5 ?_
  refine k_iconst hA dX8_isSilent_6 kc_i_1 ?_
  refine k_iand hA dX8_isSilent_7 ?_
  refine k_if_eq (tgt := 15) hA dX8_isSilent_8 rfl (fun hc => ?_) (fun hc => ?_)
  · have hf := k_ift hc hf
    subst hf
    refine k_iconst hA dX8_isSilent_15 kc_i_0 ?_
    exact k_iret hA hr (k_narB (k_b01 _)) dX8_isSilent_16
  have hf := k_iff hc hf
  subst hf
  refine k_iconst hA dX8_isSilent_11 kc_i_1 ?_
  refine k_goto (tgt := 16) hA dX8_isSilent_12 rfl ?_
  exact k_iret hA hr (k_narB (k_b01 _)) dX8_isSilent_16

def f_Re_readSilent (n : Nat) (t : k_St) : Option (Bool × k_St) := k_cl (f_Re_passFirstWord n (0 : Int32) (0 : Int32) t) (fun r_2 t_1 => (if (k_b r_2) = 0 then some (false, t_1) else k_cl (f_Re_nameHereH n (t_1.1 10 4) t_1) (fun r_4 t_3 => (if r_4 = (-1 : Int32) then some (false, t_3) else (if (k_b (f_Te_isSilentS t_3 r_4)) = 0 then k_cv (f_Re_step n t_3) (fun t_5 => k_lt (k_sI t_5 10 6 ((t_5.1 10 6) ||| ((1 : Int32) <<< (r_4 &&& 31)))) (fun t_6 => some (true, t_6))) else k_lt (f_Re_fail (3 : Int32) t_3) (fun q_7 => some (q_7.1, q_7.2)))))))
theorem m_Re_readSilent (l : Launch) (G : k_G) (a : Nat → Nat) (n : Nat) (t : k_St) {r : Bool} {t' : k_St} (hf : f_Re_readSilent n t = some (r, t')) : k_CI l G yX5_readSilent cX5_readSilent 2 (some .boolean) 8 (k_WX G.2.1 a (.ref (a 10)) t) [.ref (a 18)] (k_b r) (k_WX G.2.1 a (.ref (a 10)) t') := by
  refine k_startI (lv := [(0, .ref (a 18))]) (by decide +kernel) (Nat.le_of_ble_eq_true rfl) rfl ?_
  intro p e s m args below meth c hA hr
  have hA : k_Amb p s m args meth c cX5_readSilent 2 "TaleShares$Reader" G _ := hA
  unfold f_Re_readSilent at hf
  obtain ⟨r_2, t_1, ht_1, hf⟩ := k_cl_e hf
  refine k_aload_n (i := 0) hA dX5_readSilent_0 rfl 0 rfl ?_
  refine k_iconst hA dX5_readSilent_1 kc_i_0 ?_
  refine k_iconst hA dX5_readSilent_2 kc_i_0 ?_
  refine k_callVi (As := [.int (0 : Int32), .int (0 : Int32)]) (rest := []) hA (m_Re_passFirstWord l G a n (0 : Int32) (0 : Int32) t ht_1) cd_X5_passFirstWord wd_594 (hc_X_18 G.2.1 a (.ref (a 10)) t) rfl rfl (Nat.le_of_ble_eq_true rfl) rfl rfl (Nat.le_of_ble_eq_true rfl) dX5_readSilent_3 ?_
  refine k_if_ne (tgt := 11) hA dX5_readSilent_6 rfl (fun hc => ?_) (fun hc => ?_)
  · have hf := k_iff hc hf
    obtain ⟨r_4, t_3, ht_3, hf⟩ := k_cl_e hf
    refine k_aload_n (i := 0) hA dX5_readSilent_11 rfl 0 rfl ?_
    refine k_aload_n (i := 0) hA dX5_readSilent_12 rfl 0 rfl ?_
    refine gt_X_18_12 hA wd_269 dX5_readSilent_13 ?_
    refine k_aload_n (i := 0) hA dX5_readSilent_16 rfl 0 rfl ?_
    refine gt_X_18_10 hA wd_267 dX5_readSilent_17 ?_
    refine gt_X_10_4 hA wd_176 dX5_readSilent_20 ?_
    refine k_callVi (As := [.ref (a 20), .int (t_1.1 10 4)]) (rest := []) hA (m_Re_nameHereH l G a n (t_1.1 10 4) t_1 ht_3) cd_X5_nameHere wd_627 (hc_X_18 G.2.1 a (.ref (a 10)) t_1) rfl rfl (Nat.le_of_ble_eq_true rfl) rfl rfl (Nat.le_of_ble_eq_true rfl) dX5_readSilent_23 ?_
    refine k_istore_n (i := 1) (lv' := [(1, .int r_4), (0, .ref (a 18))]) hA dX5_readSilent_26 rfl rfl (Nat.le_of_ble_eq_true rfl) rfl ?_
    refine k_iload_n (i := 1) hA dX5_readSilent_27 rfl 0 rfl ?_
    refine k_iconst hA dX5_readSilent_28 kc_i_m1 ?_
    refine k_icmp_ne (tgt := 34) hA dX5_readSilent_29 rfl (fun hc => ?_) (fun hc => ?_)
    · have hf := k_iff hc hf
      refine k_aload_n (i := 0) hA dX5_readSilent_34 rfl 1 rfl ?_
      refine gt_X_18_10 hA wd_267 dX5_readSilent_35 ?_
      refine k_iload_n (i := 1) hA dX5_readSilent_38 rfl 0 rfl ?_
      refine k_callVi (As := [.int r_4]) (rest := []) hA (m_Te_isSilentS l G a t_3 r_4 rfl) cd_X8_isSilent wd_650 (hc_X_10 G.2.1 a (.ref (a 10)) t_3) rfl rfl (Nat.le_of_ble_eq_true rfl) rfl rfl (Nat.le_of_ble_eq_true rfl) dX5_readSilent_39 ?_
      refine k_if_eq (tgt := 51) hA dX5_readSilent_42 rfl (fun hc => ?_) (fun hc => ?_)
      · have hf := k_ift hc hf
        obtain ⟨t_5, ht_5, hf⟩ := k_cv_e hf
        obtain ⟨t_6, et_6, hf⟩ := k_lt_e hf
        obtain ⟨rfl, rfl⟩ := k_r2 hf
        refine k_aload_n (i := 0) hA dX5_readSilent_51 rfl 1 rfl ?_
        refine k_callVv (As := []) (rest := []) hA (m_Re_step l G a n t_3 ht_5) cd_X5_step wd_495 (hc_X_18 G.2.1 a (.ref (a 10)) t_3) rfl rfl (Nat.le_of_ble_eq_true rfl) rfl rfl (Nat.le_of_ble_eq_true rfl) dX5_readSilent_52 ?_
        refine k_aload_n (i := 0) hA dX5_readSilent_55 rfl 1 rfl ?_
        refine gt_X_18_10 hA wd_267 dX5_readSilent_56 ?_
        refine k_dup hA dX5_readSilent_59 rfl ?_
        refine gt_X_10_6 hA wd_184 dX5_readSilent_60 ?_
        refine k_iconst hA dX5_readSilent_63 kc_i_1 ?_
        refine k_iload_n (i := 1) hA dX5_readSilent_64 rfl 0 rfl ?_
        refine k_ishl hA dX5_readSilent_65 ?_
        refine k_ior hA dX5_readSilent_66 ?_
        refine pt_X_10_6 hA wd_184 et_6 dX5_readSilent_67 ?_
        refine k_iconst hA dX5_readSilent_70 kc_i_1 ?_
        exact k_iret hA hr (k_narB (k_b01 _)) dX5_readSilent_71
      have hf := k_iff hc hf
      obtain ⟨⟨rq_7, tq_7⟩, hq_7, hf⟩ := k_lt_e hf
      dsimp only at hf
      obtain ⟨rfl, rfl⟩ := k_r2 hf
      refine k_aload_n (i := 0) hA dX5_readSilent_45 rfl 1 rfl ?_
      refine k_iconst hA dX5_readSilent_46 kc_i_3 ?_
      refine k_callVi (As := [.int (3 : Int32)]) (rest := []) hA (m_Re_fail l G a (3 : Int32) t_3 hq_7.symm) cd_X5_fail wd_575 (hc_X_18 G.2.1 a (.ref (a 10)) t_3) rfl rfl (Nat.le_of_ble_eq_true rfl) rfl rfl (Nat.le_of_ble_eq_true rfl) dX5_readSilent_47 ?_
      exact k_iret hA hr (k_narB (k_b01 _)) dX5_readSilent_50
    have hf := k_ift hc hf
    obtain ⟨rfl, rfl⟩ := k_r2 hf
    refine k_iconst hA dX5_readSilent_32 kc_i_0 ?_
    exact k_iret hA hr (k_narB (k_b01 _)) dX5_readSilent_33
  have hf := k_ift hc hf
  obtain ⟨rfl, rfl⟩ := k_r2 hf
  refine k_iconst hA dX5_readSilent_9 kc_i_0 ?_
  exact k_iret hA hr (k_narB (k_b01 _)) dX5_readSilent_10

def f_Re_readHeard_19 (n : Nat) (s1 : Int32) (s2 : Int32) (t : k_St) : Option (Bool × k_St) := k_cl (f_Re_passFirstWord n s1 s2 t) (fun r_2 t_1 => (if (k_b r_2) = 0 then some (false, t_1) else k_cl (f_Re_nameHereH n (t_1.1 10 4) t_1) (fun r_4 t_3 => (if r_4 = (-1 : Int32) then some (false, t_3) else k_cv (f_Re_step n t_3) (fun t_5 => k_cl (f_Re_nameHereP n (t_5.1 10 2) t_5) (fun r_7 t_6 => (if r_7 = (-1 : Int32) then some (false, t_6) else k_gi r_4 5 ((if (((t_6.1 16 r_4.toNatClampNeg) >>> (r_7 &&& 31)) &&& (1 : Int32)) = 0 then k_cv (f_Re_step n t_6) (fun t_9 => k_gi r_4 5 (k_gi r_4 5 (k_lt (k_sI t_9 16 r_4.toNatClampNeg ((t_9.1 16 r_4.toNatClampNeg) ||| ((1 : Int32) <<< (r_7 &&& 31)))) (fun t_12 => k_lt (k_sI t_12 10 5 ((t_12.1 10 5) + (1 : Int32))) (fun t_13 => some (true, t_13)))))) else k_lt (f_Re_fail (3 : Int32) t_6) (fun q_14 => some (q_14.1, q_14.2)))))))))))
def f_Re_readHeard (n : Nat) (t : k_St) : Option (Bool × k_St) := (if (t.1 10 5) < (14 : Int32) then f_Re_readHeard_19 n (0 : Int32) (0 : Int32) t else f_Re_readHeard_19 n (0 : Int32) (1 : Int32) t)
theorem m_Re_readHeard_19 {p : Program} (l : Launch) {e : Env} {s : State} {m : MethodId} {args : Array Value} {below : List Frame} {meth : Method} {c : Code} (G : k_G) (a : Nat → Nat) (n : Nat) {w0 : va_W} {r : Bool} {t' : k_St} (hA : k_Amb p s m args meth c cX5_readHeard 3 "TaleShares$Reader" G (va_A w0 s.heap.size)) (hr : meth.sig.returnType = (some .boolean)) : ∀ (s1 : Int32) (s2 : Int32) (t : k_St), f_Re_readHeard_19 n s1 s2 t = some (r, t') → k_Go p l e (k_rm 8) s m args below meth c (k_QI G w0 (k_b r) (k_WX G.2.1 a (.ref (a 10)) t') args s below) 3 G (va_A w0 s.heap.size) (k_WX G.2.1 a (.ref (a 10)) t) 19 [(0, .ref (a 18))] [.int s2, .int s1, .ref (a 18)] := by
  intro s1 s2 t hf
  unfold f_Re_readHeard_19 at hf
  obtain ⟨r_2, t_1, ht_1, hf⟩ := k_cl_e hf
  refine k_callVi (As := [.int s1, .int s2]) (rest := []) hA (m_Re_passFirstWord l G a n s1 s2 t ht_1) cd_X5_passFirstWord wd_594 (hc_X_18 G.2.1 a (.ref (a 10)) t) rfl rfl (Nat.le_of_ble_eq_true rfl) rfl rfl (Nat.le_of_ble_eq_true rfl) dX5_readHeard_19 ?_
  refine k_if_ne (tgt := 27) hA dX5_readHeard_22 rfl (fun hc => ?_) (fun hc => ?_)
  · have hf := k_iff hc hf
    obtain ⟨r_4, t_3, ht_3, hf⟩ := k_cl_e hf
    refine k_aload_n (i := 0) hA dX5_readHeard_27 rfl 0 rfl ?_
    refine k_aload_n (i := 0) hA dX5_readHeard_28 rfl 0 rfl ?_
    refine gt_X_18_12 hA wd_269 dX5_readHeard_29 ?_
    refine k_aload_n (i := 0) hA dX5_readHeard_32 rfl 0 rfl ?_
    refine gt_X_18_10 hA wd_267 dX5_readHeard_33 ?_
    refine gt_X_10_4 hA wd_176 dX5_readHeard_36 ?_
    refine k_callVi (As := [.ref (a 20), .int (t_1.1 10 4)]) (rest := []) hA (m_Re_nameHereH l G a n (t_1.1 10 4) t_1 ht_3) cd_X5_nameHere wd_627 (hc_X_18 G.2.1 a (.ref (a 10)) t_1) rfl rfl (Nat.le_of_ble_eq_true rfl) rfl rfl (Nat.le_of_ble_eq_true rfl) dX5_readHeard_39 ?_
    refine k_istore_n (i := 1) (lv' := [(1, .int r_4), (0, .ref (a 18))]) hA dX5_readHeard_42 rfl rfl (Nat.le_of_ble_eq_true rfl) rfl ?_
    refine k_iload_n (i := 1) hA dX5_readHeard_43 rfl 0 rfl ?_
    refine k_iconst hA dX5_readHeard_44 kc_i_m1 ?_
    refine k_icmp_ne (tgt := 50) hA dX5_readHeard_45 rfl (fun hc => ?_) (fun hc => ?_)
    · have hf := k_iff hc hf
      obtain ⟨t_5, ht_5, hf⟩ := k_cv_e hf
      obtain ⟨r_7, t_6, ht_6, hf⟩ := k_cl_e hf
      refine k_aload_n (i := 0) hA dX5_readHeard_50 rfl 1 rfl ?_
      refine k_callVv (As := []) (rest := []) hA (m_Re_step l G a n t_3 ht_5) cd_X5_step wd_495 (hc_X_18 G.2.1 a (.ref (a 10)) t_3) rfl rfl (Nat.le_of_ble_eq_true rfl) rfl rfl (Nat.le_of_ble_eq_true rfl) dX5_readHeard_51 ?_
      refine k_aload_n (i := 0) hA dX5_readHeard_54 rfl 1 rfl ?_
      refine k_aload_n (i := 0) hA dX5_readHeard_55 rfl 1 rfl ?_
      refine gt_X_18_11 hA wd_268 dX5_readHeard_56 ?_
      refine k_aload_n (i := 0) hA dX5_readHeard_59 rfl 1 rfl ?_
      refine gt_X_18_10 hA wd_267 dX5_readHeard_60 ?_
      refine gt_X_10_2 hA wd_168 dX5_readHeard_63 ?_
      refine k_callVi (As := [.ref (a 19), .int (t_5.1 10 2)]) (rest := []) hA (m_Re_nameHereP l G a n (t_5.1 10 2) t_5 ht_6) cd_X5_nameHere wd_627 (hc_X_18 G.2.1 a (.ref (a 10)) t_5) rfl rfl (Nat.le_of_ble_eq_true rfl) rfl rfl (Nat.le_of_ble_eq_true rfl) dX5_readHeard_66 ?_
      refine k_istore_n (i := 2) (lv' := [(2, .int r_7), (1, .int r_4), (0, .ref (a 18))]) hA dX5_readHeard_69 rfl rfl (Nat.le_of_ble_eq_true rfl) rfl ?_
      refine k_iload_n (i := 2) hA dX5_readHeard_70 rfl 0 rfl ?_
      refine k_iconst hA dX5_readHeard_71 kc_i_m1 ?_
      refine k_icmp_ne (tgt := 77) hA dX5_readHeard_72 rfl (fun hc => ?_) (fun hc => ?_)
      · have hf := k_iff hc hf
        obtain ⟨hi_8, hf⟩ := k_gi_e hf
        refine k_aload_n (i := 0) hA dX5_readHeard_77 rfl 2 rfl ?_
        refine gt_X_18_10 hA wd_267 dX5_readHeard_78 ?_
        refine gt_X_10_13 hA wd_210 dX5_readHeard_81 ?_
        refine k_iload_n (i := 1) hA dX5_readHeard_84 rfl 1 rfl ?_
        refine ld_X_16 hA hi_8 dX5_readHeard_85 ?_
        refine k_iload_n (i := 2) hA dX5_readHeard_86 rfl 0 rfl ?_
        refine k_ishr hA dX5_readHeard_87 ?_
        refine k_iconst hA dX5_readHeard_88 kc_i_1 ?_
        refine k_iand hA dX5_readHeard_89 ?_
        refine k_if_eq (tgt := 99) hA dX5_readHeard_90 rfl (fun hc => ?_) (fun hc => ?_)
        · have hf := k_ift hc hf
          obtain ⟨t_9, ht_9, hf⟩ := k_cv_e hf
          obtain ⟨hi_10, hf⟩ := k_gi_e hf
          obtain ⟨hi_11, hf⟩ := k_gi_e hf
          obtain ⟨t_12, et_12, hf⟩ := k_lt_e hf
          obtain ⟨t_13, et_13, hf⟩ := k_lt_e hf
          obtain ⟨rfl, rfl⟩ := k_r2 hf
          refine k_aload_n (i := 0) hA dX5_readHeard_99 rfl 2 rfl ?_
          refine k_callVv (As := []) (rest := []) hA (m_Re_step l G a n t_6 ht_9) cd_X5_step wd_495 (hc_X_18 G.2.1 a (.ref (a 10)) t_6) rfl rfl (Nat.le_of_ble_eq_true rfl) rfl rfl (Nat.le_of_ble_eq_true rfl) dX5_readHeard_100 ?_
          refine k_aload_n (i := 0) hA dX5_readHeard_103 rfl 2 rfl ?_
          refine gt_X_18_10 hA wd_267 dX5_readHeard_104 ?_
          refine gt_X_10_13 hA wd_210 dX5_readHeard_107 ?_
          refine k_iload_n (i := 1) hA dX5_readHeard_110 rfl 1 rfl ?_
          refine k_dup2_11 hA dX5_readHeard_111 rfl rfl ?_
          refine ld_X_16 hA hi_10 dX5_readHeard_112 ?_
          refine k_iconst hA dX5_readHeard_113 kc_i_1 ?_
          refine k_iload_n (i := 2) hA dX5_readHeard_114 rfl 0 rfl ?_
          refine k_ishl hA dX5_readHeard_115 ?_
          refine k_ior hA dX5_readHeard_116 ?_
          refine sr_X_16 hA hi_11 et_12 dX5_readHeard_117 ?_
          refine k_aload_n (i := 0) hA dX5_readHeard_118 rfl 2 rfl ?_
          refine gt_X_18_10 hA wd_267 dX5_readHeard_119 ?_
          refine k_dup hA dX5_readHeard_122 rfl ?_
          refine gt_X_10_5 hA wd_179 dX5_readHeard_123 ?_
          refine k_iconst hA dX5_readHeard_126 kc_i_1 ?_
          refine k_iadd hA dX5_readHeard_127 ?_
          refine pt_X_10_5 hA wd_179 et_13 dX5_readHeard_128 ?_
          refine k_iconst hA dX5_readHeard_131 kc_i_1 ?_
          exact k_iret hA hr (k_narB (k_b01 _)) dX5_readHeard_132
        have hf := k_iff hc hf
        obtain ⟨⟨rq_14, tq_14⟩, hq_14, hf⟩ := k_lt_e hf
        dsimp only at hf
        obtain ⟨rfl, rfl⟩ := k_r2 hf
        refine k_aload_n (i := 0) hA dX5_readHeard_93 rfl 2 rfl ?_
        refine k_iconst hA dX5_readHeard_94 kc_i_3 ?_
        refine k_callVi (As := [.int (3 : Int32)]) (rest := []) hA (m_Re_fail l G a (3 : Int32) t_6 hq_14.symm) cd_X5_fail wd_575 (hc_X_18 G.2.1 a (.ref (a 10)) t_6) rfl rfl (Nat.le_of_ble_eq_true rfl) rfl rfl (Nat.le_of_ble_eq_true rfl) dX5_readHeard_95 ?_
        exact k_iret hA hr (k_narB (k_b01 _)) dX5_readHeard_98
      have hf := k_ift hc hf
      obtain ⟨rfl, rfl⟩ := k_r2 hf
      refine k_iconst hA dX5_readHeard_75 kc_i_0 ?_
      exact k_iret hA hr (k_narB (k_b01 _)) dX5_readHeard_76
    have hf := k_ift hc hf
    obtain ⟨rfl, rfl⟩ := k_r2 hf
    refine k_iconst hA dX5_readHeard_48 kc_i_0 ?_
    exact k_iret hA hr (k_narB (k_b01 _)) dX5_readHeard_49
  have hf := k_ift hc hf
  obtain ⟨rfl, rfl⟩ := k_r2 hf
  refine k_iconst hA dX5_readHeard_25 kc_i_0 ?_
  exact k_iret hA hr (k_narB (k_b01 _)) dX5_readHeard_26

theorem m_Re_readHeard (l : Launch) (G : k_G) (a : Nat → Nat) (n : Nat) (t : k_St) {r : Bool} {t' : k_St} (hf : f_Re_readHeard n t = some (r, t')) : k_CI l G yX5_readHeard cX5_readHeard 3 (some .boolean) 8 (k_WX G.2.1 a (.ref (a 10)) t) [.ref (a 18)] (k_b r) (k_WX G.2.1 a (.ref (a 10)) t') := by
  refine k_startI (lv := [(0, .ref (a 18))]) (by decide +kernel) (Nat.le_of_ble_eq_true rfl) rfl ?_
  intro p e s m args below meth c hA hr
  have hA : k_Amb p s m args meth c cX5_readHeard 3 "TaleShares$Reader" G _ := hA
  unfold f_Re_readHeard at hf
  refine k_aload_n (i := 0) hA dX5_readHeard_0 rfl 0 rfl ?_
  refine k_iconst hA dX5_readHeard_1 kc_i_0 ?_
  refine k_aload_n (i := 0) hA dX5_readHeard_2 rfl 0 rfl ?_
  refine gt_X_18_10 hA wd_267 dX5_readHeard_3 ?_
  refine gt_X_10_5 hA wd_179 dX5_readHeard_6 ?_
  refine k_bipush hA dX5_readHeard_9 kc_b_14 ?_
  refine k_icmp_lt (tgt := 18) hA dX5_readHeard_11 rfl (fun hc => ?_) (fun hc => ?_)
  · have hf := k_ift hc hf
    refine k_iconst hA dX5_readHeard_18 kc_i_0 ?_
    exact m_Re_readHeard_19 l G a n hA hr (0 : Int32) (0 : Int32) t hf
  have hf := k_iff hc hf
  refine k_iconst hA dX5_readHeard_14 kc_i_1 ?_
  refine k_goto (tgt := 19) hA dX5_readHeard_15 rfl ?_
  exact m_Re_readHeard_19 l G a n hA hr (0 : Int32) (1 : Int32) t hf

def f_Re_isNewName_51 (n : Nat) (t : k_St) : Option (Bool × k_St) := (if (1 : Int32) = 0 then some (true, t) else k_lt (f_Re_fail (3 : Int32) t) (fun q_1 => (if (k_b q_1.1) = 0 then some (false, q_1.2) else some (true, q_1.2))))
def f_Re_isNewName (n : Nat) (t : k_St) : Option (Bool × k_St) := k_cp (f_Re_isName n t) (fun r_1 => (if (k_b r_1) = 0 then k_lt (f_Re_fail (1 : Int32) t) (fun q_5 => some (q_5.1, q_5.2)) else k_cp (f_Re_indexInP n t (t.1 10 2)) (fun r_2 => (if r_2 = (-1 : Int32) then k_cp (f_Re_indexInH n t (t.1 10 4)) (fun r_3 => (if r_3 = (-1 : Int32) then (if (0 : Int32) = 0 then some (true, t) else k_lt (f_Re_fail (3 : Int32) t) (fun q_4 => (if (k_b q_4.1) = 0 then some (false, q_4.2) else some (true, q_4.2)))) else f_Re_isNewName_51 n t)) else f_Re_isNewName_51 n t))))
theorem m_Re_isNewName_51 {p : Program} (l : Launch) {e : Env} {s : State} {m : MethodId} {args : Array Value} {below : List Frame} {meth : Method} {c : Code} (G : k_G) (a : Nat → Nat) (n : Nat) {w0 : va_W} {r : Bool} {t' : k_St} (hA : k_Amb p s m args meth c cX5_isNewName 2 "TaleShares$Reader" G (va_A w0 s.heap.size)) (hr : meth.sig.returnType = (some .boolean)) : ∀ (t : k_St), f_Re_isNewName_51 n t = some (r, t') → k_Go p l e (k_rm 7) s m args below meth c (k_QI G w0 (k_b r) (k_WX G.2.1 a (.ref (a 10)) t') args s below) 2 G (va_A w0 s.heap.size) (k_WX G.2.1 a (.ref (a 10)) t) 51 [(0, .ref (a 18))] [] := by
  intro t hf
  unfold f_Re_isNewName_51 at hf
  refine k_iconst hA dX5_isNewName_51 kc_i_1 ?_
  refine k_goto (tgt := 56) hA dX5_isNewName_52 rfl ?_
  refine k_istore_n (i := 1) (lv' := [(1, .int (1 : Int32)), (0, .ref (a 18))]) hA dX5_isNewName_56 rfl rfl (Nat.le_of_ble_eq_true rfl) rfl ?_
  refine k_iload_n (i := 1) hA dX5_isNewName_57 rfl 0 rfl ?_
  refine k_if_eq (tgt := 69) hA dX5_isNewName_58 rfl (fun hc => ?_) (fun hc => ?_)
  · have hf := k_ift hc hf
    obtain ⟨rfl, rfl⟩ := k_r2 hf
    refine k_iconst hA dX5_isNewName_69 kc_i_1 ?_
    refine k_goto (tgt := 74) hA dX5_isNewName_70 rfl ?_
    exact k_iret hA hr (k_narB (k_b01 _)) dX5_isNewName_74
  have hf := k_iff hc hf
  obtain ⟨⟨rq_1, tq_1⟩, hq_1, hf⟩ := k_lt_e hf
  dsimp only at hf
  refine k_aload_n (i := 0) hA dX5_isNewName_61 rfl 1 rfl ?_
  refine k_iconst hA dX5_isNewName_62 kc_i_3 ?_
  refine k_callVi (As := [.int (3 : Int32)]) (rest := []) hA (m_Re_fail l G a (3 : Int32) t hq_1.symm) cd_X5_fail wd_575 (hc_X_18 G.2.1 a (.ref (a 10)) t) rfl rfl (Nat.le_of_ble_eq_true rfl) rfl rfl (Nat.le_of_ble_eq_true rfl) dX5_isNewName_63 ?_
  refine k_if_eq (tgt := 73) hA dX5_isNewName_66 rfl (fun hc => ?_) (fun hc => ?_)
  · have hf := k_ift hc hf
    obtain ⟨rfl, rfl⟩ := k_r2 hf
    refine k_iconst hA dX5_isNewName_73 kc_i_0 ?_
    exact k_iret hA hr (k_narB (k_b01 _)) dX5_isNewName_74
  have hf := k_iff hc hf
  obtain ⟨rfl, rfl⟩ := k_r2 hf
  refine k_iconst hA dX5_isNewName_69 kc_i_1 ?_
  refine k_goto (tgt := 74) hA dX5_isNewName_70 rfl ?_
  exact k_iret hA hr (k_narB (k_b01 _)) dX5_isNewName_74

theorem m_Re_isNewName (l : Launch) (G : k_G) (a : Nat → Nat) (n : Nat) (t : k_St) {r : Bool} {t' : k_St} (hf : f_Re_isNewName n t = some (r, t')) : k_CI l G yX5_isNewName cX5_isNewName 2 (some .boolean) 7 (k_WX G.2.1 a (.ref (a 10)) t) [.ref (a 18)] (k_b r) (k_WX G.2.1 a (.ref (a 10)) t') := by
  refine k_startI (lv := [(0, .ref (a 18))]) (by decide +kernel) (Nat.le_of_ble_eq_true rfl) rfl ?_
  intro p e s m args below meth c hA hr
  have hA : k_Amb p s m args meth c cX5_isNewName 2 "TaleShares$Reader" G _ := hA
  unfold f_Re_isNewName at hf
  obtain ⟨r_1, hr_1, hf⟩ := k_cp_e hf
  refine k_aload_n (i := 0) hA dX5_isNewName_0 rfl 0 rfl ?_
  refine k_callVi (As := []) (rest := []) hA (m_Re_isName l G a n t hr_1) cd_X5_isName wd_602 (hc_X_18 G.2.1 a (.ref (a 10)) t) rfl rfl (Nat.le_of_ble_eq_true rfl) rfl rfl (Nat.le_of_ble_eq_true rfl) dX5_isNewName_1 ?_
  refine k_if_ne (tgt := 13) hA dX5_isNewName_4 rfl (fun hc => ?_) (fun hc => ?_)
  · have hf := k_iff hc hf
    obtain ⟨r_2, hr_2, hf⟩ := k_cp_e hf
    refine k_aload_n (i := 0) hA dX5_isNewName_13 rfl 0 rfl ?_
    refine k_aload_n (i := 0) hA dX5_isNewName_14 rfl 0 rfl ?_
    refine gt_X_18_11 hA wd_268 dX5_isNewName_15 ?_
    refine k_aload_n (i := 0) hA dX5_isNewName_18 rfl 0 rfl ?_
    refine gt_X_18_10 hA wd_267 dX5_isNewName_19 ?_
    refine gt_X_10_2 hA wd_168 dX5_isNewName_22 ?_
    refine k_callVi (As := [.ref (a 19), .int (t.1 10 2)]) (rest := []) hA (m_Re_indexInP l G a n t (t.1 10 2) hr_2) cd_X5_indexIn wd_611 (hc_X_18 G.2.1 a (.ref (a 10)) t) rfl rfl (Nat.le_of_ble_eq_true rfl) rfl rfl (Nat.le_of_ble_eq_true rfl) dX5_isNewName_25 ?_
    refine k_iconst hA dX5_isNewName_28 kc_i_m1 ?_
    refine k_icmp_ne (tgt := 51) hA dX5_isNewName_29 rfl (fun hc => ?_) (fun hc => ?_)
    · have hf := k_iff hc hf
      exact m_Re_isNewName_51 l G a n hA hr t hf
    have hf := k_ift hc hf
    obtain ⟨r_3, hr_3, hf⟩ := k_cp_e hf
    refine k_aload_n (i := 0) hA dX5_isNewName_32 rfl 0 rfl ?_
    refine k_aload_n (i := 0) hA dX5_isNewName_33 rfl 0 rfl ?_
    refine gt_X_18_12 hA wd_269 dX5_isNewName_34 ?_
    refine k_aload_n (i := 0) hA dX5_isNewName_37 rfl 0 rfl ?_
    refine gt_X_18_10 hA wd_267 dX5_isNewName_38 ?_
    refine gt_X_10_4 hA wd_176 dX5_isNewName_41 ?_
    refine k_callVi (As := [.ref (a 20), .int (t.1 10 4)]) (rest := []) hA (m_Re_indexInH l G a n t (t.1 10 4) hr_3) cd_X5_indexIn wd_611 (hc_X_18 G.2.1 a (.ref (a 10)) t) rfl rfl (Nat.le_of_ble_eq_true rfl) rfl rfl (Nat.le_of_ble_eq_true rfl) dX5_isNewName_44 ?_
    refine k_iconst hA dX5_isNewName_47 kc_i_m1 ?_
    refine k_icmp_eq (tgt := 55) hA dX5_isNewName_48 rfl (fun hc => ?_) (fun hc => ?_)
    · have hf := k_ift hc hf
      refine k_iconst hA dX5_isNewName_55 kc_i_0 ?_
      refine k_istore_n (i := 1) (lv' := [(1, .int (0 : Int32)), (0, .ref (a 18))]) hA dX5_isNewName_56 rfl rfl (Nat.le_of_ble_eq_true rfl) rfl ?_
      refine k_iload_n (i := 1) hA dX5_isNewName_57 rfl 0 rfl ?_
      refine k_if_eq (tgt := 69) hA dX5_isNewName_58 rfl (fun hc => ?_) (fun hc => ?_)
      · have hf := k_ift hc hf
        obtain ⟨rfl, rfl⟩ := k_r2 hf
        refine k_iconst hA dX5_isNewName_69 kc_i_1 ?_
        refine k_goto (tgt := 74) hA dX5_isNewName_70 rfl ?_
        exact k_iret hA hr (k_narB (k_b01 _)) dX5_isNewName_74
      have hf := k_iff hc hf
      obtain ⟨⟨rq_4, tq_4⟩, hq_4, hf⟩ := k_lt_e hf
      dsimp only at hf
      refine k_aload_n (i := 0) hA dX5_isNewName_61 rfl 1 rfl ?_
      refine k_iconst hA dX5_isNewName_62 kc_i_3 ?_
      refine k_callVi (As := [.int (3 : Int32)]) (rest := []) hA (m_Re_fail l G a (3 : Int32) t hq_4.symm) cd_X5_fail wd_575 (hc_X_18 G.2.1 a (.ref (a 10)) t) rfl rfl (Nat.le_of_ble_eq_true rfl) rfl rfl (Nat.le_of_ble_eq_true rfl) dX5_isNewName_63 ?_
      refine k_if_eq (tgt := 73) hA dX5_isNewName_66 rfl (fun hc => ?_) (fun hc => ?_)
      · have hf := k_ift hc hf
        obtain ⟨rfl, rfl⟩ := k_r2 hf
        refine k_iconst hA dX5_isNewName_73 kc_i_0 ?_
        exact k_iret hA hr (k_narB (k_b01 _)) dX5_isNewName_74
      have hf := k_iff hc hf
      obtain ⟨rfl, rfl⟩ := k_r2 hf
      refine k_iconst hA dX5_isNewName_69 kc_i_1 ?_
      refine k_goto (tgt := 74) hA dX5_isNewName_70 rfl ?_
      exact k_iret hA hr (k_narB (k_b01 _)) dX5_isNewName_74
    have hf := k_iff hc hf
    exact m_Re_isNewName_51 l G a n hA hr t hf
  have hf := k_ift hc hf
  obtain ⟨⟨rq_5, tq_5⟩, hq_5, hf⟩ := k_lt_e hf
  dsimp only at hf
  obtain ⟨rfl, rfl⟩ := k_r2 hf
  refine k_aload_n (i := 0) hA dX5_isNewName_7 rfl 0 rfl ?_
  refine k_iconst hA dX5_isNewName_8 kc_i_1 ?_
  refine k_callVi (As := [.int (1 : Int32)]) (rest := []) hA (m_Re_fail l G a (1 : Int32) t hq_5.symm) cd_X5_fail wd_575 (hc_X_18 G.2.1 a (.ref (a 10)) t) rfl rfl (Nat.le_of_ble_eq_true rfl) rfl rfl (Nat.le_of_ble_eq_true rfl) dX5_isNewName_9 ?_
  exact k_iret hA hr (k_narB (k_b01 _)) dX5_isNewName_12

def f_Re_passWord (n : Nat) (q : Nat) (t : k_St) : Option (Bool × k_St) := k_cp (f_Re_says n q t) (fun r_1 => (if (k_b r_1) = 0 then k_lt (f_Re_fail (1 : Int32) t) (fun q_3 => some (q_3.1, q_3.2)) else k_cv (f_Re_step n t) (fun t_2 => some (true, t_2))))
theorem m_Re_passWord (l : Launch) (G : k_G) (a : Nat → Nat) (n : Nat) (q : Nat) (hq : q < 16) (t : k_St) {r : Bool} {t' : k_St} (hf : f_Re_passWord n q t = some (r, t')) : k_CI l G yX5_passWord cX5_passWord 2 (some .boolean) 6 (k_WX G.2.1 a (.ref (a 10)) t) [.ref (a 18), .ref (G.2.2.1 q)] (k_b r) (k_WX G.2.1 a (.ref (a 10)) t') := by
  refine k_startI (lv := [(0, .ref (a 18)), (1, .ref (G.2.2.1 q))]) (by decide +kernel) (Nat.le_of_ble_eq_true rfl) rfl ?_
  intro p e s m args below meth c hA hr
  have hA : k_Amb p s m args meth c cX5_passWord 2 "TaleShares$Reader" G _ := hA
  unfold f_Re_passWord at hf
  obtain ⟨r_1, hr_1, hf⟩ := k_cp_e hf
  refine k_aload_n (i := 0) hA dX5_passWord_0 rfl 0 rfl ?_
  refine k_aload_n (i := 1) hA dX5_passWord_1 rfl 1 rfl ?_
  refine k_callVi (As := [.ref (G.2.2.1 q)]) (rest := []) hA (m_Re_says l G a n q hq t hr_1) cd_X5_says wd_519 (hc_X_18 G.2.1 a (.ref (a 10)) t) rfl rfl (Nat.le_of_ble_eq_true rfl) rfl rfl (Nat.le_of_ble_eq_true rfl) dX5_passWord_2 ?_
  refine k_if_ne (tgt := 14) hA dX5_passWord_5 rfl (fun hc => ?_) (fun hc => ?_)
  · have hf := k_iff hc hf
    obtain ⟨t_2, ht_2, hf⟩ := k_cv_e hf
    obtain ⟨rfl, rfl⟩ := k_r2 hf
    refine k_aload_n (i := 0) hA dX5_passWord_14 rfl 0 rfl ?_
    refine k_callVv (As := []) (rest := []) hA (m_Re_step l G a n t ht_2) cd_X5_step wd_495 (hc_X_18 G.2.1 a (.ref (a 10)) t) rfl rfl (Nat.le_of_ble_eq_true rfl) rfl rfl (Nat.le_of_ble_eq_true rfl) dX5_passWord_15 ?_
    refine k_iconst hA dX5_passWord_18 kc_i_1 ?_
    exact k_iret hA hr (k_narB (k_b01 _)) dX5_passWord_19
  have hf := k_ift hc hf
  obtain ⟨⟨rq_3, tq_3⟩, hq_3, hf⟩ := k_lt_e hf
  dsimp only at hf
  obtain ⟨rfl, rfl⟩ := k_r2 hf
  refine k_aload_n (i := 0) hA dX5_passWord_8 rfl 0 rfl ?_
  refine k_iconst hA dX5_passWord_9 kc_i_1 ?_
  refine k_callVi (As := [.int (1 : Int32)]) (rest := []) hA (m_Re_fail l G a (1 : Int32) t hq_3.symm) cd_X5_fail wd_575 (hc_X_18 G.2.1 a (.ref (a 10)) t) rfl rfl (Nat.le_of_ble_eq_true rfl) rfl rfl (Nat.le_of_ble_eq_true rfl) dX5_passWord_10 ?_
  exact k_iret hA hr (k_narB (k_b01 _)) dX5_passWord_13

def f_Re_passWhole (n : Nat) (x1 : Int32) (x2 : Int32) (t : k_St) : Option (Bool × k_St) := (if (t.1 18 5) = (3 : Int32) then (if (t.1 18 6) < x1 then k_lt (f_Re_fail (4 : Int32) t) (fun q_1 => some (q_1.1, q_1.2)) else (if (t.1 18 6) ≤ x2 then k_lt (t.1 18 6) (fun x3_2 => k_cv (f_Re_step n t) (fun t_3 => k_lt (k_sI t_3 18 6 x3_2) (fun t_4 => some (true, t_4)))) else k_lt (f_Re_fail (4 : Int32) t) (fun q_5 => some (q_5.1, q_5.2)))) else k_lt (f_Re_fail (1 : Int32) t) (fun q_6 => some (q_6.1, q_6.2)))
theorem m_Re_passWhole (l : Launch) (G : k_G) (a : Nat → Nat) (n : Nat) (x1 : Int32) (x2 : Int32) (t : k_St) {r : Bool} {t' : k_St} (hf : f_Re_passWhole n x1 x2 t = some (r, t')) : k_CI l G yX5_passWhole cX5_passWhole 4 (some .boolean) 4 (k_WX G.2.1 a (.ref (a 10)) t) [.ref (a 18), .int x1, .int x2] (k_b r) (k_WX G.2.1 a (.ref (a 10)) t') := by
  refine k_startI (lv := [(0, .ref (a 18)), (1, .int x1), (2, .int x2)]) (by decide +kernel) (Nat.le_of_ble_eq_true rfl) rfl ?_
  intro p e s m args below meth c hA hr
  have hA : k_Amb p s m args meth c cX5_passWhole 4 "TaleShares$Reader" G _ := hA
  unfold f_Re_passWhole at hf
  refine k_aload_n (i := 0) hA dX5_passWhole_0 rfl 0 rfl ?_
  refine gt_X_18_6 hA wd_263 dX5_passWhole_1 ?_
  refine k_iconst hA dX5_passWhole_4 kc_i_3 ?_
  refine k_icmp_eq (tgt := 14) hA dX5_passWhole_5 rfl (fun hc => ?_) (fun hc => ?_)
  · have hf := k_ift hc hf
    refine k_aload_n (i := 0) hA dX5_passWhole_14 rfl 0 rfl ?_
    refine gt_X_18_7 hA wd_264 dX5_passWhole_15 ?_
    refine k_iload_n (i := 1) hA dX5_passWhole_18 rfl 1 rfl ?_
    refine k_icmp_lt (tgt := 30) hA dX5_passWhole_19 rfl (fun hc => ?_) (fun hc => ?_)
    · have hf := k_ift hc hf
      obtain ⟨⟨rq_1, tq_1⟩, hq_1, hf⟩ := k_lt_e hf
      dsimp only at hf
      obtain ⟨rfl, rfl⟩ := k_r2 hf
      refine k_aload_n (i := 0) hA dX5_passWhole_30 rfl 0 rfl ?_
      refine k_iconst hA dX5_passWhole_31 kc_i_4 ?_
      refine k_callVi (As := [.int (4 : Int32)]) (rest := []) hA (m_Re_fail l G a (4 : Int32) t hq_1.symm) cd_X5_fail wd_575 (hc_X_18 G.2.1 a (.ref (a 10)) t) rfl rfl (Nat.le_of_ble_eq_true rfl) rfl rfl (Nat.le_of_ble_eq_true rfl) dX5_passWhole_32 ?_
      exact k_iret hA hr (k_narB (k_b01 _)) dX5_passWhole_35
    have hf := k_iff hc hf
    refine k_aload_n (i := 0) hA dX5_passWhole_22 rfl 0 rfl ?_
    refine gt_X_18_7 hA wd_264 dX5_passWhole_23 ?_
    refine k_iload_n (i := 2) hA dX5_passWhole_26 rfl 2 rfl ?_
    refine k_icmp_le (tgt := 36) hA dX5_passWhole_27 rfl (fun hc => ?_) (fun hc => ?_)
    · have hf := k_ift hc hf
      obtain ⟨x3_2, ex3_2, hf⟩ := k_lt_e hf
      obtain ⟨t_3, ht_3, hf⟩ := k_cv_e hf
      obtain ⟨t_4, et_4, hf⟩ := k_lt_e hf
      obtain ⟨rfl, rfl⟩ := k_r2 hf
      refine k_aload_n (i := 0) hA dX5_passWhole_36 rfl 0 rfl ?_
      refine gt_X_18_7 hA wd_264 dX5_passWhole_37 ?_
      refine k_istore_n (i := 3) (lv' := [(3, .int x3_2), (0, .ref (a 18)), (1, .int x1), (2, .int x2)]) hA dX5_passWhole_40 rfl ex3_2 (Nat.le_of_ble_eq_true rfl) rfl ?_
      refine k_aload_n (i := 0) hA dX5_passWhole_41 rfl 1 rfl ?_
      refine k_callVv (As := []) (rest := []) hA (m_Re_step l G a n t ht_3) cd_X5_step wd_495 (hc_X_18 G.2.1 a (.ref (a 10)) t) rfl rfl (Nat.le_of_ble_eq_true rfl) rfl rfl (Nat.le_of_ble_eq_true rfl) dX5_passWhole_42 ?_
      refine k_aload_n (i := 0) hA dX5_passWhole_45 rfl 1 rfl ?_
      refine k_iload_n (i := 3) hA dX5_passWhole_46 rfl 0 rfl ?_
      refine pt_X_18_7 hA wd_264 et_4 dX5_passWhole_47 ?_
      refine k_iconst hA dX5_passWhole_50 kc_i_1 ?_
      exact k_iret hA hr (k_narB (k_b01 _)) dX5_passWhole_51
    have hf := k_iff hc hf
    obtain ⟨⟨rq_5, tq_5⟩, hq_5, hf⟩ := k_lt_e hf
    dsimp only at hf
    obtain ⟨rfl, rfl⟩ := k_r2 hf
    refine k_aload_n (i := 0) hA dX5_passWhole_30 rfl 0 rfl ?_
    refine k_iconst hA dX5_passWhole_31 kc_i_4 ?_
    refine k_callVi (As := [.int (4 : Int32)]) (rest := []) hA (m_Re_fail l G a (4 : Int32) t hq_5.symm) cd_X5_fail wd_575 (hc_X_18 G.2.1 a (.ref (a 10)) t) rfl rfl (Nat.le_of_ble_eq_true rfl) rfl rfl (Nat.le_of_ble_eq_true rfl) dX5_passWhole_32 ?_
    exact k_iret hA hr (k_narB (k_b01 _)) dX5_passWhole_35
  have hf := k_iff hc hf
  obtain ⟨⟨rq_6, tq_6⟩, hq_6, hf⟩ := k_lt_e hf
  dsimp only at hf
  obtain ⟨rfl, rfl⟩ := k_r2 hf
  refine k_aload_n (i := 0) hA dX5_passWhole_8 rfl 0 rfl ?_
  refine k_iconst hA dX5_passWhole_9 kc_i_1 ?_
  refine k_callVi (As := [.int (1 : Int32)]) (rest := []) hA (m_Re_fail l G a (1 : Int32) t hq_6.symm) cd_X5_fail wd_575 (hc_X_18 G.2.1 a (.ref (a 10)) t) rfl rfl (Nat.le_of_ble_eq_true rfl) rfl rfl (Nat.le_of_ble_eq_true rfl) dX5_passWhole_10 ?_
  exact k_iret hA hr (k_narB (k_b01 _)) dX5_passWhole_13

def f_Re_readHouse_20 (n : Nat) (x1 : Int32) (s1 : Int32) (s2 : Int32) (t : k_St) : Option (Bool × k_St) := k_cl (f_Re_passFirstWord n s1 s2 t) (fun r_2 t_1 => (if (k_b r_2) = 0 then some (false, t_1) else k_cl (f_Re_isNewName n t_1) (fun r_4 t_3 => (if (k_b r_4) = 0 then some (false, t_3) else k_gi x1 5 (k_lt (k_sL t_3 20 x1.toNatClampNeg (t_3.2 18 7)) (fun t_6 => k_cv (f_Re_step n t_6) (fun t_7 => k_cl (f_Re_passWord n 13 t_7) (fun r_9 t_8 => (if (k_b r_9) = 0 then some (false, t_8) else k_cl (f_Re_passWhole n (0 : Int32) (99 : Int32) t_8) (fun r_11 t_10 => (if (k_b r_11) = 0 then some (false, t_10) else k_gi x1 5 (k_lt (k_sI t_10 13 x1.toNatClampNeg (t_10.1 18 6)) (fun t_13 => k_cl (f_Re_passWord n 14 t_13) (fun r_15 t_14 => (if (k_b r_15) = 0 then some (false, t_14) else k_cl (f_Re_passWhole n (0 : Int32) (23 : Int32) t_14) (fun r_17 t_16 => (if (k_b r_17) = 0 then some (false, t_16) else k_gi x1 5 (k_lt (k_sI t_16 14 x1.toNatClampNeg (t_16.1 18 6)) (fun t_19 => k_cl (f_Re_passWord n 15 t_19) (fun r_21 t_20 => (if (k_b r_21) = 0 then some (false, t_20) else k_gi x1 5 (k_cl (f_Re_passWhole n (t_20.1 14 x1.toNatClampNeg) (23 : Int32) t_20) (fun r_24 t_23 => (if (k_b r_24) = 0 then some (false, t_23) else k_gi x1 5 (k_lt (k_sI t_23 15 x1.toNatClampNeg (t_23.1 18 6)) (fun t_26 => k_lt (k_sI t_26 10 4 ((t_26.1 10 4) + (1 : Int32))) (fun t_27 => some (true, t_27))))))))))))))))))))))))))))
def f_Re_readHouse (n : Nat) (t : k_St) : Option (Bool × k_St) := k_lt (t.1 10 4) (fun x1_1 => (if x1_1 < (5 : Int32) then f_Re_readHouse_20 n x1_1 (0 : Int32) (0 : Int32) t else f_Re_readHouse_20 n x1_1 (0 : Int32) (1 : Int32) t))
theorem m_Re_readHouse_20 {p : Program} (l : Launch) {e : Env} {s : State} {m : MethodId} {args : Array Value} {below : List Frame} {meth : Method} {c : Code} (G : k_G) (a : Nat → Nat) (n : Nat) {w0 : va_W} {r : Bool} {t' : k_St} (hA : k_Amb p s m args meth c cX5_readHouse 2 "TaleShares$Reader" G (va_A w0 s.heap.size)) (hr : meth.sig.returnType = (some .boolean)) : ∀ (x1 : Int32) (s1 : Int32) (s2 : Int32) (t : k_St), f_Re_readHouse_20 n x1 s1 s2 t = some (r, t') → k_Go p l e (k_rm 8) s m args below meth c (k_QI G w0 (k_b r) (k_WX G.2.1 a (.ref (a 10)) t') args s below) 2 G (va_A w0 s.heap.size) (k_WX G.2.1 a (.ref (a 10)) t) 20 [(0, .ref (a 18)), (1, .int x1)] [.int s2, .int s1, .ref (a 18)] := by
  intro x1 s1 s2 t hf
  unfold f_Re_readHouse_20 at hf
  obtain ⟨r_2, t_1, ht_1, hf⟩ := k_cl_e hf
  refine k_callVi (As := [.int s1, .int s2]) (rest := []) hA (m_Re_passFirstWord l G a n s1 s2 t ht_1) cd_X5_passFirstWord wd_594 (hc_X_18 G.2.1 a (.ref (a 10)) t) rfl rfl (Nat.le_of_ble_eq_true rfl) rfl rfl (Nat.le_of_ble_eq_true rfl) dX5_readHouse_20 ?_
  refine k_if_eq (tgt := 33) hA dX5_readHouse_23 rfl (fun hc => ?_) (fun hc => ?_)
  · have hf := k_ift hc hf
    obtain ⟨rfl, rfl⟩ := k_r2 hf
    refine k_iconst hA dX5_readHouse_33 kc_i_0 ?_
    exact k_iret hA hr (k_narB (k_b01 _)) dX5_readHouse_34
  have hf := k_iff hc hf
  obtain ⟨r_4, t_3, ht_3, hf⟩ := k_cl_e hf
  refine k_aload_n (i := 0) hA dX5_readHouse_26 rfl 0 rfl ?_
  refine k_callVi (As := []) (rest := []) hA (m_Re_isNewName l G a n t_1 ht_3) cd_X5_isNewName wd_598 (hc_X_18 G.2.1 a (.ref (a 10)) t_1) rfl rfl (Nat.le_of_ble_eq_true rfl) rfl rfl (Nat.le_of_ble_eq_true rfl) dX5_readHouse_27 ?_
  refine k_if_ne (tgt := 35) hA dX5_readHouse_30 rfl (fun hc => ?_) (fun hc => ?_)
  · have hf := k_iff hc hf
    obtain ⟨hi_5, hf⟩ := k_gi_e hf
    obtain ⟨t_6, et_6, hf⟩ := k_lt_e hf
    obtain ⟨t_7, ht_7, hf⟩ := k_cv_e hf
    obtain ⟨r_9, t_8, ht_8, hf⟩ := k_cl_e hf
    refine k_aload_n (i := 0) hA dX5_readHouse_35 rfl 0 rfl ?_
    refine gt_X_18_12 hA wd_269 dX5_readHouse_36 ?_
    refine k_iload_n (i := 1) hA dX5_readHouse_39 rfl 1 rfl ?_
    refine k_aload_n (i := 0) hA dX5_readHouse_40 rfl 0 rfl ?_
    refine gt_X_18_8 hA wd_265 dX5_readHouse_41 ?_
    refine sr_X_20 hA hi_5 et_6 dX5_readHouse_44 ?_
    refine k_aload_n (i := 0) hA dX5_readHouse_45 rfl 0 rfl ?_
    refine k_callVv (As := []) (rest := []) hA (m_Re_step l G a n t_6 ht_7) cd_X5_step wd_495 (hc_X_18 G.2.1 a (.ref (a 10)) t_6) rfl rfl (Nat.le_of_ble_eq_true rfl) rfl rfl (Nat.le_of_ble_eq_true rfl) dX5_readHouse_46 ?_
    refine k_aload_n (i := 0) hA dX5_readHouse_49 rfl 0 rfl ?_
    refine k_ldcS hA sq_RX5_197 dX5_readHouse_50 ?_
    refine k_callVi (As := [.ref (G.2.2.1 13)]) (rest := []) hA (m_Re_passWord l G a n 13 (by decide) t_7 ht_8) cd_X5_passWord wd_580 (hc_X_18 G.2.1 a (.ref (a 10)) t_7) rfl rfl (Nat.le_of_ble_eq_true rfl) rfl rfl (Nat.le_of_ble_eq_true rfl) dX5_readHouse_52 ?_
    refine k_if_eq (tgt := 68) hA dX5_readHouse_55 rfl (fun hc => ?_) (fun hc => ?_)
    · have hf := k_ift hc hf
      obtain ⟨rfl, rfl⟩ := k_r2 hf
      refine k_iconst hA dX5_readHouse_68 kc_i_0 ?_
      exact k_iret hA hr (k_narB (k_b01 _)) dX5_readHouse_69
    have hf := k_iff hc hf
    obtain ⟨r_11, t_10, ht_10, hf⟩ := k_cl_e hf
    refine k_aload_n (i := 0) hA dX5_readHouse_58 rfl 0 rfl ?_
    refine k_iconst hA dX5_readHouse_59 kc_i_0 ?_
    refine k_bipush hA dX5_readHouse_60 kc_b_99 ?_
    refine k_callVi (As := [.int (0 : Int32), .int (99 : Int32)]) (rest := []) hA (m_Re_passWhole l G a n (0 : Int32) (99 : Int32) t_8 ht_10) cd_X5_passWhole wd_584 (hc_X_18 G.2.1 a (.ref (a 10)) t_8) rfl rfl (Nat.le_of_ble_eq_true rfl) rfl rfl (Nat.le_of_ble_eq_true rfl) dX5_readHouse_62 ?_
    refine k_if_ne (tgt := 70) hA dX5_readHouse_65 rfl (fun hc => ?_) (fun hc => ?_)
    · have hf := k_iff hc hf
      obtain ⟨hi_12, hf⟩ := k_gi_e hf
      obtain ⟨t_13, et_13, hf⟩ := k_lt_e hf
      obtain ⟨r_15, t_14, ht_14, hf⟩ := k_cl_e hf
      refine k_aload_n (i := 0) hA dX5_readHouse_70 rfl 0 rfl ?_
      refine gt_X_18_10 hA wd_267 dX5_readHouse_71 ?_
      refine gt_X_10_10 hA wd_199 dX5_readHouse_74 ?_
      refine k_iload_n (i := 1) hA dX5_readHouse_77 rfl 1 rfl ?_
      refine k_aload_n (i := 0) hA dX5_readHouse_78 rfl 0 rfl ?_
      refine gt_X_18_7 hA wd_264 dX5_readHouse_79 ?_
      refine sr_X_13 hA hi_12 et_13 dX5_readHouse_82 ?_
      refine k_aload_n (i := 0) hA dX5_readHouse_83 rfl 0 rfl ?_
      refine k_ldcS hA sq_RX5_202 dX5_readHouse_84 ?_
      refine k_callVi (As := [.ref (G.2.2.1 14)]) (rest := []) hA (m_Re_passWord l G a n 14 (by decide) t_13 ht_14) cd_X5_passWord wd_580 (hc_X_18 G.2.1 a (.ref (a 10)) t_13) rfl rfl (Nat.le_of_ble_eq_true rfl) rfl rfl (Nat.le_of_ble_eq_true rfl) dX5_readHouse_86 ?_
      refine k_if_eq (tgt := 102) hA dX5_readHouse_89 rfl (fun hc => ?_) (fun hc => ?_)
      · have hf := k_ift hc hf
        obtain ⟨rfl, rfl⟩ := k_r2 hf
        refine k_iconst hA dX5_readHouse_102 kc_i_0 ?_
        exact k_iret hA hr (k_narB (k_b01 _)) dX5_readHouse_103
      have hf := k_iff hc hf
      obtain ⟨r_17, t_16, ht_16, hf⟩ := k_cl_e hf
      refine k_aload_n (i := 0) hA dX5_readHouse_92 rfl 0 rfl ?_
      refine k_iconst hA dX5_readHouse_93 kc_i_0 ?_
      refine k_bipush hA dX5_readHouse_94 kc_b_23 ?_
      refine k_callVi (As := [.int (0 : Int32), .int (23 : Int32)]) (rest := []) hA (m_Re_passWhole l G a n (0 : Int32) (23 : Int32) t_14 ht_16) cd_X5_passWhole wd_584 (hc_X_18 G.2.1 a (.ref (a 10)) t_14) rfl rfl (Nat.le_of_ble_eq_true rfl) rfl rfl (Nat.le_of_ble_eq_true rfl) dX5_readHouse_96 ?_
      refine k_if_ne (tgt := 104) hA dX5_readHouse_99 rfl (fun hc => ?_) (fun hc => ?_)
      · have hf := k_iff hc hf
        obtain ⟨hi_18, hf⟩ := k_gi_e hf
        obtain ⟨t_19, et_19, hf⟩ := k_lt_e hf
        obtain ⟨r_21, t_20, ht_20, hf⟩ := k_cl_e hf
        refine k_aload_n (i := 0) hA dX5_readHouse_104 rfl 0 rfl ?_
        refine gt_X_18_10 hA wd_267 dX5_readHouse_105 ?_
        refine gt_X_10_11 hA wd_203 dX5_readHouse_108 ?_
        refine k_iload_n (i := 1) hA dX5_readHouse_111 rfl 1 rfl ?_
        refine k_aload_n (i := 0) hA dX5_readHouse_112 rfl 0 rfl ?_
        refine gt_X_18_7 hA wd_264 dX5_readHouse_113 ?_
        refine sr_X_14 hA hi_18 et_19 dX5_readHouse_116 ?_
        refine k_aload_n (i := 0) hA dX5_readHouse_117 rfl 0 rfl ?_
        refine k_ldcS hA sq_RX5_206 dX5_readHouse_118 ?_
        refine k_callVi (As := [.ref (G.2.2.1 15)]) (rest := []) hA (m_Re_passWord l G a n 15 (by decide) t_19 ht_20) cd_X5_passWord wd_580 (hc_X_18 G.2.1 a (.ref (a 10)) t_19) rfl rfl (Nat.le_of_ble_eq_true rfl) rfl rfl (Nat.le_of_ble_eq_true rfl) dX5_readHouse_120 ?_
        refine k_if_eq (tgt := 144) hA dX5_readHouse_123 rfl (fun hc => ?_) (fun hc => ?_)
        · have hf := k_ift hc hf
          obtain ⟨rfl, rfl⟩ := k_r2 hf
          refine k_iconst hA dX5_readHouse_144 kc_i_0 ?_
          exact k_iret hA hr (k_narB (k_b01 _)) dX5_readHouse_145
        have hf := k_iff hc hf
        obtain ⟨hi_22, hf⟩ := k_gi_e hf
        obtain ⟨r_24, t_23, ht_23, hf⟩ := k_cl_e hf
        refine k_aload_n (i := 0) hA dX5_readHouse_126 rfl 0 rfl ?_
        refine k_aload_n (i := 0) hA dX5_readHouse_127 rfl 0 rfl ?_
        refine gt_X_18_10 hA wd_267 dX5_readHouse_128 ?_
        refine gt_X_10_11 hA wd_203 dX5_readHouse_131 ?_
        refine k_iload_n (i := 1) hA dX5_readHouse_134 rfl 1 rfl ?_
        refine ld_X_14 hA hi_22 dX5_readHouse_135 ?_
        refine k_bipush hA dX5_readHouse_136 kc_b_23 ?_
        refine k_callVi (As := [.int (t_20.1 14 x1.toNatClampNeg), .int (23 : Int32)]) (rest := []) hA (m_Re_passWhole l G a n (t_20.1 14 x1.toNatClampNeg) (23 : Int32) t_20 ht_23) cd_X5_passWhole wd_584 (hc_X_18 G.2.1 a (.ref (a 10)) t_20) rfl rfl (Nat.le_of_ble_eq_true rfl) rfl rfl (Nat.le_of_ble_eq_true rfl) dX5_readHouse_138 ?_
        refine k_if_ne (tgt := 146) hA dX5_readHouse_141 rfl (fun hc => ?_) (fun hc => ?_)
        · have hf := k_iff hc hf
          obtain ⟨hi_25, hf⟩ := k_gi_e hf
          obtain ⟨t_26, et_26, hf⟩ := k_lt_e hf
          obtain ⟨t_27, et_27, hf⟩ := k_lt_e hf
          obtain ⟨rfl, rfl⟩ := k_r2 hf
          refine k_aload_n (i := 0) hA dX5_readHouse_146 rfl 0 rfl ?_
          refine gt_X_18_10 hA wd_267 dX5_readHouse_147 ?_
          refine gt_X_10_12 hA wd_207 dX5_readHouse_150 ?_
          refine k_iload_n (i := 1) hA dX5_readHouse_153 rfl 1 rfl ?_
          refine k_aload_n (i := 0) hA dX5_readHouse_154 rfl 0 rfl ?_
          refine gt_X_18_7 hA wd_264 dX5_readHouse_155 ?_
          refine sr_X_15 hA hi_25 et_26 dX5_readHouse_158 ?_
          refine k_aload_n (i := 0) hA dX5_readHouse_159 rfl 0 rfl ?_
          refine gt_X_18_10 hA wd_267 dX5_readHouse_160 ?_
          refine k_dup hA dX5_readHouse_163 rfl ?_
          refine gt_X_10_4 hA wd_176 dX5_readHouse_164 ?_
          refine k_iconst hA dX5_readHouse_167 kc_i_1 ?_
          refine k_iadd hA dX5_readHouse_168 ?_
          refine pt_X_10_4 hA wd_176 et_27 dX5_readHouse_169 ?_
          refine k_iconst hA dX5_readHouse_172 kc_i_1 ?_
          exact k_iret hA hr (k_narB (k_b01 _)) dX5_readHouse_173
        have hf := k_ift hc hf
        obtain ⟨rfl, rfl⟩ := k_r2 hf
        refine k_iconst hA dX5_readHouse_144 kc_i_0 ?_
        exact k_iret hA hr (k_narB (k_b01 _)) dX5_readHouse_145
      have hf := k_ift hc hf
      obtain ⟨rfl, rfl⟩ := k_r2 hf
      refine k_iconst hA dX5_readHouse_102 kc_i_0 ?_
      exact k_iret hA hr (k_narB (k_b01 _)) dX5_readHouse_103
    have hf := k_ift hc hf
    obtain ⟨rfl, rfl⟩ := k_r2 hf
    refine k_iconst hA dX5_readHouse_68 kc_i_0 ?_
    exact k_iret hA hr (k_narB (k_b01 _)) dX5_readHouse_69
  have hf := k_ift hc hf
  obtain ⟨rfl, rfl⟩ := k_r2 hf
  refine k_iconst hA dX5_readHouse_33 kc_i_0 ?_
  exact k_iret hA hr (k_narB (k_b01 _)) dX5_readHouse_34

theorem m_Re_readHouse (l : Launch) (G : k_G) (a : Nat → Nat) (n : Nat) (t : k_St) {r : Bool} {t' : k_St} (hf : f_Re_readHouse n t = some (r, t')) : k_CI l G yX5_readHouse cX5_readHouse 2 (some .boolean) 8 (k_WX G.2.1 a (.ref (a 10)) t) [.ref (a 18)] (k_b r) (k_WX G.2.1 a (.ref (a 10)) t') := by
  refine k_startI (lv := [(0, .ref (a 18))]) (by decide +kernel) (Nat.le_of_ble_eq_true rfl) rfl ?_
  intro p e s m args below meth c hA hr
  have hA : k_Amb p s m args meth c cX5_readHouse 2 "TaleShares$Reader" G _ := hA
  unfold f_Re_readHouse at hf
  obtain ⟨x1_1, ex1_1, hf⟩ := k_lt_e hf
  refine k_aload_n (i := 0) hA dX5_readHouse_0 rfl 0 rfl ?_
  refine gt_X_18_10 hA wd_267 dX5_readHouse_1 ?_
  refine gt_X_10_4 hA wd_176 dX5_readHouse_4 ?_
  refine k_istore_n (i := 1) (lv' := [(1, .int x1_1), (0, .ref (a 18))]) hA dX5_readHouse_7 rfl ex1_1 (Nat.le_of_ble_eq_true rfl) rfl ?_
  refine k_aload_n (i := 0) hA dX5_readHouse_8 rfl 1 rfl ?_
  refine k_iconst hA dX5_readHouse_9 kc_i_0 ?_
  refine k_iload_n (i := 1) hA dX5_readHouse_10 rfl 0 rfl ?_
  refine k_iconst hA dX5_readHouse_11 kc_i_5 ?_
  refine k_icmp_lt (tgt := 19) hA dX5_readHouse_12 rfl (fun hc => ?_) (fun hc => ?_)
  · have hf := k_ift hc hf
    refine k_iconst hA dX5_readHouse_19 kc_i_0 ?_
    refine k_pick (lv' := [(0, .ref (a 18)), (1, .int x1_1)]) [1, 0] rfl ?_
    exact m_Re_readHouse_20 l G a n hA hr x1_1 (0 : Int32) (0 : Int32) t hf
  have hf := k_iff hc hf
  refine k_iconst hA dX5_readHouse_15 kc_i_1 ?_
  refine k_goto (tgt := 20) hA dX5_readHouse_16 rfl ?_
  refine k_pick (lv' := [(0, .ref (a 18)), (1, .int x1_1)]) [1, 0] rfl ?_
  exact m_Re_readHouse_20 l G a n hA hr x1_1 (0 : Int32) (1 : Int32) t hf

def f_Te_mayFollowS (t : k_St) (x1 : Int32) (x2 : Int32) : Option Bool := k_gi x1 8 ((if (((t.1 12 x1.toNatClampNeg) >>> (x2 &&& 31)) &&& (1 : Int32)) = 0 then some false else some true))
theorem m_Te_mayFollowS (l : Launch) (G : k_G) (a : Nat → Nat) (t : k_St) (x1 : Int32) (x2 : Int32) {r : Bool} (hf : f_Te_mayFollowS t x1 x2 = some r) : k_CI l G yX8_mayFollow cX8_mayFollow 3 (some .boolean) 1 (k_WX G.2.1 a (.ref (a 10)) t) [.ref (a 10), .int x1, .int x2] (k_b r) (k_WX G.2.1 a (.ref (a 10)) t) := by
  refine k_startI (lv := [(0, .ref (a 10)), (1, .int x1), (2, .int x2)]) (by decide +kernel) (Nat.le_of_ble_eq_true rfl) rfl ?_
  intro p e s m args below meth c hA hr
  have hA : k_Amb p s m args meth c cX8_mayFollow 3 "TaleShares$Terrace" G _ := hA
  unfold f_Te_mayFollowS at hf
  obtain ⟨hi_1, hf⟩ := k_gi_e hf
  refine k_aload_n (i := 0) hA dX8_mayFollow_0 rfl 0 rfl ?_
  refine gt_X_10_9 hA wd_193 dX8_mayFollow_1 ?_
  refine k_iload_n (i := 1) hA dX8_mayFollow_4 rfl 1 rfl ?_
  refine ld_X_12 hA hi_1 dX8_mayFollow_5 ?_
  refine k_iload_n (i := 2) hA dX8_mayFollow_6 rfl 2 rfl ?_
  refine k_ishr hA dX8_mayFollow_7 ?_
  refine k_iconst hA dX8_mayFollow_8 kc_i_1 ?_
  refine k_iand hA dX8_mayFollow_9 ?_
  refine k_if_eq (tgt := 17) hA dX8_mayFollow_10 rfl (fun hc => ?_) (fun hc => ?_)
  · have hf := k_ift hc hf
    obtain rfl := k_r1 hf
    refine k_iconst hA dX8_mayFollow_17 kc_i_0 ?_
    exact k_iret hA hr (k_narB (k_b01 _)) dX8_mayFollow_18
  have hf := k_iff hc hf
  obtain rfl := k_r1 hf
  refine k_iconst hA dX8_mayFollow_13 kc_i_1 ?_
  refine k_goto (tgt := 18) hA dX8_mayFollow_14 rfl ?_
  exact k_iret hA hr (k_narB (k_b01 _)) dX8_mayFollow_18

def f_Re_readFollows_19 (n : Nat) (s1 : Int32) (s2 : Int32) (t : k_St) : Option (Bool × k_St) := k_cl (f_Re_passFirstWord n s1 s2 t) (fun r_2 t_1 => (if (k_b r_2) = 0 then some (false, t_1) else k_cl (f_Re_nameHereP n (t_1.1 10 2) t_1) (fun r_4 t_3 => (if r_4 = (-1 : Int32) then some (false, t_3) else k_cv (f_Re_step n t_3) (fun t_5 => k_cl (f_Re_nameHereP n (t_5.1 10 2) t_5) (fun r_7 t_6 => (if r_7 = (-1 : Int32) then some (false, t_6) else (if r_7 = r_4 then k_lt (f_Re_fail (3 : Int32) t_6) (fun q_8 => some (q_8.1, q_8.2)) else k_cp (f_Te_mayFollowS t_6 r_4 r_7) (fun r_9 => (if (k_b r_9) = 0 then k_cv (f_Re_step n t_6) (fun t_10 => k_gi r_4 8 (k_gi r_4 8 (k_lt (k_sI t_10 12 r_4.toNatClampNeg ((t_10.1 12 r_4.toNatClampNeg) ||| ((1 : Int32) <<< (r_7 &&& 31)))) (fun t_13 => k_lt (k_sI t_13 10 3 ((t_13.1 10 3) + (1 : Int32))) (fun t_14 => some (true, t_14)))))) else k_lt (f_Re_fail (3 : Int32) t_6) (fun q_15 => some (q_15.1, q_15.2))))))))))))
def f_Re_readFollows (n : Nat) (t : k_St) : Option (Bool × k_St) := (if (t.1 10 3) < (14 : Int32) then f_Re_readFollows_19 n (0 : Int32) (0 : Int32) t else f_Re_readFollows_19 n (0 : Int32) (1 : Int32) t)
theorem m_Re_readFollows_19 {p : Program} (l : Launch) {e : Env} {s : State} {m : MethodId} {args : Array Value} {below : List Frame} {meth : Method} {c : Code} (G : k_G) (a : Nat → Nat) (n : Nat) {w0 : va_W} {r : Bool} {t' : k_St} (hA : k_Amb p s m args meth c cX5_readFollows 3 "TaleShares$Reader" G (va_A w0 s.heap.size)) (hr : meth.sig.returnType = (some .boolean)) : ∀ (s1 : Int32) (s2 : Int32) (t : k_St), f_Re_readFollows_19 n s1 s2 t = some (r, t') → k_Go p l e (k_rm 8) s m args below meth c (k_QI G w0 (k_b r) (k_WX G.2.1 a (.ref (a 10)) t') args s below) 3 G (va_A w0 s.heap.size) (k_WX G.2.1 a (.ref (a 10)) t) 19 [(0, .ref (a 18))] [.int s2, .int s1, .ref (a 18)] := by
  intro s1 s2 t hf
  unfold f_Re_readFollows_19 at hf
  obtain ⟨r_2, t_1, ht_1, hf⟩ := k_cl_e hf
  refine k_callVi (As := [.int s1, .int s2]) (rest := []) hA (m_Re_passFirstWord l G a n s1 s2 t ht_1) cd_X5_passFirstWord wd_594 (hc_X_18 G.2.1 a (.ref (a 10)) t) rfl rfl (Nat.le_of_ble_eq_true rfl) rfl rfl (Nat.le_of_ble_eq_true rfl) dX5_readFollows_19 ?_
  refine k_if_ne (tgt := 27) hA dX5_readFollows_22 rfl (fun hc => ?_) (fun hc => ?_)
  · have hf := k_iff hc hf
    obtain ⟨r_4, t_3, ht_3, hf⟩ := k_cl_e hf
    refine k_aload_n (i := 0) hA dX5_readFollows_27 rfl 0 rfl ?_
    refine k_aload_n (i := 0) hA dX5_readFollows_28 rfl 0 rfl ?_
    refine gt_X_18_11 hA wd_268 dX5_readFollows_29 ?_
    refine k_aload_n (i := 0) hA dX5_readFollows_32 rfl 0 rfl ?_
    refine gt_X_18_10 hA wd_267 dX5_readFollows_33 ?_
    refine gt_X_10_2 hA wd_168 dX5_readFollows_36 ?_
    refine k_callVi (As := [.ref (a 19), .int (t_1.1 10 2)]) (rest := []) hA (m_Re_nameHereP l G a n (t_1.1 10 2) t_1 ht_3) cd_X5_nameHere wd_627 (hc_X_18 G.2.1 a (.ref (a 10)) t_1) rfl rfl (Nat.le_of_ble_eq_true rfl) rfl rfl (Nat.le_of_ble_eq_true rfl) dX5_readFollows_39 ?_
    refine k_istore_n (i := 1) (lv' := [(1, .int r_4), (0, .ref (a 18))]) hA dX5_readFollows_42 rfl rfl (Nat.le_of_ble_eq_true rfl) rfl ?_
    refine k_iload_n (i := 1) hA dX5_readFollows_43 rfl 0 rfl ?_
    refine k_iconst hA dX5_readFollows_44 kc_i_m1 ?_
    refine k_icmp_ne (tgt := 50) hA dX5_readFollows_45 rfl (fun hc => ?_) (fun hc => ?_)
    · have hf := k_iff hc hf
      obtain ⟨t_5, ht_5, hf⟩ := k_cv_e hf
      obtain ⟨r_7, t_6, ht_6, hf⟩ := k_cl_e hf
      refine k_aload_n (i := 0) hA dX5_readFollows_50 rfl 1 rfl ?_
      refine k_callVv (As := []) (rest := []) hA (m_Re_step l G a n t_3 ht_5) cd_X5_step wd_495 (hc_X_18 G.2.1 a (.ref (a 10)) t_3) rfl rfl (Nat.le_of_ble_eq_true rfl) rfl rfl (Nat.le_of_ble_eq_true rfl) dX5_readFollows_51 ?_
      refine k_aload_n (i := 0) hA dX5_readFollows_54 rfl 1 rfl ?_
      refine k_aload_n (i := 0) hA dX5_readFollows_55 rfl 1 rfl ?_
      refine gt_X_18_11 hA wd_268 dX5_readFollows_56 ?_
      refine k_aload_n (i := 0) hA dX5_readFollows_59 rfl 1 rfl ?_
      refine gt_X_18_10 hA wd_267 dX5_readFollows_60 ?_
      refine gt_X_10_2 hA wd_168 dX5_readFollows_63 ?_
      refine k_callVi (As := [.ref (a 19), .int (t_5.1 10 2)]) (rest := []) hA (m_Re_nameHereP l G a n (t_5.1 10 2) t_5 ht_6) cd_X5_nameHere wd_627 (hc_X_18 G.2.1 a (.ref (a 10)) t_5) rfl rfl (Nat.le_of_ble_eq_true rfl) rfl rfl (Nat.le_of_ble_eq_true rfl) dX5_readFollows_66 ?_
      refine k_istore_n (i := 2) (lv' := [(2, .int r_7), (1, .int r_4), (0, .ref (a 18))]) hA dX5_readFollows_69 rfl rfl (Nat.le_of_ble_eq_true rfl) rfl ?_
      refine k_iload_n (i := 2) hA dX5_readFollows_70 rfl 0 rfl ?_
      refine k_iconst hA dX5_readFollows_71 kc_i_m1 ?_
      refine k_icmp_ne (tgt := 77) hA dX5_readFollows_72 rfl (fun hc => ?_) (fun hc => ?_)
      · have hf := k_iff hc hf
        refine k_iload_n (i := 2) hA dX5_readFollows_77 rfl 0 rfl ?_
        refine k_iload_n (i := 1) hA dX5_readFollows_78 rfl 1 rfl ?_
        refine k_icmp_eq (tgt := 94) hA dX5_readFollows_79 rfl (fun hc => ?_) (fun hc => ?_)
        · have hf := k_ift hc hf
          obtain ⟨⟨rq_8, tq_8⟩, hq_8, hf⟩ := k_lt_e hf
          dsimp only at hf
          obtain ⟨rfl, rfl⟩ := k_r2 hf
          refine k_aload_n (i := 0) hA dX5_readFollows_94 rfl 2 rfl ?_
          refine k_iconst hA dX5_readFollows_95 kc_i_3 ?_
          refine k_callVi (As := [.int (3 : Int32)]) (rest := []) hA (m_Re_fail l G a (3 : Int32) t_6 hq_8.symm) cd_X5_fail wd_575 (hc_X_18 G.2.1 a (.ref (a 10)) t_6) rfl rfl (Nat.le_of_ble_eq_true rfl) rfl rfl (Nat.le_of_ble_eq_true rfl) dX5_readFollows_96 ?_
          exact k_iret hA hr (k_narB (k_b01 _)) dX5_readFollows_99
        have hf := k_iff hc hf
        obtain ⟨r_9, hr_9, hf⟩ := k_cp_e hf
        refine k_aload_n (i := 0) hA dX5_readFollows_82 rfl 2 rfl ?_
        refine gt_X_18_10 hA wd_267 dX5_readFollows_83 ?_
        refine k_iload_n (i := 1) hA dX5_readFollows_86 rfl 1 rfl ?_
        refine k_iload_n (i := 2) hA dX5_readFollows_87 rfl 0 rfl ?_
        refine k_callVi (As := [.int r_4, .int r_7]) (rest := []) hA (m_Te_mayFollowS l G a t_6 r_4 r_7 hr_9) cd_X8_mayFollow wd_631 (hc_X_10 G.2.1 a (.ref (a 10)) t_6) rfl rfl (Nat.le_of_ble_eq_true rfl) rfl rfl (Nat.le_of_ble_eq_true rfl) dX5_readFollows_88 ?_
        refine k_if_eq (tgt := 100) hA dX5_readFollows_91 rfl (fun hc => ?_) (fun hc => ?_)
        · have hf := k_ift hc hf
          obtain ⟨t_10, ht_10, hf⟩ := k_cv_e hf
          obtain ⟨hi_11, hf⟩ := k_gi_e hf
          obtain ⟨hi_12, hf⟩ := k_gi_e hf
          obtain ⟨t_13, et_13, hf⟩ := k_lt_e hf
          obtain ⟨t_14, et_14, hf⟩ := k_lt_e hf
          obtain ⟨rfl, rfl⟩ := k_r2 hf
          refine k_aload_n (i := 0) hA dX5_readFollows_100 rfl 2 rfl ?_
          refine k_callVv (As := []) (rest := []) hA (m_Re_step l G a n t_6 ht_10) cd_X5_step wd_495 (hc_X_18 G.2.1 a (.ref (a 10)) t_6) rfl rfl (Nat.le_of_ble_eq_true rfl) rfl rfl (Nat.le_of_ble_eq_true rfl) dX5_readFollows_101 ?_
          refine k_aload_n (i := 0) hA dX5_readFollows_104 rfl 2 rfl ?_
          refine gt_X_18_10 hA wd_267 dX5_readFollows_105 ?_
          refine gt_X_10_9 hA wd_195 dX5_readFollows_108 ?_
          refine k_iload_n (i := 1) hA dX5_readFollows_111 rfl 1 rfl ?_
          refine k_dup2_11 hA dX5_readFollows_112 rfl rfl ?_
          refine ld_X_12 hA hi_11 dX5_readFollows_113 ?_
          refine k_iconst hA dX5_readFollows_114 kc_i_1 ?_
          refine k_iload_n (i := 2) hA dX5_readFollows_115 rfl 0 rfl ?_
          refine k_ishl hA dX5_readFollows_116 ?_
          refine k_ior hA dX5_readFollows_117 ?_
          refine sr_X_12 hA hi_12 et_13 dX5_readFollows_118 ?_
          refine k_aload_n (i := 0) hA dX5_readFollows_119 rfl 2 rfl ?_
          refine gt_X_18_10 hA wd_267 dX5_readFollows_120 ?_
          refine k_dup hA dX5_readFollows_123 rfl ?_
          refine gt_X_10_3 hA wd_170 dX5_readFollows_124 ?_
          refine k_iconst hA dX5_readFollows_127 kc_i_1 ?_
          refine k_iadd hA dX5_readFollows_128 ?_
          refine pt_X_10_3 hA wd_170 et_14 dX5_readFollows_129 ?_
          refine k_iconst hA dX5_readFollows_132 kc_i_1 ?_
          exact k_iret hA hr (k_narB (k_b01 _)) dX5_readFollows_133
        have hf := k_iff hc hf
        obtain ⟨⟨rq_15, tq_15⟩, hq_15, hf⟩ := k_lt_e hf
        dsimp only at hf
        obtain ⟨rfl, rfl⟩ := k_r2 hf
        refine k_aload_n (i := 0) hA dX5_readFollows_94 rfl 2 rfl ?_
        refine k_iconst hA dX5_readFollows_95 kc_i_3 ?_
        refine k_callVi (As := [.int (3 : Int32)]) (rest := []) hA (m_Re_fail l G a (3 : Int32) t_6 hq_15.symm) cd_X5_fail wd_575 (hc_X_18 G.2.1 a (.ref (a 10)) t_6) rfl rfl (Nat.le_of_ble_eq_true rfl) rfl rfl (Nat.le_of_ble_eq_true rfl) dX5_readFollows_96 ?_
        exact k_iret hA hr (k_narB (k_b01 _)) dX5_readFollows_99
      have hf := k_ift hc hf
      obtain ⟨rfl, rfl⟩ := k_r2 hf
      refine k_iconst hA dX5_readFollows_75 kc_i_0 ?_
      exact k_iret hA hr (k_narB (k_b01 _)) dX5_readFollows_76
    have hf := k_ift hc hf
    obtain ⟨rfl, rfl⟩ := k_r2 hf
    refine k_iconst hA dX5_readFollows_48 kc_i_0 ?_
    exact k_iret hA hr (k_narB (k_b01 _)) dX5_readFollows_49
  have hf := k_ift hc hf
  obtain ⟨rfl, rfl⟩ := k_r2 hf
  refine k_iconst hA dX5_readFollows_25 kc_i_0 ?_
  exact k_iret hA hr (k_narB (k_b01 _)) dX5_readFollows_26

theorem m_Re_readFollows (l : Launch) (G : k_G) (a : Nat → Nat) (n : Nat) (t : k_St) {r : Bool} {t' : k_St} (hf : f_Re_readFollows n t = some (r, t')) : k_CI l G yX5_readFollows cX5_readFollows 3 (some .boolean) 8 (k_WX G.2.1 a (.ref (a 10)) t) [.ref (a 18)] (k_b r) (k_WX G.2.1 a (.ref (a 10)) t') := by
  refine k_startI (lv := [(0, .ref (a 18))]) (by decide +kernel) (Nat.le_of_ble_eq_true rfl) rfl ?_
  intro p e s m args below meth c hA hr
  have hA : k_Amb p s m args meth c cX5_readFollows 3 "TaleShares$Reader" G _ := hA
  unfold f_Re_readFollows at hf
  refine k_aload_n (i := 0) hA dX5_readFollows_0 rfl 0 rfl ?_
  refine k_iconst hA dX5_readFollows_1 kc_i_0 ?_
  refine k_aload_n (i := 0) hA dX5_readFollows_2 rfl 0 rfl ?_
  refine gt_X_18_10 hA wd_267 dX5_readFollows_3 ?_
  refine gt_X_10_3 hA wd_170 dX5_readFollows_6 ?_
  refine k_bipush hA dX5_readFollows_9 kc_b_14 ?_
  refine k_icmp_lt (tgt := 18) hA dX5_readFollows_11 rfl (fun hc => ?_) (fun hc => ?_)
  · have hf := k_ift hc hf
    refine k_iconst hA dX5_readFollows_18 kc_i_0 ?_
    exact m_Re_readFollows_19 l G a n hA hr (0 : Int32) (0 : Int32) t hf
  have hf := k_iff hc hf
  refine k_iconst hA dX5_readFollows_14 kc_i_1 ?_
  refine k_goto (tgt := 19) hA dX5_readFollows_15 rfl ?_
  exact m_Re_readFollows_19 l G a n hA hr (0 : Int32) (1 : Int32) t hf

