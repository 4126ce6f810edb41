theorem dX5_reads_0 : decode cX5_reads 0 = .ok (.aload_n 0, 1) := by decide +kernel
theorem dX5_reads_1 : decode cX5_reads 1 = .ok (.iconst 0, 1) := by decide +kernel
theorem dX5_reads_2 : decode cX5_reads 2 = .ok (.putfield 29, 3) := by decide +kernel
theorem dX5_reads_5 : decode cX5_reads 5 = .ok (.aload_n 0, 1) := by decide +kernel
theorem dX5_reads_6 : decode cX5_reads 6 = .ok (.getfield 18, 3) := by decide +kernel
theorem dX5_reads_9 : decode cX5_reads 9 = .ok (.invokevirtual 33, 3) := by decide +kernel
theorem dX5_reads_12 : decode cX5_reads 12 = .ok (.aload_n 0, 1) := by decide +kernel
theorem dX5_reads_13 : decode cX5_reads 13 = .ok (.iload_n 1, 1) := by decide +kernel
theorem dX5_reads_14 : decode cX5_reads 14 = .ok (.aload_n 0, 1) := by decide +kernel
theorem dX5_reads_15 : decode cX5_reads 15 = .ok (.getfield 9, 3) := by decide +kernel
theorem dX5_reads_18 : decode cX5_reads 18 = .ok (.arraylength, 1) := by decide +kernel
theorem dX5_reads_19 : decode cX5_reads 19 = .ok (.invokestatic 36, 3) := by decide +kernel
theorem dX5_reads_22 : decode cX5_reads 22 = .ok (.putfield 42, 3) := by decide +kernel
theorem dX5_reads_25 : decode cX5_reads 25 = .ok (.aload_n 0, 1) := by decide +kernel
theorem dX5_reads_26 : decode cX5_reads 26 = .ok (.iconst 0, 1) := by decide +kernel
theorem dX5_reads_27 : decode cX5_reads 27 = .ok (.putfield 45, 3) := by decide +kernel
theorem dX5_reads_30 : decode cX5_reads 30 = .ok (.aload_n 0, 1) := by decide +kernel
theorem dX5_reads_31 : decode cX5_reads 31 = .ok (.iconst 0, 1) := by decide +kernel
theorem dX5_reads_32 : decode cX5_reads 32 = .ok (.putfield 48, 3) := by decide +kernel
theorem dX5_reads_35 : decode cX5_reads 35 = .ok (.aload_n 0, 1) := by decide +kernel
theorem dX5_reads_36 : decode cX5_reads 36 = .ok (.iconst 0, 1) := by decide +kernel
theorem dX5_reads_37 : decode cX5_reads 37 = .ok (.putfield 52, 3) := by decide +kernel
theorem dX5_reads_40 : decode cX5_reads 40 = .ok (.aload_n 0, 1) := by decide +kernel
theorem dX5_reads_41 : decode cX5_reads 41 = .ok (.invokevirtual 55, 3) := by decide +kernel
theorem dX5_reads_44 : decode cX5_reads 44 = .ok (.iconst 0, 1) := by decide +kernel
theorem dX5_reads_45 : decode cX5_reads 45 = .ok (.istore_n 2, 1) := by decide +kernel
theorem dX5_reads_46 : decode cX5_reads 46 = .ok (.iload_n 2, 1) := by decide +kernel
theorem dX5_reads_47 : decode cX5_reads 47 = .ok (.aload_n 0, 1) := by decide +kernel
theorem dX5_reads_48 : decode cX5_reads 48 = .ok (.getfield 42, 3) := by decide +kernel
theorem dX5_reads_51 : decode cX5_reads 51 = .ok (.if_icmp .gt 68, 3) := by decide +kernel
theorem dX5_reads_54 : decode cX5_reads 54 = .ok (.aload_n 0, 1) := by decide +kernel
theorem dX5_reads_55 : decode cX5_reads 55 = .ok (.invokevirtual 58, 3) := by decide +kernel
theorem dX5_reads_58 : decode cX5_reads 58 = .ok (.ifCond .ne 5, 3) := by decide +kernel
theorem dX5_reads_61 : decode cX5_reads 61 = .ok (.iconst 0, 1) := by decide +kernel
theorem dX5_reads_62 : decode cX5_reads 62 = .ok (.ireturn, 1) := by decide +kernel
theorem dX5_reads_63 : decode cX5_reads 63 = .ok (.aload_n 0, 1) := by decide +kernel
theorem dX5_reads_64 : decode cX5_reads 64 = .ok (.getfield 62, 3) := by decide +kernel
theorem dX5_reads_67 : decode cX5_reads 67 = .ok (.ifCond .ne 28, 3) := by decide +kernel
theorem dX5_reads_70 : decode cX5_reads 70 = .ok (.aload_n 0, 1) := by decide +kernel
theorem dX5_reads_71 : decode cX5_reads 71 = .ok (.getfield 18, 3) := by decide +kernel
theorem dX5_reads_74 : decode cX5_reads 74 = .ok (.getfield 65, 3) := by decide +kernel
theorem dX5_reads_77 : decode cX5_reads 77 = .ok (.ifCond .gt 12, 3) := by decide +kernel
theorem dX5_reads_80 : decode cX5_reads 80 = .ok (.aload_n 0, 1) := by decide +kernel
theorem dX5_reads_81 : decode cX5_reads 81 = .ok (.bipush 6, 2) := by decide +kernel
theorem dX5_reads_83 : decode cX5_reads 83 = .ok (.invokevirtual 68, 3) := by decide +kernel
theorem dX5_reads_86 : decode cX5_reads 86 = .ok (.ifCond .eq 7, 3) := by decide +kernel
theorem dX5_reads_89 : decode cX5_reads 89 = .ok (.iconst 1, 1) := by decide +kernel
theorem dX5_reads_90 : decode cX5_reads 90 = .ok (.goto 4, 3) := by decide +kernel
theorem dX5_reads_93 : decode cX5_reads 93 = .ok (.iconst 0, 1) := by decide +kernel
theorem dX5_reads_94 : decode cX5_reads 94 = .ok (.ireturn, 1) := by decide +kernel
theorem dX5_reads_95 : decode cX5_reads 95 = .ok (.aload_n 0, 1) := by decide +kernel
theorem dX5_reads_96 : decode cX5_reads 96 = .ok (.getfield 62, 3) := by decide +kernel
theorem dX5_reads_99 : decode cX5_reads 99 = .ok (.iconst 4, 1) := by decide +kernel
theorem dX5_reads_100 : decode cX5_reads 100 = .ok (.if_icmp .eq 9, 3) := by decide +kernel
theorem dX5_reads_103 : decode cX5_reads 103 = .ok (.aload_n 0, 1) := by decide +kernel
theorem dX5_reads_104 : decode cX5_reads 104 = .ok (.iconst 1, 1) := by decide +kernel
theorem dX5_reads_105 : decode cX5_reads 105 = .ok (.invokevirtual 68, 3) := by decide +kernel
theorem dX5_reads_108 : decode cX5_reads 108 = .ok (.ireturn, 1) := by decide +kernel
theorem dX5_reads_109 : decode cX5_reads 109 = .ok (.aload_n 0, 1) := by decide +kernel
theorem dX5_reads_110 : decode cX5_reads 110 = .ok (.invokevirtual 55, 3) := by decide +kernel
theorem dX5_reads_113 : decode cX5_reads 113 = .ok (.iinc 2 1, 3) := by decide +kernel
theorem dX5_reads_116 : decode cX5_reads 116 = .ok (.goto (-70), 3) := by decide +kernel
theorem dX5_reads_119 : decode cX5_reads 119 = .ok (.aload_n 0, 1) := by decide +kernel
theorem dX5_reads_120 : decode cX5_reads 120 = .ok (.iconst 1, 1) := by decide +kernel
theorem dX5_reads_121 : decode cX5_reads 121 = .ok (.invokevirtual 68, 3) := by decide +kernel
theorem dX5_reads_124 : decode cX5_reads 124 = .ok (.ireturn, 1) := by decide +kernel
theorem dX5_readLine_0 : decode cX5_readLine 0 = .ok (.aload_n 0, 1) := by decide +kernel
theorem dX5_readLine_1 : decode cX5_readLine 1 = .ok (.ldc 106, 2) := by decide +kernel
theorem dX5_readLine_3 : decode cX5_readLine 3 = .ok (.invokevirtual 108, 3) := by decide +kernel
theorem dX5_readLine_6 : decode cX5_readLine 6 = .ok (.ifCond .eq 8, 3) := by decide +kernel
theorem dX5_readLine_9 : decode cX5_readLine 9 = .ok (.aload_n 0, 1) := by decide +kernel
theorem dX5_readLine_10 : decode cX5_readLine 10 = .ok (.invokevirtual 112, 3) := by decide +kernel
theorem dX5_readLine_13 : decode cX5_readLine 13 = .ok (.ireturn, 1) := by decide +kernel
theorem dX5_readLine_14 : decode cX5_readLine 14 = .ok (.aload_n 0, 1) := by decide +kernel
theorem dX5_readLine_15 : decode cX5_readLine 15 = .ok (.ldc 115, 2) := by decide +kernel
theorem dX5_readLine_17 : decode cX5_readLine 17 = .ok (.invokevirtual 108, 3) := by decide +kernel
theorem dX5_readLine_20 : decode cX5_readLine 20 = .ok (.ifCond .eq 8, 3) := by decide +kernel
theorem dX5_readLine_23 : decode cX5_readLine 23 = .ok (.aload_n 0, 1) := by decide +kernel
theorem dX5_readLine_24 : decode cX5_readLine 24 = .ok (.invokevirtual 117, 3) := by decide +kernel
theorem dX5_readLine_27 : decode cX5_readLine 27 = .ok (.ireturn, 1) := by decide +kernel
theorem dX5_readLine_28 : decode cX5_readLine 28 = .ok (.aload_n 0, 1) := by decide +kernel
theorem dX5_readLine_29 : decode cX5_readLine 29 = .ok (.ldc 120, 2) := by decide +kernel
theorem dX5_readLine_31 : decode cX5_readLine 31 = .ok (.invokevirtual 108, 3) := by decide +kernel
theorem dX5_readLine_34 : decode cX5_readLine 34 = .ok (.ifCond .eq 8, 3) := by decide +kernel
theorem dX5_readLine_37 : decode cX5_readLine 37 = .ok (.aload_n 0, 1) := by decide +kernel
theorem dX5_readLine_38 : decode cX5_readLine 38 = .ok (.invokevirtual 122, 3) := by decide +kernel
theorem dX5_readLine_41 : decode cX5_readLine 41 = .ok (.ireturn, 1) := by decide +kernel
theorem dX5_readLine_42 : decode cX5_readLine 42 = .ok (.aload_n 0, 1) := by decide +kernel
theorem dX5_readLine_43 : decode cX5_readLine 43 = .ok (.ldc 125, 2) := by decide +kernel
theorem dX5_readLine_45 : decode cX5_readLine 45 = .ok (.invokevirtual 108, 3) := by decide +kernel
theorem dX5_readLine_48 : decode cX5_readLine 48 = .ok (.ifCond .eq 8, 3) := by decide +kernel
theorem dX5_readLine_51 : decode cX5_readLine 51 = .ok (.aload_n 0, 1) := by decide +kernel
theorem dX5_readLine_52 : decode cX5_readLine 52 = .ok (.invokevirtual 127, 3) := by decide +kernel
theorem dX5_readLine_55 : decode cX5_readLine 55 = .ok (.ireturn, 1) := by decide +kernel
theorem dX5_readLine_56 : decode cX5_readLine 56 = .ok (.aload_n 0, 1) := by decide +kernel
theorem dX5_readLine_57 : decode cX5_readLine 57 = .ok (.ldc 130, 2) := by decide +kernel
theorem dX5_readLine_59 : decode cX5_readLine 59 = .ok (.invokevirtual 108, 3) := by decide +kernel
theorem dX5_readLine_62 : decode cX5_readLine 62 = .ok (.ifCond .eq 8, 3) := by decide +kernel
theorem dX5_readLine_65 : decode cX5_readLine 65 = .ok (.aload_n 0, 1) := by decide +kernel
theorem dX5_readLine_66 : decode cX5_readLine 66 = .ok (.invokevirtual 132, 3) := by decide +kernel
theorem dX5_readLine_69 : decode cX5_readLine 69 = .ok (.ireturn, 1) := by decide +kernel
theorem dX5_readLine_70 : decode cX5_readLine 70 = .ok (.aload_n 0, 1) := by decide +kernel
theorem dX5_readLine_71 : decode cX5_readLine 71 = .ok (.ldc 135, 2) := by decide +kernel
theorem dX5_readLine_73 : decode cX5_readLine 73 = .ok (.invokevirtual 108, 3) := by decide +kernel
theorem dX5_readLine_76 : decode cX5_readLine 76 = .ok (.ifCond .eq 8, 3) := by decide +kernel
theorem dX5_readLine_79 : decode cX5_readLine 79 = .ok (.aload_n 0, 1) := by decide +kernel
theorem dX5_readLine_80 : decode cX5_readLine 80 = .ok (.invokevirtual 137, 3) := by decide +kernel
theorem dX5_readLine_83 : decode cX5_readLine 83 = .ok (.ireturn, 1) := by decide +kernel
theorem dX5_readLine_84 : decode cX5_readLine 84 = .ok (.aload_n 0, 1) := by decide +kernel
theorem dX5_readLine_85 : decode cX5_readLine 85 = .ok (.ldc 140, 2) := by decide +kernel
theorem dX5_readLine_87 : decode cX5_readLine 87 = .ok (.invokevirtual 108, 3) := by decide +kernel
theorem dX5_readLine_90 : decode cX5_readLine 90 = .ok (.ifCond .eq 10, 3) := by decide +kernel
theorem dX5_readLine_93 : decode cX5_readLine 93 = .ok (.aload_n 0, 1) := by decide +kernel
theorem dX5_readLine_94 : decode cX5_readLine 94 = .ok (.invokevirtual 142, 3) := by decide +kernel
theorem dX5_readLine_97 : decode cX5_readLine 97 = .ok (.goto 8, 3) := by decide +kernel
theorem dX5_readLine_100 : decode cX5_readLine 100 = .ok (.aload_n 0, 1) := by decide +kernel
theorem dX5_readLine_101 : decode cX5_readLine 101 = .ok (.iconst 1, 1) := by decide +kernel
theorem dX5_readLine_102 : decode cX5_readLine 102 = .ok (.invokevirtual 68, 3) := by decide +kernel
theorem dX5_readLine_105 : decode cX5_readLine 105 = .ok (.ireturn, 1) := by decide +kernel
theorem dX5_readPiece_0 : decode cX5_readPiece 0 = .ok (.aload_n 0, 1) := by decide +kernel
theorem dX5_readPiece_1 : decode cX5_readPiece 1 = .ok (.getfield 18, 3) := by decide +kernel
theorem dX5_readPiece_4 : decode cX5_readPiece 4 = .ok (.getfield 65, 3) := by decide +kernel
theorem dX5_readPiece_7 : decode cX5_readPiece 7 = .ok (.istore_n 1, 1) := by decide +kernel
theorem dX5_readPiece_8 : decode cX5_readPiece 8 = .ok (.aload_n 0, 1) := by decide +kernel
theorem dX5_readPiece_9 : decode cX5_readPiece 9 = .ok (.iconst 0, 1) := by decide +kernel
theorem dX5_readPiece_10 : decode cX5_readPiece 10 = .ok (.iload_n 1, 1) := by decide +kernel
theorem dX5_readPiece_11 : decode cX5_readPiece 11 = .ok (.bipush 8, 2) := by decide +kernel
theorem dX5_readPiece_13 : decode cX5_readPiece 13 = .ok (.if_icmp .lt 7, 3) := by decide +kernel
theorem dX5_readPiece_16 : decode cX5_readPiece 16 = .ok (.iconst 1, 1) := by decide +kernel
theorem dX5_readPiece_17 : decode cX5_readPiece 17 = .ok (.goto 4, 3) := by decide +kernel
theorem dX5_readPiece_20 : decode cX5_readPiece 20 = .ok (.iconst 0, 1) := by decide +kernel
theorem dX5_readPiece_21 : decode cX5_readPiece 21 = .ok (.invokevirtual 160, 3) := by decide +kernel
theorem dX5_readPiece_24 : decode cX5_readPiece 24 = .ok (.ifCond .eq 10, 3) := by decide +kernel
theorem dX5_readPiece_27 : decode cX5_readPiece 27 = .ok (.aload_n 0, 1) := by decide +kernel
theorem dX5_readPiece_28 : decode cX5_readPiece 28 = .ok (.invokevirtual 164, 3) := by decide +kernel
theorem dX5_readPiece_31 : decode cX5_readPiece 31 = .ok (.ifCond .ne 5, 3) := by decide +kernel
theorem dX5_readPiece_34 : decode cX5_readPiece 34 = .ok (.iconst 0, 1) := by decide +kernel
theorem dX5_readPiece_35 : decode cX5_readPiece 35 = .ok (.ireturn, 1) := by decide +kernel
theorem dX5_readPiece_36 : decode cX5_readPiece 36 = .ok (.aload_n 0, 1) := by decide +kernel
theorem dX5_readPiece_37 : decode cX5_readPiece 37 = .ok (.getfield 22, 3) := by decide +kernel
theorem dX5_readPiece_40 : decode cX5_readPiece 40 = .ok (.iload_n 1, 1) := by decide +kernel
theorem dX5_readPiece_41 : decode cX5_readPiece 41 = .ok (.aload_n 0, 1) := by decide +kernel
theorem dX5_readPiece_42 : decode cX5_readPiece 42 = .ok (.getfield 88, 3) := by decide +kernel
theorem dX5_readPiece_45 : decode cX5_readPiece 45 = .ok (.lastore, 1) := by decide +kernel
theorem dX5_readPiece_46 : decode cX5_readPiece 46 = .ok (.aload_n 0, 1) := by decide +kernel
theorem dX5_readPiece_47 : decode cX5_readPiece 47 = .ok (.invokevirtual 55, 3) := by decide +kernel
theorem dX5_readPiece_50 : decode cX5_readPiece 50 = .ok (.aload_n 0, 1) := by decide +kernel
theorem dX5_readPiece_51 : decode cX5_readPiece 51 = .ok (.invokevirtual 167, 3) := by decide +kernel
theorem dX5_readPiece_54 : decode cX5_readPiece 54 = .ok (.istore_n 2, 1) := by decide +kernel
theorem dX5_readPiece_55 : decode cX5_readPiece 55 = .ok (.iload_n 2, 1) := by decide +kernel
theorem dX5_readPiece_56 : decode cX5_readPiece 56 = .ok (.iconst (-1), 1) := by decide +kernel
theorem dX5_readPiece_57 : decode cX5_readPiece 57 = .ok (.if_icmp .ne 9, 3) := by decide +kernel
theorem dX5_readPiece_60 : decode cX5_readPiece 60 = .ok (.aload_n 0, 1) := by decide +kernel
theorem dX5_readPiece_61 : decode cX5_readPiece 61 = .ok (.iconst 1, 1) := by decide +kernel
theorem dX5_readPiece_62 : decode cX5_readPiece 62 = .ok (.invokevirtual 68, 3) := by decide +kernel
theorem dX5_readPiece_65 : decode cX5_readPiece 65 = .ok (.ireturn, 1) := by decide +kernel
theorem dX5_readPiece_66 : decode cX5_readPiece 66 = .ok (.aload_n 0, 1) := by decide +kernel
theorem dX5_readPiece_67 : decode cX5_readPiece 67 = .ok (.invokevirtual 55, 3) := by decide +kernel
theorem dX5_readPiece_70 : decode cX5_readPiece 70 = .ok (.aload_n 0, 1) := by decide +kernel
theorem dX5_readPiece_71 : decode cX5_readPiece 71 = .ok (.getfield 18, 3) := by decide +kernel
theorem dX5_readPiece_74 : decode cX5_readPiece 74 = .ok (.getfield 170, 3) := by decide +kernel
theorem dX5_readPiece_77 : decode cX5_readPiece 77 = .ok (.iload_n 1, 1) := by decide +kernel
theorem dX5_readPiece_78 : decode cX5_readPiece 78 = .ok (.iload_n 2, 1) := by decide +kernel
theorem dX5_readPiece_79 : decode cX5_readPiece 79 = .ok (.iastore, 1) := by decide +kernel
theorem dX5_readPiece_80 : decode cX5_readPiece 80 = .ok (.aload_n 0, 1) := by decide +kernel
theorem dX5_readPiece_81 : decode cX5_readPiece 81 = .ok (.getfield 18, 3) := by decide +kernel
theorem dX5_readPiece_84 : decode cX5_readPiece 84 = .ok (.dup, 1) := by decide +kernel
theorem dX5_readPiece_85 : decode cX5_readPiece 85 = .ok (.getfield 65, 3) := by decide +kernel
theorem dX5_readPiece_88 : decode cX5_readPiece 88 = .ok (.iconst 1, 1) := by decide +kernel
theorem dX5_readPiece_89 : decode cX5_readPiece 89 = .ok (.iadd, 1) := by decide +kernel
theorem dX5_readPiece_90 : decode cX5_readPiece 90 = .ok (.putfield 65, 3) := by decide +kernel
theorem dX5_readPiece_93 : decode cX5_readPiece 93 = .ok (.iconst 1, 1) := by decide +kernel
theorem dX5_readPiece_94 : decode cX5_readPiece 94 = .ok (.ireturn, 1) := by decide +kernel
theorem dX5_kindHere_0 : decode cX5_kindHere 0 = .ok (.aload_n 0, 1) := by decide +kernel
theorem dX5_kindHere_1 : decode cX5_kindHere 1 = .ok (.ldc 174, 2) := by decide +kernel
theorem dX5_kindHere_3 : decode cX5_kindHere 3 = .ok (.invokevirtual 108, 3) := by decide +kernel
theorem dX5_kindHere_6 : decode cX5_kindHere 6 = .ok (.ifCond .eq 5, 3) := by decide +kernel
theorem dX5_kindHere_9 : decode cX5_kindHere 9 = .ok (.iconst 0, 1) := by decide +kernel
theorem dX5_kindHere_10 : decode cX5_kindHere 10 = .ok (.ireturn, 1) := by decide +kernel
theorem dX5_kindHere_11 : decode cX5_kindHere 11 = .ok (.aload_n 0, 1) := by decide +kernel
theorem dX5_kindHere_12 : decode cX5_kindHere 12 = .ok (.ldc 176, 2) := by decide +kernel
theorem dX5_kindHere_14 : decode cX5_kindHere 14 = .ok (.invokevirtual 108, 3) := by decide +kernel
theorem dX5_kindHere_17 : decode cX5_kindHere 17 = .ok (.ifCond .eq 5, 3) := by decide +kernel
theorem dX5_kindHere_20 : decode cX5_kindHere 20 = .ok (.iconst 1, 1) := by decide +kernel
theorem dX5_kindHere_21 : decode cX5_kindHere 21 = .ok (.ireturn, 1) := by decide +kernel
theorem dX5_kindHere_22 : decode cX5_kindHere 22 = .ok (.aload_n 0, 1) := by decide +kernel
theorem dX5_kindHere_23 : decode cX5_kindHere 23 = .ok (.ldc 178, 2) := by decide +kernel
theorem dX5_kindHere_25 : decode cX5_kindHere 25 = .ok (.invokevirtual 108, 3) := by decide +kernel
theorem dX5_kindHere_28 : decode cX5_kindHere 28 = .ok (.ifCond .eq 5, 3) := by decide +kernel
theorem dX5_kindHere_31 : decode cX5_kindHere 31 = .ok (.iconst 2, 1) := by decide +kernel
theorem dX5_kindHere_32 : decode cX5_kindHere 32 = .ok (.ireturn, 1) := by decide +kernel
theorem dX5_kindHere_33 : decode cX5_kindHere 33 = .ok (.aload_n 0, 1) := by decide +kernel
theorem dX5_kindHere_34 : decode cX5_kindHere 34 = .ok (.ldc 180, 2) := by decide +kernel
theorem dX5_kindHere_36 : decode cX5_kindHere 36 = .ok (.invokevirtual 108, 3) := by decide +kernel
theorem dX5_kindHere_39 : decode cX5_kindHere 39 = .ok (.ifCond .eq 7, 3) := by decide +kernel
theorem dX5_kindHere_42 : decode cX5_kindHere 42 = .ok (.iconst 3, 1) := by decide +kernel
theorem dX5_kindHere_43 : decode cX5_kindHere 43 = .ok (.goto 4, 3) := by decide +kernel
theorem dX5_kindHere_46 : decode cX5_kindHere 46 = .ok (.iconst (-1), 1) := by decide +kernel
theorem dX5_kindHere_47 : decode cX5_kindHere 47 = .ok (.ireturn, 1) := by decide +kernel
theorem dX5_readNurse_0 : decode cX5_readNurse 0 = .ok (.aload_n 0, 1) := by decide +kernel
theorem dX5_readNurse_1 : decode cX5_readNurse 1 = .ok (.getfield 48, 3) := by decide +kernel
theorem dX5_readNurse_4 : decode cX5_readNurse 4 = .ok (.ifCond .eq 9, 3) := by decide +kernel
theorem dX5_readNurse_7 : decode cX5_readNurse 7 = .ok (.aload_n 0, 1) := by decide +kernel
theorem dX5_readNurse_8 : decode cX5_readNurse 8 = .ok (.iconst 3, 1) := by decide +kernel
theorem dX5_readNurse_9 : decode cX5_readNurse 9 = .ok (.invokevirtual 68, 3) := by decide +kernel
theorem dX5_readNurse_12 : decode cX5_readNurse 12 = .ok (.ireturn, 1) := by decide +kernel
theorem dX5_readNurse_13 : decode cX5_readNurse 13 = .ok (.aload_n 0, 1) := by decide +kernel
theorem dX5_readNurse_14 : decode cX5_readNurse 14 = .ok (.iconst 1, 1) := by decide +kernel
theorem dX5_readNurse_15 : decode cX5_readNurse 15 = .ok (.putfield 48, 3) := by decide +kernel
theorem dX5_readNurse_18 : decode cX5_readNurse 18 = .ok (.aload_n 0, 1) := by decide +kernel
theorem dX5_readNurse_19 : decode cX5_readNurse 19 = .ok (.invokevirtual 55, 3) := by decide +kernel
theorem dX5_readNurse_22 : decode cX5_readNurse 22 = .ok (.aload_n 0, 1) := by decide +kernel
theorem dX5_readNurse_23 : decode cX5_readNurse 23 = .ok (.ldc 145, 2) := by decide +kernel
theorem dX5_readNurse_25 : decode cX5_readNurse 25 = .ok (.invokevirtual 147, 3) := by decide +kernel
theorem dX5_readNurse_28 : decode cX5_readNurse 28 = .ok (.ifCond .eq 12, 3) := by decide +kernel
theorem dX5_readNurse_31 : decode cX5_readNurse 31 = .ok (.aload_n 0, 1) := by decide +kernel
theorem dX5_readNurse_32 : decode cX5_readNurse 32 = .ok (.iconst 0, 1) := by decide +kernel
theorem dX5_readNurse_33 : decode cX5_readNurse 33 = .ok (.iconst 4, 1) := by decide +kernel
theorem dX5_readNurse_34 : decode cX5_readNurse 34 = .ok (.invokevirtual 150, 3) := by decide +kernel
theorem dX5_readNurse_37 : decode cX5_readNurse 37 = .ok (.ifCond .ne 5, 3) := by decide +kernel
theorem dX5_readNurse_40 : decode cX5_readNurse 40 = .ok (.iconst 0, 1) := by decide +kernel
theorem dX5_readNurse_41 : decode cX5_readNurse 41 = .ok (.ireturn, 1) := by decide +kernel
theorem dX5_readNurse_42 : decode cX5_readNurse 42 = .ok (.aload_n 0, 1) := by decide +kernel
theorem dX5_readNurse_43 : decode cX5_readNurse 43 = .ok (.getfield 18, 3) := by decide +kernel
theorem dX5_readNurse_46 : decode cX5_readNurse 46 = .ok (.aload_n 0, 1) := by decide +kernel
theorem dX5_readNurse_47 : decode cX5_readNurse 47 = .ok (.getfield 94, 3) := by decide +kernel
theorem dX5_readNurse_50 : decode cX5_readNurse 50 = .ok (.putfield 154, 3) := by decide +kernel
theorem dX5_readNurse_53 : decode cX5_readNurse 53 = .ok (.aload_n 0, 1) := by decide +kernel
theorem dX5_readNurse_54 : decode cX5_readNurse 54 = .ok (.ldc 156, 2) := by decide +kernel
theorem dX5_readNurse_56 : decode cX5_readNurse 56 = .ok (.invokevirtual 147, 3) := by decide +kernel
theorem dX5_readNurse_59 : decode cX5_readNurse 59 = .ok (.ifCond .eq 13, 3) := by decide +kernel
theorem dX5_readNurse_62 : decode cX5_readNurse 62 = .ok (.aload_n 0, 1) := by decide +kernel
theorem dX5_readNurse_63 : decode cX5_readNurse 63 = .ok (.iconst 0, 1) := by decide +kernel
theorem dX5_readNurse_64 : decode cX5_readNurse 64 = .ok (.bipush 100, 2) := by decide +kernel
theorem dX5_readNurse_66 : decode cX5_readNurse 66 = .ok (.invokevirtual 150, 3) := by decide +kernel
theorem dX5_readNurse_69 : decode cX5_readNurse 69 = .ok (.ifCond .ne 5, 3) := by decide +kernel
theorem dX5_readNurse_72 : decode cX5_readNurse 72 = .ok (.iconst 0, 1) := by decide +kernel
theorem dX5_readNurse_73 : decode cX5_readNurse 73 = .ok (.ireturn, 1) := by decide +kernel
theorem dX5_readNurse_74 : decode cX5_readNurse 74 = .ok (.aload_n 0, 1) := by decide +kernel
theorem dX5_readNurse_75 : decode cX5_readNurse 75 = .ok (.getfield 18, 3) := by decide +kernel
theorem dX5_readNurse_78 : decode cX5_readNurse 78 = .ok (.aload_n 0, 1) := by decide +kernel
theorem dX5_readNurse_79 : decode cX5_readNurse 79 = .ok (.getfield 94, 3) := by decide +kernel
theorem dX5_readNurse_82 : decode cX5_readNurse 82 = .ok (.putfield 158, 3) := by decide +kernel
theorem dX5_readNurse_85 : decode cX5_readNurse 85 = .ok (.iconst 1, 1) := by decide +kernel
theorem dX5_readNurse_86 : decode cX5_readNurse 86 = .ok (.ireturn, 1) := by decide +kernel
def f_Re_kindHere (n : Nat) (t : k_St) : Option Int32 := k_cp (f_Re_says n 9 t) (fun r_1 => (if (k_b r_1) = 0 then k_cp (f_Re_says n 10 t) (fun r_2 => (if (k_b r_2) = 0 then k_cp (f_Re_says n 11 t) (fun r_3 => (if (k_b r_3) = 0 then k_cp (f_Re_says n 12 t) (fun r_4 => (if (k_b r_4) = 0 then some (-1 : Int32) else some (3 : Int32))) else some (2 : Int32))) else some (1 : Int32))) else some (0 : Int32)))
theorem m_Re_kindHere (l : Launch) (G : k_G) (a : Nat → Nat) (n : Nat) (t : k_St) {r : Int32} (hf : f_Re_kindHere n t = some r) : k_CI l G yX5_kindHere cX5_kindHere 1 (some .int) 6 (k_WX G.2.1 a (.ref (a 10)) t) [.ref (a 18)] r (k_WX G.2.1 a (.ref (a 10)) t) := by
  refine k_startI (lv := [(0, .ref (a 18))]) (by decide +kernel) (Nat.le_of_ble_eq_true rfl) rfl ?_
  intro p e s m args below meth c hA hr
  have hA : k_Amb p s m args meth c cX5_kindHere 1 "TaleShares$Reader" G _ := hA
  unfold f_Re_kindHere at hf
  obtain ⟨r_1, hr_1, hf⟩ := k_cp_e hf
  refine k_aload_n (i := 0) hA dX5_kindHere_0 rfl 0 rfl ?_
  refine k_ldcS hA sq_RX5_174 dX5_kindHere_1 ?_
  refine k_callVi (As := [.ref (G.2.2.1 9)]) (rest := []) hA (m_Re_says l G a n 9 (by decide) t hr_1) cd_X5_says wd_519 (hc_X_18 G.2.1 a (.ref (a 10)) t) rfl rfl (Nat.le_of_ble_eq_true rfl) rfl rfl (Nat.le_of_ble_eq_true rfl) dX5_kindHere_3 ?_
  refine k_if_eq (tgt := 11) hA dX5_kindHere_6 rfl (fun hc => ?_) (fun hc => ?_)
  · have hf := k_ift hc hf
    obtain ⟨r_2, hr_2, hf⟩ := k_cp_e hf
    refine k_aload_n (i := 0) hA dX5_kindHere_11 rfl 0 rfl ?_
    refine k_ldcS hA sq_RX5_176 dX5_kindHere_12 ?_
    refine k_callVi (As := [.ref (G.2.2.1 10)]) (rest := []) hA (m_Re_says l G a n 10 (by decide) t hr_2) cd_X5_says wd_519 (hc_X_18 G.2.1 a (.ref (a 10)) t) rfl rfl (Nat.le_of_ble_eq_true rfl) rfl rfl (Nat.le_of_ble_eq_true rfl) dX5_kindHere_14 ?_
    refine k_if_eq (tgt := 22) hA dX5_kindHere_17 rfl (fun hc => ?_) (fun hc => ?_)
    · have hf := k_ift hc hf
      obtain ⟨r_3, hr_3, hf⟩ := k_cp_e hf
      refine k_aload_n (i := 0) hA dX5_kindHere_22 rfl 0 rfl ?_
      refine k_ldcS hA sq_RX5_178 dX5_kindHere_23 ?_
      refine k_callVi (As := [.ref (G.2.2.1 11)]) (rest := []) hA (m_Re_says l G a n 11 (by decide) t hr_3) cd_X5_says wd_519 (hc_X_18 G.2.1 a (.ref (a 10)) t) rfl rfl (Nat.le_of_ble_eq_true rfl) rfl rfl (Nat.le_of_ble_eq_true rfl) dX5_kindHere_25 ?_
      refine k_if_eq (tgt := 33) hA dX5_kindHere_28 rfl (fun hc => ?_) (fun hc => ?_)
      · have hf := k_ift hc hf
        obtain ⟨r_4, hr_4, hf⟩ := k_cp_e hf
        refine k_aload_n (i := 0) hA dX5_kindHere_33 rfl 0 rfl ?_
        refine k_ldcS hA sq_RX5_180 dX5_kindHere_34 ?_
        refine k_callVi (As := [.ref (G.2.2.1 12)]) (rest := []) hA (m_Re_says l G a n 12 (by decide) t hr_4) cd_X5_says wd_519 (hc_X_18 G.2.1 a (.ref (a 10)) t) rfl rfl (Nat.le_of_ble_eq_true rfl) rfl rfl (Nat.le_of_ble_eq_true rfl) dX5_kindHere_36 ?_
        refine k_if_eq (tgt := 46) hA dX5_kindHere_39 rfl (fun hc => ?_) (fun hc => ?_)
        · have hf := k_ift hc hf
          obtain rfl := k_r1 hf
          refine k_iconst hA dX5_kindHere_46 kc_i_m1 ?_
          exact k_iret hA hr rfl dX5_kindHere_47
        have hf := k_iff hc hf
        obtain rfl := k_r1 hf
        refine k_iconst hA dX5_kindHere_42 kc_i_3 ?_
        refine k_goto (tgt := 47) hA dX5_kindHere_43 rfl ?_
        exact k_iret hA hr rfl dX5_kindHere_47
      have hf := k_iff hc hf
      obtain rfl := k_r1 hf
      refine k_iconst hA dX5_kindHere_31 kc_i_2 ?_
      exact k_iret hA hr rfl dX5_kindHere_32
    have hf := k_iff hc hf
    obtain rfl := k_r1 hf
    refine k_iconst hA dX5_kindHere_20 kc_i_1 ?_
    exact k_iret hA hr rfl dX5_kindHere_21
  have hf := k_iff hc hf
  obtain rfl := k_r1 hf
  refine k_iconst hA dX5_kindHere_9 kc_i_0 ?_
  exact k_iret hA hr rfl dX5_kindHere_10

def f_Re_readPiece_21 (n : Nat) (x1 : Int32) (s1 : Int32) (s2 : Int32) (t : k_St) : Option (Bool × k_St) := k_cl (f_Re_passFirstWord n s1 s2 t) (fun r_2 t_1 => (if (k_b r_2) = 0 then some (false, t_1) else k_cl (f_Re_isNewName n t_1) (fun r_4 t_3 => (if (k_b r_4) = 0 then some (false, t_3) else k_gi x1 8 (k_lt (k_sL t_3 19 x1.toNatClampNeg (t_3.2 18 7)) (fun t_6 => k_cv (f_Re_step n t_6) (fun t_7 => k_cp (f_Re_kindHere n t_7) (fun r_8 => (if r_8 = (-1 : Int32) then k_lt (f_Re_fail (1 : Int32) t_7) (fun q_13 => some (q_13.1, q_13.2)) else k_cv (f_Re_step n t_7) (fun t_9 => k_gi x1 8 (k_lt (k_sI t_9 11 x1.toNatClampNeg r_8) (fun t_11 => k_lt (k_sI t_11 10 2 ((t_11.1 10 2) + (1 : Int32))) (fun t_12 => some (true, t_12))))))))))))))
def f_Re_readPiece (n : Nat) (t : k_St) : Option (Bool × k_St) := k_lt (t.1 10 2) (fun x1_1 => (if x1_1 < (8 : Int32) then f_Re_readPiece_21 n x1_1 (0 : Int32) (0 : Int32) t else f_Re_readPiece_21 n x1_1 (0 : Int32) (1 : Int32) t))
theorem m_Re_readPiece_21 {p : Program} (l : Launch) {e : Env} {s : State} {m : MethodId} {args : Array Value} {below : List Frame} {meth : Method} {c : Code} (G : k_G) (a : Nat → Nat) (n : Nat) {w0 : va_W} {r : Bool} {t' : k_St} (hA : k_Amb p s m args meth c cX5_readPiece 3 "TaleShares$Reader" G (va_A w0 s.heap.size)) (hr : meth.sig.returnType = (some .boolean)) : ∀ (x1 : Int32) (s1 : Int32) (s2 : Int32) (t : k_St), f_Re_readPiece_21 n x1 s1 s2 t = some (r, t') → k_Go p l e (k_rm 8) s m args below meth c (k_QI G w0 (k_b r) (k_WX G.2.1 a (.ref (a 10)) t') args s below) 3 G (va_A w0 s.heap.size) (k_WX G.2.1 a (.ref (a 10)) t) 21 [(0, .ref (a 18)), (1, .int x1)] [.int s2, .int s1, .ref (a 18)] := by
  intro x1 s1 s2 t hf
  unfold f_Re_readPiece_21 at hf
  obtain ⟨r_2, t_1, ht_1, hf⟩ := k_cl_e hf
  refine k_callVi (As := [.int s1, .int s2]) (rest := []) hA (m_Re_passFirstWord l G a n s1 s2 t ht_1) cd_X5_passFirstWord wd_594 (hc_X_18 G.2.1 a (.ref (a 10)) t) rfl rfl (Nat.le_of_ble_eq_true rfl) rfl rfl (Nat.le_of_ble_eq_true rfl) dX5_readPiece_21 ?_
  refine k_if_eq (tgt := 34) hA dX5_readPiece_24 rfl (fun hc => ?_) (fun hc => ?_)
  · have hf := k_ift hc hf
    obtain ⟨rfl, rfl⟩ := k_r2 hf
    refine k_iconst hA dX5_readPiece_34 kc_i_0 ?_
    exact k_iret hA hr (k_narB (k_b01 _)) dX5_readPiece_35
  have hf := k_iff hc hf
  obtain ⟨r_4, t_3, ht_3, hf⟩ := k_cl_e hf
  refine k_aload_n (i := 0) hA dX5_readPiece_27 rfl 0 rfl ?_
  refine k_callVi (As := []) (rest := []) hA (m_Re_isNewName l G a n t_1 ht_3) cd_X5_isNewName wd_598 (hc_X_18 G.2.1 a (.ref (a 10)) t_1) rfl rfl (Nat.le_of_ble_eq_true rfl) rfl rfl (Nat.le_of_ble_eq_true rfl) dX5_readPiece_28 ?_
  refine k_if_ne (tgt := 36) hA dX5_readPiece_31 rfl (fun hc => ?_) (fun hc => ?_)
  · have hf := k_iff hc hf
    obtain ⟨hi_5, hf⟩ := k_gi_e hf
    obtain ⟨t_6, et_6, hf⟩ := k_lt_e hf
    obtain ⟨t_7, ht_7, hf⟩ := k_cv_e hf
    obtain ⟨r_8, hr_8, hf⟩ := k_cp_e hf
    refine k_aload_n (i := 0) hA dX5_readPiece_36 rfl 0 rfl ?_
    refine gt_X_18_11 hA wd_268 dX5_readPiece_37 ?_
    refine k_iload_n (i := 1) hA dX5_readPiece_40 rfl 1 rfl ?_
    refine k_aload_n (i := 0) hA dX5_readPiece_41 rfl 0 rfl ?_
    refine gt_X_18_8 hA wd_265 dX5_readPiece_42 ?_
    refine sr_X_19 hA hi_5 et_6 dX5_readPiece_45 ?_
    refine k_aload_n (i := 0) hA dX5_readPiece_46 rfl 0 rfl ?_
    refine k_callVv (As := []) (rest := []) hA (m_Re_step l G a n t_6 ht_7) cd_X5_step wd_495 (hc_X_18 G.2.1 a (.ref (a 10)) t_6) rfl rfl (Nat.le_of_ble_eq_true rfl) rfl rfl (Nat.le_of_ble_eq_true rfl) dX5_readPiece_47 ?_
    refine k_aload_n (i := 0) hA dX5_readPiece_50 rfl 0 rfl ?_
    refine k_callVi (As := []) (rest := []) hA (m_Re_kindHere l G a n t_7 hr_8) cd_X5_kindHere wd_615 (hc_X_18 G.2.1 a (.ref (a 10)) t_7) rfl rfl (Nat.le_of_ble_eq_true rfl) rfl rfl (Nat.le_of_ble_eq_true rfl) dX5_readPiece_51 ?_
    refine k_istore_n (i := 2) (lv' := [(2, .int r_8), (0, .ref (a 18)), (1, .int x1)]) hA dX5_readPiece_54 rfl rfl (Nat.le_of_ble_eq_true rfl) rfl ?_
    refine k_iload_n (i := 2) hA dX5_readPiece_55 rfl 0 rfl ?_
    refine k_iconst hA dX5_readPiece_56 kc_i_m1 ?_
    refine k_icmp_ne (tgt := 66) hA dX5_readPiece_57 rfl (fun hc => ?_) (fun hc => ?_)
    · have hf := k_iff hc hf
      obtain ⟨t_9, ht_9, hf⟩ := k_cv_e hf
      obtain ⟨hi_10, hf⟩ := k_gi_e hf
      obtain ⟨t_11, et_11, hf⟩ := k_lt_e hf
      obtain ⟨t_12, et_12, hf⟩ := k_lt_e hf
      obtain ⟨rfl, rfl⟩ := k_r2 hf
      refine k_aload_n (i := 0) hA dX5_readPiece_66 rfl 1 rfl ?_
      refine k_callVv (As := []) (rest := []) hA (m_Re_step l G a n t_7 ht_9) cd_X5_step wd_495 (hc_X_18 G.2.1 a (.ref (a 10)) t_7) rfl rfl (Nat.le_of_ble_eq_true rfl) rfl rfl (Nat.le_of_ble_eq_true rfl) dX5_readPiece_67 ?_
      refine k_aload_n (i := 0) hA dX5_readPiece_70 rfl 1 rfl ?_
      refine gt_X_18_10 hA wd_267 dX5_readPiece_71 ?_
      refine gt_X_10_8 hA wd_192 dX5_readPiece_74 ?_
      refine k_iload_n (i := 1) hA dX5_readPiece_77 rfl 2 rfl ?_
      refine k_iload_n (i := 2) hA dX5_readPiece_78 rfl 0 rfl ?_
      refine sr_X_11 hA hi_10 et_11 dX5_readPiece_79 ?_
      refine k_aload_n (i := 0) hA dX5_readPiece_80 rfl 1 rfl ?_
      refine gt_X_18_10 hA wd_267 dX5_readPiece_81 ?_
      refine k_dup hA dX5_readPiece_84 rfl ?_
      refine gt_X_10_2 hA wd_168 dX5_readPiece_85 ?_
      refine k_iconst hA dX5_readPiece_88 kc_i_1 ?_
      refine k_iadd hA dX5_readPiece_89 ?_
      refine pt_X_10_2 hA wd_168 et_12 dX5_readPiece_90 ?_
      refine k_iconst hA dX5_readPiece_93 kc_i_1 ?_
      exact k_iret hA hr (k_narB (k_b01 _)) dX5_readPiece_94
    have hf := k_ift hc hf
    obtain ⟨⟨rq_13, tq_13⟩, hq_13, hf⟩ := k_lt_e hf
    dsimp only at hf
    obtain ⟨rfl, rfl⟩ := k_r2 hf
    refine k_aload_n (i := 0) hA dX5_readPiece_60 rfl 1 rfl ?_
    refine k_iconst hA dX5_readPiece_61 kc_i_1 ?_
    refine k_callVi (As := [.int (1 : Int32)]) (rest := []) hA (m_Re_fail l G a (1 : Int32) t_7 hq_13.symm) cd_X5_fail wd_575 (hc_X_18 G.2.1 a (.ref (a 10)) t_7) rfl rfl (Nat.le_of_ble_eq_true rfl) rfl rfl (Nat.le_of_ble_eq_true rfl) dX5_readPiece_62 ?_
    exact k_iret hA hr (k_narB (k_b01 _)) dX5_readPiece_65
  have hf := k_ift hc hf
  obtain ⟨rfl, rfl⟩ := k_r2 hf
  refine k_iconst hA dX5_readPiece_34 kc_i_0 ?_
  exact k_iret hA hr (k_narB (k_b01 _)) dX5_readPiece_35

theorem m_Re_readPiece (l : Launch) (G : k_G) (a : Nat → Nat) (n : Nat) (t : k_St) {r : Bool} {t' : k_St} (hf : f_Re_readPiece n t = some (r, t')) : k_CI l G yX5_readPiece cX5_readPiece 3 (some .boolean) 8 (k_WX G.2.1 a (.ref (a 10)) t) [.ref (a 18)] (k_b r) (k_WX G.2.1 a (.ref (a 10)) t') := by
  refine k_startI (lv := [(0, .ref (a 18))]) (by decide +kernel) (Nat.le_of_ble_eq_true rfl) rfl ?_
  intro p e s m args below meth c hA hr
  have hA : k_Amb p s m args meth c cX5_readPiece 3 "TaleShares$Reader" G _ := hA
  unfold f_Re_readPiece at hf
  obtain ⟨x1_1, ex1_1, hf⟩ := k_lt_e hf
  refine k_aload_n (i := 0) hA dX5_readPiece_0 rfl 0 rfl ?_
  refine gt_X_18_10 hA wd_267 dX5_readPiece_1 ?_
  refine gt_X_10_2 hA wd_168 dX5_readPiece_4 ?_
  refine k_istore_n (i := 1) (lv' := [(1, .int x1_1), (0, .ref (a 18))]) hA dX5_readPiece_7 rfl ex1_1 (Nat.le_of_ble_eq_true rfl) rfl ?_
  refine k_aload_n (i := 0) hA dX5_readPiece_8 rfl 1 rfl ?_
  refine k_iconst hA dX5_readPiece_9 kc_i_0 ?_
  refine k_iload_n (i := 1) hA dX5_readPiece_10 rfl 0 rfl ?_
  refine k_bipush hA dX5_readPiece_11 kc_b_8 ?_
  refine k_icmp_lt (tgt := 20) hA dX5_readPiece_13 rfl (fun hc => ?_) (fun hc => ?_)
  · have hf := k_ift hc hf
    refine k_iconst hA dX5_readPiece_20 kc_i_0 ?_
    refine k_pick (lv' := [(0, .ref (a 18)), (1, .int x1_1)]) [1, 0] rfl ?_
    exact m_Re_readPiece_21 l G a n hA hr x1_1 (0 : Int32) (0 : Int32) t hf
  have hf := k_iff hc hf
  refine k_iconst hA dX5_readPiece_16 kc_i_1 ?_
  refine k_goto (tgt := 21) hA dX5_readPiece_17 rfl ?_
  refine k_pick (lv' := [(0, .ref (a 18)), (1, .int x1_1)]) [1, 0] rfl ?_
  exact m_Re_readPiece_21 l G a n hA hr x1_1 (0 : Int32) (1 : Int32) t hf

def f_Re_readNurse (n : Nat) (t : k_St) : Option (Bool × k_St) := (if (t.1 18 8) = 0 then k_lt (k_sI t 18 8 (1 : Int32)) (fun t_1 => k_cv (f_Re_step n t_1) (fun t_2 => k_cl (f_Re_passWord n 7 t_2) (fun r_4 t_3 => (if (k_b r_4) = 0 then some (false, t_3) else k_cl (f_Re_passWhole n (0 : Int32) (4 : Int32) t_3) (fun r_6 t_5 => (if (k_b r_6) = 0 then some (false, t_5) else k_lt (k_sI t_5 10 0 (t_5.1 18 6)) (fun t_7 => k_cl (f_Re_passWord n 8 t_7) (fun r_9 t_8 => (if (k_b r_9) = 0 then some (false, t_8) else k_cl (f_Re_passWhole n (0 : Int32) (100 : Int32) t_8) (fun r_11 t_10 => (if (k_b r_11) = 0 then some (false, t_10) else k_lt (k_sI t_10 10 1 (t_10.1 18 6)) (fun t_12 => some (true, t_12))))))))))))) else k_lt (f_Re_fail (3 : Int32) t) (fun q_13 => some (q_13.1, q_13.2)))
theorem m_Re_readNurse (l : Launch) (G : k_G) (a : Nat → Nat) (n : Nat) (t : k_St) {r : Bool} {t' : k_St} (hf : f_Re_readNurse n t = some (r, t')) : k_CI l G yX5_readNurse cX5_readNurse 1 (some .boolean) 7 (k_WX G.2.1 a (.ref (a 10)) t) [.ref (a 18)] (k_b r) (k_WX G.2.1 a (.ref (a 10)) t') := by
  refine k_startI (lv := [(0, .ref (a 18))]) (by decide +kernel) (Nat.le_of_ble_eq_true rfl) rfl ?_
  intro p e s m args below meth c hA hr
  have hA : k_Amb p s m args meth c cX5_readNurse 1 "TaleShares$Reader" G _ := hA
  unfold f_Re_readNurse at hf
  refine k_aload_n (i := 0) hA dX5_readNurse_0 rfl 0 rfl ?_
  refine gt_X_18_9 hA wd_266 dX5_readNurse_1 ?_
  refine k_if_eq (tgt := 13) hA dX5_readNurse_4 rfl (fun hc => ?_) (fun hc => ?_)
  · have hf := k_ift hc hf
    obtain ⟨t_1, et_1, hf⟩ := k_lt_e hf
    obtain ⟨t_2, ht_2, hf⟩ := k_cv_e hf
    obtain ⟨r_4, t_3, ht_3, hf⟩ := k_cl_e hf
    refine k_aload_n (i := 0) hA dX5_readNurse_13 rfl 0 rfl ?_
    refine k_iconst hA dX5_readNurse_14 kc_i_1 ?_
    refine pt_X_18_9 hA wd_266 (by decide) et_1 dX5_readNurse_15 ?_
    refine k_aload_n (i := 0) hA dX5_readNurse_18 rfl 0 rfl ?_
    refine k_callVv (As := []) (rest := []) hA (m_Re_step l G a n t_1 ht_2) cd_X5_step wd_495 (hc_X_18 G.2.1 a (.ref (a 10)) t_1) rfl rfl (Nat.le_of_ble_eq_true rfl) rfl rfl (Nat.le_of_ble_eq_true rfl) dX5_readNurse_19 ?_
    refine k_aload_n (i := 0) hA dX5_readNurse_22 rfl 0 rfl ?_
    refine k_ldcS hA sq_RX5_145 dX5_readNurse_23 ?_
    refine k_callVi (As := [.ref (G.2.2.1 7)]) (rest := []) hA (m_Re_passWord l G a n 7 (by decide) t_2 ht_3) cd_X5_passWord wd_580 (hc_X_18 G.2.1 a (.ref (a 10)) t_2) rfl rfl (Nat.le_of_ble_eq_true rfl) rfl rfl (Nat.le_of_ble_eq_true rfl) dX5_readNurse_25 ?_
    refine k_if_eq (tgt := 40) hA dX5_readNurse_28 rfl (fun hc => ?_) (fun hc => ?_)
    · have hf := k_ift hc hf
      obtain ⟨rfl, rfl⟩ := k_r2 hf
      refine k_iconst hA dX5_readNurse_40 kc_i_0 ?_
      exact k_iret hA hr (k_narB (k_b01 _)) dX5_readNurse_41
    have hf := k_iff hc hf
    obtain ⟨r_6, t_5, ht_5, hf⟩ := k_cl_e hf
    refine k_aload_n (i := 0) hA dX5_readNurse_31 rfl 0 rfl ?_
    refine k_iconst hA dX5_readNurse_32 kc_i_0 ?_
    refine k_iconst hA dX5_readNurse_33 kc_i_4 ?_
    refine k_callVi (As := [.int (0 : Int32), .int (4 : Int32)]) (rest := []) hA (m_Re_passWhole l G a n (0 : Int32) (4 : Int32) t_3 ht_5) cd_X5_passWhole wd_584 (hc_X_18 G.2.1 a (.ref (a 10)) t_3) rfl rfl (Nat.le_of_ble_eq_true rfl) rfl rfl (Nat.le_of_ble_eq_true rfl) dX5_readNurse_34 ?_
    refine k_if_ne (tgt := 42) hA dX5_readNurse_37 rfl (fun hc => ?_) (fun hc => ?_)
    · have hf := k_iff hc hf
      obtain ⟨t_7, et_7, hf⟩ := k_lt_e hf
      obtain ⟨r_9, t_8, ht_8, hf⟩ := k_cl_e hf
      refine k_aload_n (i := 0) hA dX5_readNurse_42 rfl 0 rfl ?_
      refine gt_X_18_10 hA wd_267 dX5_readNurse_43 ?_
      refine k_aload_n (i := 0) hA dX5_readNurse_46 rfl 0 rfl ?_
      refine gt_X_18_7 hA wd_264 dX5_readNurse_47 ?_
      refine pt_X_10_0 hA wd_159 et_7 dX5_readNurse_50 ?_
      refine k_aload_n (i := 0) hA dX5_readNurse_53 rfl 0 rfl ?_
      refine k_ldcS hA sq_RX5_156 dX5_readNurse_54 ?_
      refine k_callVi (As := [.ref (G.2.2.1 8)]) (rest := []) hA (m_Re_passWord l G a n 8 (by decide) t_7 ht_8) cd_X5_passWord wd_580 (hc_X_18 G.2.1 a (.ref (a 10)) t_7) rfl rfl (Nat.le_of_ble_eq_true rfl) rfl rfl (Nat.le_of_ble_eq_true rfl) dX5_readNurse_56 ?_
      refine k_if_eq (tgt := 72) hA dX5_readNurse_59 rfl (fun hc => ?_) (fun hc => ?_)
      · have hf := k_ift hc hf
        obtain ⟨rfl, rfl⟩ := k_r2 hf
        refine k_iconst hA dX5_readNurse_72 kc_i_0 ?_
        exact k_iret hA hr (k_narB (k_b01 _)) dX5_readNurse_73
      have hf := k_iff hc hf
      obtain ⟨r_11, t_10, ht_10, hf⟩ := k_cl_e hf
      refine k_aload_n (i := 0) hA dX5_readNurse_62 rfl 0 rfl ?_
      refine k_iconst hA dX5_readNurse_63 kc_i_0 ?_
      refine k_bipush hA dX5_readNurse_64 kc_b_100 ?_
      refine k_callVi (As := [.int (0 : Int32), .int (100 : Int32)]) (rest := []) hA (m_Re_passWhole l G a n (0 : Int32) (100 : Int32) t_8 ht_10) cd_X5_passWhole wd_584 (hc_X_18 G.2.1 a (.ref (a 10)) t_8) rfl rfl (Nat.le_of_ble_eq_true rfl) rfl rfl (Nat.le_of_ble_eq_true rfl) dX5_readNurse_66 ?_
      refine k_if_ne (tgt := 74) hA dX5_readNurse_69 rfl (fun hc => ?_) (fun hc => ?_)
      · have hf := k_iff hc hf
        obtain ⟨t_12, et_12, hf⟩ := k_lt_e hf
        obtain ⟨rfl, rfl⟩ := k_r2 hf
        refine k_aload_n (i := 0) hA dX5_readNurse_74 rfl 0 rfl ?_
        refine gt_X_18_10 hA wd_267 dX5_readNurse_75 ?_
        refine k_aload_n (i := 0) hA dX5_readNurse_78 rfl 0 rfl ?_
        refine gt_X_18_7 hA wd_264 dX5_readNurse_79 ?_
        refine pt_X_10_1 hA wd_163 et_12 dX5_readNurse_82 ?_
        refine k_iconst hA dX5_readNurse_85 kc_i_1 ?_
        exact k_iret hA hr (k_narB (k_b01 _)) dX5_readNurse_86
      have hf := k_ift hc hf
      obtain ⟨rfl, rfl⟩ := k_r2 hf
      refine k_iconst hA dX5_readNurse_72 kc_i_0 ?_
      exact k_iret hA hr (k_narB (k_b01 _)) dX5_readNurse_73
    have hf := k_ift hc hf
    obtain ⟨rfl, rfl⟩ := k_r2 hf
    refine k_iconst hA dX5_readNurse_40 kc_i_0 ?_
    exact k_iret hA hr (k_narB (k_b01 _)) dX5_readNurse_41
  have hf := k_iff hc hf
  obtain ⟨⟨rq_13, tq_13⟩, hq_13, hf⟩ := k_lt_e hf
  dsimp only at hf
  obtain ⟨rfl, rfl⟩ := k_r2 hf
  refine k_aload_n (i := 0) hA dX5_readNurse_7 rfl 0 rfl ?_
  refine k_iconst hA dX5_readNurse_8 kc_i_3 ?_
  refine k_callVi (As := [.int (3 : Int32)]) (rest := []) hA (m_Re_fail l G a (3 : Int32) t hq_13.symm) cd_X5_fail wd_575 (hc_X_18 G.2.1 a (.ref (a 10)) t) rfl rfl (Nat.le_of_ble_eq_true rfl) rfl rfl (Nat.le_of_ble_eq_true rfl) dX5_readNurse_9 ?_
  exact k_iret hA hr (k_narB (k_b01 _)) dX5_readNurse_12

def f_Re_readLine (n : Nat) (t : k_St) : Option (Bool × k_St) := k_cp (f_Re_says n 0 t) (fun r_1 => (if (k_b r_1) = 0 then k_cp (f_Re_says n 1 t) (fun r_2 => (if (k_b r_2) = 0 then k_cp (f_Re_says n 2 t) (fun r_3 => (if (k_b r_3) = 0 then k_cp (f_Re_says n 3 t) (fun r_4 => (if (k_b r_4) = 0 then k_cp (f_Re_says n 4 t) (fun r_5 => (if (k_b r_5) = 0 then k_cp (f_Re_says n 5 t) (fun r_6 => (if (k_b r_6) = 0 then k_cp (f_Re_says n 6 t) (fun r_7 => (if (k_b r_7) = 0 then k_lt (f_Re_fail (1 : Int32) t) (fun q_8 => some (q_8.1, q_8.2)) else k_cl (f_Re_readMixed n t) (fun r_10 t_9 => some (r_10, t_9)))) else k_cl (f_Re_readSilent n t) (fun r_12 t_11 => some (r_12, t_11)))) else k_cl (f_Re_readHeard n t) (fun r_14 t_13 => some (r_14, t_13)))) else k_cl (f_Re_readHouse n t) (fun r_16 t_15 => some (r_16, t_15)))) else k_cl (f_Re_readFollows n t) (fun r_18 t_17 => some (r_18, t_17)))) else k_cl (f_Re_readPiece n t) (fun r_20 t_19 => some (r_20, t_19)))) else k_cl (f_Re_readNurse n t) (fun r_22 t_21 => some (r_22, t_21))))
theorem m_Re_readLine (l : Launch) (G : k_G) (a : Nat → Nat) (n : Nat) (t : k_St) {r : Bool} {t' : k_St} (hf : f_Re_readLine n t = some (r, t')) : k_CI l G yX5_readLine cX5_readLine 1 (some .boolean) 9 (k_WX G.2.1 a (.ref (a 10)) t) [.ref (a 18)] (k_b r) (k_WX G.2.1 a (.ref (a 10)) t') := by
  refine k_startI (lv := [(0, .ref (a 18))]) (by decide +kernel) (Nat.le_of_ble_eq_true rfl) rfl ?_
  intro p e s m args below meth c hA hr
  have hA : k_Amb p s m args meth c cX5_readLine 1 "TaleShares$Reader" G _ := hA
  unfold f_Re_readLine at hf
  obtain ⟨r_1, hr_1, hf⟩ := k_cp_e hf
  refine k_aload_n (i := 0) hA dX5_readLine_0 rfl 0 rfl ?_
  refine k_ldcS hA sq_RX5_106 dX5_readLine_1 ?_
  refine k_callVi (As := [.ref (G.2.2.1 0)]) (rest := []) hA (m_Re_says l G a n 0 (by decide) t hr_1) cd_X5_says wd_519 (hc_X_18 G.2.1 a (.ref (a 10)) t) rfl rfl (Nat.le_of_ble_eq_true rfl) rfl rfl (Nat.le_of_ble_eq_true rfl) dX5_readLine_3 ?_
  refine k_if_eq (tgt := 14) hA dX5_readLine_6 rfl (fun hc => ?_) (fun hc => ?_)
  · have hf := k_ift hc hf
    obtain ⟨r_2, hr_2, hf⟩ := k_cp_e hf
    refine k_aload_n (i := 0) hA dX5_readLine_14 rfl 0 rfl ?_
    refine k_ldcS hA sq_RX5_115 dX5_readLine_15 ?_
    refine k_callVi (As := [.ref (G.2.2.1 1)]) (rest := []) hA (m_Re_says l G a n 1 (by decide) t hr_2) cd_X5_says wd_519 (hc_X_18 G.2.1 a (.ref (a 10)) t) rfl rfl (Nat.le_of_ble_eq_true rfl) rfl rfl (Nat.le_of_ble_eq_true rfl) dX5_readLine_17 ?_
    refine k_if_eq (tgt := 28) hA dX5_readLine_20 rfl (fun hc => ?_) (fun hc => ?_)
    · have hf := k_ift hc hf
      obtain ⟨r_3, hr_3, hf⟩ := k_cp_e hf
      refine k_aload_n (i := 0) hA dX5_readLine_28 rfl 0 rfl ?_
      refine k_ldcS hA sq_RX5_120 dX5_readLine_29 ?_
      refine k_callVi (As := [.ref (G.2.2.1 2)]) (rest := []) hA (m_Re_says l G a n 2 (by decide) t hr_3) cd_X5_says wd_519 (hc_X_18 G.2.1 a (.ref (a 10)) t) rfl rfl (Nat.le_of_ble_eq_true rfl) rfl rfl (Nat.le_of_ble_eq_true rfl) dX5_readLine_31 ?_
      refine k_if_eq (tgt := 42) hA dX5_readLine_34 rfl (fun hc => ?_) (fun hc => ?_)
      · have hf := k_ift hc hf
        obtain ⟨r_4, hr_4, hf⟩ := k_cp_e hf
        refine k_aload_n (i := 0) hA dX5_readLine_42 rfl 0 rfl ?_
        refine k_ldcS hA sq_RX5_125 dX5_readLine_43 ?_
        refine k_callVi (As := [.ref (G.2.2.1 3)]) (rest := []) hA (m_Re_says l G a n 3 (by decide) t hr_4) cd_X5_says wd_519 (hc_X_18 G.2.1 a (.ref (a 10)) t) rfl rfl (Nat.le_of_ble_eq_true rfl) rfl rfl (Nat.le_of_ble_eq_true rfl) dX5_readLine_45 ?_
        refine k_if_eq (tgt := 56) hA dX5_readLine_48 rfl (fun hc => ?_) (fun hc => ?_)
        · have hf := k_ift hc hf
          obtain ⟨r_5, hr_5, hf⟩ := k_cp_e hf
          refine k_aload_n (i := 0) hA dX5_readLine_56 rfl 0 rfl ?_
          refine k_ldcS hA sq_RX5_130 dX5_readLine_57 ?_
          refine k_callVi (As := [.ref (G.2.2.1 4)]) (rest := []) hA (m_Re_says l G a n 4 (by decide) t hr_5) cd_X5_says wd_519 (hc_X_18 G.2.1 a (.ref (a 10)) t) rfl rfl (Nat.le_of_ble_eq_true rfl) rfl rfl (Nat.le_of_ble_eq_true rfl) dX5_readLine_59 ?_
          refine k_if_eq (tgt := 70) hA dX5_readLine_62 rfl (fun hc => ?_) (fun hc => ?_)
          · have hf := k_ift hc hf
            obtain ⟨r_6, hr_6, hf⟩ := k_cp_e hf
            refine k_aload_n (i := 0) hA dX5_readLine_70 rfl 0 rfl ?_
            refine k_ldcS hA sq_RX5_135 dX5_readLine_71 ?_
            refine k_callVi (As := [.ref (G.2.2.1 5)]) (rest := []) hA (m_Re_says l G a n 5 (by decide) t hr_6) cd_X5_says wd_519 (hc_X_18 G.2.1 a (.ref (a 10)) t) rfl rfl (Nat.le_of_ble_eq_true rfl) rfl rfl (Nat.le_of_ble_eq_true rfl) dX5_readLine_73 ?_
            refine k_if_eq (tgt := 84) hA dX5_readLine_76 rfl (fun hc => ?_) (fun hc => ?_)
            · have hf := k_ift hc hf
              obtain ⟨r_7, hr_7, hf⟩ := k_cp_e hf
              refine k_aload_n (i := 0) hA dX5_readLine_84 rfl 0 rfl ?_
              refine k_ldcS hA sq_RX5_140 dX5_readLine_85 ?_
              refine k_callVi (As := [.ref (G.2.2.1 6)]) (rest := []) hA (m_Re_says l G a n 6 (by decide) t hr_7) cd_X5_says wd_519 (hc_X_18 G.2.1 a (.ref (a 10)) t) rfl rfl (Nat.le_of_ble_eq_true rfl) rfl rfl (Nat.le_of_ble_eq_true rfl) dX5_readLine_87 ?_
              refine k_if_eq (tgt := 100) hA dX5_readLine_90 rfl (fun hc => ?_) (fun hc => ?_)
              · have hf := k_ift hc hf
                obtain ⟨⟨rq_8, tq_8⟩, hq_8, hf⟩ := k_lt_e hf
                dsimp only at hf
                obtain ⟨rfl, rfl⟩ := k_r2 hf
                refine k_aload_n (i := 0) hA dX5_readLine_100 rfl 0 rfl ?_
                refine k_iconst hA dX5_readLine_101 kc_i_1 ?_
                refine k_callVi (As := [.int (1 : Int32)]) (rest := []) hA (m_Re_fail l G a (1 : Int32) t hq_8.symm) cd_X5_fail wd_575 (hc_X_18 G.2.1 a (.ref (a 10)) t) rfl rfl (Nat.le_of_ble_eq_true rfl) rfl rfl (Nat.le_of_ble_eq_true rfl) dX5_readLine_102 ?_
                exact k_iret hA hr (k_narB (k_b01 _)) dX5_readLine_105
              have hf := k_iff hc hf
              obtain ⟨r_10, t_9, ht_9, hf⟩ := k_cl_e hf
              obtain ⟨rfl, rfl⟩ := k_r2 hf
              refine k_aload_n (i := 0) hA dX5_readLine_93 rfl 0 rfl ?_
              refine k_callVi (As := []) (rest := []) hA (m_Re_readMixed l G a n t ht_9) cd_X5_readMixed wd_654 (hc_X_18 G.2.1 a (.ref (a 10)) t) rfl rfl (Nat.le_of_ble_eq_true rfl) rfl rfl (Nat.le_of_ble_eq_true rfl) dX5_readLine_94 ?_
              refine k_goto (tgt := 105) hA dX5_readLine_97 rfl ?_
              exact k_iret hA hr (k_narB (k_b01 _)) dX5_readLine_105
            have hf := k_iff hc hf
            obtain ⟨r_12, t_11, ht_11, hf⟩ := k_cl_e hf
            obtain ⟨rfl, rfl⟩ := k_r2 hf
            refine k_aload_n (i := 0) hA dX5_readLine_79 rfl 0 rfl ?_
            refine k_callVi (As := []) (rest := []) hA (m_Re_readSilent l G a n t ht_11) cd_X5_readSilent wd_646 (hc_X_18 G.2.1 a (.ref (a 10)) t) rfl rfl (Nat.le_of_ble_eq_true rfl) rfl rfl (Nat.le_of_ble_eq_true rfl) dX5_readLine_80 ?_
            exact k_iret hA hr (k_narB (k_b01 _)) dX5_readLine_83
          have hf := k_iff hc hf
          obtain ⟨r_14, t_13, ht_13, hf⟩ := k_cl_e hf
          obtain ⟨rfl, rfl⟩ := k_r2 hf
          refine k_aload_n (i := 0) hA dX5_readLine_65 rfl 0 rfl ?_
          refine k_callVi (As := []) (rest := []) hA (m_Re_readHeard l G a n t ht_13) cd_X5_readHeard wd_642 (hc_X_18 G.2.1 a (.ref (a 10)) t) rfl rfl (Nat.le_of_ble_eq_true rfl) rfl rfl (Nat.le_of_ble_eq_true rfl) dX5_readLine_66 ?_
          exact k_iret hA hr (k_narB (k_b01 _)) dX5_readLine_69
        have hf := k_iff hc hf
        obtain ⟨r_16, t_15, ht_15, hf⟩ := k_cl_e hf
        obtain ⟨rfl, rfl⟩ := k_r2 hf
        refine k_aload_n (i := 0) hA dX5_readLine_51 rfl 0 rfl ?_
        refine k_callVi (As := []) (rest := []) hA (m_Re_readHouse l G a n t ht_15) cd_X5_readHouse wd_635 (hc_X_18 G.2.1 a (.ref (a 10)) t) rfl rfl (Nat.le_of_ble_eq_true rfl) rfl rfl (Nat.le_of_ble_eq_true rfl) dX5_readLine_52 ?_
        exact k_iret hA hr (k_narB (k_b01 _)) dX5_readLine_55
      have hf := k_iff hc hf
      obtain ⟨r_18, t_17, ht_17, hf⟩ := k_cl_e hf
      obtain ⟨rfl, rfl⟩ := k_r2 hf
      refine k_aload_n (i := 0) hA dX5_readLine_37 rfl 0 rfl ?_
      refine k_callVi (As := []) (rest := []) hA (m_Re_readFollows l G a n t ht_17) cd_X5_readFollows wd_623 (hc_X_18 G.2.1 a (.ref (a 10)) t) rfl rfl (Nat.le_of_ble_eq_true rfl) rfl rfl (Nat.le_of_ble_eq_true rfl) dX5_readLine_38 ?_
      exact k_iret hA hr (k_narB (k_b01 _)) dX5_readLine_41
    have hf := k_iff hc hf
    obtain ⟨r_20, t_19, ht_19, hf⟩ := k_cl_e hf
    obtain ⟨rfl, rfl⟩ := k_r2 hf
    refine k_aload_n (i := 0) hA dX5_readLine_23 rfl 0 rfl ?_
    refine k_callVi (As := []) (rest := []) hA (m_Re_readPiece l G a n t ht_19) cd_X5_readPiece wd_590 (hc_X_18 G.2.1 a (.ref (a 10)) t) rfl rfl (Nat.le_of_ble_eq_true rfl) rfl rfl (Nat.le_of_ble_eq_true rfl) dX5_readLine_24 ?_
    exact k_iret hA hr (k_narB (k_b01 _)) dX5_readLine_27
  have hf := k_iff hc hf
  obtain ⟨r_22, t_21, ht_21, hf⟩ := k_cl_e hf
  obtain ⟨rfl, rfl⟩ := k_r2 hf
  refine k_aload_n (i := 0) hA dX5_readLine_9 rfl 0 rfl ?_
  refine k_callVi (As := []) (rest := []) hA (m_Re_readNurse l G a n t ht_21) cd_X5_readNurse wd_571 (hc_X_18 G.2.1 a (.ref (a 10)) t) rfl rfl (Nat.le_of_ble_eq_true rfl) rfl rfl (Nat.le_of_ble_eq_true rfl) dX5_readLine_10 ?_
  exact k_iret hA hr (k_narB (k_b01 _)) dX5_readLine_13

def f_Re_reads_46 (n : Nat) : Nat → Int32 → k_St → Option (Bool × k_St)
  | 0, _, _ => none
  | k + 1, x2, t => (if (t.1 18 3) < x2 then k_lt (f_Re_fail (1 : Int32) t) (fun q_1 => some (q_1.1, q_1.2)) else k_cl (f_Re_readLine n t) (fun r_3 t_2 => (if (k_b r_3) = 0 then some (false, t_2) else (if (t_2.1 18 5) = 0 then (if 0 < (t_2.1 10 2) then some (true, t_2) else k_lt (f_Re_fail (6 : Int32) t_2) (fun q_7 => (if (k_b q_7.1) = 0 then some (false, q_7.2) else some (true, q_7.2)))) else (if (t_2.1 18 5) = (4 : Int32) then k_cv (f_Re_step n t_2) (fun t_4 => k_lt (x2 + (1 : Int32)) (fun x2_5 => f_Re_reads_46 n k x2_5 t_4)) else k_lt (f_Re_fail (1 : Int32) t_2) (fun q_6 => some (q_6.1, q_6.2)))))))
def f_Re_reads (n : Nat) (x1 : Int32) (t : k_St) : Option (Bool × k_St) := k_lt (k_sI t 0 11 (0 : Int32)) (fun t_1 => k_cv (f_Te_clearS n t_1) (fun t_2 => k_lt (k_sI t_2 18 3 (if (900 : Int32) < x1 then (900 : Int32) else x1)) (fun t_3 => k_lt (k_sI t_3 18 4 (0 : Int32)) (fun t_4 => k_lt (k_sI t_4 18 8 (0 : Int32)) (fun t_5 => k_lt (k_sI t_5 18 0 (0 : Int32)) (fun t_6 => k_cv (f_Re_step n t_6) (fun t_7 => f_Re_reads_46 n n (0 : Int32) t_7)))))))
theorem m_Re_reads_46 {p : Program} (l : Launch) {e : Env} {s : State} {m : MethodId} {args : Array Value} {below : List Frame} {meth : Method} {c : Code} (G : k_G) (a : Nat → Nat) (n : Nat) {w0 : va_W} {r : Bool} {t' : k_St} (hA : k_Amb p s m args meth c cX5_reads 3 "TaleShares$Reader" G (va_A w0 s.heap.size)) (hr : meth.sig.returnType = (some .boolean)) : ∀ (k : Nat) (x2 : Int32) (t : k_St), f_Re_reads_46 n k x2 t = some (r, t') → k_Go p l e (k_rm 10) s m args below meth c (k_QI G w0 (k_b r) (k_WX G.2.1 a (.ref (a 10)) t') args s below) 3 G (va_A w0 s.heap.size) (k_WX G.2.1 a (.ref (a 10)) t) 46 [(0, .ref (a 18)), (2, .int x2)] [] := by
  intro k
  induction k with
  | zero => intro x2 t hf; cases hf
  | succ k ih =>
  intro x2 t hf
  rw [f_Re_reads_46] at hf
  refine k_iload_n (i := 2) hA dX5_reads_46 rfl 1 rfl ?_
  refine k_aload_n (i := 0) hA dX5_reads_47 rfl 0 rfl ?_
  refine gt_X_18_4 hA wd_261 dX5_reads_48 ?_
  refine k_icmp_gt (tgt := 119) hA dX5_reads_51 rfl (fun hc => ?_) (fun hc => ?_)
  · have hf := k_ift hc hf
    obtain ⟨⟨rq_1, tq_1⟩, hq_1, hf⟩ := k_lt_e hf
    dsimp only at hf
    obtain ⟨rfl, rfl⟩ := k_r2 hf
    refine k_aload_n (i := 0) hA dX5_reads_119 rfl 0 rfl ?_
    refine k_iconst hA dX5_reads_120 kc_i_1 ?_
    refine k_callVi (As := [.int (1 : Int32)]) (rest := []) hA (m_Re_fail l G a (1 : Int32) t hq_1.symm) cd_X5_fail wd_575 (hc_X_18 G.2.1 a (.ref (a 10)) t) rfl rfl (Nat.le_of_ble_eq_true rfl) rfl rfl (Nat.le_of_ble_eq_true rfl) dX5_reads_121 ?_
    exact k_iret hA hr (k_narB (k_b01 _)) dX5_reads_124
  have hf := k_iff hc hf
  obtain ⟨r_3, t_2, ht_2, hf⟩ := k_cl_e hf
  refine k_aload_n (i := 0) hA dX5_reads_54 rfl 0 rfl ?_
  refine k_callVi (As := []) (rest := []) hA (m_Re_readLine l G a n t ht_2) cd_X5_readLine wd_514 (hc_X_18 G.2.1 a (.ref (a 10)) t) rfl rfl (Nat.le_of_ble_eq_true rfl) rfl rfl (Nat.le_of_ble_eq_true rfl) dX5_reads_55 ?_
  refine k_if_ne (tgt := 63) hA dX5_reads_58 rfl (fun hc => ?_) (fun hc => ?_)
  · have hf := k_iff hc hf
    refine k_aload_n (i := 0) hA dX5_reads_63 rfl 0 rfl ?_
    refine gt_X_18_6 hA wd_263 dX5_reads_64 ?_
    refine k_if_ne (tgt := 95) hA dX5_reads_67 rfl (fun hc => ?_) (fun hc => ?_)
    · have hf := k_iff hc hf
      refine k_aload_n (i := 0) hA dX5_reads_95 rfl 0 rfl ?_
      refine gt_X_18_6 hA wd_263 dX5_reads_96 ?_
      refine k_iconst hA dX5_reads_99 kc_i_4 ?_
      refine k_icmp_eq (tgt := 109) hA dX5_reads_100 rfl (fun hc => ?_) (fun hc => ?_)
      · have hf := k_ift hc hf
        obtain ⟨t_4, ht_4, hf⟩ := k_cv_e hf
        obtain ⟨x2_5, ex2_5, hf⟩ := k_lt_e hf
        refine k_aload_n (i := 0) hA dX5_reads_109 rfl 0 rfl ?_
        refine k_callVv (As := []) (rest := []) hA (m_Re_step l G a n t_2 ht_4) cd_X5_step wd_495 (hc_X_18 G.2.1 a (.ref (a 10)) t_2) rfl rfl (Nat.le_of_ble_eq_true rfl) rfl rfl (Nat.le_of_ble_eq_true rfl) dX5_reads_110 ?_
        refine k_iinc (j := 1) (v := x2_5) (lv' := [(2, .int x2_5), (0, .ref (a 18))]) hA dX5_reads_113 rfl (k_inc ex2_5 kc_i_1) (Nat.le_of_ble_eq_true rfl) rfl ?_
        refine k_goto (tgt := 46) hA dX5_reads_116 rfl ?_
        refine k_pick (lv' := [(0, .ref (a 18)), (2, .int x2_5)]) [1, 0] rfl ?_
        exact ih x2_5 t_4 hf
      have hf := k_iff hc hf
      obtain ⟨⟨rq_6, tq_6⟩, hq_6, hf⟩ := k_lt_e hf
      dsimp only at hf
      obtain ⟨rfl, rfl⟩ := k_r2 hf
      refine k_aload_n (i := 0) hA dX5_reads_103 rfl 0 rfl ?_
      refine k_iconst hA dX5_reads_104 kc_i_1 ?_
      refine k_callVi (As := [.int (1 : Int32)]) (rest := []) hA (m_Re_fail l G a (1 : Int32) t_2 hq_6.symm) cd_X5_fail wd_575 (hc_X_18 G.2.1 a (.ref (a 10)) t_2) rfl rfl (Nat.le_of_ble_eq_true rfl) rfl rfl (Nat.le_of_ble_eq_true rfl) dX5_reads_105 ?_
      exact k_iret hA hr (k_narB (k_b01 _)) dX5_reads_108
    have hf := k_ift hc hf
    refine k_aload_n (i := 0) hA dX5_reads_70 rfl 0 rfl ?_
    refine gt_X_18_10 hA wd_267 dX5_reads_71 ?_
    refine gt_X_10_2 hA wd_168 dX5_reads_74 ?_
    refine k_if_gt (tgt := 89) hA dX5_reads_77 rfl (fun hc => ?_) (fun hc => ?_)
    · have hf := k_ift hc hf
      obtain ⟨rfl, rfl⟩ := k_r2 hf
      refine k_iconst hA dX5_reads_89 kc_i_1 ?_
      refine k_goto (tgt := 94) hA dX5_reads_90 rfl ?_
      exact k_iret hA hr (k_narB (k_b01 _)) dX5_reads_94
    have hf := k_iff hc hf
    obtain ⟨⟨rq_7, tq_7⟩, hq_7, hf⟩ := k_lt_e hf
    dsimp only at hf
    refine k_aload_n (i := 0) hA dX5_reads_80 rfl 0 rfl ?_
    refine k_bipush hA dX5_reads_81 kc_b_6 ?_
    refine k_callVi (As := [.int (6 : Int32)]) (rest := []) hA (m_Re_fail l G a (6 : Int32) t_2 hq_7.symm) cd_X5_fail wd_575 (hc_X_18 G.2.1 a (.ref (a 10)) t_2) rfl rfl (Nat.le_of_ble_eq_true rfl) rfl rfl (Nat.le_of_ble_eq_true rfl) dX5_reads_83 ?_
    refine k_if_eq (tgt := 93) hA dX5_reads_86 rfl (fun hc => ?_) (fun hc => ?_)
    · have hf := k_ift hc hf
      obtain ⟨rfl, rfl⟩ := k_r2 hf
      refine k_iconst hA dX5_reads_93 kc_i_0 ?_
      exact k_iret hA hr (k_narB (k_b01 _)) dX5_reads_94
    have hf := k_iff hc hf
    obtain ⟨rfl, rfl⟩ := k_r2 hf
    refine k_iconst hA dX5_reads_89 kc_i_1 ?_
    refine k_goto (tgt := 94) hA dX5_reads_90 rfl ?_
    exact k_iret hA hr (k_narB (k_b01 _)) dX5_reads_94
  have hf := k_ift hc hf
  obtain ⟨rfl, rfl⟩ := k_r2 hf
  refine k_iconst hA dX5_reads_61 kc_i_0 ?_
  exact k_iret hA hr (k_narB (k_b01 _)) dX5_reads_62

theorem m_Re_reads (l : Launch) (G : k_G) (a : Nat → Nat) (n : Nat) (x1 : Int32) (t : k_St) {r : Bool} {t' : k_St} (hf : f_Re_reads n x1 t = some (r, t')) : k_CI l G yX5_reads cX5_reads 3 (some .boolean) 10 (k_WX G.2.1 a (.ref (a 10)) t) [.ref (a 18), .int x1] (k_b r) (k_WX G.2.1 a (.ref (a 10)) t') := by
  refine k_startI (lv := [(0, .ref (a 18)), (1, .int x1)]) (by decide +kernel) (Nat.le_of_ble_eq_true rfl) rfl ?_
  intro p e s m args below meth c hA hr
  have hA : k_Amb p s m args meth c cX5_reads 3 "TaleShares$Reader" G _ := hA
  unfold f_Re_reads at hf
  obtain ⟨t_1, et_1, hf⟩ := k_lt_e hf
  obtain ⟨t_2, ht_2, hf⟩ := k_cv_e hf
  obtain ⟨t_3, et_3, hf⟩ := k_lt_e hf
  obtain ⟨t_4, et_4, hf⟩ := k_lt_e hf
  obtain ⟨t_5, et_5, hf⟩ := k_lt_e hf
  obtain ⟨t_6, et_6, hf⟩ := k_lt_e hf
  obtain ⟨t_7, ht_7, hf⟩ := k_cv_e hf
  refine k_aload_n (i := 0) hA dX5_reads_0 rfl 0 rfl ?_
  refine k_iconst hA dX5_reads_1 kc_i_0 ?_
  refine pt_X_18_2 hA wd_259 et_1 dX5_reads_2 ?_
  refine k_aload_n (i := 0) hA dX5_reads_5 rfl 0 rfl ?_
  refine gt_X_18_10 hA wd_267 dX5_reads_6 ?_
  refine k_callVv (As := []) (rest := []) hA (m_Te_clearS l G a n t_1 ht_2) cd_X8_clear wd_488 (hc_X_10 G.2.1 a (.ref (a 10)) t_1) rfl rfl (Nat.le_of_ble_eq_true rfl) rfl rfl (Nat.le_of_ble_eq_true rfl) dX5_reads_9 ?_
  refine k_aload_n (i := 0) hA dX5_reads_12 rfl 0 rfl ?_
  refine k_iload_n (i := 1) hA dX5_reads_13 rfl 1 rfl ?_
  refine k_aload_n (i := 0) hA dX5_reads_14 rfl 0 rfl ?_
  refine gt_X_18_3 hA wd_260 dX5_reads_15 ?_
  refine k_alen (t0 := 0) (v := (900 : Int32)) hA (hc_X_1 G.2.1 a (.ref (a 10)) t_2) rfl rfl dX5_reads_18 ?_
  refine k_mmin hA wd_492 wd_493 wd_129 wd_494 (Nat.le_of_ble_eq_true rfl) (Nat.le_of_ble_eq_true rfl) dX5_reads_19 ?_
  refine pt_X_18_4 hA wd_261 et_3 dX5_reads_22 ?_
  refine k_aload_n (i := 0) hA dX5_reads_25 rfl 0 rfl ?_
  refine k_iconst hA dX5_reads_26 kc_i_0 ?_
  refine pt_X_18_5 hA wd_262 et_4 dX5_reads_27 ?_
  refine k_aload_n (i := 0) hA dX5_reads_30 rfl 0 rfl ?_
  refine k_iconst hA dX5_reads_31 kc_i_0 ?_
  refine pt_X_18_9 hA wd_266 (by decide) et_5 dX5_reads_32 ?_
  refine k_aload_n (i := 0) hA dX5_reads_35 rfl 0 rfl ?_
  refine k_iconst hA dX5_reads_36 kc_i_0 ?_
  refine pt_X_18_0 hA wd_255 et_6 dX5_reads_37 ?_
  refine k_aload_n (i := 0) hA dX5_reads_40 rfl 0 rfl ?_
  refine k_callVv (As := []) (rest := []) hA (m_Re_step l G a n t_6 ht_7) cd_X5_step wd_495 (hc_X_18 G.2.1 a (.ref (a 10)) t_6) rfl rfl (Nat.le_of_ble_eq_true rfl) rfl rfl (Nat.le_of_ble_eq_true rfl) dX5_reads_41 ?_
  refine k_iconst hA dX5_reads_44 kc_i_0 ?_
  refine k_istore_n (i := 2) (lv' := [(2, .int (0 : Int32)), (0, .ref (a 18)), (1, .int x1)]) hA dX5_reads_45 rfl rfl (Nat.le_of_ble_eq_true rfl) rfl ?_
  refine k_pick (lv' := [(0, .ref (a 18)), (2, .int (0 : Int32))]) [1, 0] rfl ?_
  exact m_Re_reads_46 l G a n hA hr n (0 : Int32) t_7 hf

