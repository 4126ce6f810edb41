theorem dX10_feed_0 : decode cX10_feed 0 = .ok (.aload_n 0, 1) := by decide +kernel
theorem dX10_feed_1 : decode cX10_feed 1 = .ok (.getfield 19, 3) := by decide +kernel
theorem dX10_feed_4 : decode cX10_feed 4 = .ok (.getfield 65, 3) := by decide +kernel
theorem dX10_feed_7 : decode cX10_feed 7 = .ok (.bipush 20, 2) := by decide +kernel
theorem dX10_feed_9 : decode cX10_feed 9 = .ok (.iadd, 1) := by decide +kernel
theorem dX10_feed_10 : decode cX10_feed 10 = .ok (.sipush 900, 3) := by decide +kernel
theorem dX10_feed_13 : decode cX10_feed 13 = .ok (.if_icmp .le 5, 3) := by decide +kernel
theorem dX10_feed_16 : decode cX10_feed 16 = .ok (.iconst (-1), 1) := by decide +kernel
theorem dX10_feed_17 : decode cX10_feed 17 = .ok (.ireturn, 1) := by decide +kernel
theorem dX10_feed_18 : decode cX10_feed 18 = .ok (.aload_n 0, 1) := by decide +kernel
theorem dX10_feed_19 : decode cX10_feed 19 = .ok (.getfield 19, 3) := by decide +kernel
theorem dX10_feed_22 : decode cX10_feed 22 = .ok (.iload_n 1, 1) := by decide +kernel
theorem dX10_feed_23 : decode cX10_feed 23 = .ok (.invokevirtual 69, 3) := by decide +kernel
theorem dX10_feed_26 : decode cX10_feed 26 = .ok (.aload_n 0, 1) := by decide +kernel
theorem dX10_feed_27 : decode cX10_feed 27 = .ok (.getfield 19, 3) := by decide +kernel
theorem dX10_feed_30 : decode cX10_feed 30 = .ok (.iload_n 2, 1) := by decide +kernel
theorem dX10_feed_31 : decode cX10_feed 31 = .ok (.invokevirtual 69, 3) := by decide +kernel
theorem dX10_feed_34 : decode cX10_feed 34 = .ok (.aload_n 0, 1) := by decide +kernel
theorem dX10_feed_35 : decode cX10_feed 35 = .ok (.getfield 19, 3) := by decide +kernel
theorem dX10_feed_38 : decode cX10_feed 38 = .ok (.iload_n 3, 1) := by decide +kernel
theorem dX10_feed_39 : decode cX10_feed 39 = .ok (.invokevirtual 69, 3) := by decide +kernel
theorem dX10_feed_42 : decode cX10_feed 42 = .ok (.aload_n 0, 1) := by decide +kernel
theorem dX10_feed_43 : decode cX10_feed 43 = .ok (.getfield 19, 3) := by decide +kernel
theorem dX10_feed_46 : decode cX10_feed 46 = .ok (.iload 4, 2) := by decide +kernel
theorem dX10_feed_48 : decode cX10_feed 48 = .ok (.invokevirtual 69, 3) := by decide +kernel
theorem dX10_feed_51 : decode cX10_feed 51 = .ok (.aload_n 0, 1) := by decide +kernel
theorem dX10_feed_52 : decode cX10_feed 52 = .ok (.getfield 19, 3) := by decide +kernel
theorem dX10_feed_55 : decode cX10_feed 55 = .ok (.iload 5, 2) := by decide +kernel
theorem dX10_feed_57 : decode cX10_feed 57 = .ok (.invokevirtual 69, 3) := by decide +kernel
theorem dX10_feed_60 : decode cX10_feed 60 = .ok (.aload_n 0, 1) := by decide +kernel
theorem dX10_feed_61 : decode cX10_feed 61 = .ok (.getfield 19, 3) := by decide +kernel
theorem dX10_feed_64 : decode cX10_feed 64 = .ok (.getfield 65, 3) := by decide +kernel
theorem dX10_feed_67 : decode cX10_feed 67 = .ok (.ireturn, 1) := by decide +kernel
theorem dX5_takeFour_0 : decode cX5_takeFour 0 = .ok (.bipush 24, 2) := by decide +kernel
theorem dX5_takeFour_2 : decode cX5_takeFour 2 = .ok (.istore_n 2, 1) := by decide +kernel
theorem dX5_takeFour_3 : decode cX5_takeFour 3 = .ok (.iload_n 2, 1) := by decide +kernel
theorem dX5_takeFour_4 : decode cX5_takeFour 4 = .ok (.ifCond .lt 44, 3) := by decide +kernel
theorem dX5_takeFour_7 : decode cX5_takeFour 7 = .ok (.aload_n 0, 1) := by decide +kernel
theorem dX5_takeFour_8 : decode cX5_takeFour 8 = .ok (.getfield 29, 3) := by decide +kernel
theorem dX5_takeFour_11 : decode cX5_takeFour 11 = .ok (.aload_n 0, 1) := by decide +kernel
theorem dX5_takeFour_12 : decode cX5_takeFour 12 = .ok (.getfield 9, 3) := by decide +kernel
theorem dX5_takeFour_15 : decode cX5_takeFour 15 = .ok (.arraylength, 1) := by decide +kernel
theorem dX5_takeFour_16 : decode cX5_takeFour 16 = .ok (.if_icmp .ge 26, 3) := by decide +kernel
theorem dX5_takeFour_19 : decode cX5_takeFour 19 = .ok (.aload_n 0, 1) := by decide +kernel
theorem dX5_takeFour_20 : decode cX5_takeFour 20 = .ok (.getfield 9, 3) := by decide +kernel
theorem dX5_takeFour_23 : decode cX5_takeFour 23 = .ok (.aload_n 0, 1) := by decide +kernel
theorem dX5_takeFour_24 : decode cX5_takeFour 24 = .ok (.getfield 29, 3) := by decide +kernel
theorem dX5_takeFour_27 : decode cX5_takeFour 27 = .ok (.iload_n 1, 1) := by decide +kernel
theorem dX5_takeFour_28 : decode cX5_takeFour 28 = .ok (.iload_n 2, 1) := by decide +kernel
theorem dX5_takeFour_29 : decode cX5_takeFour 29 = .ok (.ishr, 1) := by decide +kernel
theorem dX5_takeFour_30 : decode cX5_takeFour 30 = .ok (.i2b, 1) := by decide +kernel
theorem dX5_takeFour_31 : decode cX5_takeFour 31 = .ok (.bastore, 1) := by decide +kernel
theorem dX5_takeFour_32 : decode cX5_takeFour 32 = .ok (.aload_n 0, 1) := by decide +kernel
theorem dX5_takeFour_33 : decode cX5_takeFour 33 = .ok (.dup, 1) := by decide +kernel
theorem dX5_takeFour_34 : decode cX5_takeFour 34 = .ok (.getfield 29, 3) := by decide +kernel
theorem dX5_takeFour_37 : decode cX5_takeFour 37 = .ok (.iconst 1, 1) := by decide +kernel
theorem dX5_takeFour_38 : decode cX5_takeFour 38 = .ok (.iadd, 1) := by decide +kernel
theorem dX5_takeFour_39 : decode cX5_takeFour 39 = .ok (.putfield 29, 3) := by decide +kernel
theorem dX5_takeFour_42 : decode cX5_takeFour 42 = .ok (.iinc 2 (-8), 3) := by decide +kernel
theorem dX5_takeFour_45 : decode cX5_takeFour 45 = .ok (.goto (-42), 3) := by decide +kernel
theorem dX5_takeFour_48 : decode cX5_takeFour 48 = .ok (.return_, 1) := by decide +kernel
theorem dX10_fault_0 : decode cX10_fault 0 = .ok (.aload_n 0, 1) := by decide +kernel
theorem dX10_fault_1 : decode cX10_fault 1 = .ok (.getfield 19, 3) := by decide +kernel
theorem dX10_fault_4 : decode cX10_fault 4 = .ok (.getfield 112, 3) := by decide +kernel
theorem dX10_fault_7 : decode cX10_fault 7 = .ok (.ireturn, 1) := by decide +kernel
theorem dX10_where_0 : decode cX10_where 0 = .ok (.aload_n 0, 1) := by decide +kernel
theorem dX10_where_1 : decode cX10_where 1 = .ok (.getfield 115, 3) := by decide +kernel
theorem dX10_where_4 : decode cX10_where 4 = .ok (.iconst 4, 1) := by decide +kernel
theorem dX10_where_5 : decode cX10_where 5 = .ok (.if_icmp .ne 13, 3) := by decide +kernel
theorem dX10_where_8 : decode cX10_where 8 = .ok (.aload_n 0, 1) := by decide +kernel
theorem dX10_where_9 : decode cX10_where 9 = .ok (.getfield 19, 3) := by decide +kernel
theorem dX10_where_12 : decode cX10_where 12 = .ok (.getfield 118, 3) := by decide +kernel
theorem dX10_where_15 : decode cX10_where 15 = .ok (.goto 4, 3) := by decide +kernel
theorem dX10_where_18 : decode cX10_where 18 = .ok (.iconst (-1), 1) := by decide +kernel
theorem dX10_where_19 : decode cX10_where 19 = .ok (.ireturn, 1) := by decide +kernel
theorem dX10_piece_0 : decode cX10_piece 0 = .ok (.aload_n 0, 1) := by decide +kernel
theorem dX10_piece_1 : decode cX10_piece 1 = .ok (.iload_n 1, 1) := by decide +kernel
theorem dX10_piece_2 : decode cX10_piece 2 = .ok (.invokevirtual 121, 3) := by decide +kernel
theorem dX10_piece_5 : decode cX10_piece 5 = .ok (.ifCond .eq 9, 3) := by decide +kernel
theorem dX10_piece_8 : decode cX10_piece 8 = .ok (.aload_n 0, 1) := by decide +kernel
theorem dX10_piece_9 : decode cX10_piece 9 = .ok (.iconst 1, 1) := by decide +kernel
theorem dX10_piece_10 : decode cX10_piece 10 = .ok (.invokevirtual 73, 3) := by decide +kernel
theorem dX10_piece_13 : decode cX10_piece 13 = .ok (.ireturn, 1) := by decide +kernel
theorem dX10_piece_14 : decode cX10_piece 14 = .ok (.iload_n 2, 1) := by decide +kernel
theorem dX10_piece_15 : decode cX10_piece 15 = .ok (.tableswitch 83 0 3 #[29, 43, 57, 70], 29) := by decide +kernel
theorem dX10_piece_44 : decode cX10_piece 44 = .ok (.aload_n 0, 1) := by decide +kernel
theorem dX10_piece_45 : decode cX10_piece 45 = .ok (.aload_n 0, 1) := by decide +kernel
theorem dX10_piece_46 : decode cX10_piece 46 = .ok (.getfield 10, 3) := by decide +kernel
theorem dX10_piece_49 : decode cX10_piece 49 = .ok (.getfield 124, 3) := by decide +kernel
theorem dX10_piece_52 : decode cX10_piece 52 = .ok (.iload_n 1, 1) := by decide +kernel
theorem dX10_piece_53 : decode cX10_piece 53 = .ok (.iaload, 1) := by decide +kernel
theorem dX10_piece_54 : decode cX10_piece 54 = .ok (.invokevirtual 109, 3) := by decide +kernel
theorem dX10_piece_57 : decode cX10_piece 57 = .ok (.ireturn, 1) := by decide +kernel
theorem dX10_piece_58 : decode cX10_piece 58 = .ok (.aload_n 0, 1) := by decide +kernel
theorem dX10_piece_59 : decode cX10_piece 59 = .ok (.aload_n 0, 1) := by decide +kernel
theorem dX10_piece_60 : decode cX10_piece 60 = .ok (.getfield 10, 3) := by decide +kernel
theorem dX10_piece_63 : decode cX10_piece 63 = .ok (.getfield 128, 3) := by decide +kernel
theorem dX10_piece_66 : decode cX10_piece 66 = .ok (.iload_n 1, 1) := by decide +kernel
theorem dX10_piece_67 : decode cX10_piece 67 = .ok (.iaload, 1) := by decide +kernel
theorem dX10_piece_68 : decode cX10_piece 68 = .ok (.invokevirtual 109, 3) := by decide +kernel
theorem dX10_piece_71 : decode cX10_piece 71 = .ok (.ireturn, 1) := by decide +kernel
theorem dX10_piece_72 : decode cX10_piece 72 = .ok (.aload_n 0, 1) := by decide +kernel
theorem dX10_piece_73 : decode cX10_piece 73 = .ok (.aload_n 0, 1) := by decide +kernel
theorem dX10_piece_74 : decode cX10_piece 74 = .ok (.getfield 10, 3) := by decide +kernel
theorem dX10_piece_77 : decode cX10_piece 77 = .ok (.iload_n 1, 1) := by decide +kernel
theorem dX10_piece_78 : decode cX10_piece 78 = .ok (.invokevirtual 131, 3) := by decide +kernel
theorem dX10_piece_81 : decode cX10_piece 81 = .ok (.invokevirtual 109, 3) := by decide +kernel
theorem dX10_piece_84 : decode cX10_piece 84 = .ok (.ireturn, 1) := by decide +kernel
theorem dX10_piece_85 : decode cX10_piece 85 = .ok (.aload_n 0, 1) := by decide +kernel
theorem dX10_piece_86 : decode cX10_piece 86 = .ok (.aload_n 0, 1) := by decide +kernel
theorem dX10_piece_87 : decode cX10_piece 87 = .ok (.getfield 61, 3) := by decide +kernel
theorem dX10_piece_90 : decode cX10_piece 90 = .ok (.iload_n 1, 1) := by decide +kernel
theorem dX10_piece_91 : decode cX10_piece 91 = .ok (.invokevirtual 134, 3) := by decide +kernel
theorem dX10_piece_94 : decode cX10_piece 94 = .ok (.invokevirtual 109, 3) := by decide +kernel
theorem dX10_piece_97 : decode cX10_piece 97 = .ok (.ireturn, 1) := by decide +kernel
theorem dX10_piece_98 : decode cX10_piece 98 = .ok (.aload_n 0, 1) := by decide +kernel
theorem dX10_piece_99 : decode cX10_piece 99 = .ok (.iconst 1, 1) := by decide +kernel
theorem dX10_piece_100 : decode cX10_piece 100 = .ok (.invokevirtual 73, 3) := by decide +kernel
theorem dX10_piece_103 : decode cX10_piece 103 = .ok (.ireturn, 1) := by decide +kernel
theorem dX10_noPiece_0 : decode cX10_noPiece 0 = .ok (.iload_n 1, 1) := by decide +kernel
theorem dX10_noPiece_1 : decode cX10_noPiece 1 = .ok (.ifCond .lt 14, 3) := by decide +kernel
theorem dX10_noPiece_4 : decode cX10_noPiece 4 = .ok (.iload_n 1, 1) := by decide +kernel
theorem dX10_noPiece_5 : decode cX10_noPiece 5 = .ok (.aload_n 0, 1) := by decide +kernel
theorem dX10_noPiece_6 : decode cX10_noPiece 6 = .ok (.getfield 10, 3) := by decide +kernel
theorem dX10_noPiece_9 : decode cX10_noPiece 9 = .ok (.getfield 106, 3) := by decide +kernel
theorem dX10_noPiece_12 : decode cX10_noPiece 12 = .ok (.if_icmp .lt 7, 3) := by decide +kernel
theorem dX10_noPiece_15 : decode cX10_noPiece 15 = .ok (.iconst 1, 1) := by decide +kernel
theorem dX10_noPiece_16 : decode cX10_noPiece 16 = .ok (.goto 4, 3) := by decide +kernel
theorem dX10_noPiece_19 : decode cX10_noPiece 19 = .ok (.iconst 0, 1) := by decide +kernel
theorem dX10_noPiece_20 : decode cX10_noPiece 20 = .ok (.ireturn, 1) := by decide +kernel
theorem dX10_refuse_0 : decode cX10_refuse 0 = .ok (.aload_n 0, 1) := by decide +kernel
theorem dX10_refuse_1 : decode cX10_refuse 1 = .ok (.iload_n 1, 1) := by decide +kernel
theorem dX10_refuse_2 : decode cX10_refuse 2 = .ok (.putfield 115, 3) := by decide +kernel
theorem dX10_refuse_5 : decode cX10_refuse 5 = .ok (.iconst (-1), 1) := by decide +kernel
theorem dX10_refuse_6 : decode cX10_refuse 6 = .ok (.ireturn, 1) := by decide +kernel
theorem dX3_whoKnow_0 : decode cX3_whoKnow 0 = .ok (.iconst 0, 1) := by decide +kernel
theorem dX3_whoKnow_1 : decode cX3_whoKnow 1 = .ok (.istore_n 2, 1) := by decide +kernel
theorem dX3_whoKnow_2 : decode cX3_whoKnow 2 = .ok (.iconst 0, 1) := by decide +kernel
theorem dX3_whoKnow_3 : decode cX3_whoKnow 3 = .ok (.istore_n 3, 1) := by decide +kernel
theorem dX3_whoKnow_4 : decode cX3_whoKnow 4 = .ok (.iload_n 3, 1) := by decide +kernel
theorem dX3_whoKnow_5 : decode cX3_whoKnow 5 = .ok (.aload_n 0, 1) := by decide +kernel
theorem dX3_whoKnow_6 : decode cX3_whoKnow 6 = .ok (.getfield 24, 3) := by decide +kernel
theorem dX3_whoKnow_9 : decode cX3_whoKnow 9 = .ok (.if_icmp .ge 24, 3) := by decide +kernel
theorem dX3_whoKnow_12 : decode cX3_whoKnow 12 = .ok (.aload_n 0, 1) := by decide +kernel
theorem dX3_whoKnow_13 : decode cX3_whoKnow 13 = .ok (.iload_n 3, 1) := by decide +kernel
theorem dX3_whoKnow_14 : decode cX3_whoKnow 14 = .ok (.iload_n 1, 1) := by decide +kernel
theorem dX3_whoKnow_15 : decode cX3_whoKnow 15 = .ok (.invokevirtual 54, 3) := by decide +kernel
theorem dX3_whoKnow_18 : decode cX3_whoKnow 18 = .ok (.ifCond .eq 9, 3) := by decide +kernel
theorem dX3_whoKnow_21 : decode cX3_whoKnow 21 = .ok (.iload_n 2, 1) := by decide +kernel
theorem dX3_whoKnow_22 : decode cX3_whoKnow 22 = .ok (.iconst 1, 1) := by decide +kernel
theorem dX3_whoKnow_23 : decode cX3_whoKnow 23 = .ok (.iload_n 3, 1) := by decide +kernel
theorem dX3_whoKnow_24 : decode cX3_whoKnow 24 = .ok (.ishl, 1) := by decide +kernel
theorem dX3_whoKnow_25 : decode cX3_whoKnow 25 = .ok (.ior, 1) := by decide +kernel
theorem dX3_whoKnow_26 : decode cX3_whoKnow 26 = .ok (.istore_n 2, 1) := by decide +kernel
theorem dX3_whoKnow_27 : decode cX3_whoKnow 27 = .ok (.iinc 3 1, 3) := by decide +kernel
theorem dX3_whoKnow_30 : decode cX3_whoKnow 30 = .ok (.goto (-26), 3) := by decide +kernel
theorem dX3_whoKnow_33 : decode cX3_whoKnow 33 = .ok (.iload_n 2, 1) := by decide +kernel
theorem dX3_whoKnow_34 : decode cX3_whoKnow 34 = .ok (.ireturn, 1) := by decide +kernel
theorem dX3_isKnown_0 : decode cX3_isKnown 0 = .ok (.aload_n 0, 1) := by decide +kernel
theorem dX3_isKnown_1 : decode cX3_isKnown 1 = .ok (.iload_n 1, 1) := by decide +kernel
theorem dX3_isKnown_2 : decode cX3_isKnown 2 = .ok (.invokevirtual 50, 3) := by decide +kernel
theorem dX3_isKnown_5 : decode cX3_isKnown 5 = .ok (.iload_n 2, 1) := by decide +kernel
theorem dX3_isKnown_6 : decode cX3_isKnown 6 = .ok (.ishr, 1) := by decide +kernel
theorem dX3_isKnown_7 : decode cX3_isKnown 7 = .ok (.iconst 1, 1) := by decide +kernel
theorem dX3_isKnown_8 : decode cX3_isKnown 8 = .ok (.iand, 1) := by decide +kernel
theorem dX3_isKnown_9 : decode cX3_isKnown 9 = .ok (.ifCond .eq 7, 3) := by decide +kernel
theorem dX3_isKnown_12 : decode cX3_isKnown 12 = .ok (.iconst 1, 1) := by decide +kernel
theorem dX3_isKnown_13 : decode cX3_isKnown 13 = .ok (.goto 4, 3) := by decide +kernel
theorem dX3_isKnown_16 : decode cX3_isKnown 16 = .ok (.iconst 0, 1) := by decide +kernel
theorem dX3_isKnown_17 : decode cX3_isKnown 17 = .ok (.ireturn, 1) := by decide +kernel
theorem dX3_knownBy_0 : decode cX3_knownBy 0 = .ok (.aload_n 0, 1) := by decide +kernel
theorem dX3_knownBy_1 : decode cX3_knownBy 1 = .ok (.getfield 25, 3) := by decide +kernel
theorem dX3_knownBy_4 : decode cX3_knownBy 4 = .ok (.iload_n 1, 1) := by decide +kernel
theorem dX3_knownBy_5 : decode cX3_knownBy 5 = .ok (.invokestatic 46, 3) := by decide +kernel
theorem dX3_knownBy_8 : decode cX3_knownBy 8 = .ok (.ireturn, 1) := by decide +kernel
theorem dX10_partOf_0 : decode cX10_partOf 0 = .ok (.lload_n 0, 1) := by decide +kernel
theorem dX10_partOf_1 : decode cX10_partOf 1 = .ok (.bipush 8, 2) := by decide +kernel
theorem dX10_partOf_3 : decode cX10_partOf 3 = .ok (.iload_n 2, 1) := by decide +kernel
theorem dX10_partOf_4 : decode cX10_partOf 4 = .ok (.imul, 1) := by decide +kernel
theorem dX10_partOf_5 : decode cX10_partOf 5 = .ok (.lshr, 1) := by decide +kernel
theorem dX10_partOf_6 : decode cX10_partOf 6 = .ok (.l2i, 1) := by decide +kernel
theorem dX10_partOf_7 : decode cX10_partOf 7 = .ok (.sipush 255, 3) := by decide +kernel
theorem dX10_partOf_10 : decode cX10_partOf 10 = .ok (.iand, 1) := by decide +kernel
theorem dX10_partOf_11 : decode cX10_partOf 11 = .ok (.ireturn, 1) := by decide +kernel
theorem dX10_answer_0 : decode cX10_answer 0 = .ok (.aload_n 0, 1) := by decide +kernel
theorem dX10_answer_1 : decode cX10_answer 1 = .ok (.iconst 0, 1) := by decide +kernel
theorem dX10_answer_2 : decode cX10_answer 2 = .ok (.putfield 115, 3) := by decide +kernel
theorem dX10_answer_5 : decode cX10_answer 5 = .ok (.iload_n 1, 1) := by decide +kernel
theorem dX10_answer_6 : decode cX10_answer 6 = .ok (.ireturn, 1) := by decide +kernel
theorem dX8_followedBy_0 : decode cX8_followedBy 0 = .ok (.iconst 0, 1) := by decide +kernel
theorem dX8_followedBy_1 : decode cX8_followedBy 1 = .ok (.istore_n 2, 1) := by decide +kernel
theorem dX8_followedBy_2 : decode cX8_followedBy 2 = .ok (.iconst 0, 1) := by decide +kernel
theorem dX8_followedBy_3 : decode cX8_followedBy 3 = .ok (.istore_n 3, 1) := by decide +kernel
theorem dX8_followedBy_4 : decode cX8_followedBy 4 = .ok (.iload_n 3, 1) := by decide +kernel
theorem dX8_followedBy_5 : decode cX8_followedBy 5 = .ok (.aload_n 0, 1) := by decide +kernel
theorem dX8_followedBy_6 : decode cX8_followedBy 6 = .ok (.getfield 40, 3) := by decide +kernel
theorem dX8_followedBy_9 : decode cX8_followedBy 9 = .ok (.if_icmp .ge 24, 3) := by decide +kernel
theorem dX8_followedBy_12 : decode cX8_followedBy 12 = .ok (.aload_n 0, 1) := by decide +kernel
theorem dX8_followedBy_13 : decode cX8_followedBy 13 = .ok (.iload_n 3, 1) := by decide +kernel
theorem dX8_followedBy_14 : decode cX8_followedBy 14 = .ok (.iload_n 1, 1) := by decide +kernel
theorem dX8_followedBy_15 : decode cX8_followedBy 15 = .ok (.invokevirtual 58, 3) := by decide +kernel
theorem dX8_followedBy_18 : decode cX8_followedBy 18 = .ok (.ifCond .eq 9, 3) := by decide +kernel
theorem dX8_followedBy_21 : decode cX8_followedBy 21 = .ok (.iload_n 2, 1) := by decide +kernel
theorem dX8_followedBy_22 : decode cX8_followedBy 22 = .ok (.iconst 1, 1) := by decide +kernel
theorem dX8_followedBy_23 : decode cX8_followedBy 23 = .ok (.iload_n 3, 1) := by decide +kernel
theorem dX8_followedBy_24 : decode cX8_followedBy 24 = .ok (.ishl, 1) := by decide +kernel
theorem dX8_followedBy_25 : decode cX8_followedBy 25 = .ok (.ior, 1) := by decide +kernel
theorem dX8_followedBy_26 : decode cX8_followedBy 26 = .ok (.istore_n 2, 1) := by decide +kernel
theorem dX8_followedBy_27 : decode cX8_followedBy 27 = .ok (.iinc 3 1, 3) := by decide +kernel
theorem dX8_followedBy_30 : decode cX8_followedBy 30 = .ok (.goto (-26), 3) := by decide +kernel
theorem dX8_followedBy_33 : decode cX8_followedBy 33 = .ok (.iload_n 2, 1) := by decide +kernel
theorem dX8_followedBy_34 : decode cX8_followedBy 34 = .ok (.ireturn, 1) := by decide +kernel
theorem dX10_house_0 : decode cX10_house 0 = .ok (.aload_n 0, 1) := by decide +kernel
theorem dX10_house_1 : decode cX10_house 1 = .ok (.iload_n 1, 1) := by decide +kernel
theorem dX10_house_2 : decode cX10_house 2 = .ok (.invokevirtual 137, 3) := by decide +kernel
theorem dX10_house_5 : decode cX10_house 5 = .ok (.ifCond .eq 9, 3) := by decide +kernel
theorem dX10_house_8 : decode cX10_house 8 = .ok (.aload_n 0, 1) := by decide +kernel
theorem dX10_house_9 : decode cX10_house 9 = .ok (.iconst 1, 1) := by decide +kernel
theorem dX10_house_10 : decode cX10_house 10 = .ok (.invokevirtual 73, 3) := by decide +kernel
theorem dX10_house_13 : decode cX10_house 13 = .ok (.ireturn, 1) := by decide +kernel
theorem dX10_house_14 : decode cX10_house 14 = .ok (.iload_n 2, 1) := by decide +kernel
theorem dX10_house_15 : decode cX10_house 15 = .ok (.tableswitch 126 0 5 #[37, 51, 65, 79, 92, 108], 37) := by decide +kernel
theorem dX10_house_52 : decode cX10_house 52 = .ok (.aload_n 0, 1) := by decide +kernel
theorem dX10_house_53 : decode cX10_house 53 = .ok (.aload_n 0, 1) := by decide +kernel
theorem dX10_house_54 : decode cX10_house 54 = .ok (.getfield 10, 3) := by decide +kernel
theorem dX10_house_57 : decode cX10_house 57 = .ok (.getfield 140, 3) := by decide +kernel
theorem dX10_house_60 : decode cX10_house 60 = .ok (.iload_n 1, 1) := by decide +kernel
theorem dX10_house_61 : decode cX10_house 61 = .ok (.iaload, 1) := by decide +kernel
theorem dX10_house_62 : decode cX10_house 62 = .ok (.invokevirtual 109, 3) := by decide +kernel
theorem dX10_house_65 : decode cX10_house 65 = .ok (.ireturn, 1) := by decide +kernel
theorem dX10_house_66 : decode cX10_house 66 = .ok (.aload_n 0, 1) := by decide +kernel
theorem dX10_house_67 : decode cX10_house 67 = .ok (.aload_n 0, 1) := by decide +kernel
theorem dX10_house_68 : decode cX10_house 68 = .ok (.getfield 10, 3) := by decide +kernel
theorem dX10_house_71 : decode cX10_house 71 = .ok (.getfield 143, 3) := by decide +kernel
theorem dX10_house_74 : decode cX10_house 74 = .ok (.iload_n 1, 1) := by decide +kernel
theorem dX10_house_75 : decode cX10_house 75 = .ok (.iaload, 1) := by decide +kernel
theorem dX10_house_76 : decode cX10_house 76 = .ok (.invokevirtual 109, 3) := by decide +kernel
theorem dX10_house_79 : decode cX10_house 79 = .ok (.ireturn, 1) := by decide +kernel
theorem dX10_house_80 : decode cX10_house 80 = .ok (.aload_n 0, 1) := by decide +kernel
theorem dX10_house_81 : decode cX10_house 81 = .ok (.aload_n 0, 1) := by decide +kernel
theorem dX10_house_82 : decode cX10_house 82 = .ok (.getfield 10, 3) := by decide +kernel
theorem dX10_house_85 : decode cX10_house 85 = .ok (.getfield 146, 3) := by decide +kernel
theorem dX10_house_88 : decode cX10_house 88 = .ok (.iload_n 1, 1) := by decide +kernel
theorem dX10_house_89 : decode cX10_house 89 = .ok (.iaload, 1) := by decide +kernel
theorem dX10_house_90 : decode cX10_house 90 = .ok (.invokevirtual 109, 3) := by decide +kernel
theorem dX10_house_93 : decode cX10_house 93 = .ok (.ireturn, 1) := by decide +kernel
theorem dX10_house_94 : decode cX10_house 94 = .ok (.aload_n 0, 1) := by decide +kernel
theorem dX10_house_95 : decode cX10_house 95 = .ok (.aload_n 0, 1) := by decide +kernel
theorem dX10_house_96 : decode cX10_house 96 = .ok (.getfield 61, 3) := by decide +kernel
theorem dX10_house_99 : decode cX10_house 99 = .ok (.iload_n 1, 1) := by decide +kernel
theorem dX10_house_100 : decode cX10_house 100 = .ok (.invokevirtual 149, 3) := by decide +kernel
theorem dX10_house_103 : decode cX10_house 103 = .ok (.invokevirtual 109, 3) := by decide +kernel
theorem dX10_house_106 : decode cX10_house 106 = .ok (.ireturn, 1) := by decide +kernel
theorem dX10_house_107 : decode cX10_house 107 = .ok (.aload_n 0, 1) := by decide +kernel
theorem dX10_house_108 : decode cX10_house 108 = .ok (.aload_n 0, 1) := by decide +kernel
theorem dX10_house_109 : decode cX10_house 109 = .ok (.getfield 10, 3) := by decide +kernel
theorem dX10_house_112 : decode cX10_house 112 = .ok (.getfield 152, 3) := by decide +kernel
theorem dX10_house_115 : decode cX10_house 115 = .ok (.iload_n 1, 1) := by decide +kernel
theorem dX10_house_116 : decode cX10_house 116 = .ok (.ishr, 1) := by decide +kernel
theorem dX10_house_117 : decode cX10_house 117 = .ok (.iconst 1, 1) := by decide +kernel
theorem dX10_house_118 : decode cX10_house 118 = .ok (.iand, 1) := by decide +kernel
theorem dX10_house_119 : decode cX10_house 119 = .ok (.invokevirtual 109, 3) := by decide +kernel
theorem dX10_house_122 : decode cX10_house 122 = .ok (.ireturn, 1) := by decide +kernel
theorem dX10_house_123 : decode cX10_house 123 = .ok (.aload_n 0, 1) := by decide +kernel
theorem dX10_house_124 : decode cX10_house 124 = .ok (.aload_n 0, 1) := by decide +kernel
theorem dX10_house_125 : decode cX10_house 125 = .ok (.iload_n 1, 1) := by decide +kernel
theorem dX10_house_126 : decode cX10_house 126 = .ok (.invokevirtual 155, 3) := by decide +kernel
theorem dX10_house_129 : decode cX10_house 129 = .ok (.ifCond .eq 7, 3) := by decide +kernel
theorem dX10_house_132 : decode cX10_house 132 = .ok (.iconst 1, 1) := by decide +kernel
theorem dX10_house_133 : decode cX10_house 133 = .ok (.goto 4, 3) := by decide +kernel
theorem dX10_house_136 : decode cX10_house 136 = .ok (.iconst 0, 1) := by decide +kernel
theorem dX10_house_137 : decode cX10_house 137 = .ok (.invokevirtual 109, 3) := by decide +kernel
theorem dX10_house_140 : decode cX10_house 140 = .ok (.ireturn, 1) := by decide +kernel
theorem dX10_house_141 : decode cX10_house 141 = .ok (.aload_n 0, 1) := by decide +kernel
theorem dX10_house_142 : decode cX10_house 142 = .ok (.iconst 1, 1) := by decide +kernel
theorem dX10_house_143 : decode cX10_house 143 = .ok (.invokevirtual 73, 3) := by decide +kernel
theorem dX10_house_146 : decode cX10_house 146 = .ok (.ireturn, 1) := by decide +kernel
theorem dX10_noHouse_0 : decode cX10_noHouse 0 = .ok (.iload_n 1, 1) := by decide +kernel
theorem dX10_noHouse_1 : decode cX10_noHouse 1 = .ok (.ifCond .lt 14, 3) := by decide +kernel
theorem dX10_noHouse_4 : decode cX10_noHouse 4 = .ok (.iload_n 1, 1) := by decide +kernel
theorem dX10_noHouse_5 : decode cX10_noHouse 5 = .ok (.aload_n 0, 1) := by decide +kernel
theorem dX10_noHouse_6 : decode cX10_noHouse 6 = .ok (.getfield 10, 3) := by decide +kernel
theorem dX10_noHouse_9 : decode cX10_noHouse 9 = .ok (.getfield 203, 3) := by decide +kernel
theorem dX10_noHouse_12 : decode cX10_noHouse 12 = .ok (.if_icmp .lt 7, 3) := by decide +kernel
theorem dX10_noHouse_15 : decode cX10_noHouse 15 = .ok (.iconst 1, 1) := by decide +kernel
theorem dX10_noHouse_16 : decode cX10_noHouse 16 = .ok (.goto 4, 3) := by decide +kernel
theorem dX10_noHouse_19 : decode cX10_noHouse 19 = .ok (.iconst 0, 1) := by decide +kernel
theorem dX10_noHouse_20 : decode cX10_noHouse 20 = .ok (.ireturn, 1) := by decide +kernel
theorem dX10_hasSense_0 : decode cX10_hasSense 0 = .ok (.aload_n 0, 1) := by decide +kernel
theorem dX10_hasSense_1 : decode cX10_hasSense 1 = .ok (.getfield 26, 3) := by decide +kernel
theorem dX10_hasSense_4 : decode cX10_hasSense 4 = .ok (.aload_n 0, 1) := by decide +kernel
theorem dX10_hasSense_5 : decode cX10_hasSense 5 = .ok (.getfield 61, 3) := by decide +kernel
theorem dX10_hasSense_8 : decode cX10_hasSense 8 = .ok (.iload_n 1, 1) := by decide +kernel
theorem dX10_hasSense_9 : decode cX10_hasSense 9 = .ok (.invokevirtual 149, 3) := by decide +kernel
theorem dX10_hasSense_12 : decode cX10_hasSense 12 = .ok (.invokevirtual 212, 3) := by decide +kernel
theorem dX10_hasSense_15 : decode cX10_hasSense 15 = .ok (.ireturn, 1) := by decide +kernel
theorem dX7_makeSense_0 : decode cX7_makeSense 0 = .ok (.aload_n 0, 1) := by decide +kernel
theorem dX7_makeSense_1 : decode cX7_makeSense 1 = .ok (.iload_n 1, 1) := by decide +kernel
theorem dX7_makeSense_2 : decode cX7_makeSense 2 = .ok (.iconst 0, 1) := by decide +kernel
theorem dX7_makeSense_3 : decode cX7_makeSense 3 = .ok (.invokevirtual 54, 3) := by decide +kernel
theorem dX7_makeSense_6 : decode cX7_makeSense 6 = .ok (.iconst (-1), 1) := by decide +kernel
theorem dX7_makeSense_7 : decode cX7_makeSense 7 = .ok (.if_icmp .eq 7, 3) := by decide +kernel
theorem dX7_makeSense_10 : decode cX7_makeSense 10 = .ok (.iconst 1, 1) := by decide +kernel
theorem dX7_makeSense_11 : decode cX7_makeSense 11 = .ok (.goto 4, 3) := by decide +kernel
theorem dX7_makeSense_14 : decode cX7_makeSense 14 = .ok (.iconst 0, 1) := by decide +kernel
theorem dX7_makeSense_15 : decode cX7_makeSense 15 = .ok (.ireturn, 1) := by decide +kernel
theorem dX7_find_0 : decode cX7_find 0 = .ok (.iconst 0, 1) := by decide +kernel
theorem dX7_find_1 : decode cX7_find 1 = .ok (.istore_n 3, 1) := by decide +kernel
theorem dX7_find_2 : decode cX7_find 2 = .ok (.iconst 0, 1) := by decide +kernel
theorem dX7_find_3 : decode cX7_find 3 = .ok (.istore 4, 2) := by decide +kernel
theorem dX7_find_5 : decode cX7_find 5 = .ok (.iload 4, 2) := by decide +kernel
theorem dX7_find_7 : decode cX7_find 7 = .ok (.aload_n 0, 1) := by decide +kernel
theorem dX7_find_8 : decode cX7_find 8 = .ok (.getfield 18, 3) := by decide +kernel
theorem dX7_find_11 : decode cX7_find 11 = .ok (.if_icmp .ge 30, 3) := by decide +kernel
theorem dX7_find_14 : decode cX7_find 14 = .ok (.aload_n 0, 1) := by decide +kernel
theorem dX7_find_15 : decode cX7_find 15 = .ok (.iload 4, 2) := by decide +kernel
theorem dX7_find_17 : decode cX7_find 17 = .ok (.iload_n 1, 1) := by decide +kernel
theorem dX7_find_18 : decode cX7_find 18 = .ok (.invokevirtual 58, 3) := by decide +kernel
theorem dX7_find_21 : decode cX7_find 21 = .ok (.ifCond .eq 14, 3) := by decide +kernel
theorem dX7_find_24 : decode cX7_find 24 = .ok (.iload_n 3, 1) := by decide +kernel
theorem dX7_find_25 : decode cX7_find 25 = .ok (.iload_n 2, 1) := by decide +kernel
theorem dX7_find_26 : decode cX7_find 26 = .ok (.if_icmp .ne 6, 3) := by decide +kernel
theorem dX7_find_29 : decode cX7_find 29 = .ok (.iload 4, 2) := by decide +kernel
theorem dX7_find_31 : decode cX7_find 31 = .ok (.ireturn, 1) := by decide +kernel
theorem dX7_find_32 : decode cX7_find 32 = .ok (.iinc 3 1, 3) := by decide +kernel
theorem dX7_find_35 : decode cX7_find 35 = .ok (.iinc 4 1, 3) := by decide +kernel
theorem dX7_find_38 : decode cX7_find 38 = .ok (.goto (-33), 3) := by decide +kernel
theorem dX7_find_41 : decode cX7_find 41 = .ok (.iconst (-1), 1) := by decide +kernel
theorem dX7_find_42 : decode cX7_find 42 = .ok (.ireturn, 1) := by decide +kernel
theorem dX7_isOf_0 : decode cX7_isOf 0 = .ok (.aload_n 0, 1) := by decide +kernel
theorem dX7_isOf_1 : decode cX7_isOf 1 = .ok (.getfield 15, 3) := by decide +kernel
theorem dX7_isOf_4 : decode cX7_isOf 4 = .ok (.iload_n 1, 1) := by decide +kernel
theorem dX7_isOf_5 : decode cX7_isOf 5 = .ok (.iaload, 1) := by decide +kernel
theorem dX7_isOf_6 : decode cX7_isOf 6 = .ok (.iload_n 2, 1) := by decide +kernel
theorem dX7_isOf_7 : decode cX7_isOf 7 = .ok (.iconst (-1), 1) := by decide +kernel
theorem dX7_isOf_8 : decode cX7_isOf 8 = .ok (.ixor, 1) := by decide +kernel
theorem dX7_isOf_9 : decode cX7_isOf 9 = .ok (.iand, 1) := by decide +kernel
theorem dX7_isOf_10 : decode cX7_isOf 10 = .ok (.ifCond .ne 7, 3) := by decide +kernel
theorem dX7_isOf_13 : decode cX7_isOf 13 = .ok (.iconst 1, 1) := by decide +kernel
theorem dX7_isOf_14 : decode cX7_isOf 14 = .ok (.goto 4, 3) := by decide +kernel
theorem dX7_isOf_17 : decode cX7_isOf 17 = .ok (.iconst 0, 1) := by decide +kernel
theorem dX7_isOf_18 : decode cX7_isOf 18 = .ok (.ireturn, 1) := by decide +kernel
theorem dX10_known_0 : decode cX10_known 0 = .ok (.aload_n 0, 1) := by decide +kernel
theorem dX10_known_1 : decode cX10_known 1 = .ok (.getfield 85, 3) := by decide +kernel
theorem dX10_known_4 : decode cX10_known 4 = .ok (.ifCond .eq 20, 3) := by decide +kernel
theorem dX10_known_7 : decode cX10_known 7 = .ok (.aload_n 0, 1) := by decide +kernel
theorem dX10_known_8 : decode cX10_known 8 = .ok (.aload_n 0, 1) := by decide +kernel
theorem dX10_known_9 : decode cX10_known 9 = .ok (.getfield 61, 3) := by decide +kernel
theorem dX10_known_12 : decode cX10_known 12 = .ok (.getfield 158, 3) := by decide +kernel
theorem dX10_known_15 : decode cX10_known 15 = .ok (.invokestatic 162, 3) := by decide +kernel
theorem dX10_known_18 : decode cX10_known 18 = .ok (.invokevirtual 109, 3) := by decide +kernel
theorem dX10_known_21 : decode cX10_known 21 = .ok (.goto 8, 3) := by decide +kernel
theorem dX10_known_24 : decode cX10_known 24 = .ok (.aload_n 0, 1) := by decide +kernel
theorem dX10_known_25 : decode cX10_known 25 = .ok (.iconst 1, 1) := by decide +kernel
theorem dX10_known_26 : decode cX10_known 26 = .ok (.invokevirtual 73, 3) := by decide +kernel
theorem dX10_known_29 : decode cX10_known 29 = .ok (.ireturn, 1) := by decide +kernel
theorem dX10_unionOf_0 : decode cX10_unionOf 0 = .ok (.iconst 0, 1) := by decide +kernel
theorem dX10_unionOf_1 : decode cX10_unionOf 1 = .ok (.istore_n 2, 1) := by decide +kernel
theorem dX10_unionOf_2 : decode cX10_unionOf 2 = .ok (.iconst 0, 1) := by decide +kernel
theorem dX10_unionOf_3 : decode cX10_unionOf 3 = .ok (.istore_n 3, 1) := by decide +kernel
theorem dX10_unionOf_4 : decode cX10_unionOf 4 = .ok (.iload_n 3, 1) := by decide +kernel
theorem dX10_unionOf_5 : decode cX10_unionOf 5 = .ok (.iconst 5, 1) := by decide +kernel
theorem dX10_unionOf_6 : decode cX10_unionOf 6 = .ok (.if_icmp .ge 17, 3) := by decide +kernel
theorem dX10_unionOf_9 : decode cX10_unionOf 9 = .ok (.iload_n 2, 1) := by decide +kernel
theorem dX10_unionOf_10 : decode cX10_unionOf 10 = .ok (.lload_n 0, 1) := by decide +kernel
theorem dX10_unionOf_11 : decode cX10_unionOf 11 = .ok (.iload_n 3, 1) := by decide +kernel
theorem dX10_unionOf_12 : decode cX10_unionOf 12 = .ok (.invokestatic 304, 3) := by decide +kernel
theorem dX10_unionOf_15 : decode cX10_unionOf 15 = .ok (.ior, 1) := by decide +kernel
theorem dX10_unionOf_16 : decode cX10_unionOf 16 = .ok (.istore_n 2, 1) := by decide +kernel
theorem dX10_unionOf_17 : decode cX10_unionOf 17 = .ok (.iinc 3 1, 3) := by decide +kernel
theorem dX10_unionOf_20 : decode cX10_unionOf 20 = .ok (.goto (-16), 3) := by decide +kernel
theorem dX10_unionOf_23 : decode cX10_unionOf 23 = .ok (.iload_n 2, 1) := by decide +kernel
theorem dX10_unionOf_24 : decode cX10_unionOf 24 = .ok (.ireturn, 1) := by decide +kernel
theorem dX10_alone_0 : decode cX10_alone 0 = .ok (.aload_n 0, 1) := by decide +kernel
theorem dX10_alone_1 : decode cX10_alone 1 = .ok (.iload_n 1, 1) := by decide +kernel
theorem dX10_alone_2 : decode cX10_alone 2 = .ok (.invokevirtual 137, 3) := by decide +kernel
theorem dX10_alone_5 : decode cX10_alone 5 = .ok (.ifCond .eq 9, 3) := by decide +kernel
theorem dX10_alone_8 : decode cX10_alone 8 = .ok (.aload_n 0, 1) := by decide +kernel
theorem dX10_alone_9 : decode cX10_alone 9 = .ok (.iconst 1, 1) := by decide +kernel
theorem dX10_alone_10 : decode cX10_alone 10 = .ok (.invokevirtual 73, 3) := by decide +kernel
theorem dX10_alone_13 : decode cX10_alone 13 = .ok (.ireturn, 1) := by decide +kernel
theorem dX10_alone_14 : decode cX10_alone 14 = .ok (.aload_n 0, 1) := by decide +kernel
theorem dX10_alone_15 : decode cX10_alone 15 = .ok (.getfield 61, 3) := by decide +kernel
theorem dX10_alone_18 : decode cX10_alone 18 = .ok (.getfield 158, 3) := by decide +kernel
theorem dX10_alone_21 : decode cX10_alone 21 = .ok (.ldc2_w 166, 3) := by decide +kernel
theorem dX10_alone_24 : decode cX10_alone 24 = .ok (.bipush 8, 2) := by decide +kernel
theorem dX10_alone_26 : decode cX10_alone 26 = .ok (.iload_n 1, 1) := by decide +kernel
theorem dX10_alone_27 : decode cX10_alone 27 = .ok (.imul, 1) := by decide +kernel
theorem dX10_alone_28 : decode cX10_alone 28 = .ok (.lshl, 1) := by decide +kernel
theorem dX10_alone_29 : decode cX10_alone 29 = .ok (.ldc2_w 168, 3) := by decide +kernel
theorem dX10_alone_32 : decode cX10_alone 32 = .ok (.lxor, 1) := by decide +kernel
theorem dX10_alone_33 : decode cX10_alone 33 = .ok (.land, 1) := by decide +kernel
theorem dX10_alone_34 : decode cX10_alone 34 = .ok (.invokestatic 162, 3) := by decide +kernel
theorem dX10_alone_37 : decode cX10_alone 37 = .ok (.istore_n 2, 1) := by decide +kernel
theorem dX10_alone_38 : decode cX10_alone 38 = .ok (.aload_n 0, 1) := by decide +kernel
theorem dX10_alone_39 : decode cX10_alone 39 = .ok (.aload_n 0, 1) := by decide +kernel
theorem dX10_alone_40 : decode cX10_alone 40 = .ok (.getfield 61, 3) := by decide +kernel
theorem dX10_alone_43 : decode cX10_alone 43 = .ok (.iload_n 1, 1) := by decide +kernel
theorem dX10_alone_44 : decode cX10_alone 44 = .ok (.invokevirtual 149, 3) := by decide +kernel
theorem dX10_alone_47 : decode cX10_alone 47 = .ok (.iload_n 2, 1) := by decide +kernel
theorem dX10_alone_48 : decode cX10_alone 48 = .ok (.iconst (-1), 1) := by decide +kernel
theorem dX10_alone_49 : decode cX10_alone 49 = .ok (.ixor, 1) := by decide +kernel
theorem dX10_alone_50 : decode cX10_alone 50 = .ok (.iand, 1) := by decide +kernel
theorem dX10_alone_51 : decode cX10_alone 51 = .ok (.invokevirtual 109, 3) := by decide +kernel
theorem dX10_alone_54 : decode cX10_alone 54 = .ok (.ireturn, 1) := by decide +kernel
theorem dX10_tales_0 : decode cX10_tales 0 = .ok (.aload_n 0, 1) := by decide +kernel
theorem dX10_tales_1 : decode cX10_tales 1 = .ok (.iload_n 1, 1) := by decide +kernel
theorem dX10_tales_2 : decode cX10_tales 2 = .ok (.invokevirtual 170, 3) := by decide +kernel
theorem dX10_tales_5 : decode cX10_tales 5 = .ok (.ifCond .eq 11, 3) := by decide +kernel
theorem dX10_tales_8 : decode cX10_tales 8 = .ok (.aload_n 0, 1) := by decide +kernel
theorem dX10_tales_9 : decode cX10_tales 9 = .ok (.iconst 1, 1) := by decide +kernel
theorem dX10_tales_10 : decode cX10_tales 10 = .ok (.invokevirtual 73, 3) := by decide +kernel
theorem dX10_tales_13 : decode cX10_tales 13 = .ok (.goto 15, 3) := by decide +kernel
theorem dX10_tales_16 : decode cX10_tales 16 = .ok (.aload_n 0, 1) := by decide +kernel
theorem dX10_tales_17 : decode cX10_tales 17 = .ok (.aload_n 0, 1) := by decide +kernel
theorem dX10_tales_18 : decode cX10_tales 18 = .ok (.getfield 26, 3) := by decide +kernel
theorem dX10_tales_21 : decode cX10_tales 21 = .ok (.iload_n 1, 1) := by decide +kernel
theorem dX10_tales_22 : decode cX10_tales 22 = .ok (.invokevirtual 173, 3) := by decide +kernel
theorem dX10_tales_25 : decode cX10_tales 25 = .ok (.invokevirtual 109, 3) := by decide +kernel
theorem dX10_tales_28 : decode cX10_tales 28 = .ok (.ireturn, 1) := by decide +kernel
theorem dX10_noPieces_0 : decode cX10_noPieces 0 = .ok (.aload_n 0, 1) := by decide +kernel
theorem dX10_noPieces_1 : decode cX10_noPieces 1 = .ok (.getfield 85, 3) := by decide +kernel
theorem dX10_noPieces_4 : decode cX10_noPieces 4 = .ok (.ifCond .eq 18, 3) := by decide +kernel
theorem dX10_noPieces_7 : decode cX10_noPieces 7 = .ok (.iload_n 1, 1) := by decide +kernel
theorem dX10_noPieces_8 : decode cX10_noPieces 8 = .ok (.ifCond .lt 14, 3) := by decide +kernel
theorem dX10_noPieces_11 : decode cX10_noPieces 11 = .ok (.iload_n 1, 1) := by decide +kernel
theorem dX10_noPieces_12 : decode cX10_noPieces 12 = .ok (.aload_n 0, 1) := by decide +kernel
theorem dX10_noPieces_13 : decode cX10_noPieces 13 = .ok (.getfield 10, 3) := by decide +kernel
theorem dX10_noPieces_16 : decode cX10_noPieces 16 = .ok (.invokevirtual 367, 3) := by decide +kernel
theorem dX10_noPieces_19 : decode cX10_noPieces 19 = .ok (.if_icmp .le 7, 3) := by decide +kernel
theorem dX10_noPieces_22 : decode cX10_noPieces 22 = .ok (.iconst 1, 1) := by decide +kernel
theorem dX10_noPieces_23 : decode cX10_noPieces 23 = .ok (.goto 4, 3) := by decide +kernel
theorem dX10_noPieces_26 : decode cX10_noPieces 26 = .ok (.iconst 0, 1) := by decide +kernel
theorem dX10_noPieces_27 : decode cX10_noPieces 27 = .ok (.ireturn, 1) := by decide +kernel
theorem dX8_allPieces_0 : decode cX8_allPieces 0 = .ok (.iconst 1, 1) := by decide +kernel
theorem dX8_allPieces_1 : decode cX8_allPieces 1 = .ok (.aload_n 0, 1) := by decide +kernel
theorem dX8_allPieces_2 : decode cX8_allPieces 2 = .ok (.getfield 40, 3) := by decide +kernel
theorem dX8_allPieces_5 : decode cX8_allPieces 5 = .ok (.ishl, 1) := by decide +kernel
theorem dX8_allPieces_6 : decode cX8_allPieces 6 = .ok (.iconst 1, 1) := by decide +kernel
theorem dX8_allPieces_7 : decode cX8_allPieces 7 = .ok (.isub, 1) := by decide +kernel
theorem dX8_allPieces_8 : decode cX8_allPieces 8 = .ok (.ireturn, 1) := by decide +kernel
theorem dX7_countOf_0 : decode cX7_countOf 0 = .ok (.iconst 0, 1) := by decide +kernel
theorem dX7_countOf_1 : decode cX7_countOf 1 = .ok (.istore_n 2, 1) := by decide +kernel
theorem dX7_countOf_2 : decode cX7_countOf 2 = .ok (.iconst 0, 1) := by decide +kernel
theorem dX7_countOf_3 : decode cX7_countOf 3 = .ok (.istore_n 3, 1) := by decide +kernel
theorem dX7_countOf_4 : decode cX7_countOf 4 = .ok (.iload_n 3, 1) := by decide +kernel
theorem dX7_countOf_5 : decode cX7_countOf 5 = .ok (.aload_n 0, 1) := by decide +kernel
theorem dX7_countOf_6 : decode cX7_countOf 6 = .ok (.getfield 18, 3) := by decide +kernel
theorem dX7_countOf_9 : decode cX7_countOf 9 = .ok (.if_icmp .ge 21, 3) := by decide +kernel
theorem dX7_countOf_12 : decode cX7_countOf 12 = .ok (.aload_n 0, 1) := by decide +kernel
theorem dX7_countOf_13 : decode cX7_countOf 13 = .ok (.iload_n 3, 1) := by decide +kernel
theorem dX7_countOf_14 : decode cX7_countOf 14 = .ok (.iload_n 1, 1) := by decide +kernel
theorem dX7_countOf_15 : decode cX7_countOf 15 = .ok (.invokevirtual 58, 3) := by decide +kernel
theorem dX7_countOf_18 : decode cX7_countOf 18 = .ok (.ifCond .eq 6, 3) := by decide +kernel
theorem dX7_countOf_21 : decode cX7_countOf 21 = .ok (.iinc 2 1, 3) := by decide +kernel
theorem dX7_countOf_24 : decode cX7_countOf 24 = .ok (.iinc 3 1, 3) := by decide +kernel
theorem dX7_countOf_27 : decode cX7_countOf 27 = .ok (.goto (-23), 3) := by decide +kernel
theorem dX7_countOf_30 : decode cX7_countOf 30 = .ok (.iload_n 2, 1) := by decide +kernel
theorem dX7_countOf_31 : decode cX7_countOf 31 = .ok (.ireturn, 1) := by decide +kernel
theorem dX10_longest_0 : decode cX10_longest 0 = .ok (.aload_n 0, 1) := by decide +kernel
theorem dX10_longest_1 : decode cX10_longest 1 = .ok (.iload_n 1, 1) := by decide +kernel
theorem dX10_longest_2 : decode cX10_longest 2 = .ok (.invokevirtual 170, 3) := by decide +kernel
theorem dX10_longest_5 : decode cX10_longest 5 = .ok (.ifCond .eq 9, 3) := by decide +kernel
theorem dX10_longest_8 : decode cX10_longest 8 = .ok (.aload_n 0, 1) := by decide +kernel
theorem dX10_longest_9 : decode cX10_longest 9 = .ok (.iconst 1, 1) := by decide +kernel
theorem dX10_longest_10 : decode cX10_longest 10 = .ok (.invokevirtual 73, 3) := by decide +kernel
theorem dX10_longest_13 : decode cX10_longest 13 = .ok (.ireturn, 1) := by decide +kernel
theorem dX10_longest_14 : decode cX10_longest 14 = .ok (.aload_n 0, 1) := by decide +kernel
theorem dX10_longest_15 : decode cX10_longest 15 = .ok (.getfield 26, 3) := by decide +kernel
theorem dX10_longest_18 : decode cX10_longest 18 = .ok (.iload_n 1, 1) := by decide +kernel
theorem dX10_longest_19 : decode cX10_longest 19 = .ok (.invokevirtual 176, 3) := by decide +kernel
theorem dX10_longest_22 : decode cX10_longest 22 = .ok (.istore_n 2, 1) := by decide +kernel
theorem dX10_longest_23 : decode cX10_longest 23 = .ok (.aload_n 0, 1) := by decide +kernel
theorem dX10_longest_24 : decode cX10_longest 24 = .ok (.iload_n 2, 1) := by decide +kernel
theorem dX10_longest_25 : decode cX10_longest 25 = .ok (.iconst (-1), 1) := by decide +kernel
theorem dX10_longest_26 : decode cX10_longest 26 = .ok (.if_icmp .ne 8, 3) := by decide +kernel
theorem dX10_longest_29 : decode cX10_longest 29 = .ok (.bipush (-2), 2) := by decide +kernel
theorem dX10_longest_31 : decode cX10_longest 31 = .ok (.goto 11, 3) := by decide +kernel
theorem dX10_longest_34 : decode cX10_longest 34 = .ok (.aload_n 0, 1) := by decide +kernel
theorem dX10_longest_35 : decode cX10_longest 35 = .ok (.getfield 26, 3) := by decide +kernel
theorem dX10_longest_38 : decode cX10_longest 38 = .ok (.iload_n 2, 1) := by decide +kernel
theorem dX10_longest_39 : decode cX10_longest 39 = .ok (.invokevirtual 179, 3) := by decide +kernel
theorem dX10_longest_42 : decode cX10_longest 42 = .ok (.invokevirtual 109, 3) := by decide +kernel
theorem dX10_longest_45 : decode cX10_longest 45 = .ok (.ireturn, 1) := by decide +kernel
theorem dX7_longestOf_0 : decode cX7_longestOf 0 = .ok (.iconst (-1), 1) := by decide +kernel
theorem dX7_longestOf_1 : decode cX7_longestOf 1 = .ok (.istore_n 2, 1) := by decide +kernel
theorem dX7_longestOf_2 : decode cX7_longestOf 2 = .ok (.iconst 0, 1) := by decide +kernel
theorem dX7_longestOf_3 : decode cX7_longestOf 3 = .ok (.istore_n 3, 1) := by decide +kernel
theorem dX7_longestOf_4 : decode cX7_longestOf 4 = .ok (.iconst 0, 1) := by decide +kernel
theorem dX7_longestOf_5 : decode cX7_longestOf 5 = .ok (.istore 4, 2) := by decide +kernel
theorem dX7_longestOf_7 : decode cX7_longestOf 7 = .ok (.iload 4, 2) := by decide +kernel
theorem dX7_longestOf_9 : decode cX7_longestOf 9 = .ok (.aload_n 0, 1) := by decide +kernel
theorem dX7_longestOf_10 : decode cX7_longestOf 10 = .ok (.getfield 18, 3) := by decide +kernel
theorem dX7_longestOf_13 : decode cX7_longestOf 13 = .ok (.if_icmp .ge 39, 3) := by decide +kernel
theorem dX7_longestOf_16 : decode cX7_longestOf 16 = .ok (.aload_n 0, 1) := by decide +kernel
theorem dX7_longestOf_17 : decode cX7_longestOf 17 = .ok (.iload 4, 2) := by decide +kernel
theorem dX7_longestOf_19 : decode cX7_longestOf 19 = .ok (.iload_n 1, 1) := by decide +kernel
theorem dX7_longestOf_20 : decode cX7_longestOf 20 = .ok (.invokevirtual 58, 3) := by decide +kernel
theorem dX7_longestOf_23 : decode cX7_longestOf 23 = .ok (.ifCond .eq 23, 3) := by decide +kernel
theorem dX7_longestOf_26 : decode cX7_longestOf 26 = .ok (.aload_n 0, 1) := by decide +kernel
theorem dX7_longestOf_27 : decode cX7_longestOf 27 = .ok (.iload 4, 2) := by decide +kernel
theorem dX7_longestOf_29 : decode cX7_longestOf 29 = .ok (.invokevirtual 51, 3) := by decide +kernel
theorem dX7_longestOf_32 : decode cX7_longestOf 32 = .ok (.iload_n 3, 1) := by decide +kernel
theorem dX7_longestOf_33 : decode cX7_longestOf 33 = .ok (.if_icmp .le 13, 3) := by decide +kernel
theorem dX7_longestOf_36 : decode cX7_longestOf 36 = .ok (.iload 4, 2) := by decide +kernel
theorem dX7_longestOf_38 : decode cX7_longestOf 38 = .ok (.istore_n 2, 1) := by decide +kernel
theorem dX7_longestOf_39 : decode cX7_longestOf 39 = .ok (.aload_n 0, 1) := by decide +kernel
theorem dX7_longestOf_40 : decode cX7_longestOf 40 = .ok (.iload 4, 2) := by decide +kernel
theorem dX7_longestOf_42 : decode cX7_longestOf 42 = .ok (.invokevirtual 51, 3) := by decide +kernel
theorem dX7_longestOf_45 : decode cX7_longestOf 45 = .ok (.istore_n 3, 1) := by decide +kernel
theorem dX7_longestOf_46 : decode cX7_longestOf 46 = .ok (.iinc 4 1, 3) := by decide +kernel
theorem dX7_longestOf_49 : decode cX7_longestOf 49 = .ok (.goto (-42), 3) := by decide +kernel
theorem dX7_longestOf_52 : decode cX7_longestOf 52 = .ok (.iload_n 2, 1) := by decide +kernel
theorem dX7_longestOf_53 : decode cX7_longestOf 53 = .ok (.ireturn, 1) := by decide +kernel
theorem dX10_longestAt_0 : decode cX10_longestAt 0 = .ok (.aload_n 0, 1) := by decide +kernel
theorem dX10_longestAt_1 : decode cX10_longestAt 1 = .ok (.iload_n 1, 1) := by decide +kernel
theorem dX10_longestAt_2 : decode cX10_longestAt 2 = .ok (.invokevirtual 170, 3) := by decide +kernel
theorem dX10_longestAt_5 : decode cX10_longestAt 5 = .ok (.ifCond .eq 11, 3) := by decide +kernel
theorem dX10_longestAt_8 : decode cX10_longestAt 8 = .ok (.aload_n 0, 1) := by decide +kernel
theorem dX10_longestAt_9 : decode cX10_longestAt 9 = .ok (.iconst 1, 1) := by decide +kernel
theorem dX10_longestAt_10 : decode cX10_longestAt 10 = .ok (.invokevirtual 73, 3) := by decide +kernel
theorem dX10_longestAt_13 : decode cX10_longestAt 13 = .ok (.goto 16, 3) := by decide +kernel
theorem dX10_longestAt_16 : decode cX10_longestAt 16 = .ok (.aload_n 0, 1) := by decide +kernel
theorem dX10_longestAt_17 : decode cX10_longestAt 17 = .ok (.aload_n 0, 1) := by decide +kernel
theorem dX10_longestAt_18 : decode cX10_longestAt 18 = .ok (.getfield 26, 3) := by decide +kernel
theorem dX10_longestAt_21 : decode cX10_longestAt 21 = .ok (.iload_n 1, 1) := by decide +kernel
theorem dX10_longestAt_22 : decode cX10_longestAt 22 = .ok (.invokevirtual 176, 3) := by decide +kernel
theorem dX10_longestAt_25 : decode cX10_longestAt 25 = .ok (.iload_n 2, 1) := by decide +kernel
theorem dX10_longestAt_26 : decode cX10_longestAt 26 = .ok (.invokevirtual 182, 3) := by decide +kernel
theorem dX10_longestAt_29 : decode cX10_longestAt 29 = .ok (.ireturn, 1) := by decide +kernel
theorem dX10_pieceOfTale_0 : decode cX10_pieceOfTale 0 = .ok (.iload_n 1, 1) := by decide +kernel
theorem dX10_pieceOfTale_1 : decode cX10_pieceOfTale 1 = .ok (.iconst (-1), 1) := by decide +kernel
theorem dX10_pieceOfTale_2 : decode cX10_pieceOfTale 2 = .ok (.if_icmp .eq 19, 3) := by decide +kernel
theorem dX10_pieceOfTale_5 : decode cX10_pieceOfTale 5 = .ok (.iload_n 2, 1) := by decide +kernel
theorem dX10_pieceOfTale_6 : decode cX10_pieceOfTale 6 = .ok (.ifCond .lt 15, 3) := by decide +kernel
theorem dX10_pieceOfTale_9 : decode cX10_pieceOfTale 9 = .ok (.iload_n 2, 1) := by decide +kernel
theorem dX10_pieceOfTale_10 : decode cX10_pieceOfTale 10 = .ok (.aload_n 0, 1) := by decide +kernel
theorem dX10_pieceOfTale_11 : decode cX10_pieceOfTale 11 = .ok (.getfield 26, 3) := by decide +kernel
theorem dX10_pieceOfTale_14 : decode cX10_pieceOfTale 14 = .ok (.iload_n 1, 1) := by decide +kernel
theorem dX10_pieceOfTale_15 : decode cX10_pieceOfTale 15 = .ok (.invokevirtual 179, 3) := by decide +kernel
theorem dX10_pieceOfTale_18 : decode cX10_pieceOfTale 18 = .ok (.if_icmp .lt 9, 3) := by decide +kernel
theorem dX10_pieceOfTale_21 : decode cX10_pieceOfTale 21 = .ok (.aload_n 0, 1) := by decide +kernel
theorem dX10_pieceOfTale_22 : decode cX10_pieceOfTale 22 = .ok (.iconst 1, 1) := by decide +kernel
theorem dX10_pieceOfTale_23 : decode cX10_pieceOfTale 23 = .ok (.invokevirtual 73, 3) := by decide +kernel
theorem dX10_pieceOfTale_26 : decode cX10_pieceOfTale 26 = .ok (.ireturn, 1) := by decide +kernel
theorem dX10_pieceOfTale_27 : decode cX10_pieceOfTale 27 = .ok (.aload_n 0, 1) := by decide +kernel
theorem dX10_pieceOfTale_28 : decode cX10_pieceOfTale 28 = .ok (.aload_n 0, 1) := by decide +kernel
theorem dX10_pieceOfTale_29 : decode cX10_pieceOfTale 29 = .ok (.getfield 26, 3) := by decide +kernel
theorem dX10_pieceOfTale_32 : decode cX10_pieceOfTale 32 = .ok (.iload_n 1, 1) := by decide +kernel
theorem dX10_pieceOfTale_33 : decode cX10_pieceOfTale 33 = .ok (.iload_n 2, 1) := by decide +kernel
theorem dX10_pieceOfTale_34 : decode cX10_pieceOfTale 34 = .ok (.invokevirtual 370, 3) := by decide +kernel
theorem dX10_pieceOfTale_37 : decode cX10_pieceOfTale 37 = .ok (.invokevirtual 109, 3) := by decide +kernel
theorem dX10_pieceOfTale_40 : decode cX10_pieceOfTale 40 = .ok (.ireturn, 1) := by decide +kernel
theorem dX10_taleAt_0 : decode cX10_taleAt 0 = .ok (.aload_n 0, 1) := by decide +kernel
theorem dX10_taleAt_1 : decode cX10_taleAt 1 = .ok (.iload_n 1, 1) := by decide +kernel
theorem dX10_taleAt_2 : decode cX10_taleAt 2 = .ok (.invokevirtual 170, 3) := by decide +kernel
theorem dX10_taleAt_5 : decode cX10_taleAt 5 = .ok (.ifCond .eq 11, 3) := by decide +kernel
theorem dX10_taleAt_8 : decode cX10_taleAt 8 = .ok (.aload_n 0, 1) := by decide +kernel
theorem dX10_taleAt_9 : decode cX10_taleAt 9 = .ok (.iconst 1, 1) := by decide +kernel
theorem dX10_taleAt_10 : decode cX10_taleAt 10 = .ok (.invokevirtual 73, 3) := by decide +kernel
theorem dX10_taleAt_13 : decode cX10_taleAt 13 = .ok (.goto 17, 3) := by decide +kernel
theorem dX10_taleAt_16 : decode cX10_taleAt 16 = .ok (.aload_n 0, 1) := by decide +kernel
theorem dX10_taleAt_17 : decode cX10_taleAt 17 = .ok (.aload_n 0, 1) := by decide +kernel
theorem dX10_taleAt_18 : decode cX10_taleAt 18 = .ok (.getfield 26, 3) := by decide +kernel
theorem dX10_taleAt_21 : decode cX10_taleAt 21 = .ok (.iload_n 1, 1) := by decide +kernel
theorem dX10_taleAt_22 : decode cX10_taleAt 22 = .ok (.iload_n 2, 1) := by decide +kernel
theorem dX10_taleAt_23 : decode cX10_taleAt 23 = .ok (.invokevirtual 186, 3) := by decide +kernel
theorem dX10_taleAt_26 : decode cX10_taleAt 26 = .ok (.iload_n 3, 1) := by decide +kernel
theorem dX10_taleAt_27 : decode cX10_taleAt 27 = .ok (.invokevirtual 182, 3) := by decide +kernel
theorem dX10_taleAt_30 : decode cX10_taleAt 30 = .ok (.ireturn, 1) := by decide +kernel
theorem dX10_used_0 : decode cX10_used 0 = .ok (.aload_n 0, 1) := by decide +kernel
theorem dX10_used_1 : decode cX10_used 1 = .ok (.iload_n 1, 1) := by decide +kernel
theorem dX10_used_2 : decode cX10_used 2 = .ok (.invokevirtual 170, 3) := by decide +kernel
theorem dX10_used_5 : decode cX10_used 5 = .ok (.ifCond .eq 11, 3) := by decide +kernel
theorem dX10_used_8 : decode cX10_used 8 = .ok (.aload_n 0, 1) := by decide +kernel
theorem dX10_used_9 : decode cX10_used 9 = .ok (.iconst 1, 1) := by decide +kernel
theorem dX10_used_10 : decode cX10_used 10 = .ok (.invokevirtual 73, 3) := by decide +kernel
theorem dX10_used_13 : decode cX10_used 13 = .ok (.goto 15, 3) := by decide +kernel
theorem dX10_used_16 : decode cX10_used 16 = .ok (.aload_n 0, 1) := by decide +kernel
theorem dX10_used_17 : decode cX10_used 17 = .ok (.aload_n 0, 1) := by decide +kernel
theorem dX10_used_18 : decode cX10_used 18 = .ok (.getfield 26, 3) := by decide +kernel
theorem dX10_used_21 : decode cX10_used 21 = .ok (.iload_n 1, 1) := by decide +kernel
theorem dX10_used_22 : decode cX10_used 22 = .ok (.invokevirtual 189, 3) := by decide +kernel
theorem dX10_used_25 : decode cX10_used 25 = .ok (.invokevirtual 109, 3) := by decide +kernel
theorem dX10_used_28 : decode cX10_used 28 = .ok (.ireturn, 1) := by decide +kernel
theorem dX7_inSome_0 : decode cX7_inSome 0 = .ok (.iconst 0, 1) := by decide +kernel
theorem dX7_inSome_1 : decode cX7_inSome 1 = .ok (.istore_n 2, 1) := by decide +kernel
theorem dX7_inSome_2 : decode cX7_inSome 2 = .ok (.iconst 0, 1) := by decide +kernel
theorem dX7_inSome_3 : decode cX7_inSome 3 = .ok (.istore_n 3, 1) := by decide +kernel
theorem dX7_inSome_4 : decode cX7_inSome 4 = .ok (.iload_n 3, 1) := by decide +kernel
theorem dX7_inSome_5 : decode cX7_inSome 5 = .ok (.aload_n 0, 1) := by decide +kernel
theorem dX7_inSome_6 : decode cX7_inSome 6 = .ok (.getfield 18, 3) := by decide +kernel
theorem dX7_inSome_9 : decode cX7_inSome 9 = .ok (.if_icmp .ge 27, 3) := by decide +kernel
theorem dX7_inSome_12 : decode cX7_inSome 12 = .ok (.aload_n 0, 1) := by decide +kernel
theorem dX7_inSome_13 : decode cX7_inSome 13 = .ok (.iload_n 3, 1) := by decide +kernel
theorem dX7_inSome_14 : decode cX7_inSome 14 = .ok (.iload_n 1, 1) := by decide +kernel
theorem dX7_inSome_15 : decode cX7_inSome 15 = .ok (.invokevirtual 58, 3) := by decide +kernel
theorem dX7_inSome_18 : decode cX7_inSome 18 = .ok (.ifCond .eq 12, 3) := by decide +kernel
theorem dX7_inSome_21 : decode cX7_inSome 21 = .ok (.iload_n 2, 1) := by decide +kernel
theorem dX7_inSome_22 : decode cX7_inSome 22 = .ok (.aload_n 0, 1) := by decide +kernel
theorem dX7_inSome_23 : decode cX7_inSome 23 = .ok (.getfield 15, 3) := by decide +kernel
theorem dX7_inSome_26 : decode cX7_inSome 26 = .ok (.iload_n 3, 1) := by decide +kernel
theorem dX7_inSome_27 : decode cX7_inSome 27 = .ok (.iaload, 1) := by decide +kernel
theorem dX7_inSome_28 : decode cX7_inSome 28 = .ok (.ior, 1) := by decide +kernel
theorem dX7_inSome_29 : decode cX7_inSome 29 = .ok (.istore_n 2, 1) := by decide +kernel
theorem dX7_inSome_30 : decode cX7_inSome 30 = .ok (.iinc 3 1, 3) := by decide +kernel
theorem dX7_inSome_33 : decode cX7_inSome 33 = .ok (.goto (-29), 3) := by decide +kernel
theorem dX7_inSome_36 : decode cX7_inSome 36 = .ok (.iload_n 2, 1) := by decide +kernel
theorem dX7_inSome_37 : decode cX7_inSome 37 = .ok (.ireturn, 1) := by decide +kernel
theorem dX10_needed_0 : decode cX10_needed 0 = .ok (.aload_n 0, 1) := by decide +kernel
theorem dX10_needed_1 : decode cX10_needed 1 = .ok (.iload_n 1, 1) := by decide +kernel
theorem dX10_needed_2 : decode cX10_needed 2 = .ok (.invokevirtual 170, 3) := by decide +kernel
theorem dX10_needed_5 : decode cX10_needed 5 = .ok (.ifCond .eq 11, 3) := by decide +kernel
theorem dX10_needed_8 : decode cX10_needed 8 = .ok (.aload_n 0, 1) := by decide +kernel
theorem dX10_needed_9 : decode cX10_needed 9 = .ok (.iconst 1, 1) := by decide +kernel
theorem dX10_needed_10 : decode cX10_needed 10 = .ok (.invokevirtual 73, 3) := by decide +kernel
theorem dX10_needed_13 : decode cX10_needed 13 = .ok (.goto 15, 3) := by decide +kernel
theorem dX10_needed_16 : decode cX10_needed 16 = .ok (.aload_n 0, 1) := by decide +kernel
theorem dX10_needed_17 : decode cX10_needed 17 = .ok (.aload_n 0, 1) := by decide +kernel
theorem dX10_needed_18 : decode cX10_needed 18 = .ok (.getfield 26, 3) := by decide +kernel
theorem dX10_needed_21 : decode cX10_needed 21 = .ok (.iload_n 1, 1) := by decide +kernel
theorem dX10_needed_22 : decode cX10_needed 22 = .ok (.invokevirtual 192, 3) := by decide +kernel
theorem dX10_needed_25 : decode cX10_needed 25 = .ok (.invokevirtual 109, 3) := by decide +kernel
theorem dX10_needed_28 : decode cX10_needed 28 = .ok (.ireturn, 1) := by decide +kernel
theorem dX7_inAll_0 : decode cX7_inAll 0 = .ok (.aload_n 0, 1) := by decide +kernel
theorem dX7_inAll_1 : decode cX7_inAll 1 = .ok (.iload_n 1, 1) := by decide +kernel
theorem dX7_inAll_2 : decode cX7_inAll 2 = .ok (.invokevirtual 61, 3) := by decide +kernel
theorem dX7_inAll_5 : decode cX7_inAll 5 = .ok (.istore_n 2, 1) := by decide +kernel
theorem dX7_inAll_6 : decode cX7_inAll 6 = .ok (.iconst 0, 1) := by decide +kernel
theorem dX7_inAll_7 : decode cX7_inAll 7 = .ok (.istore_n 3, 1) := by decide +kernel
theorem dX7_inAll_8 : decode cX7_inAll 8 = .ok (.iload_n 3, 1) := by decide +kernel
theorem dX7_inAll_9 : decode cX7_inAll 9 = .ok (.aload_n 0, 1) := by decide +kernel
theorem dX7_inAll_10 : decode cX7_inAll 10 = .ok (.getfield 18, 3) := by decide +kernel
theorem dX7_inAll_13 : decode cX7_inAll 13 = .ok (.if_icmp .ge 27, 3) := by decide +kernel
theorem dX7_inAll_16 : decode cX7_inAll 16 = .ok (.aload_n 0, 1) := by decide +kernel
theorem dX7_inAll_17 : decode cX7_inAll 17 = .ok (.iload_n 3, 1) := by decide +kernel
theorem dX7_inAll_18 : decode cX7_inAll 18 = .ok (.iload_n 1, 1) := by decide +kernel
theorem dX7_inAll_19 : decode cX7_inAll 19 = .ok (.invokevirtual 58, 3) := by decide +kernel
theorem dX7_inAll_22 : decode cX7_inAll 22 = .ok (.ifCond .eq 12, 3) := by decide +kernel
theorem dX7_inAll_25 : decode cX7_inAll 25 = .ok (.iload_n 2, 1) := by decide +kernel
theorem dX7_inAll_26 : decode cX7_inAll 26 = .ok (.aload_n 0, 1) := by decide +kernel
theorem dX7_inAll_27 : decode cX7_inAll 27 = .ok (.getfield 15, 3) := by decide +kernel
theorem dX7_inAll_30 : decode cX7_inAll 30 = .ok (.iload_n 3, 1) := by decide +kernel
theorem dX7_inAll_31 : decode cX7_inAll 31 = .ok (.iaload, 1) := by decide +kernel
theorem dX7_inAll_32 : decode cX7_inAll 32 = .ok (.iand, 1) := by decide +kernel
theorem dX7_inAll_33 : decode cX7_inAll 33 = .ok (.istore_n 2, 1) := by decide +kernel
theorem dX7_inAll_34 : decode cX7_inAll 34 = .ok (.iinc 3 1, 3) := by decide +kernel
theorem dX7_inAll_37 : decode cX7_inAll 37 = .ok (.goto (-29), 3) := by decide +kernel
theorem dX7_inAll_40 : decode cX7_inAll 40 = .ok (.iload_n 2, 1) := by decide +kernel
theorem dX7_inAll_41 : decode cX7_inAll 41 = .ok (.ireturn, 1) := by decide +kernel
theorem dX10_leftOver_0 : decode cX10_leftOver 0 = .ok (.aload_n 0, 1) := by decide +kernel
theorem dX10_leftOver_1 : decode cX10_leftOver 1 = .ok (.iload_n 1, 1) := by decide +kernel
theorem dX10_leftOver_2 : decode cX10_leftOver 2 = .ok (.invokevirtual 170, 3) := by decide +kernel
theorem dX10_leftOver_5 : decode cX10_leftOver 5 = .ok (.ifCond .eq 9, 3) := by decide +kernel
theorem dX10_leftOver_8 : decode cX10_leftOver 8 = .ok (.aload_n 0, 1) := by decide +kernel
theorem dX10_leftOver_9 : decode cX10_leftOver 9 = .ok (.iconst 1, 1) := by decide +kernel
theorem dX10_leftOver_10 : decode cX10_leftOver 10 = .ok (.invokevirtual 73, 3) := by decide +kernel
theorem dX10_leftOver_13 : decode cX10_leftOver 13 = .ok (.ireturn, 1) := by decide +kernel
theorem dX10_leftOver_14 : decode cX10_leftOver 14 = .ok (.aload_n 0, 1) := by decide +kernel
theorem dX10_leftOver_15 : decode cX10_leftOver 15 = .ok (.getfield 26, 3) := by decide +kernel
theorem dX10_leftOver_18 : decode cX10_leftOver 18 = .ok (.iload_n 1, 1) := by decide +kernel
theorem dX10_leftOver_19 : decode cX10_leftOver 19 = .ok (.invokevirtual 176, 3) := by decide +kernel
theorem dX10_leftOver_22 : decode cX10_leftOver 22 = .ok (.istore_n 2, 1) := by decide +kernel
theorem dX10_leftOver_23 : decode cX10_leftOver 23 = .ok (.aload_n 0, 1) := by decide +kernel
theorem dX10_leftOver_24 : decode cX10_leftOver 24 = .ok (.iload_n 1, 1) := by decide +kernel
theorem dX10_leftOver_25 : decode cX10_leftOver 25 = .ok (.invokestatic 195, 3) := by decide +kernel
theorem dX10_leftOver_28 : decode cX10_leftOver 28 = .ok (.iload_n 2, 1) := by decide +kernel
theorem dX10_leftOver_29 : decode cX10_leftOver 29 = .ok (.iconst (-1), 1) := by decide +kernel
theorem dX10_leftOver_30 : decode cX10_leftOver 30 = .ok (.if_icmp .ne 7, 3) := by decide +kernel
theorem dX10_leftOver_33 : decode cX10_leftOver 33 = .ok (.iconst 0, 1) := by decide +kernel
theorem dX10_leftOver_34 : decode cX10_leftOver 34 = .ok (.goto 11, 3) := by decide +kernel
theorem dX10_leftOver_37 : decode cX10_leftOver 37 = .ok (.aload_n 0, 1) := by decide +kernel
theorem dX10_leftOver_38 : decode cX10_leftOver 38 = .ok (.getfield 26, 3) := by decide +kernel
theorem dX10_leftOver_41 : decode cX10_leftOver 41 = .ok (.iload_n 2, 1) := by decide +kernel
theorem dX10_leftOver_42 : decode cX10_leftOver 42 = .ok (.invokevirtual 179, 3) := by decide +kernel
theorem dX10_leftOver_45 : decode cX10_leftOver 45 = .ok (.isub, 1) := by decide +kernel
theorem dX10_leftOver_46 : decode cX10_leftOver 46 = .ok (.invokevirtual 109, 3) := by decide +kernel
theorem dX10_leftOver_49 : decode cX10_leftOver 49 = .ok (.ireturn, 1) := by decide +kernel
theorem dX10_isTale_0 : decode cX10_isTale 0 = .ok (.aload_n 0, 1) := by decide +kernel
theorem dX10_isTale_1 : decode cX10_isTale 1 = .ok (.getfield 85, 3) := by decide +kernel
theorem dX10_isTale_4 : decode cX10_isTale 4 = .ok (.ifCond .ne 9, 3) := by decide +kernel
theorem dX10_isTale_7 : decode cX10_isTale 7 = .ok (.aload_n 0, 1) := by decide +kernel
theorem dX10_isTale_8 : decode cX10_isTale 8 = .ok (.iconst 1, 1) := by decide +kernel
theorem dX10_isTale_9 : decode cX10_isTale 9 = .ok (.invokevirtual 73, 3) := by decide +kernel
theorem dX10_isTale_12 : decode cX10_isTale 12 = .ok (.ireturn, 1) := by decide +kernel
theorem dX10_isTale_13 : decode cX10_isTale 13 = .ok (.iload_n 1, 1) := by decide +kernel
theorem dX10_isTale_14 : decode cX10_isTale 14 = .ok (.iconst 1, 1) := by decide +kernel
theorem dX10_isTale_15 : decode cX10_isTale 15 = .ok (.if_icmp .ge 9, 3) := by decide +kernel
theorem dX10_isTale_18 : decode cX10_isTale 18 = .ok (.aload_n 0, 1) := by decide +kernel
theorem dX10_isTale_19 : decode cX10_isTale 19 = .ok (.iconst 2, 1) := by decide +kernel
theorem dX10_isTale_20 : decode cX10_isTale 20 = .ok (.invokevirtual 73, 3) := by decide +kernel
theorem dX10_isTale_23 : decode cX10_isTale 23 = .ok (.ireturn, 1) := by decide +kernel
theorem dX10_isTale_24 : decode cX10_isTale 24 = .ok (.iload_n 1, 1) := by decide +kernel
theorem dX10_isTale_25 : decode cX10_isTale 25 = .ok (.istore_n 2, 1) := by decide +kernel
theorem dX10_isTale_26 : decode cX10_isTale 26 = .ok (.iload_n 2, 1) := by decide +kernel
theorem dX10_isTale_27 : decode cX10_isTale 27 = .ok (.ifCond .le 30, 3) := by decide +kernel
theorem dX10_isTale_30 : decode cX10_isTale 30 = .ok (.aload_n 0, 1) := by decide +kernel
theorem dX10_isTale_31 : decode cX10_isTale 31 = .ok (.iload_n 2, 1) := by decide +kernel
theorem dX10_isTale_32 : decode cX10_isTale 32 = .ok (.bipush 10, 2) := by decide +kernel
theorem dX10_isTale_34 : decode cX10_isTale 34 = .ok (.irem, 1) := by decide +kernel
theorem dX10_isTale_35 : decode cX10_isTale 35 = .ok (.iconst 1, 1) := by decide +kernel
theorem dX10_isTale_36 : decode cX10_isTale 36 = .ok (.isub, 1) := by decide +kernel
theorem dX10_isTale_37 : decode cX10_isTale 37 = .ok (.invokevirtual 121, 3) := by decide +kernel
theorem dX10_isTale_40 : decode cX10_isTale 40 = .ok (.ifCond .eq 9, 3) := by decide +kernel
theorem dX10_isTale_43 : decode cX10_isTale 43 = .ok (.aload_n 0, 1) := by decide +kernel
theorem dX10_isTale_44 : decode cX10_isTale 44 = .ok (.iconst 2, 1) := by decide +kernel
theorem dX10_isTale_45 : decode cX10_isTale 45 = .ok (.invokevirtual 73, 3) := by decide +kernel
theorem dX10_isTale_48 : decode cX10_isTale 48 = .ok (.ireturn, 1) := by decide +kernel
theorem dX10_isTale_49 : decode cX10_isTale 49 = .ok (.iload_n 2, 1) := by decide +kernel
theorem dX10_isTale_50 : decode cX10_isTale 50 = .ok (.bipush 10, 2) := by decide +kernel
theorem dX10_isTale_52 : decode cX10_isTale 52 = .ok (.idiv, 1) := by decide +kernel
theorem dX10_isTale_53 : decode cX10_isTale 53 = .ok (.istore_n 2, 1) := by decide +kernel
theorem dX10_isTale_54 : decode cX10_isTale 54 = .ok (.goto (-28), 3) := by decide +kernel
theorem dX10_isTale_57 : decode cX10_isTale 57 = .ok (.aload_n 0, 1) := by decide +kernel
theorem dX10_isTale_58 : decode cX10_isTale 58 = .ok (.aload_n 0, 1) := by decide +kernel
theorem dX10_isTale_59 : decode cX10_isTale 59 = .ok (.getfield 26, 3) := by decide +kernel
theorem dX10_isTale_62 : decode cX10_isTale 62 = .ok (.iload_n 1, 1) := by decide +kernel
theorem dX10_isTale_63 : decode cX10_isTale 63 = .ok (.invokevirtual 200, 3) := by decide +kernel
theorem dX10_isTale_66 : decode cX10_isTale 66 = .ok (.ifCond .eq 7, 3) := by decide +kernel
theorem dX10_isTale_69 : decode cX10_isTale 69 = .ok (.iconst 1, 1) := by decide +kernel
theorem dX10_isTale_70 : decode cX10_isTale 70 = .ok (.goto 4, 3) := by decide +kernel
theorem dX10_isTale_73 : decode cX10_isTale 73 = .ok (.iconst 0, 1) := by decide +kernel
theorem dX10_isTale_74 : decode cX10_isTale 74 = .ok (.invokevirtual 109, 3) := by decide +kernel
theorem dX10_isTale_77 : decode cX10_isTale 77 = .ok (.ireturn, 1) := by decide +kernel
theorem dX7_haveRow_0 : decode cX7_haveRow 0 = .ok (.iconst 0, 1) := by decide +kernel
theorem dX7_haveRow_1 : decode cX7_haveRow 1 = .ok (.istore_n 2, 1) := by decide +kernel
theorem dX7_haveRow_2 : decode cX7_haveRow 2 = .ok (.iload_n 2, 1) := by decide +kernel
theorem dX7_haveRow_3 : decode cX7_haveRow 3 = .ok (.aload_n 0, 1) := by decide +kernel
theorem dX7_haveRow_4 : decode cX7_haveRow 4 = .ok (.getfield 18, 3) := by decide +kernel
theorem dX7_haveRow_7 : decode cX7_haveRow 7 = .ok (.if_icmp .ge 21, 3) := by decide +kernel
theorem dX7_haveRow_10 : decode cX7_haveRow 10 = .ok (.aload_n 0, 1) := by decide +kernel
theorem dX7_haveRow_11 : decode cX7_haveRow 11 = .ok (.getfield 11, 3) := by decide +kernel
theorem dX7_haveRow_14 : decode cX7_haveRow 14 = .ok (.iload_n 2, 1) := by decide +kernel
theorem dX7_haveRow_15 : decode cX7_haveRow 15 = .ok (.iaload, 1) := by decide +kernel
theorem dX7_haveRow_16 : decode cX7_haveRow 16 = .ok (.iload_n 1, 1) := by decide +kernel
theorem dX7_haveRow_17 : decode cX7_haveRow 17 = .ok (.if_icmp .ne 5, 3) := by decide +kernel
theorem dX7_haveRow_20 : decode cX7_haveRow 20 = .ok (.iconst 1, 1) := by decide +kernel
theorem dX7_haveRow_21 : decode cX7_haveRow 21 = .ok (.ireturn, 1) := by decide +kernel
theorem dX7_haveRow_22 : decode cX7_haveRow 22 = .ok (.iinc 2 1, 3) := by decide +kernel
theorem dX7_haveRow_25 : decode cX7_haveRow 25 = .ok (.goto (-23), 3) := by decide +kernel
theorem dX7_haveRow_28 : decode cX7_haveRow 28 = .ok (.iconst 0, 1) := by decide +kernel
theorem dX7_haveRow_29 : decode cX7_haveRow 29 = .ok (.ireturn, 1) := by decide +kernel
theorem dX10_talesOf_0 : decode cX10_talesOf 0 = .ok (.aload_n 0, 1) := by decide +kernel
theorem dX10_talesOf_1 : decode cX10_talesOf 1 = .ok (.iload_n 1, 1) := by decide +kernel
theorem dX10_talesOf_2 : decode cX10_talesOf 2 = .ok (.invokevirtual 137, 3) := by decide +kernel
theorem dX10_talesOf_5 : decode cX10_talesOf 5 = .ok (.ifCond .eq 11, 3) := by decide +kernel
theorem dX10_talesOf_8 : decode cX10_talesOf 8 = .ok (.aload_n 0, 1) := by decide +kernel
theorem dX10_talesOf_9 : decode cX10_talesOf 9 = .ok (.iconst 1, 1) := by decide +kernel
theorem dX10_talesOf_10 : decode cX10_talesOf 10 = .ok (.invokevirtual 73, 3) := by decide +kernel
theorem dX10_talesOf_13 : decode cX10_talesOf 13 = .ok (.goto 22, 3) := by decide +kernel
theorem dX10_talesOf_16 : decode cX10_talesOf 16 = .ok (.aload_n 0, 1) := by decide +kernel
theorem dX10_talesOf_17 : decode cX10_talesOf 17 = .ok (.aload_n 0, 1) := by decide +kernel
theorem dX10_talesOf_18 : decode cX10_talesOf 18 = .ok (.getfield 26, 3) := by decide +kernel
theorem dX10_talesOf_21 : decode cX10_talesOf 21 = .ok (.aload_n 0, 1) := by decide +kernel
theorem dX10_talesOf_22 : decode cX10_talesOf 22 = .ok (.getfield 61, 3) := by decide +kernel
theorem dX10_talesOf_25 : decode cX10_talesOf 25 = .ok (.iload_n 1, 1) := by decide +kernel
theorem dX10_talesOf_26 : decode cX10_talesOf 26 = .ok (.invokevirtual 149, 3) := by decide +kernel
theorem dX10_talesOf_29 : decode cX10_talesOf 29 = .ok (.invokevirtual 173, 3) := by decide +kernel
theorem dX10_talesOf_32 : decode cX10_talesOf 32 = .ok (.invokevirtual 109, 3) := by decide +kernel
theorem dX10_talesOf_35 : decode cX10_talesOf 35 = .ok (.ireturn, 1) := by decide +kernel
def f_Re_takeFour_3 (n : Nat) : Nat → Int32 → Int32 → k_St → Option k_St
  | 0, _, _, _ => none
  | k + 1, x1, x2, t => (if x2 < 0 then some t else (if (900 : Int32) ≤ (t.1 0 11) then k_lt (x2 + (-8 : Int32)) (fun x2_1 => f_Re_takeFour_3 n k x1 x2_1 t) else k_gi (t.1 0 11) 900 (k_lt (k_sI t 1 (t.1 0 11).toNatClampNeg (((x1 >>> (x2 &&& 31)).toInt8.toInt32).toInt8.toInt32)) (fun t_3 => k_lt (k_sI t_3 0 11 ((t_3.1 0 11) + (1 : Int32))) (fun t_4 => k_lt (x2 + (-8 : Int32)) (fun x2_5 => f_Re_takeFour_3 n k x1 x2_5 t_4))))))
def f_Re_takeFour (n : Nat) (x1 : Int32) (t : k_St) : Option k_St := f_Re_takeFour_3 n n x1 (24 : Int32) t
theorem m_Re_takeFour_3 {p : Program} (l : Launch) {e : Env} {s : State} {m : MethodId} {args : Array Value} {below : List Frame} {meth : Method} {c : Code} (G : k_G) (a : Nat → Nat) (tl : Value) (n : Nat) {w0 : va_W} {t' : k_St} (hA : k_Amb p s m args meth c cX5_takeFour 3 "TaleShares$Reader" G (va_A w0 s.heap.size)) (hr : meth.sig.returnType = none) : ∀ (k : Nat) (x1 : Int32) (x2 : Int32) (t : k_St), f_Re_takeFour_3 n k x1 x2 t = some t' → k_Go p l e (k_rm 1) s m args below meth c (k_QV G w0 (k_WX G.2.1 a tl t') args s below) 3 G (va_A w0 s.heap.size) (k_WX G.2.1 a tl t) 3 [(0, .ref (a 18)), (1, .int x1), (2, .int x2)] [] := by
  intro k
  induction k with
  | zero => intro x1 x2 t hf; cases hf
  | succ k ih =>
  intro x1 x2 t hf
  rw [f_Re_takeFour_3] at hf
  refine k_iload_n (i := 2) hA dX5_takeFour_3 rfl 2 rfl ?_
  refine k_if_lt (tgt := 48) hA dX5_takeFour_4 rfl (fun hc => ?_) (fun hc => ?_)
  · have hf := k_ift hc hf
    obtain rfl := k_r1 hf
    exact k_vret hA hr dX5_takeFour_48
  have hf := k_iff hc hf
  refine k_aload_n (i := 0) hA dX5_takeFour_7 rfl 0 rfl ?_
  refine gt_X_18_2 hA wd_259 dX5_takeFour_8 ?_
  refine k_aload_n (i := 0) hA dX5_takeFour_11 rfl 0 rfl ?_
  refine gt_X_18_3 hA wd_260 dX5_takeFour_12 ?_
  refine k_alen (t0 := 0) (v := (900 : Int32)) hA (hc_X_1 G.2.1 a tl t) rfl rfl dX5_takeFour_15 ?_
  refine k_icmp_ge (tgt := 42) hA dX5_takeFour_16 rfl (fun hc => ?_) (fun hc => ?_)
  · have hf := k_ift hc hf
    obtain ⟨x2_1, ex2_1, hf⟩ := k_lt_e hf
    refine k_iinc (j := 2) (v := x2_1) (lv' := [(2, .int x2_1), (0, .ref (a 18)), (1, .int x1)]) hA dX5_takeFour_42 rfl (k_inc ex2_1 kc_i_m8) (Nat.le_of_ble_eq_true rfl) rfl ?_
    refine k_goto (tgt := 3) hA dX5_takeFour_45 rfl ?_
    refine k_pick (lv' := [(0, .ref (a 18)), (1, .int x1), (2, .int x2_1)]) [1, 2, 0] rfl ?_
    exact ih x1 x2_1 t hf
  have hf := k_iff hc hf
  obtain ⟨hi_2, hf⟩ := k_gi_e hf
  obtain ⟨t_3, et_3, hf⟩ := k_lt_e hf
  obtain ⟨t_4, et_4, hf⟩ := k_lt_e hf
  obtain ⟨x2_5, ex2_5, hf⟩ := k_lt_e hf
  refine k_aload_n (i := 0) hA dX5_takeFour_19 rfl 0 rfl ?_
  refine gt_X_18_3 hA wd_260 dX5_takeFour_20 ?_
  refine k_aload_n (i := 0) hA dX5_takeFour_23 rfl 0 rfl ?_
  refine gt_X_18_2 hA wd_259 dX5_takeFour_24 ?_
  refine k_iload_n (i := 1) hA dX5_takeFour_27 rfl 1 rfl ?_
  refine k_iload_n (i := 2) hA dX5_takeFour_28 rfl 2 rfl ?_
  refine k_ishr hA dX5_takeFour_29 ?_
  refine k_i2b hA dX5_takeFour_30 ?_
  refine sr_X_1 hA hi_2 et_3 dX5_takeFour_31 ?_
  refine k_aload_n (i := 0) hA dX5_takeFour_32 rfl 0 rfl ?_
  refine k_dup hA dX5_takeFour_33 rfl ?_
  refine gt_X_18_2 hA wd_259 dX5_takeFour_34 ?_
  refine k_iconst hA dX5_takeFour_37 kc_i_1 ?_
  refine k_iadd hA dX5_takeFour_38 ?_
  refine pt_X_18_2 hA wd_259 et_4 dX5_takeFour_39 ?_
  refine k_iinc (j := 2) (v := x2_5) (lv' := [(2, .int x2_5), (0, .ref (a 18)), (1, .int x1)]) hA dX5_takeFour_42 rfl (k_inc ex2_5 kc_i_m8) (Nat.le_of_ble_eq_true rfl) rfl ?_
  refine k_goto (tgt := 3) hA dX5_takeFour_45 rfl ?_
  refine k_pick (lv' := [(0, .ref (a 18)), (1, .int x1), (2, .int x2_5)]) [1, 2, 0] rfl ?_
  exact ih x1 x2_5 t_4 hf

theorem m_Re_takeFour (l : Launch) (G : k_G) (a : Nat → Nat) (tl : Value) (n : Nat) (x1 : Int32) (t : k_St) {t' : k_St} (hf : f_Re_takeFour n x1 t = some t') : k_CV l G yX5_takeFour cX5_takeFour 3 none 1 (k_WX G.2.1 a tl t) [.ref (a 18), .int x1] (k_WX G.2.1 a tl t') := by
  refine k_startV (lv := [(0, .ref (a 18)), (1, .int x1)]) (by decide +kernel) (Nat.le_of_ble_eq_true rfl) rfl ?_
  intro p e s m args below meth c hA hr
  have hA : k_Amb p s m args meth c cX5_takeFour 3 "TaleShares$Reader" G _ := hA
  unfold f_Re_takeFour at hf
  refine k_bipush hA dX5_takeFour_0 kc_b_24 ?_
  refine k_istore_n (i := 2) (lv' := [(2, .int (24 : Int32)), (0, .ref (a 18)), (1, .int x1)]) hA dX5_takeFour_2 rfl rfl (Nat.le_of_ble_eq_true rfl) rfl ?_
  refine k_pick (lv' := [(0, .ref (a 18)), (1, .int x1), (2, .int (24 : Int32))]) [1, 2, 0] rfl ?_
  exact m_Re_takeFour_3 l G a tl n hA hr n x1 (24 : Int32) t hf

def f_X_feed (n : Nat) (x1 : Int32) (x2 : Int32) (x3 : Int32) (x4 : Int32) (x5 : Int32) (t : k_St) : Option (Int32 × k_St) := (if ((t.1 0 11) + (20 : Int32)) ≤ (900 : Int32) then k_cv (f_Re_takeFour n x1 t) (fun t_1 => k_cv (f_Re_takeFour n x2 t_1) (fun t_2 => k_cv (f_Re_takeFour n x3 t_2) (fun t_3 => k_cv (f_Re_takeFour n x4 t_3) (fun t_4 => k_cv (f_Re_takeFour n x5 t_4) (fun t_5 => some ((t_5.1 0 11), t_5)))))) else some ((-1 : Int32), t))
theorem m_X_feed (l : Launch) (G : k_G) (a : Nat → Nat) (tl : Value) (n : Nat) (x1 : Int32) (x2 : Int32) (x3 : Int32) (x4 : Int32) (x5 : Int32) (t : k_St) {r : Int32} {t' : k_St} (hf : f_X_feed n x1 x2 x3 x4 x5 t = some (r, t')) : k_CI l G yX10_feed cX10_feed 6 (some .int) 2 (k_WX G.2.1 a tl t) [.ref (a 0), .int x1, .int x2, .int x3, .int x4, .int x5] r (k_WX G.2.1 a tl t') := by
  refine k_startI (lv := [(0, .ref (a 0)), (1, .int x1), (2, .int x2), (3, .int x3), (4, .int x4), (5, .int x5)]) (by decide +kernel) (Nat.le_of_ble_eq_true rfl) rfl ?_
  intro p e s m args below meth c hA hr
  have hA : k_Amb p s m args meth c cX10_feed 6 "TaleShares" G _ := hA
  unfold f_X_feed at hf
  refine k_aload_n (i := 0) hA dX10_feed_0 rfl 0 rfl ?_
  refine gt_X_0_0 hA wd_437 dX10_feed_1 ?_
  refine gt_X_18_2 hA wd_258 dX10_feed_4 ?_
  refine k_bipush hA dX10_feed_7 kc_b_20 ?_
  refine k_iadd hA dX10_feed_9 ?_
  refine k_sipush hA dX10_feed_10 kc_s_900 ?_
  refine k_icmp_le (tgt := 18) hA dX10_feed_13 rfl (fun hc => ?_) (fun hc => ?_)
  · have hf := k_ift hc hf
    obtain ⟨t_1, ht_1, hf⟩ := k_cv_e hf
    obtain ⟨t_2, ht_2, hf⟩ := k_cv_e hf
    obtain ⟨t_3, ht_3, hf⟩ := k_cv_e hf
    obtain ⟨t_4, ht_4, hf⟩ := k_cv_e hf
    obtain ⟨t_5, ht_5, hf⟩ := k_cv_e hf
    obtain ⟨rfl, rfl⟩ := k_r2 hf
    refine k_aload_n (i := 0) hA dX10_feed_18 rfl 0 rfl ?_
    refine gt_X_0_0 hA wd_437 dX10_feed_19 ?_
    refine k_iload_n (i := 1) hA dX10_feed_22 rfl 1 rfl ?_
    refine k_callVv (As := [.int x1]) (rest := []) hA (m_Re_takeFour l G a tl n x1 t ht_1) cd_X5_takeFour wd_472 (hc_X_18 G.2.1 a tl t) rfl rfl (Nat.le_of_ble_eq_true rfl) rfl rfl (Nat.le_of_ble_eq_true rfl) dX10_feed_23 ?_
    refine k_aload_n (i := 0) hA dX10_feed_26 rfl 0 rfl ?_
    refine gt_X_0_0 hA wd_437 dX10_feed_27 ?_
    refine k_iload_n (i := 2) hA dX10_feed_30 rfl 2 rfl ?_
    refine k_callVv (As := [.int x2]) (rest := []) hA (m_Re_takeFour l G a tl n x2 t_1 ht_2) cd_X5_takeFour wd_472 (hc_X_18 G.2.1 a tl t_1) rfl rfl (Nat.le_of_ble_eq_true rfl) rfl rfl (Nat.le_of_ble_eq_true rfl) dX10_feed_31 ?_
    refine k_aload_n (i := 0) hA dX10_feed_34 rfl 0 rfl ?_
    refine gt_X_0_0 hA wd_437 dX10_feed_35 ?_
    refine k_iload_n (i := 3) hA dX10_feed_38 rfl 3 rfl ?_
    refine k_callVv (As := [.int x3]) (rest := []) hA (m_Re_takeFour l G a tl n x3 t_2 ht_3) cd_X5_takeFour wd_472 (hc_X_18 G.2.1 a tl t_2) rfl rfl (Nat.le_of_ble_eq_true rfl) rfl rfl (Nat.le_of_ble_eq_true rfl) dX10_feed_39 ?_
    refine k_aload_n (i := 0) hA dX10_feed_42 rfl 0 rfl ?_
    refine gt_X_0_0 hA wd_437 dX10_feed_43 ?_
    refine k_iload hA dX10_feed_46 4 rfl ?_
    refine k_callVv (As := [.int x4]) (rest := []) hA (m_Re_takeFour l G a tl n x4 t_3 ht_4) cd_X5_takeFour wd_472 (hc_X_18 G.2.1 a tl t_3) rfl rfl (Nat.le_of_ble_eq_true rfl) rfl rfl (Nat.le_of_ble_eq_true rfl) dX10_feed_48 ?_
    refine k_aload_n (i := 0) hA dX10_feed_51 rfl 0 rfl ?_
    refine gt_X_0_0 hA wd_437 dX10_feed_52 ?_
    refine k_iload hA dX10_feed_55 5 rfl ?_
    refine k_callVv (As := [.int x5]) (rest := []) hA (m_Re_takeFour l G a tl n x5 t_4 ht_5) cd_X5_takeFour wd_472 (hc_X_18 G.2.1 a tl t_4) rfl rfl (Nat.le_of_ble_eq_true rfl) rfl rfl (Nat.le_of_ble_eq_true rfl) dX10_feed_57 ?_
    refine k_aload_n (i := 0) hA dX10_feed_60 rfl 0 rfl ?_
    refine gt_X_0_0 hA wd_437 dX10_feed_61 ?_
    refine gt_X_18_2 hA wd_258 dX10_feed_64 ?_
    exact k_iret hA hr rfl dX10_feed_67
  have hf := k_iff hc hf
  obtain ⟨rfl, rfl⟩ := k_r2 hf
  refine k_iconst hA dX10_feed_16 kc_i_m1 ?_
  exact k_iret hA hr rfl dX10_feed_17

def f_X_fault (t : k_St) : Int32 := (t.1 18 0)
theorem m_X_fault (l : Launch) (G : k_G) (a : Nat → Nat) (tl : Value) (t : k_St) {r : Int32} (hf : f_X_fault t = r) : k_CI l G yX10_fault cX10_fault 1 (some .int) 1 (k_WX G.2.1 a tl t) [.ref (a 0)] r (k_WX G.2.1 a tl t) := by
  refine k_startI (lv := [(0, .ref (a 0))]) (by decide +kernel) (Nat.le_of_ble_eq_true rfl) rfl ?_
  intro p e s m args below meth c hA hr
  have hA : k_Amb p s m args meth c cX10_fault 1 "TaleShares" G _ := hA
  unfold f_X_fault at hf
  subst hf
  refine k_aload_n (i := 0) hA dX10_fault_0 rfl 0 rfl ?_
  refine gt_X_0_0 hA wd_437 dX10_fault_1 ?_
  refine gt_X_18_0 hA wd_254 dX10_fault_4 ?_
  exact k_iret hA hr rfl dX10_fault_7

def f_X_where (t : k_St) : Int32 := (if (t.1 0 12) = (4 : Int32) then (t.1 18 1) else (-1 : Int32))
theorem m_X_where (l : Launch) (G : k_G) (a : Nat → Nat) (tl : Value) (t : k_St) {r : Int32} (hf : f_X_where t = r) : k_CI l G yX10_where cX10_where 1 (some .int) 1 (k_WX G.2.1 a tl t) [.ref (a 0)] r (k_WX G.2.1 a tl t) := by
  refine k_startI (lv := [(0, .ref (a 0))]) (by decide +kernel) (Nat.le_of_ble_eq_true rfl) rfl ?_
  intro p e s m args below meth c hA hr
  have hA : k_Amb p s m args meth c cX10_where 1 "TaleShares" G _ := hA
  unfold f_X_where at hf
  refine k_aload_n (i := 0) hA dX10_where_0 rfl 0 rfl ?_
  refine gt_X_0_9 hA wd_446 dX10_where_1 ?_
  refine k_iconst hA dX10_where_4 kc_i_4 ?_
  refine k_icmp_ne (tgt := 18) hA dX10_where_5 rfl (fun hc => ?_) (fun hc => ?_)
  · have hf := k_iff hc hf
    subst hf
    refine k_iconst hA dX10_where_18 kc_i_m1 ?_
    exact k_iret hA hr rfl dX10_where_19
  have hf := k_ift hc hf
  subst hf
  refine k_aload_n (i := 0) hA dX10_where_8 rfl 0 rfl ?_
  refine gt_X_0_0 hA wd_437 dX10_where_9 ?_
  refine gt_X_18_1 hA wd_256 dX10_where_12 ?_
  refine k_goto (tgt := 19) hA dX10_where_15 rfl ?_
  exact k_iret hA hr rfl dX10_where_19

def f_X_noPiece (t : k_St) (x1 : Int32) : Bool := (if x1 < 0 then true else (if x1 < (t.1 2 2) then false else true))
theorem m_X_noPiece (l : Launch) (G : k_G) (a : Nat → Nat) (tl : Value) (t : k_St) (x1 : Int32) {r : Bool} (hf : f_X_noPiece t x1 = r) : k_CI l G yX10_noPiece cX10_noPiece 2 (some .boolean) 1 (k_WX G.2.1 a tl t) [.ref (a 0), .int x1] (k_b r) (k_WX G.2.1 a tl t) := by
  refine k_startI (lv := [(0, .ref (a 0)), (1, .int x1)]) (by decide +kernel) (Nat.le_of_ble_eq_true rfl) rfl ?_
  intro p e s m args below meth c hA hr
  have hA : k_Amb p s m args meth c cX10_noPiece 2 "TaleShares" G _ := hA
  unfold f_X_noPiece at hf
  refine k_iload_n (i := 1) hA dX10_noPiece_0 rfl 1 rfl ?_
  refine k_if_lt (tgt := 15) hA dX10_noPiece_1 rfl (fun hc => ?_) (fun hc => ?_)
  · have hf := k_ift hc hf
    subst hf
    refine k_iconst hA dX10_noPiece_15 kc_i_1 ?_
    refine k_goto (tgt := 20) hA dX10_noPiece_16 rfl ?_
    exact k_iret hA hr (k_narB (k_b01 _)) dX10_noPiece_20
  have hf := k_iff hc hf
  refine k_iload_n (i := 1) hA dX10_noPiece_4 rfl 1 rfl ?_
  refine k_aload_n (i := 0) hA dX10_noPiece_5 rfl 0 rfl ?_
  refine gt_X_0_7 hA wd_444 dX10_noPiece_6 ?_
  refine gt_X_2_2 hA wd_167 dX10_noPiece_9 ?_
  refine k_icmp_lt (tgt := 19) hA dX10_noPiece_12 rfl (fun hc => ?_) (fun hc => ?_)
  · have hf := k_ift hc hf
    subst hf
    refine k_iconst hA dX10_noPiece_19 kc_i_0 ?_
    exact k_iret hA hr (k_narB (k_b01 _)) dX10_noPiece_20
  have hf := k_iff hc hf
  subst hf
  refine k_iconst hA dX10_noPiece_15 kc_i_1 ?_
  refine k_goto (tgt := 20) hA dX10_noPiece_16 rfl ?_
  exact k_iret hA hr (k_narB (k_b01 _)) dX10_noPiece_20

def f_X_refuse (x1 : Int32) (t : k_St) : Int32 × k_St := k_lt (k_sI t 0 12 x1) (fun t_1 => ((-1 : Int32), t_1))
theorem m_X_refuse (l : Launch) (G : k_G) (a : Nat → Nat) (tl : Value) (x1 : Int32) (t : k_St) {r : Int32} {t' : k_St} (hf : f_X_refuse x1 t = (r, t')) : k_CI l G yX10_refuse cX10_refuse 2 (some .int) 1 (k_WX G.2.1 a tl t) [.ref (a 0), .int x1] r (k_WX G.2.1 a tl t') := by
  refine k_startI (lv := [(0, .ref (a 0)), (1, .int x1)]) (by decide +kernel) (Nat.le_of_ble_eq_true rfl) rfl ?_
  intro p e s m args below meth c hA hr
  have hA : k_Amb p s m args meth c cX10_refuse 2 "TaleShares" G _ := hA
  unfold f_X_refuse at hf
  obtain ⟨t_1, et_1, hf⟩ := k_lt_e hf
  obtain ⟨rfl, rfl⟩ := k_p2 hf
  refine k_aload_n (i := 0) hA dX10_refuse_0 rfl 0 rfl ?_
  refine k_iload_n (i := 1) hA dX10_refuse_1 rfl 1 rfl ?_
  refine pt_X_0_9 hA wd_446 et_1 dX10_refuse_2 ?_
  refine k_iconst hA dX10_refuse_5 kc_i_m1 ?_
  exact k_iret hA hr rfl dX10_refuse_6

def f_X_partOf (x0 : Int64) (x2 : Int32) : Int32 := (((x0 >>> (((8 : Int32) * x2).toInt64 &&& 63)).toInt32) &&& (255 : Int32))
theorem m_X_partOf (l : Launch) (G : k_G) (w : va_W) (x0 : Int64) (x2 : Int32) {r : Int32} (hf : f_X_partOf x0 x2 = r) : k_CI l G yX10_partOf cX10_partOf 3 (some .int) 1 w [.long x0, .int x2] r w := by
  refine k_startI (lv := [(0, .long x0), (2, .int x2)]) (by decide +kernel) (Nat.le_of_ble_eq_true rfl) rfl ?_
  intro p e s m args below meth c hA hr
  have hA : k_Amb p s m args meth c cX10_partOf 3 "TaleShares" G _ := hA
  unfold f_X_partOf at hf
  subst hf
  refine k_lload_n (i := 0) hA dX10_partOf_0 rfl 0 rfl ?_
  refine k_bipush hA dX10_partOf_1 kc_b_8 ?_
  refine k_iload_n (i := 2) hA dX10_partOf_3 rfl 1 rfl ?_
  refine k_imul hA dX10_partOf_4 ?_
  refine k_lshr hA dX10_partOf_5 ?_
  refine k_l2i hA dX10_partOf_6 ?_
  refine k_sipush hA dX10_partOf_7 kc_s_255 ?_
  refine k_iand hA dX10_partOf_10 ?_
  exact k_iret hA hr rfl dX10_partOf_11

def f_No_knownBy (t : k_St) (x1 : Int32) : Int32 := (f_X_partOf (t.2 34 0) x1)
theorem m_No_knownBy (l : Launch) (G : k_G) (a : Nat → Nat) (tl : Value) (t : k_St) (x1 : Int32) {r : Int32} (hf : f_No_knownBy t x1 = r) : k_CI l G yX3_knownBy cX3_knownBy 2 (some .int) 2 (k_WX G.2.1 a tl t) [.ref (a 34), .int x1] r (k_WX G.2.1 a tl t) := by
  refine k_startI (lv := [(0, .ref (a 34)), (1, .int x1)]) (by decide +kernel) (Nat.le_of_ble_eq_true rfl) rfl ?_
  intro p e s m args below meth c hA hr
  have hA : k_Amb p s m args meth c cX3_knownBy 2 "TaleShares$Now" G _ := hA
  unfold f_No_knownBy at hf
  subst hf
  refine k_aload_n (i := 0) hA dX3_knownBy_0 rfl 0 rfl ?_
  refine gt_X_34_0 hA wd_411 dX3_knownBy_1 ?_
  refine k_iload_n (i := 1) hA dX3_knownBy_4 rfl 1 rfl ?_
  refine k_callSNi (As := [.long (t.2 34 0), .int x1]) (rest := []) hA (m_X_partOf l G (k_WX G.2.1 a tl t) (t.2 34 0) x1 rfl) cd_X10_partOf nm_RX3_46 (Nat.le_of_ble_eq_true rfl) rfl rfl (Nat.le_of_ble_eq_true rfl) dX3_knownBy_5 ?_
  exact k_iret hA hr rfl dX3_knownBy_8

def f_No_isKnown (t : k_St) (x1 : Int32) (x2 : Int32) : Bool := (if (((f_No_knownBy t x1) >>> (x2 &&& 31)) &&& (1 : Int32)) = 0 then false else true)
theorem m_No_isKnown (l : Launch) (G : k_G) (a : Nat → Nat) (tl : Value) (t : k_St) (x1 : Int32) (x2 : Int32) {r : Bool} (hf : f_No_isKnown t x1 x2 = r) : k_CI l G yX3_isKnown cX3_isKnown 3 (some .boolean) 3 (k_WX G.2.1 a tl t) [.ref (a 34), .int x1, .int x2] (k_b r) (k_WX G.2.1 a tl t) := by
  refine k_startI (lv := [(0, .ref (a 34)), (1, .int x1), (2, .int x2)]) (by decide +kernel) (Nat.le_of_ble_eq_true rfl) rfl ?_
  intro p e s m args below meth c hA hr
  have hA : k_Amb p s m args meth c cX3_isKnown 3 "TaleShares$Now" G _ := hA
  unfold f_No_isKnown at hf
  refine k_aload_n (i := 0) hA dX3_isKnown_0 rfl 0 rfl ?_
  refine k_iload_n (i := 1) hA dX3_isKnown_1 rfl 1 rfl ?_
  refine k_callVi (As := [.int x1]) (rest := []) hA (m_No_knownBy l G a tl t x1 rfl) cd_X3_knownBy wd_765 (hc_X_34 G.2.1 a tl t) rfl rfl (Nat.le_of_ble_eq_true rfl) rfl rfl (Nat.le_of_ble_eq_true rfl) dX3_isKnown_2 ?_
  refine k_iload_n (i := 2) hA dX3_isKnown_5 rfl 2 rfl ?_
  refine k_ishr hA dX3_isKnown_6 ?_
  refine k_iconst hA dX3_isKnown_7 kc_i_1 ?_
  refine k_iand hA dX3_isKnown_8 ?_
  refine k_if_eq (tgt := 16) hA dX3_isKnown_9 rfl (fun hc => ?_) (fun hc => ?_)
  · have hf := k_ift hc hf
    subst hf
    refine k_iconst hA dX3_isKnown_16 kc_i_0 ?_
    exact k_iret hA hr (k_narB (k_b01 _)) dX3_isKnown_17
  have hf := k_iff hc hf
  subst hf
  refine k_iconst hA dX3_isKnown_12 kc_i_1 ?_
  refine k_goto (tgt := 17) hA dX3_isKnown_13 rfl ?_
  exact k_iret hA hr (k_narB (k_b01 _)) dX3_isKnown_17

def f_No_whoKnow_4 (n : Nat) (t : k_St) : Nat → Int32 → Int32 → Int32 → Option Int32
  | 0, _, _, _ => none
  | k + 1, x1, x2, x3 => (if (t.1 34 4) ≤ x3 then some x2 else (if (k_b (f_No_isKnown t x3 x1)) = 0 then k_lt (x3 + (1 : Int32)) (fun x3_1 => f_No_whoKnow_4 n t k x1 x2 x3_1) else k_lt (x2 ||| ((1 : Int32) <<< (x3 &&& 31))) (fun x2_2 => k_lt (x3 + (1 : Int32)) (fun x3_3 => f_No_whoKnow_4 n t k x1 x2_2 x3_3))))
def f_No_whoKnow (n : Nat) (t : k_St) (x1 : Int32) : Option Int32 := f_No_whoKnow_4 n t n x1 (0 : Int32) (0 : Int32)
theorem m_No_whoKnow_4 {p : Program} (l : Launch) {e : Env} {s : State} {m : MethodId} {args : Array Value} {below : List Frame} {meth : Method} {c : Code} (G : k_G) (a : Nat → Nat) (tl : Value) (n : Nat) (t : k_St) {w0 : va_W} {r : Int32} (hA : k_Amb p s m args meth c cX3_whoKnow 4 "TaleShares$Now" G (va_A w0 s.heap.size)) (hr : meth.sig.returnType = (some .int)) : ∀ (k : Nat) (x1 : Int32) (x2 : Int32) (x3 : Int32), f_No_whoKnow_4 n t k x1 x2 x3 = some r → k_Go p l e (k_rm 4) s m args below meth c (k_QI G w0 r (k_WX G.2.1 a tl t) args s below) 4 G (va_A w0 s.heap.size) (k_WX G.2.1 a tl t) 4 [(0, .ref (a 34)), (1, .int x1), (2, .int x2), (3, .int x3)] [] := by
  intro k
  induction k with
  | zero => intro x1 x2 x3 hf; cases hf
  | succ k ih =>
  intro x1 x2 x3 hf
  rw [f_No_whoKnow_4] at hf
  refine k_iload_n (i := 3) hA dX3_whoKnow_4 rfl 3 rfl ?_
  refine k_aload_n (i := 0) hA dX3_whoKnow_5 rfl 0 rfl ?_
  refine gt_X_34_4 hA wd_419 dX3_whoKnow_6 ?_
  refine k_icmp_ge (tgt := 33) hA dX3_whoKnow_9 rfl (fun hc => ?_) (fun hc => ?_)
  · have hf := k_ift hc hf
    obtain rfl := k_r1 hf
    refine k_iload_n (i := 2) hA dX3_whoKnow_33 rfl 2 rfl ?_
    exact k_iret hA hr rfl dX3_whoKnow_34
  have hf := k_iff hc hf
  refine k_aload_n (i := 0) hA dX3_whoKnow_12 rfl 0 rfl ?_
  refine k_iload_n (i := 3) hA dX3_whoKnow_13 rfl 3 rfl ?_
  refine k_iload_n (i := 1) hA dX3_whoKnow_14 rfl 1 rfl ?_
  refine k_callVi (As := [.int x3, .int x1]) (rest := []) hA (m_No_isKnown l G a tl t x3 x1 rfl) cd_X3_isKnown wd_761 (hc_X_34 G.2.1 a tl t) rfl rfl (Nat.le_of_ble_eq_true rfl) rfl rfl (Nat.le_of_ble_eq_true rfl) dX3_whoKnow_15 ?_
  refine k_if_eq (tgt := 27) hA dX3_whoKnow_18 rfl (fun hc => ?_) (fun hc => ?_)
  · have hf := k_ift hc hf
    obtain ⟨x3_1, ex3_1, hf⟩ := k_lt_e hf
    refine k_iinc (j := 3) (v := x3_1) (lv' := [(3, .int x3_1), (0, .ref (a 34)), (1, .int x1), (2, .int x2)]) hA dX3_whoKnow_27 rfl (k_inc ex3_1 kc_i_1) (Nat.le_of_ble_eq_true rfl) rfl ?_
    refine k_goto (tgt := 4) hA dX3_whoKnow_30 rfl ?_
    refine k_pick (lv' := [(0, .ref (a 34)), (1, .int x1), (2, .int x2), (3, .int x3_1)]) [1, 2, 3, 0] rfl ?_
    exact ih x1 x2 x3_1 hf
  have hf := k_iff hc hf
  obtain ⟨x2_2, ex2_2, hf⟩ := k_lt_e hf
  obtain ⟨x3_3, ex3_3, hf⟩ := k_lt_e hf
  refine k_iload_n (i := 2) hA dX3_whoKnow_21 rfl 2 rfl ?_
  refine k_iconst hA dX3_whoKnow_22 kc_i_1 ?_
  refine k_iload_n (i := 3) hA dX3_whoKnow_23 rfl 3 rfl ?_
  refine k_ishl hA dX3_whoKnow_24 ?_
  refine k_ior hA dX3_whoKnow_25 ?_
  refine k_istore_n (i := 2) (lv' := [(2, .int x2_2), (0, .ref (a 34)), (1, .int x1), (3, .int x3)]) hA dX3_whoKnow_26 rfl ex2_2 (Nat.le_of_ble_eq_true rfl) rfl ?_
  refine k_iinc (j := 3) (v := x3_3) (lv' := [(3, .int x3_3), (2, .int x2_2), (0, .ref (a 34)), (1, .int x1)]) hA dX3_whoKnow_27 rfl (k_inc ex3_3 kc_i_1) (Nat.le_of_ble_eq_true rfl) rfl ?_
  refine k_goto (tgt := 4) hA dX3_whoKnow_30 rfl ?_
  refine k_pick (lv' := [(0, .ref (a 34)), (1, .int x1), (2, .int x2_2), (3, .int x3_3)]) [2, 3, 1, 0] rfl ?_
  exact ih x1 x2_2 x3_3 hf

theorem m_No_whoKnow (l : Launch) (G : k_G) (a : Nat → Nat) (tl : Value) (n : Nat) (t : k_St) (x1 : Int32) {r : Int32} (hf : f_No_whoKnow n t x1 = some r) : k_CI l G yX3_whoKnow cX3_whoKnow 4 (some .int) 4 (k_WX G.2.1 a tl t) [.ref (a 34), .int x1] r (k_WX G.2.1 a tl t) := by
  refine k_startI (lv := [(0, .ref (a 34)), (1, .int x1)]) (by decide +kernel) (Nat.le_of_ble_eq_true rfl) rfl ?_
  intro p e s m args below meth c hA hr
  have hA : k_Amb p s m args meth c cX3_whoKnow 4 "TaleShares$Now" G _ := hA
  unfold f_No_whoKnow at hf
  refine k_iconst hA dX3_whoKnow_0 kc_i_0 ?_
  refine k_istore_n (i := 2) (lv' := [(2, .int (0 : Int32)), (0, .ref (a 34)), (1, .int x1)]) hA dX3_whoKnow_1 rfl rfl (Nat.le_of_ble_eq_true rfl) rfl ?_
  refine k_iconst hA dX3_whoKnow_2 kc_i_0 ?_
  refine k_istore_n (i := 3) (lv' := [(3, .int (0 : Int32)), (2, .int (0 : Int32)), (0, .ref (a 34)), (1, .int x1)]) hA dX3_whoKnow_3 rfl rfl (Nat.le_of_ble_eq_true rfl) rfl ?_
  refine k_pick (lv' := [(0, .ref (a 34)), (1, .int x1), (2, .int (0 : Int32)), (3, .int (0 : Int32))]) [2, 3, 1, 0] rfl ?_
  exact m_No_whoKnow_4 l G a tl n t hA hr n x1 (0 : Int32) (0 : Int32) hf

def f_X_answer (x1 : Int32) (t : k_St) : Int32 × k_St := k_lt (k_sI t 0 12 (0 : Int32)) (fun t_1 => (x1, t_1))
theorem m_X_answer (l : Launch) (G : k_G) (a : Nat → Nat) (tl : Value) (x1 : Int32) (t : k_St) {r : Int32} {t' : k_St} (hf : f_X_answer x1 t = (r, t')) : k_CI l G yX10_answer cX10_answer 2 (some .int) 1 (k_WX G.2.1 a tl t) [.ref (a 0), .int x1] r (k_WX G.2.1 a tl t') := by
  refine k_startI (lv := [(0, .ref (a 0)), (1, .int x1)]) (by decide +kernel) (Nat.le_of_ble_eq_true rfl) rfl ?_
  intro p e s m args below meth c hA hr
  have hA : k_Amb p s m args meth c cX10_answer 2 "TaleShares" G _ := hA
  unfold f_X_answer at hf
  obtain ⟨t_1, et_1, hf⟩ := k_lt_e hf
  obtain ⟨rfl, rfl⟩ := k_p2 hf
  refine k_aload_n (i := 0) hA dX10_answer_0 rfl 0 rfl ?_
  refine k_iconst hA dX10_answer_1 kc_i_0 ?_
  refine pt_X_0_9 hA wd_446 et_1 dX10_answer_2 ?_
  refine k_iload_n (i := 1) hA dX10_answer_5 rfl 1 rfl ?_
  exact k_iret hA hr rfl dX10_answer_6

def f_Te_followedBy_4 (n : Nat) (t : k_St) : Nat → Int32 → Int32 → Int32 → Option Int32
  | 0, _, _, _ => none
  | k + 1, x1, x2, x3 => (if (t.1 2 2) ≤ x3 then some x2 else k_cp (f_Te_mayFollow t x3 x1) (fun r_1 => (if (k_b r_1) = 0 then k_lt (x3 + (1 : Int32)) (fun x3_2 => f_Te_followedBy_4 n t k x1 x2 x3_2) else k_lt (x2 ||| ((1 : Int32) <<< (x3 &&& 31))) (fun x2_3 => k_lt (x3 + (1 : Int32)) (fun x3_4 => f_Te_followedBy_4 n t k x1 x2_3 x3_4)))))
def f_Te_followedBy (n : Nat) (t : k_St) (x1 : Int32) : Option Int32 := f_Te_followedBy_4 n t n x1 (0 : Int32) (0 : Int32)
theorem m_Te_followedBy_4 {p : Program} (l : Launch) {e : Env} {s : State} {m : MethodId} {args : Array Value} {below : List Frame} {meth : Method} {c : Code} (G : k_G) (a : Nat → Nat) (tl : Value) (n : Nat) (t : k_St) {w0 : va_W} {r : Int32} (hA : k_Amb p s m args meth c cX8_followedBy 4 "TaleShares$Terrace" G (va_A w0 s.heap.size)) (hr : meth.sig.returnType = (some .int)) : ∀ (k : Nat) (x1 : Int32) (x2 : Int32) (x3 : Int32), f_Te_followedBy_4 n t k x1 x2 x3 = some r → k_Go p l e (k_rm 2) s m args below meth c (k_QI G w0 r (k_WX G.2.1 a tl t) args s below) 4 G (va_A w0 s.heap.size) (k_WX G.2.1 a tl t) 4 [(0, .ref (a 2)), (1, .int x1), (2, .int x2), (3, .int x3)] [] := by
  intro k
  induction k with
  | zero => intro x1 x2 x3 hf; cases hf
  | succ k ih =>
  intro x1 x2 x3 hf
  rw [f_Te_followedBy_4] at hf
  refine k_iload_n (i := 3) hA dX8_followedBy_4 rfl 3 rfl ?_
  refine k_aload_n (i := 0) hA dX8_followedBy_5 rfl 0 rfl ?_
  refine gt_X_2_2 hA wd_166 dX8_followedBy_6 ?_
  refine k_icmp_ge (tgt := 33) hA dX8_followedBy_9 rfl (fun hc => ?_) (fun hc => ?_)
  · have hf := k_ift hc hf
    obtain rfl := k_r1 hf
    refine k_iload_n (i := 2) hA dX8_followedBy_33 rfl 2 rfl ?_
    exact k_iret hA hr rfl dX8_followedBy_34
  have hf := k_iff hc hf
  obtain ⟨r_1, hr_1, hf⟩ := k_cp_e hf
  refine k_aload_n (i := 0) hA dX8_followedBy_12 rfl 0 rfl ?_
  refine k_iload_n (i := 3) hA dX8_followedBy_13 rfl 3 rfl ?_
  refine k_iload_n (i := 1) hA dX8_followedBy_14 rfl 1 rfl ?_
  refine k_callVi (As := [.int x3, .int x1]) (rest := []) hA (m_Te_mayFollow l G a tl t x3 x1 hr_1) cd_X8_mayFollow wd_756 (hc_X_2 G.2.1 a tl t) rfl rfl (Nat.le_of_ble_eq_true rfl) rfl rfl (Nat.le_of_ble_eq_true rfl) dX8_followedBy_15 ?_
  refine k_if_eq (tgt := 27) hA dX8_followedBy_18 rfl (fun hc => ?_) (fun hc => ?_)
  · have hf := k_ift hc hf
    obtain ⟨x3_2, ex3_2, hf⟩ := k_lt_e hf
    refine k_iinc (j := 3) (v := x3_2) (lv' := [(3, .int x3_2), (0, .ref (a 2)), (1, .int x1), (2, .int x2)]) hA dX8_followedBy_27 rfl (k_inc ex3_2 kc_i_1) (Nat.le_of_ble_eq_true rfl) rfl ?_
    refine k_goto (tgt := 4) hA dX8_followedBy_30 rfl ?_
    refine k_pick (lv' := [(0, .ref (a 2)), (1, .int x1), (2, .int x2), (3, .int x3_2)]) [1, 2, 3, 0] rfl ?_
    exact ih x1 x2 x3_2 hf
  have hf := k_iff hc hf
  obtain ⟨x2_3, ex2_3, hf⟩ := k_lt_e hf
  obtain ⟨x3_4, ex3_4, hf⟩ := k_lt_e hf
  refine k_iload_n (i := 2) hA dX8_followedBy_21 rfl 2 rfl ?_
  refine k_iconst hA dX8_followedBy_22 kc_i_1 ?_
  refine k_iload_n (i := 3) hA dX8_followedBy_23 rfl 3 rfl ?_
  refine k_ishl hA dX8_followedBy_24 ?_
  refine k_ior hA dX8_followedBy_25 ?_
  refine k_istore_n (i := 2) (lv' := [(2, .int x2_3), (0, .ref (a 2)), (1, .int x1), (3, .int x3)]) hA dX8_followedBy_26 rfl ex2_3 (Nat.le_of_ble_eq_true rfl) rfl ?_
  refine k_iinc (j := 3) (v := x3_4) (lv' := [(3, .int x3_4), (2, .int x2_3), (0, .ref (a 2)), (1, .int x1)]) hA dX8_followedBy_27 rfl (k_inc ex3_4 kc_i_1) (Nat.le_of_ble_eq_true rfl) rfl ?_
  refine k_goto (tgt := 4) hA dX8_followedBy_30 rfl ?_
  refine k_pick (lv' := [(0, .ref (a 2)), (1, .int x1), (2, .int x2_3), (3, .int x3_4)]) [2, 3, 1, 0] rfl ?_
  exact ih x1 x2_3 x3_4 hf

theorem m_Te_followedBy (l : Launch) (G : k_G) (a : Nat → Nat) (tl : Value) (n : Nat) (t : k_St) (x1 : Int32) {r : Int32} (hf : f_Te_followedBy n t x1 = some r) : k_CI l G yX8_followedBy cX8_followedBy 4 (some .int) 2 (k_WX G.2.1 a tl t) [.ref (a 2), .int x1] r (k_WX G.2.1 a tl t) := by
  refine k_startI (lv := [(0, .ref (a 2)), (1, .int x1)]) (by decide +kernel) (Nat.le_of_ble_eq_true rfl) rfl ?_
  intro p e s m args below meth c hA hr
  have hA : k_Amb p s m args meth c cX8_followedBy 4 "TaleShares$Terrace" G _ := hA
  unfold f_Te_followedBy at hf
  refine k_iconst hA dX8_followedBy_0 kc_i_0 ?_
  refine k_istore_n (i := 2) (lv' := [(2, .int (0 : Int32)), (0, .ref (a 2)), (1, .int x1)]) hA dX8_followedBy_1 rfl rfl (Nat.le_of_ble_eq_true rfl) rfl ?_
  refine k_iconst hA dX8_followedBy_2 kc_i_0 ?_
  refine k_istore_n (i := 3) (lv' := [(3, .int (0 : Int32)), (2, .int (0 : Int32)), (0, .ref (a 2)), (1, .int x1)]) hA dX8_followedBy_3 rfl rfl (Nat.le_of_ble_eq_true rfl) rfl ?_
  refine k_pick (lv' := [(0, .ref (a 2)), (1, .int x1), (2, .int (0 : Int32)), (3, .int (0 : Int32))]) [2, 3, 1, 0] rfl ?_
  exact m_Te_followedBy_4 l G a tl n t hA hr n x1 (0 : Int32) (0 : Int32) hf

def f_X_piece (n : Nat) (x1 : Int32) (x2 : Int32) (t : k_St) : Option (Int32 × k_St) := (if (k_b (f_X_noPiece t x1)) = 0 then (if x2 = (0 : Int32) then k_gi x1 8 (k_lt (f_X_answer (t.1 3 x1.toNatClampNeg) t) (fun q_2 => some (q_2.1, q_2.2))) else if x2 = (1 : Int32) then k_gi x1 8 (k_lt (f_X_answer (t.1 4 x1.toNatClampNeg) t) (fun q_4 => some (q_4.1, q_4.2))) else if x2 = (2 : Int32) then k_cp (f_Te_followedBy n t x1) (fun r_5 => k_lt (f_X_answer r_5 t) (fun q_6 => some (q_6.1, q_6.2))) else if x2 = (3 : Int32) then k_cp (f_No_whoKnow n t x1) (fun r_7 => k_lt (f_X_answer r_7 t) (fun q_8 => some (q_8.1, q_8.2))) else k_lt (f_X_refuse (1 : Int32) t) (fun q_9 => some (q_9.1, q_9.2))) else k_lt (f_X_refuse (1 : Int32) t) (fun q_10 => some (q_10.1, q_10.2)))
theorem m_X_piece (l : Launch) (G : k_G) (a : Nat → Nat) (tl : Value) (n : Nat) (x1 : Int32) (x2 : Int32) (t : k_St) {r : Int32} {t' : k_St} (hf : f_X_piece n x1 x2 t = some (r, t')) : k_CI l G yX10_piece cX10_piece 3 (some .int) 5 (k_WX G.2.1 a tl t) [.ref (a 0), .int x1, .int x2] r (k_WX G.2.1 a tl t') := by
  refine k_startI (lv := [(0, .ref (a 0)), (1, .int x1), (2, .int x2)]) (by decide +kernel) (Nat.le_of_ble_eq_true rfl) rfl ?_
  intro p e s m args below meth c hA hr
  have hA : k_Amb p s m args meth c cX10_piece 3 "TaleShares" G _ := hA
  unfold f_X_piece at hf
  refine k_aload_n (i := 0) hA dX10_piece_0 rfl 0 rfl ?_
  refine k_iload_n (i := 1) hA dX10_piece_1 rfl 1 rfl ?_
  refine k_callVi (As := [.int x1]) (rest := []) hA (m_X_noPiece l G a tl t x1 rfl) cd_X10_noPiece wd_748 (hc_X_0 G.2.1 a tl t) rfl rfl (Nat.le_of_ble_eq_true rfl) rfl rfl (Nat.le_of_ble_eq_true rfl) dX10_piece_2 ?_
  refine k_if_eq (tgt := 14) hA dX10_piece_5 rfl (fun hc => ?_) (fun hc => ?_)
  · have hf := k_ift hc hf
    refine k_iload_n (i := 2) hA dX10_piece_14 rfl 2 rfl ?_
    by_cases hs_0 : x2 = (0 : Int32)
    · have hf := k_ift hs_0 hf
      refine k_tin (tgt := 44) hA dX10_piece_15 (by rw [hs_0]; decide) (by rw [hs_0]; decide) (by rw [hs_0]; rfl) rfl ?_
      obtain ⟨hi_1, hf⟩ := k_gi_e hf
      obtain ⟨⟨rq_2, tq_2⟩, hq_2, hf⟩ := k_lt_e hf
      dsimp only at hf
      obtain ⟨rfl, rfl⟩ := k_r2 hf
      refine k_aload_n (i := 0) hA dX10_piece_44 rfl 0 rfl ?_
      refine k_aload_n (i := 0) hA dX10_piece_45 rfl 0 rfl ?_
      refine gt_X_0_7 hA wd_444 dX10_piece_46 ?_
      refine gt_X_2_8 hA wd_191 dX10_piece_49 ?_
      refine k_iload_n (i := 1) hA dX10_piece_52 rfl 1 rfl ?_
      refine ld_X_3 hA hi_1 dX10_piece_53 ?_
      refine k_callVi (As := [.int (t.1 3 x1.toNatClampNeg)]) (rest := []) hA (m_X_answer l G a tl (t.1 3 x1.toNatClampNeg) t hq_2.symm) cd_X10_answer wd_732 (hc_X_0 G.2.1 a tl t) rfl rfl (Nat.le_of_ble_eq_true rfl) rfl rfl (Nat.le_of_ble_eq_true rfl) dX10_piece_54 ?_
      exact k_iret hA hr rfl dX10_piece_57
    have hf := k_iff hs_0 hf
    by_cases hs_1 : x2 = (1 : Int32)
    · have hf := k_ift hs_1 hf
      refine k_tin (tgt := 58) hA dX10_piece_15 (by rw [hs_1]; decide) (by rw [hs_1]; decide) (by rw [hs_1]; rfl) rfl ?_
      obtain ⟨hi_3, hf⟩ := k_gi_e hf
      obtain ⟨⟨rq_4, tq_4⟩, hq_4, hf⟩ := k_lt_e hf
      dsimp only at hf
      obtain ⟨rfl, rfl⟩ := k_r2 hf
      refine k_aload_n (i := 0) hA dX10_piece_58 rfl 0 rfl ?_
      refine k_aload_n (i := 0) hA dX10_piece_59 rfl 0 rfl ?_
      refine gt_X_0_7 hA wd_444 dX10_piece_60 ?_
      refine gt_X_2_9 hA wd_194 dX10_piece_63 ?_
      refine k_iload_n (i := 1) hA dX10_piece_66 rfl 1 rfl ?_
      refine ld_X_4 hA hi_3 dX10_piece_67 ?_
      refine k_callVi (As := [.int (t.1 4 x1.toNatClampNeg)]) (rest := []) hA (m_X_answer l G a tl (t.1 4 x1.toNatClampNeg) t hq_4.symm) cd_X10_answer wd_732 (hc_X_0 G.2.1 a tl t) rfl rfl (Nat.le_of_ble_eq_true rfl) rfl rfl (Nat.le_of_ble_eq_true rfl) dX10_piece_68 ?_
      exact k_iret hA hr rfl dX10_piece_71
    have hf := k_iff hs_1 hf
    by_cases hs_2 : x2 = (2 : Int32)
    · have hf := k_ift hs_2 hf
      refine k_tin (tgt := 72) hA dX10_piece_15 (by rw [hs_2]; decide) (by rw [hs_2]; decide) (by rw [hs_2]; rfl) rfl ?_
      obtain ⟨r_5, hr_5, hf⟩ := k_cp_e hf
      obtain ⟨⟨rq_6, tq_6⟩, hq_6, hf⟩ := k_lt_e hf
      dsimp only at hf
      obtain ⟨rfl, rfl⟩ := k_r2 hf
      refine k_aload_n (i := 0) hA dX10_piece_72 rfl 0 rfl ?_
      refine k_aload_n (i := 0) hA dX10_piece_73 rfl 0 rfl ?_
      refine gt_X_0_7 hA wd_444 dX10_piece_74 ?_
      refine k_iload_n (i := 1) hA dX10_piece_77 rfl 1 rfl ?_
      refine k_callVi (As := [.int x1]) (rest := [.ref (a 0)]) hA (m_Te_followedBy l G a tl n t x1 hr_5) cd_X8_followedBy wd_752 (hc_X_2 G.2.1 a tl t) rfl rfl (Nat.le_of_ble_eq_true rfl) rfl rfl (Nat.le_of_ble_eq_true rfl) dX10_piece_78 ?_
      refine k_callVi (As := [.int r_5]) (rest := []) hA (m_X_answer l G a tl r_5 t hq_6.symm) cd_X10_answer wd_732 (hc_X_0 G.2.1 a tl t) rfl rfl (Nat.le_of_ble_eq_true rfl) rfl rfl (Nat.le_of_ble_eq_true rfl) dX10_piece_81 ?_
      exact k_iret hA hr rfl dX10_piece_84
    have hf := k_iff hs_2 hf
    by_cases hs_3 : x2 = (3 : Int32)
    · have hf := k_ift hs_3 hf
      refine k_tin (tgt := 85) hA dX10_piece_15 (by rw [hs_3]; decide) (by rw [hs_3]; decide) (by rw [hs_3]; rfl) rfl ?_
      obtain ⟨r_7, hr_7, hf⟩ := k_cp_e hf
      obtain ⟨⟨rq_8, tq_8⟩, hq_8, hf⟩ := k_lt_e hf
      dsimp only at hf
      obtain ⟨rfl, rfl⟩ := k_r2 hf
      refine k_aload_n (i := 0) hA dX10_piece_85 rfl 0 rfl ?_
      refine k_aload_n (i := 0) hA dX10_piece_86 rfl 0 rfl ?_
      refine gt_X_0_6 hA wd_443 dX10_piece_87 ?_
      refine k_iload_n (i := 1) hA dX10_piece_90 rfl 1 rfl ?_
      refine k_callVi (As := [.int x1]) (rest := [.ref (a 0)]) hA (m_No_whoKnow l G a tl n t x1 hr_7) cd_X3_whoKnow wd_757 (hc_X_34 G.2.1 a tl t) rfl rfl (Nat.le_of_ble_eq_true rfl) rfl rfl (Nat.le_of_ble_eq_true rfl) dX10_piece_91 ?_
      refine k_callVi (As := [.int r_7]) (rest := []) hA (m_X_answer l G a tl r_7 t hq_8.symm) cd_X10_answer wd_732 (hc_X_0 G.2.1 a tl t) rfl rfl (Nat.le_of_ble_eq_true rfl) rfl rfl (Nat.le_of_ble_eq_true rfl) dX10_piece_94 ?_
      exact k_iret hA hr rfl dX10_piece_97
    have hf := k_iff hs_3 hf
    refine k_tout (tgt := 98) hA dX10_piece_15 (k_sw0_3 hs_0 hs_1 hs_2 hs_3) rfl ?_
    obtain ⟨⟨rq_9, tq_9⟩, hq_9, hf⟩ := k_lt_e hf
    dsimp only at hf
    obtain ⟨rfl, rfl⟩ := k_r2 hf
    refine k_aload_n (i := 0) hA dX10_piece_98 rfl 0 rfl ?_
    refine k_iconst hA dX10_piece_99 kc_i_1 ?_
    refine k_callVi (As := [.int (1 : Int32)]) (rest := []) hA (m_X_refuse l G a tl (1 : Int32) t hq_9.symm) cd_X10_refuse wd_480 (hc_X_0 G.2.1 a tl t) rfl rfl (Nat.le_of_ble_eq_true rfl) rfl rfl (Nat.le_of_ble_eq_true rfl) dX10_piece_100 ?_
    exact k_iret hA hr rfl dX10_piece_103
  have hf := k_iff hc hf
  obtain ⟨⟨rq_10, tq_10⟩, hq_10, hf⟩ := k_lt_e hf
  dsimp only at hf
  obtain ⟨rfl, rfl⟩ := k_r2 hf
  refine k_aload_n (i := 0) hA dX10_piece_8 rfl 0 rfl ?_
  refine k_iconst hA dX10_piece_9 kc_i_1 ?_
  refine k_callVi (As := [.int (1 : Int32)]) (rest := []) hA (m_X_refuse l G a tl (1 : Int32) t hq_10.symm) cd_X10_refuse wd_480 (hc_X_0 G.2.1 a tl t) rfl rfl (Nat.le_of_ble_eq_true rfl) rfl rfl (Nat.le_of_ble_eq_true rfl) dX10_piece_10 ?_
  exact k_iret hA hr rfl dX10_piece_13

def f_X_noHouse (t : k_St) (x1 : Int32) : Bool := (if x1 < 0 then true else (if x1 < (t.1 2 4) then false else true))
theorem m_X_noHouse (l : Launch) (G : k_G) (a : Nat → Nat) (tl : Value) (t : k_St) (x1 : Int32) {r : Bool} (hf : f_X_noHouse t x1 = r) : k_CI l G yX10_noHouse cX10_noHouse 2 (some .boolean) 1 (k_WX G.2.1 a tl t) [.ref (a 0), .int x1] (k_b r) (k_WX G.2.1 a tl t) := by
  refine k_startI (lv := [(0, .ref (a 0)), (1, .int x1)]) (by decide +kernel) (Nat.le_of_ble_eq_true rfl) rfl ?_
  intro p e s m args below meth c hA hr
  have hA : k_Amb p s m args meth c cX10_noHouse 2 "TaleShares" G _ := hA
  unfold f_X_noHouse at hf
  refine k_iload_n (i := 1) hA dX10_noHouse_0 rfl 1 rfl ?_
  refine k_if_lt (tgt := 15) hA dX10_noHouse_1 rfl (fun hc => ?_) (fun hc => ?_)
  · have hf := k_ift hc hf
    subst hf
    refine k_iconst hA dX10_noHouse_15 kc_i_1 ?_
    refine k_goto (tgt := 20) hA dX10_noHouse_16 rfl ?_
    exact k_iret hA hr (k_narB (k_b01 _)) dX10_noHouse_20
  have hf := k_iff hc hf
  refine k_iload_n (i := 1) hA dX10_noHouse_4 rfl 1 rfl ?_
  refine k_aload_n (i := 0) hA dX10_noHouse_5 rfl 0 rfl ?_
  refine gt_X_0_7 hA wd_444 dX10_noHouse_6 ?_
  refine gt_X_2_4 hA wd_177 dX10_noHouse_9 ?_
  refine k_icmp_lt (tgt := 19) hA dX10_noHouse_12 rfl (fun hc => ?_) (fun hc => ?_)
  · have hf := k_ift hc hf
    subst hf
    refine k_iconst hA dX10_noHouse_19 kc_i_0 ?_
    exact k_iret hA hr (k_narB (k_b01 _)) dX10_noHouse_20
  have hf := k_iff hc hf
  subst hf
  refine k_iconst hA dX10_noHouse_15 kc_i_1 ?_
  refine k_goto (tgt := 20) hA dX10_noHouse_16 rfl ?_
  exact k_iret hA hr (k_narB (k_b01 _)) dX10_noHouse_20

def f_Ta_isOf (t : k_St) (x1 : Int32) (x2 : Int32) : Option Bool := k_gi x1 162 ((if ((t.1 23 x1.toNatClampNeg) &&& (x2 ^^^ (-1 : Int32))) = 0 then some true else some false))
theorem m_Ta_isOf (l : Launch) (G : k_G) (a : Nat → Nat) (tl : Value) (t : k_St) (x1 : Int32) (x2 : Int32) {r : Bool} (hf : f_Ta_isOf t x1 x2 = some r) : k_CI l G yX7_isOf cX7_isOf 3 (some .boolean) 1 (k_WX G.2.1 a tl t) [.ref (a 21), .int x1, .int x2] (k_b r) (k_WX G.2.1 a tl t) := by
  refine k_startI (lv := [(0, .ref (a 21)), (1, .int x1), (2, .int x2)]) (by decide +kernel) (Nat.le_of_ble_eq_true rfl) rfl ?_
  intro p e s m args below meth c hA hr
  have hA : k_Amb p s m args meth c cX7_isOf 3 "TaleShares$Tales" G _ := hA
  unfold f_Ta_isOf at hf
  obtain ⟨hi_1, hf⟩ := k_gi_e hf
  refine k_aload_n (i := 0) hA dX7_isOf_0 rfl 0 rfl ?_
  refine gt_X_21_2 hA wd_309 dX7_isOf_1 ?_
  refine k_iload_n (i := 1) hA dX7_isOf_4 rfl 1 rfl ?_
  refine ld_X_23 hA hi_1 dX7_isOf_5 ?_
  refine k_iload_n (i := 2) hA dX7_isOf_6 rfl 2 rfl ?_
  refine k_iconst hA dX7_isOf_7 kc_i_m1 ?_
  refine k_ixor hA dX7_isOf_8 ?_
  refine k_iand hA dX7_isOf_9 ?_
  refine k_if_ne (tgt := 17) hA dX7_isOf_10 rfl (fun hc => ?_) (fun hc => ?_)
  · have hf := k_iff hc hf
    obtain rfl := k_r1 hf
    refine k_iconst hA dX7_isOf_17 kc_i_0 ?_
    exact k_iret hA hr (k_narB (k_b01 _)) dX7_isOf_18
  have hf := k_ift hc hf
  obtain rfl := k_r1 hf
  refine k_iconst hA dX7_isOf_13 kc_i_1 ?_
  refine k_goto (tgt := 18) hA dX7_isOf_14 rfl ?_
  exact k_iret hA hr (k_narB (k_b01 _)) dX7_isOf_18

def f_Ta_find_5 (n : Nat) (t : k_St) : Nat → Int32 → Int32 → Int32 → Int32 → Option Int32
  | 0, _, _, _, _ => none
  | k + 1, x1, x2, x3, x4 => (if (t.1 21 0) ≤ x4 then some (-1 : Int32) else k_cp (f_Ta_isOf t x4 x1) (fun r_1 => (if (k_b r_1) = 0 then k_lt (x4 + (1 : Int32)) (fun x4_2 => f_Ta_find_5 n t k x1 x2 x3 x4_2) else (if x3 = x2 then some x4 else k_lt (x3 + (1 : Int32)) (fun x3_3 => k_lt (x4 + (1 : Int32)) (fun x4_4 => f_Ta_find_5 n t k x1 x2 x3_3 x4_4))))))
def f_Ta_find (n : Nat) (t : k_St) (x1 : Int32) (x2 : Int32) : Option Int32 := f_Ta_find_5 n t n x1 x2 (0 : Int32) (0 : Int32)
theorem m_Ta_find_5 {p : Program} (l : Launch) {e : Env} {s : State} {m : MethodId} {args : Array Value} {below : List Frame} {meth : Method} {c : Code} (G : k_G) (a : Nat → Nat) (tl : Value) (n : Nat) (t : k_St) {w0 : va_W} {r : Int32} (hA : k_Amb p s m args meth c cX7_find 5 "TaleShares$Tales" G (va_A w0 s.heap.size)) (hr : meth.sig.returnType = (some .int)) : ∀ (k : Nat) (x1 : Int32) (x2 : Int32) (x3 : Int32) (x4 : Int32), f_Ta_find_5 n t k x1 x2 x3 x4 = some r → k_Go p l e (k_rm 2) s m args below meth c (k_QI G w0 r (k_WX G.2.1 a tl t) args s below) 5 G (va_A w0 s.heap.size) (k_WX G.2.1 a tl t) 5 [(0, .ref (a 21)), (1, .int x1), (2, .int x2), (3, .int x3), (4, .int x4)] [] := by
  intro k
  induction k with
  | zero => intro x1 x2 x3 x4 hf; cases hf
  | succ k ih =>
  intro x1 x2 x3 x4 hf
  rw [f_Ta_find_5] at hf
  refine k_iload hA dX7_find_5 4 rfl ?_
  refine k_aload_n (i := 0) hA dX7_find_7 rfl 0 rfl ?_
  refine gt_X_21_0 hA wd_305 dX7_find_8 ?_
  refine k_icmp_ge (tgt := 41) hA dX7_find_11 rfl (fun hc => ?_) (fun hc => ?_)
  · have hf := k_ift hc hf
    obtain rfl := k_r1 hf
    refine k_iconst hA dX7_find_41 kc_i_m1 ?_
    exact k_iret hA hr rfl dX7_find_42
  have hf := k_iff hc hf
  obtain ⟨r_1, hr_1, hf⟩ := k_cp_e hf
  refine k_aload_n (i := 0) hA dX7_find_14 rfl 0 rfl ?_
  refine k_iload hA dX7_find_15 4 rfl ?_
  refine k_iload_n (i := 1) hA dX7_find_17 rfl 1 rfl ?_
  refine k_callVi (As := [.int x4, .int x1]) (rest := []) hA (m_Ta_isOf l G a tl t x4 x1 hr_1) cd_X7_isOf wd_793 (hc_X_21 G.2.1 a tl t) rfl rfl (Nat.le_of_ble_eq_true rfl) rfl rfl (Nat.le_of_ble_eq_true rfl) dX7_find_18 ?_
  refine k_if_eq (tgt := 35) hA dX7_find_21 rfl (fun hc => ?_) (fun hc => ?_)
  · have hf := k_ift hc hf
    obtain ⟨x4_2, ex4_2, hf⟩ := k_lt_e hf
    refine k_iinc (j := 4) (v := x4_2) (lv' := [(4, .int x4_2), (0, .ref (a 21)), (1, .int x1), (2, .int x2), (3, .int x3)]) hA dX7_find_35 rfl (k_inc ex4_2 kc_i_1) (Nat.le_of_ble_eq_true rfl) rfl ?_
    refine k_goto (tgt := 5) hA dX7_find_38 rfl ?_
    refine k_pick (lv' := [(0, .ref (a 21)), (1, .int x1), (2, .int x2), (3, .int x3), (4, .int x4_2)]) [1, 2, 3, 4, 0] rfl ?_
    exact ih x1 x2 x3 x4_2 hf
  have hf := k_iff hc hf
  refine k_iload_n (i := 3) hA dX7_find_24 rfl 3 rfl ?_
  refine k_iload_n (i := 2) hA dX7_find_25 rfl 2 rfl ?_
  refine k_icmp_ne (tgt := 32) hA dX7_find_26 rfl (fun hc => ?_) (fun hc => ?_)
  · have hf := k_iff hc hf
    obtain ⟨x3_3, ex3_3, hf⟩ := k_lt_e hf
    obtain ⟨x4_4, ex4_4, hf⟩ := k_lt_e hf
    refine k_iinc (j := 3) (v := x3_3) (lv' := [(3, .int x3_3), (0, .ref (a 21)), (1, .int x1), (2, .int x2), (4, .int x4)]) hA dX7_find_32 rfl (k_inc ex3_3 kc_i_1) (Nat.le_of_ble_eq_true rfl) rfl ?_
    refine k_iinc (j := 4) (v := x4_4) (lv' := [(4, .int x4_4), (3, .int x3_3), (0, .ref (a 21)), (1, .int x1), (2, .int x2)]) hA dX7_find_35 rfl (k_inc ex4_4 kc_i_1) (Nat.le_of_ble_eq_true rfl) rfl ?_
    refine k_goto (tgt := 5) hA dX7_find_38 rfl ?_
    refine k_pick (lv' := [(0, .ref (a 21)), (1, .int x1), (2, .int x2), (3, .int x3_3), (4, .int x4_4)]) [2, 3, 4, 1, 0] rfl ?_
    exact ih x1 x2 x3_3 x4_4 hf
  have hf := k_ift hc hf
  obtain rfl := k_r1 hf
  refine k_iload hA dX7_find_29 4 rfl ?_
  exact k_iret hA hr rfl dX7_find_31

theorem m_Ta_find (l : Launch) (G : k_G) (a : Nat → Nat) (tl : Value) (n : Nat) (t : k_St) (x1 : Int32) (x2 : Int32) {r : Int32} (hf : f_Ta_find n t x1 x2 = some r) : k_CI l G yX7_find cX7_find 5 (some .int) 2 (k_WX G.2.1 a tl t) [.ref (a 21), .int x1, .int x2] r (k_WX G.2.1 a tl t) := by
  refine k_startI (lv := [(0, .ref (a 21)), (1, .int x1), (2, .int x2)]) (by decide +kernel) (Nat.le_of_ble_eq_true rfl) rfl ?_
  intro p e s m args below meth c hA hr
  have hA : k_Amb p s m args meth c cX7_find 5 "TaleShares$Tales" G _ := hA
  unfold f_Ta_find at hf
  refine k_iconst hA dX7_find_0 kc_i_0 ?_
  refine k_istore_n (i := 3) (lv' := [(3, .int (0 : Int32)), (0, .ref (a 21)), (1, .int x1), (2, .int x2)]) hA dX7_find_1 rfl rfl (Nat.le_of_ble_eq_true rfl) rfl ?_
  refine k_iconst hA dX7_find_2 kc_i_0 ?_
  refine k_istore (lv' := [(4, .int (0 : Int32)), (3, .int (0 : Int32)), (0, .ref (a 21)), (1, .int x1), (2, .int x2)]) hA dX7_find_3 rfl (Nat.le_of_ble_eq_true rfl) rfl ?_
  refine k_pick (lv' := [(0, .ref (a 21)), (1, .int x1), (2, .int x2), (3, .int (0 : Int32)), (4, .int (0 : Int32))]) [2, 3, 4, 1, 0] rfl ?_
  exact m_Ta_find_5 l G a tl n t hA hr n x1 x2 (0 : Int32) (0 : Int32) hf

def f_Ta_makeSense (n : Nat) (t : k_St) (x1 : Int32) : Option Bool := k_cp (f_Ta_find n t x1 (0 : Int32)) (fun r_1 => (if r_1 = (-1 : Int32) then some false else some true))
theorem m_Ta_makeSense (l : Launch) (G : k_G) (a : Nat → Nat) (tl : Value) (n : Nat) (t : k_St) (x1 : Int32) {r : Bool} (hf : f_Ta_makeSense n t x1 = some r) : k_CI l G yX7_makeSense cX7_makeSense 2 (some .boolean) 3 (k_WX G.2.1 a tl t) [.ref (a 21), .int x1] (k_b r) (k_WX G.2.1 a tl t) := by
  refine k_startI (lv := [(0, .ref (a 21)), (1, .int x1)]) (by decide +kernel) (Nat.le_of_ble_eq_true rfl) rfl ?_
  intro p e s m args below meth c hA hr
  have hA : k_Amb p s m args meth c cX7_makeSense 2 "TaleShares$Tales" G _ := hA
  unfold f_Ta_makeSense at hf
  obtain ⟨r_1, hr_1, hf⟩ := k_cp_e hf
  refine k_aload_n (i := 0) hA dX7_makeSense_0 rfl 0 rfl ?_
  refine k_iload_n (i := 1) hA dX7_makeSense_1 rfl 1 rfl ?_
  refine k_iconst hA dX7_makeSense_2 kc_i_0 ?_
  refine k_callVi (As := [.int x1, .int (0 : Int32)]) (rest := []) hA (m_Ta_find l G a tl n t x1 (0 : Int32) hr_1) cd_X7_find wd_789 (hc_X_21 G.2.1 a tl t) rfl rfl (Nat.le_of_ble_eq_true rfl) rfl rfl (Nat.le_of_ble_eq_true rfl) dX7_makeSense_3 ?_
  refine k_iconst hA dX7_makeSense_6 kc_i_m1 ?_
  refine k_icmp_eq (tgt := 14) hA dX7_makeSense_7 rfl (fun hc => ?_) (fun hc => ?_)
  · have hf := k_ift hc hf
    obtain rfl := k_r1 hf
    refine k_iconst hA dX7_makeSense_14 kc_i_0 ?_
    exact k_iret hA hr (k_narB (k_b01 _)) dX7_makeSense_15
  have hf := k_iff hc hf
  obtain rfl := k_r1 hf
  refine k_iconst hA dX7_makeSense_10 kc_i_1 ?_
  refine k_goto (tgt := 15) hA dX7_makeSense_11 rfl ?_
  exact k_iret hA hr (k_narB (k_b01 _)) dX7_makeSense_15

def f_X_hasSense (n : Nat) (t : k_St) (x1 : Int32) : Option Bool := k_cp (f_Ta_makeSense n t (f_No_knownBy t x1)) (fun r_1 => some r_1)
theorem m_X_hasSense (l : Launch) (G : k_G) (a : Nat → Nat) (tl : Value) (n : Nat) (t : k_St) (x1 : Int32) {r : Bool} (hf : f_X_hasSense n t x1 = some r) : k_CI l G yX10_hasSense cX10_hasSense 2 (some .boolean) 4 (k_WX G.2.1 a tl t) [.ref (a 0), .int x1] (k_b r) (k_WX G.2.1 a tl t) := by
  refine k_startI (lv := [(0, .ref (a 0)), (1, .int x1)]) (by decide +kernel) (Nat.le_of_ble_eq_true rfl) rfl ?_
  intro p e s m args below meth c hA hr
  have hA : k_Amb p s m args meth c cX10_hasSense 2 "TaleShares" G _ := hA
  unfold f_X_hasSense at hf
  obtain ⟨r_1, hr_1, hf⟩ := k_cp_e hf
  obtain rfl := k_r1 hf
  refine k_aload_n (i := 0) hA dX10_hasSense_0 rfl 0 rfl ?_
  refine gt_X_0_1 hA wd_438 dX10_hasSense_1 ?_
  refine k_aload_n (i := 0) hA dX10_hasSense_4 rfl 0 rfl ?_
  refine gt_X_0_6 hA wd_443 dX10_hasSense_5 ?_
  refine k_iload_n (i := 1) hA dX10_hasSense_8 rfl 1 rfl ?_
  refine k_callVi (As := [.int x1]) (rest := [.ref (a 21)]) hA (m_No_knownBy l G a tl t x1 rfl) cd_X3_knownBy wd_780 (hc_X_34 G.2.1 a tl t) rfl rfl (Nat.le_of_ble_eq_true rfl) rfl rfl (Nat.le_of_ble_eq_true rfl) dX10_hasSense_9 ?_
  refine k_callVi (As := [.int (f_No_knownBy t x1)]) (rest := []) hA (m_Ta_makeSense l G a tl n t (f_No_knownBy t x1) hr_1) cd_X7_makeSense wd_785 (hc_X_21 G.2.1 a tl t) rfl rfl (Nat.le_of_ble_eq_true rfl) rfl rfl (Nat.le_of_ble_eq_true rfl) dX10_hasSense_12 ?_
  exact k_iret hA hr (k_narB (k_b01 _)) dX10_hasSense_15

def f_X_house (n : Nat) (x1 : Int32) (x2 : Int32) (t : k_St) : Option (Int32 × k_St) := (if (k_b (f_X_noHouse t x1)) = 0 then (if x2 = (0 : Int32) then k_gi x1 5 (k_lt (f_X_answer (t.1 5 x1.toNatClampNeg) t) (fun q_2 => some (q_2.1, q_2.2))) else if x2 = (1 : Int32) then k_gi x1 5 (k_lt (f_X_answer (t.1 6 x1.toNatClampNeg) t) (fun q_4 => some (q_4.1, q_4.2))) else if x2 = (2 : Int32) then k_gi x1 5 (k_lt (f_X_answer (t.1 7 x1.toNatClampNeg) t) (fun q_6 => some (q_6.1, q_6.2))) else if x2 = (3 : Int32) then k_lt (f_X_answer (f_No_knownBy t x1) t) (fun q_7 => some (q_7.1, q_7.2)) else if x2 = (4 : Int32) then k_lt (f_X_answer (((t.1 2 6) >>> (x1 &&& 31)) &&& (1 : Int32)) t) (fun q_8 => some (q_8.1, q_8.2)) else if x2 = (5 : Int32) then k_cp (f_X_hasSense n t x1) (fun r_9 => (if (k_b r_9) = 0 then k_lt (f_X_answer (0 : Int32) t) (fun q_10 => some (q_10.1, q_10.2)) else k_lt (f_X_answer (1 : Int32) t) (fun q_11 => some (q_11.1, q_11.2)))) else k_lt (f_X_refuse (1 : Int32) t) (fun q_12 => some (q_12.1, q_12.2))) else k_lt (f_X_refuse (1 : Int32) t) (fun q_13 => some (q_13.1, q_13.2)))
theorem m_X_house (l : Launch) (G : k_G) (a : Nat → Nat) (tl : Value) (n : Nat) (x1 : Int32) (x2 : Int32) (t : k_St) {r : Int32} {t' : k_St} (hf : f_X_house n x1 x2 t = some (r, t')) : k_CI l G yX10_house cX10_house 3 (some .int) 5 (k_WX G.2.1 a tl t) [.ref (a 0), .int x1, .int x2] r (k_WX G.2.1 a tl t') := by
  refine k_startI (lv := [(0, .ref (a 0)), (1, .int x1), (2, .int x2)]) (by decide +kernel) (Nat.le_of_ble_eq_true rfl) rfl ?_
  intro p e s m args below meth c hA hr
  have hA : k_Amb p s m args meth c cX10_house 3 "TaleShares" G _ := hA
  unfold f_X_house at hf
  refine k_aload_n (i := 0) hA dX10_house_0 rfl 0 rfl ?_
  refine k_iload_n (i := 1) hA dX10_house_1 rfl 1 rfl ?_
  refine k_callVi (As := [.int x1]) (rest := []) hA (m_X_noHouse l G a tl t x1 rfl) cd_X10_noHouse wd_776 (hc_X_0 G.2.1 a tl t) rfl rfl (Nat.le_of_ble_eq_true rfl) rfl rfl (Nat.le_of_ble_eq_true rfl) dX10_house_2 ?_
  refine k_if_eq (tgt := 14) hA dX10_house_5 rfl (fun hc => ?_) (fun hc => ?_)
  · have hf := k_ift hc hf
    refine k_iload_n (i := 2) hA dX10_house_14 rfl 2 rfl ?_
    by_cases hs_0 : x2 = (0 : Int32)
    · have hf := k_ift hs_0 hf
      refine k_tin (tgt := 52) hA dX10_house_15 (by rw [hs_0]; decide) (by rw [hs_0]; decide) (by rw [hs_0]; rfl) rfl ?_
      obtain ⟨hi_1, hf⟩ := k_gi_e hf
      obtain ⟨⟨rq_2, tq_2⟩, hq_2, hf⟩ := k_lt_e hf
      dsimp only at hf
      obtain ⟨rfl, rfl⟩ := k_r2 hf
      refine k_aload_n (i := 0) hA dX10_house_52 rfl 0 rfl ?_
      refine k_aload_n (i := 0) hA dX10_house_53 rfl 0 rfl ?_
      refine gt_X_0_7 hA wd_444 dX10_house_54 ?_
      refine gt_X_2_10 hA wd_198 dX10_house_57 ?_
      refine k_iload_n (i := 1) hA dX10_house_60 rfl 1 rfl ?_
      refine ld_X_5 hA hi_1 dX10_house_61 ?_
      refine k_callVi (As := [.int (t.1 5 x1.toNatClampNeg)]) (rest := []) hA (m_X_answer l G a tl (t.1 5 x1.toNatClampNeg) t hq_2.symm) cd_X10_answer wd_732 (hc_X_0 G.2.1 a tl t) rfl rfl (Nat.le_of_ble_eq_true rfl) rfl rfl (Nat.le_of_ble_eq_true rfl) dX10_house_62 ?_
      exact k_iret hA hr rfl dX10_house_65
    have hf := k_iff hs_0 hf
    by_cases hs_1 : x2 = (1 : Int32)
    · have hf := k_ift hs_1 hf
      refine k_tin (tgt := 66) hA dX10_house_15 (by rw [hs_1]; decide) (by rw [hs_1]; decide) (by rw [hs_1]; rfl) rfl ?_
      obtain ⟨hi_3, hf⟩ := k_gi_e hf
      obtain ⟨⟨rq_4, tq_4⟩, hq_4, hf⟩ := k_lt_e hf
      dsimp only at hf
      obtain ⟨rfl, rfl⟩ := k_r2 hf
      refine k_aload_n (i := 0) hA dX10_house_66 rfl 0 rfl ?_
      refine k_aload_n (i := 0) hA dX10_house_67 rfl 0 rfl ?_
      refine gt_X_0_7 hA wd_444 dX10_house_68 ?_
      refine gt_X_2_11 hA wd_202 dX10_house_71 ?_
      refine k_iload_n (i := 1) hA dX10_house_74 rfl 1 rfl ?_
      refine ld_X_6 hA hi_3 dX10_house_75 ?_
      refine k_callVi (As := [.int (t.1 6 x1.toNatClampNeg)]) (rest := []) hA (m_X_answer l G a tl (t.1 6 x1.toNatClampNeg) t hq_4.symm) cd_X10_answer wd_732 (hc_X_0 G.2.1 a tl t) rfl rfl (Nat.le_of_ble_eq_true rfl) rfl rfl (Nat.le_of_ble_eq_true rfl) dX10_house_76 ?_
      exact k_iret hA hr rfl dX10_house_79
    have hf := k_iff hs_1 hf
    by_cases hs_2 : x2 = (2 : Int32)
    · have hf := k_ift hs_2 hf
      refine k_tin (tgt := 80) hA dX10_house_15 (by rw [hs_2]; decide) (by rw [hs_2]; decide) (by rw [hs_2]; rfl) rfl ?_
      obtain ⟨hi_5, hf⟩ := k_gi_e hf
      obtain ⟨⟨rq_6, tq_6⟩, hq_6, hf⟩ := k_lt_e hf
      dsimp only at hf
      obtain ⟨rfl, rfl⟩ := k_r2 hf
      refine k_aload_n (i := 0) hA dX10_house_80 rfl 0 rfl ?_
      refine k_aload_n (i := 0) hA dX10_house_81 rfl 0 rfl ?_
      refine gt_X_0_7 hA wd_444 dX10_house_82 ?_
      refine gt_X_2_12 hA wd_206 dX10_house_85 ?_
      refine k_iload_n (i := 1) hA dX10_house_88 rfl 1 rfl ?_
      refine ld_X_7 hA hi_5 dX10_house_89 ?_
      refine k_callVi (As := [.int (t.1 7 x1.toNatClampNeg)]) (rest := []) hA (m_X_answer l G a tl (t.1 7 x1.toNatClampNeg) t hq_6.symm) cd_X10_answer wd_732 (hc_X_0 G.2.1 a tl t) rfl rfl (Nat.le_of_ble_eq_true rfl) rfl rfl (Nat.le_of_ble_eq_true rfl) dX10_house_90 ?_
      exact k_iret hA hr rfl dX10_house_93
    have hf := k_iff hs_2 hf
    by_cases hs_3 : x2 = (3 : Int32)
    · have hf := k_ift hs_3 hf
      refine k_tin (tgt := 94) hA dX10_house_15 (by rw [hs_3]; decide) (by rw [hs_3]; decide) (by rw [hs_3]; rfl) rfl ?_
      obtain ⟨⟨rq_7, tq_7⟩, hq_7, hf⟩ := k_lt_e hf
      dsimp only at hf
      obtain ⟨rfl, rfl⟩ := k_r2 hf
      refine k_aload_n (i := 0) hA dX10_house_94 rfl 0 rfl ?_
      refine k_aload_n (i := 0) hA dX10_house_95 rfl 0 rfl ?_
      refine gt_X_0_6 hA wd_443 dX10_house_96 ?_
      refine k_iload_n (i := 1) hA dX10_house_99 rfl 1 rfl ?_
      refine k_callVi (As := [.int x1]) (rest := [.ref (a 0)]) hA (m_No_knownBy l G a tl t x1 rfl) cd_X3_knownBy wd_780 (hc_X_34 G.2.1 a tl t) rfl rfl (Nat.le_of_ble_eq_true rfl) rfl rfl (Nat.le_of_ble_eq_true rfl) dX10_house_100 ?_
      refine k_callVi (As := [.int (f_No_knownBy t x1)]) (rest := []) hA (m_X_answer l G a tl (f_No_knownBy t x1) t hq_7.symm) cd_X10_answer wd_732 (hc_X_0 G.2.1 a tl t) rfl rfl (Nat.le_of_ble_eq_true rfl) rfl rfl (Nat.le_of_ble_eq_true rfl) dX10_house_103 ?_
      exact k_iret hA hr rfl dX10_house_106
    have hf := k_iff hs_3 hf
    by_cases hs_4 : x2 = (4 : Int32)
    · have hf := k_ift hs_4 hf
      refine k_tin (tgt := 107) hA dX10_house_15 (by rw [hs_4]; decide) (by rw [hs_4]; decide) (by rw [hs_4]; rfl) rfl ?_
      obtain ⟨⟨rq_8, tq_8⟩, hq_8, hf⟩ := k_lt_e hf
      dsimp only at hf
      obtain ⟨rfl, rfl⟩ := k_r2 hf
      refine k_aload_n (i := 0) hA dX10_house_107 rfl 0 rfl ?_
      refine k_aload_n (i := 0) hA dX10_house_108 rfl 0 rfl ?_
      refine gt_X_0_7 hA wd_444 dX10_house_109 ?_
      refine gt_X_2_6 hA wd_183 dX10_house_112 ?_
      refine k_iload_n (i := 1) hA dX10_house_115 rfl 1 rfl ?_
      refine k_ishr hA dX10_house_116 ?_
      refine k_iconst hA dX10_house_117 kc_i_1 ?_
      refine k_iand hA dX10_house_118 ?_
      refine k_callVi (As := [.int (((t.1 2 6) >>> (x1 &&& 31)) &&& (1 : Int32))]) (rest := []) hA (m_X_answer l G a tl (((t.1 2 6) >>> (x1 &&& 31)) &&& (1 : Int32)) t hq_8.symm) cd_X10_answer wd_732 (hc_X_0 G.2.1 a tl t) rfl rfl (Nat.le_of_ble_eq_true rfl) rfl rfl (Nat.le_of_ble_eq_true rfl) dX10_house_119 ?_
      exact k_iret hA hr rfl dX10_house_122
    have hf := k_iff hs_4 hf
    by_cases hs_5 : x2 = (5 : Int32)
    · have hf := k_ift hs_5 hf
      refine k_tin (tgt := 123) hA dX10_house_15 (by rw [hs_5]; decide) (by rw [hs_5]; decide) (by rw [hs_5]; rfl) rfl ?_
      obtain ⟨r_9, hr_9, hf⟩ := k_cp_e hf
      refine k_aload_n (i := 0) hA dX10_house_123 rfl 0 rfl ?_
      refine k_aload_n (i := 0) hA dX10_house_124 rfl 0 rfl ?_
      refine k_iload_n (i := 1) hA dX10_house_125 rfl 1 rfl ?_
      refine k_callVi (As := [.int x1]) (rest := [.ref (a 0)]) hA (m_X_hasSense l G a tl n t x1 hr_9) cd_X10_hasSense wd_781 (hc_X_0 G.2.1 a tl t) rfl rfl (Nat.le_of_ble_eq_true rfl) rfl rfl (Nat.le_of_ble_eq_true rfl) dX10_house_126 ?_
      refine k_if_eq (tgt := 136) hA dX10_house_129 rfl (fun hc => ?_) (fun hc => ?_)
      · have hf := k_ift hc hf
        obtain ⟨⟨rq_10, tq_10⟩, hq_10, hf⟩ := k_lt_e hf
        dsimp only at hf
        obtain ⟨rfl, rfl⟩ := k_r2 hf
        refine k_iconst hA dX10_house_136 kc_i_0 ?_
        refine k_callVi (As := [.int (0 : Int32)]) (rest := []) hA (m_X_answer l G a tl (0 : Int32) t hq_10.symm) cd_X10_answer wd_732 (hc_X_0 G.2.1 a tl t) rfl rfl (Nat.le_of_ble_eq_true rfl) rfl rfl (Nat.le_of_ble_eq_true rfl) dX10_house_137 ?_
        exact k_iret hA hr rfl dX10_house_140
      have hf := k_iff hc hf
      obtain ⟨⟨rq_11, tq_11⟩, hq_11, hf⟩ := k_lt_e hf
      dsimp only at hf
      obtain ⟨rfl, rfl⟩ := k_r2 hf
      refine k_iconst hA dX10_house_132 kc_i_1 ?_
      refine k_goto (tgt := 137) hA dX10_house_133 rfl ?_
      refine k_callVi (As := [.int (1 : Int32)]) (rest := []) hA (m_X_answer l G a tl (1 : Int32) t hq_11.symm) cd_X10_answer wd_732 (hc_X_0 G.2.1 a tl t) rfl rfl (Nat.le_of_ble_eq_true rfl) rfl rfl (Nat.le_of_ble_eq_true rfl) dX10_house_137 ?_
      exact k_iret hA hr rfl dX10_house_140
    have hf := k_iff hs_5 hf
    refine k_tout (tgt := 141) hA dX10_house_15 (k_sw0_5 hs_0 hs_1 hs_2 hs_3 hs_4 hs_5) rfl ?_
    obtain ⟨⟨rq_12, tq_12⟩, hq_12, hf⟩ := k_lt_e hf
    dsimp only at hf
    obtain ⟨rfl, rfl⟩ := k_r2 hf
    refine k_aload_n (i := 0) hA dX10_house_141 rfl 0 rfl ?_
    refine k_iconst hA dX10_house_142 kc_i_1 ?_
    refine k_callVi (As := [.int (1 : Int32)]) (rest := []) hA (m_X_refuse l G a tl (1 : Int32) t hq_12.symm) cd_X10_refuse wd_480 (hc_X_0 G.2.1 a tl t) rfl rfl (Nat.le_of_ble_eq_true rfl) rfl rfl (Nat.le_of_ble_eq_true rfl) dX10_house_143 ?_
    exact k_iret hA hr rfl dX10_house_146
  have hf := k_iff hc hf
  obtain ⟨⟨rq_13, tq_13⟩, hq_13, hf⟩ := k_lt_e hf
  dsimp only at hf
  obtain ⟨rfl, rfl⟩ := k_r2 hf
  refine k_aload_n (i := 0) hA dX10_house_8 rfl 0 rfl ?_
  refine k_iconst hA dX10_house_9 kc_i_1 ?_
  refine k_callVi (As := [.int (1 : Int32)]) (rest := []) hA (m_X_refuse l G a tl (1 : Int32) t hq_13.symm) cd_X10_refuse wd_480 (hc_X_0 G.2.1 a tl t) rfl rfl (Nat.le_of_ble_eq_true rfl) rfl rfl (Nat.le_of_ble_eq_true rfl) dX10_house_10 ?_
  exact k_iret hA hr rfl dX10_house_13

def f_X_unionOf_4 (n : Nat) : Nat → Int64 → Int32 → Int32 → Option Int32
  | 0, _, _, _ => none
  | k + 1, x0, x2, x3 => (if (5 : Int32) ≤ x3 then some x2 else k_lt (x2 ||| (f_X_partOf x0 x3)) (fun x2_1 => k_lt (x3 + (1 : Int32)) (fun x3_2 => f_X_unionOf_4 n k x0 x2_1 x3_2)))
def f_X_unionOf (n : Nat) (x0 : Int64) : Option Int32 := f_X_unionOf_4 n n x0 (0 : Int32) (0 : Int32)
theorem m_X_unionOf_4 {p : Program} (l : Launch) {e : Env} {s : State} {m : MethodId} {args : Array Value} {below : List Frame} {meth : Method} {c : Code} (G : k_G) (w : va_W) (n : Nat) {w0 : va_W} {r : Int32} (hA : k_Amb p s m args meth c cX10_unionOf 4 "TaleShares" G (va_A w0 s.heap.size)) (hr : meth.sig.returnType = (some .int)) : ∀ (k : Nat) (x0 : Int64) (x2 : Int32) (x3 : Int32), f_X_unionOf_4 n k x0 x2 x3 = some r → k_Go p l e (k_rm 2) s m args below meth c (k_QI G w0 r w args s below) 4 G (va_A w0 s.heap.size) w 4 [(0, .long x0), (2, .int x2), (3, .int x3)] [] := by
  intro k
  induction k with
  | zero => intro x0 x2 x3 hf; cases hf
  | succ k ih =>
  intro x0 x2 x3 hf
  rw [f_X_unionOf_4] at hf
  refine k_iload_n (i := 3) hA dX10_unionOf_4 rfl 2 rfl ?_
  refine k_iconst hA dX10_unionOf_5 kc_i_5 ?_
  refine k_icmp_ge (tgt := 23) hA dX10_unionOf_6 rfl (fun hc => ?_) (fun hc => ?_)
  · have hf := k_ift hc hf
    obtain rfl := k_r1 hf
    refine k_iload_n (i := 2) hA dX10_unionOf_23 rfl 1 rfl ?_
    exact k_iret hA hr rfl dX10_unionOf_24
  have hf := k_iff hc hf
  obtain ⟨x2_1, ex2_1, hf⟩ := k_lt_e hf
  obtain ⟨x3_2, ex3_2, hf⟩ := k_lt_e hf
  refine k_iload_n (i := 2) hA dX10_unionOf_9 rfl 1 rfl ?_
  refine k_lload_n (i := 0) hA dX10_unionOf_10 rfl 0 rfl ?_
  refine k_iload_n (i := 3) hA dX10_unionOf_11 rfl 2 rfl ?_
  refine k_callSi (As := [.long x0, .int x3]) (rest := [.int x2]) hA (m_X_partOf l G w x0 x3 rfl) cd_X10_partOf wd_804 (Nat.le_of_ble_eq_true rfl) rfl rfl (Nat.le_of_ble_eq_true rfl) dX10_unionOf_12 ?_
  refine k_ior hA dX10_unionOf_15 ?_
  refine k_istore_n (i := 2) (lv' := [(2, .int x2_1), (0, .long x0), (3, .int x3)]) hA dX10_unionOf_16 rfl ex2_1 (Nat.le_of_ble_eq_true rfl) rfl ?_
  refine k_iinc (j := 2) (v := x3_2) (lv' := [(3, .int x3_2), (2, .int x2_1), (0, .long x0)]) hA dX10_unionOf_17 rfl (k_inc ex3_2 kc_i_1) (Nat.le_of_ble_eq_true rfl) rfl ?_
  refine k_goto (tgt := 4) hA dX10_unionOf_20 rfl ?_
  refine k_pick (lv' := [(0, .long x0), (2, .int x2_1), (3, .int x3_2)]) [2, 1, 0] rfl ?_
  exact ih x0 x2_1 x3_2 hf

theorem m_X_unionOf (l : Launch) (G : k_G) (w : va_W) (n : Nat) (x0 : Int64) {r : Int32} (hf : f_X_unionOf n x0 = some r) : k_CI l G yX10_unionOf cX10_unionOf 4 (some .int) 2 w [.long x0] r w := by
  refine k_startI (lv := [(0, .long x0)]) (by decide +kernel) (Nat.le_of_ble_eq_true rfl) rfl ?_
  intro p e s m args below meth c hA hr
  have hA : k_Amb p s m args meth c cX10_unionOf 4 "TaleShares" G _ := hA
  unfold f_X_unionOf at hf
  refine k_iconst hA dX10_unionOf_0 kc_i_0 ?_
  refine k_istore_n (i := 2) (lv' := [(2, .int (0 : Int32)), (0, .long x0)]) hA dX10_unionOf_1 rfl rfl (Nat.le_of_ble_eq_true rfl) rfl ?_
  refine k_iconst hA dX10_unionOf_2 kc_i_0 ?_
  refine k_istore_n (i := 3) (lv' := [(3, .int (0 : Int32)), (2, .int (0 : Int32)), (0, .long x0)]) hA dX10_unionOf_3 rfl rfl (Nat.le_of_ble_eq_true rfl) rfl ?_
  refine k_pick (lv' := [(0, .long x0), (2, .int (0 : Int32)), (3, .int (0 : Int32))]) [2, 1, 0] rfl ?_
  exact m_X_unionOf_4 l G w n hA hr n x0 (0 : Int32) (0 : Int32) hf

def f_X_known (n : Nat) (t : k_St) : Option (Int32 × k_St) := (if (t.1 0 10) = 0 then k_lt (f_X_refuse (1 : Int32) t) (fun q_1 => some (q_1.1, q_1.2)) else k_cp (f_X_unionOf n (t.2 34 0)) (fun r_2 => k_lt (f_X_answer r_2 t) (fun q_3 => some (q_3.1, q_3.2))))
theorem m_X_known (l : Launch) (G : k_G) (a : Nat → Nat) (tl : Value) (n : Nat) (t : k_St) {r : Int32} {t' : k_St} (hf : f_X_known n t = some (r, t')) : k_CI l G yX10_known cX10_known 1 (some .int) 3 (k_WX G.2.1 a tl t) [.ref (a 0)] r (k_WX G.2.1 a tl t') := by
  refine k_startI (lv := [(0, .ref (a 0))]) (by decide +kernel) (Nat.le_of_ble_eq_true rfl) rfl ?_
  intro p e s m args below meth c hA hr
  have hA : k_Amb p s m args meth c cX10_known 1 "TaleShares" G _ := hA
  unfold f_X_known at hf
  refine k_aload_n (i := 0) hA dX10_known_0 rfl 0 rfl ?_
  refine gt_X_0_8 hA wd_445 dX10_known_1 ?_
  refine k_if_eq (tgt := 24) hA dX10_known_4 rfl (fun hc => ?_) (fun hc => ?_)
  · have hf := k_ift hc hf
    obtain ⟨⟨rq_1, tq_1⟩, hq_1, hf⟩ := k_lt_e hf
    dsimp only at hf
    obtain ⟨rfl, rfl⟩ := k_r2 hf
    refine k_aload_n (i := 0) hA dX10_known_24 rfl 0 rfl ?_
    refine k_iconst hA dX10_known_25 kc_i_1 ?_
    refine k_callVi (As := [.int (1 : Int32)]) (rest := []) hA (m_X_refuse l G a tl (1 : Int32) t hq_1.symm) cd_X10_refuse wd_480 (hc_X_0 G.2.1 a tl t) rfl rfl (Nat.le_of_ble_eq_true rfl) rfl rfl (Nat.le_of_ble_eq_true rfl) dX10_known_26 ?_
    exact k_iret hA hr rfl dX10_known_29
  have hf := k_iff hc hf
  obtain ⟨r_2, hr_2, hf⟩ := k_cp_e hf
  obtain ⟨⟨rq_3, tq_3⟩, hq_3, hf⟩ := k_lt_e hf
  dsimp only at hf
  obtain ⟨rfl, rfl⟩ := k_r2 hf
  refine k_aload_n (i := 0) hA dX10_known_7 rfl 0 rfl ?_
  refine k_aload_n (i := 0) hA dX10_known_8 rfl 0 rfl ?_
  refine gt_X_0_6 hA wd_443 dX10_known_9 ?_
  refine gt_X_34_0 hA wd_412 dX10_known_12 ?_
  refine k_callSi (As := [.long (t.2 34 0)]) (rest := [.ref (a 0)]) hA (m_X_unionOf l G (k_WX G.2.1 a tl t) n (t.2 34 0) hr_2) cd_X10_unionOf wd_801 (Nat.le_of_ble_eq_true rfl) rfl rfl (Nat.le_of_ble_eq_true rfl) dX10_known_15 ?_
  refine k_callVi (As := [.int r_2]) (rest := []) hA (m_X_answer l G a tl r_2 t hq_3.symm) cd_X10_answer wd_732 (hc_X_0 G.2.1 a tl t) rfl rfl (Nat.le_of_ble_eq_true rfl) rfl rfl (Nat.le_of_ble_eq_true rfl) dX10_known_18 ?_
  refine k_goto (tgt := 29) hA dX10_known_21 rfl ?_
  exact k_iret hA hr rfl dX10_known_29

def f_X_alone (n : Nat) (x1 : Int32) (t : k_St) : Option (Int32 × k_St) := (if (k_b (f_X_noHouse t x1)) = 0 then k_cp (f_X_unionOf n ((t.2 34 0) &&& (((255 : Int64) <<< (((8 : Int32) * x1).toInt64 &&& 63)) ^^^ (-1 : Int64)))) (fun r_1 => k_lt (f_X_answer ((f_No_knownBy t x1) &&& (r_1 ^^^ (-1 : Int32))) t) (fun q_2 => some (q_2.1, q_2.2))) else k_lt (f_X_refuse (1 : Int32) t) (fun q_3 => some (q_3.1, q_3.2)))
theorem m_X_alone (l : Launch) (G : k_G) (a : Nat → Nat) (tl : Value) (n : Nat) (x1 : Int32) (t : k_St) {r : Int32} {t' : k_St} (hf : f_X_alone n x1 t = some (r, t')) : k_CI l G yX10_alone cX10_alone 3 (some .int) 3 (k_WX G.2.1 a tl t) [.ref (a 0), .int x1] r (k_WX G.2.1 a tl t') := by
  refine k_startI (lv := [(0, .ref (a 0)), (1, .int x1)]) (by decide +kernel) (Nat.le_of_ble_eq_true rfl) rfl ?_
  intro p e s m args below meth c hA hr
  have hA : k_Amb p s m args meth c cX10_alone 3 "TaleShares" G _ := hA
  unfold f_X_alone at hf
  refine k_aload_n (i := 0) hA dX10_alone_0 rfl 0 rfl ?_
  refine k_iload_n (i := 1) hA dX10_alone_1 rfl 1 rfl ?_
  refine k_callVi (As := [.int x1]) (rest := []) hA (m_X_noHouse l G a tl t x1 rfl) cd_X10_noHouse wd_776 (hc_X_0 G.2.1 a tl t) rfl rfl (Nat.le_of_ble_eq_true rfl) rfl rfl (Nat.le_of_ble_eq_true rfl) dX10_alone_2 ?_
  refine k_if_eq (tgt := 14) hA dX10_alone_5 rfl (fun hc => ?_) (fun hc => ?_)
  · have hf := k_ift hc hf
    obtain ⟨r_1, hr_1, hf⟩ := k_cp_e hf
    obtain ⟨⟨rq_2, tq_2⟩, hq_2, hf⟩ := k_lt_e hf
    dsimp only at hf
    obtain ⟨rfl, rfl⟩ := k_r2 hf
    refine k_aload_n (i := 0) hA dX10_alone_14 rfl 0 rfl ?_
    refine gt_X_0_6 hA wd_443 dX10_alone_15 ?_
    refine gt_X_34_0 hA wd_412 dX10_alone_18 ?_
    refine k_ldc2 hA wd_809 dX10_alone_21 ?_
    refine k_bipush hA dX10_alone_24 kc_b_8 ?_
    refine k_iload_n (i := 1) hA dX10_alone_26 rfl 1 rfl ?_
    refine k_imul hA dX10_alone_27 ?_
    refine k_lshl hA dX10_alone_28 ?_
    refine k_ldc2 hA wd_810 dX10_alone_29 ?_
    refine k_lxor hA dX10_alone_32 ?_
    refine k_land hA dX10_alone_33 ?_
    refine k_callSi (As := [.long ((t.2 34 0) &&& (((255 : Int64) <<< (((8 : Int32) * x1).toInt64 &&& 63)) ^^^ (-1 : Int64)))]) (rest := []) hA (m_X_unionOf l G (k_WX G.2.1 a tl t) n ((t.2 34 0) &&& (((255 : Int64) <<< (((8 : Int32) * x1).toInt64 &&& 63)) ^^^ (-1 : Int64))) hr_1) cd_X10_unionOf wd_801 (Nat.le_of_ble_eq_true rfl) rfl rfl (Nat.le_of_ble_eq_true rfl) dX10_alone_34 ?_
    refine k_istore_n (i := 2) (lv' := [(2, .int r_1), (0, .ref (a 0)), (1, .int x1)]) hA dX10_alone_37 rfl rfl (Nat.le_of_ble_eq_true rfl) rfl ?_
    refine k_aload_n (i := 0) hA dX10_alone_38 rfl 1 rfl ?_
    refine k_aload_n (i := 0) hA dX10_alone_39 rfl 1 rfl ?_
    refine gt_X_0_6 hA wd_443 dX10_alone_40 ?_
    refine k_iload_n (i := 1) hA dX10_alone_43 rfl 2 rfl ?_
    refine k_callVi (As := [.int x1]) (rest := [.ref (a 0)]) hA (m_No_knownBy l G a tl t x1 rfl) cd_X3_knownBy wd_780 (hc_X_34 G.2.1 a tl t) rfl rfl (Nat.le_of_ble_eq_true rfl) rfl rfl (Nat.le_of_ble_eq_true rfl) dX10_alone_44 ?_
    refine k_iload_n (i := 2) hA dX10_alone_47 rfl 0 rfl ?_
    refine k_iconst hA dX10_alone_48 kc_i_m1 ?_
    refine k_ixor hA dX10_alone_49 ?_
    refine k_iand hA dX10_alone_50 ?_
    refine k_callVi (As := [.int ((f_No_knownBy t x1) &&& (r_1 ^^^ (-1 : Int32)))]) (rest := []) hA (m_X_answer l G a tl ((f_No_knownBy t x1) &&& (r_1 ^^^ (-1 : Int32))) t hq_2.symm) cd_X10_answer wd_732 (hc_X_0 G.2.1 a tl t) rfl rfl (Nat.le_of_ble_eq_true rfl) rfl rfl (Nat.le_of_ble_eq_true rfl) dX10_alone_51 ?_
    exact k_iret hA hr rfl dX10_alone_54
  have hf := k_iff hc hf
  obtain ⟨⟨rq_3, tq_3⟩, hq_3, hf⟩ := k_lt_e hf
  dsimp only at hf
  obtain ⟨rfl, rfl⟩ := k_r2 hf
  refine k_aload_n (i := 0) hA dX10_alone_8 rfl 0 rfl ?_
  refine k_iconst hA dX10_alone_9 kc_i_1 ?_
  refine k_callVi (As := [.int (1 : Int32)]) (rest := []) hA (m_X_refuse l G a tl (1 : Int32) t hq_3.symm) cd_X10_refuse wd_480 (hc_X_0 G.2.1 a tl t) rfl rfl (Nat.le_of_ble_eq_true rfl) rfl rfl (Nat.le_of_ble_eq_true rfl) dX10_alone_10 ?_
  exact k_iret hA hr rfl dX10_alone_13

def f_Te_allPieces (t : k_St) : Int32 := (((1 : Int32) <<< ((t.1 2 2) &&& 31)) - (1 : Int32))
theorem m_Te_allPieces (l : Launch) (G : k_G) (a : Nat → Nat) (tl : Value) (t : k_St) {r : Int32} (hf : f_Te_allPieces t = r) : k_CI l G yX8_allPieces cX8_allPieces 1 (some .int) 1 (k_WX G.2.1 a tl t) [.ref (a 2)] r (k_WX G.2.1 a tl t) := by
  refine k_startI (lv := [(0, .ref (a 2))]) (by decide +kernel) (Nat.le_of_ble_eq_true rfl) rfl ?_
  intro p e s m args below meth c hA hr
  have hA : k_Amb p s m args meth c cX8_allPieces 1 "TaleShares$Terrace" G _ := hA
  unfold f_Te_allPieces at hf
  subst hf
  refine k_iconst hA dX8_allPieces_0 kc_i_1 ?_
  refine k_aload_n (i := 0) hA dX8_allPieces_1 rfl 0 rfl ?_
  refine gt_X_2_2 hA wd_166 dX8_allPieces_2 ?_
  refine k_ishl hA dX8_allPieces_5 ?_
  refine k_iconst hA dX8_allPieces_6 kc_i_1 ?_
  refine k_isub hA dX8_allPieces_7 ?_
  exact k_iret hA hr rfl dX8_allPieces_8

def f_X_noPieces (t : k_St) (x1 : Int32) : Bool := (if (t.1 0 10) = 0 then true else (if x1 < 0 then true else (if x1 ≤ (f_Te_allPieces t) then false else true)))
theorem m_X_noPieces (l : Launch) (G : k_G) (a : Nat → Nat) (tl : Value) (t : k_St) (x1 : Int32) {r : Bool} (hf : f_X_noPieces t x1 = r) : k_CI l G yX10_noPieces cX10_noPieces 2 (some .boolean) 2 (k_WX G.2.1 a tl t) [.ref (a 0), .int x1] (k_b r) (k_WX G.2.1 a tl t) := by
  refine k_startI (lv := [(0, .ref (a 0)), (1, .int x1)]) (by decide +kernel) (Nat.le_of_ble_eq_true rfl) rfl ?_
  intro p e s m args below meth c hA hr
  have hA : k_Amb p s m args meth c cX10_noPieces 2 "TaleShares" G _ := hA
  unfold f_X_noPieces at hf
  refine k_aload_n (i := 0) hA dX10_noPieces_0 rfl 0 rfl ?_
  refine gt_X_0_8 hA wd_445 dX10_noPieces_1 ?_
  refine k_if_eq (tgt := 22) hA dX10_noPieces_4 rfl (fun hc => ?_) (fun hc => ?_)
  · have hf := k_ift hc hf
    subst hf
    refine k_iconst hA dX10_noPieces_22 kc_i_1 ?_
    refine k_goto (tgt := 27) hA dX10_noPieces_23 rfl ?_
    exact k_iret hA hr (k_narB (k_b01 _)) dX10_noPieces_27
  have hf := k_iff hc hf
  refine k_iload_n (i := 1) hA dX10_noPieces_7 rfl 1 rfl ?_
  refine k_if_lt (tgt := 22) hA dX10_noPieces_8 rfl (fun hc => ?_) (fun hc => ?_)
  · have hf := k_ift hc hf
    subst hf
    refine k_iconst hA dX10_noPieces_22 kc_i_1 ?_
    refine k_goto (tgt := 27) hA dX10_noPieces_23 rfl ?_
    exact k_iret hA hr (k_narB (k_b01 _)) dX10_noPieces_27
  have hf := k_iff hc hf
  refine k_iload_n (i := 1) hA dX10_noPieces_11 rfl 1 rfl ?_
  refine k_aload_n (i := 0) hA dX10_noPieces_12 rfl 0 rfl ?_
  refine gt_X_0_7 hA wd_444 dX10_noPieces_13 ?_
  refine k_callVi (As := []) (rest := [.int x1]) hA (m_Te_allPieces l G a tl t rfl) cd_X8_allPieces wd_819 (hc_X_2 G.2.1 a tl t) rfl rfl (Nat.le_of_ble_eq_true rfl) rfl rfl (Nat.le_of_ble_eq_true rfl) dX10_noPieces_16 ?_
  refine k_icmp_le (tgt := 26) hA dX10_noPieces_19 rfl (fun hc => ?_) (fun hc => ?_)
  · have hf := k_ift hc hf
    subst hf
    refine k_iconst hA dX10_noPieces_26 kc_i_0 ?_
    exact k_iret hA hr (k_narB (k_b01 _)) dX10_noPieces_27
  have hf := k_iff hc hf
  subst hf
  refine k_iconst hA dX10_noPieces_22 kc_i_1 ?_
  refine k_goto (tgt := 27) hA dX10_noPieces_23 rfl ?_
  exact k_iret hA hr (k_narB (k_b01 _)) dX10_noPieces_27

def f_Ta_countOf_4 (n : Nat) (t : k_St) : Nat → Int32 → Int32 → Int32 → Option Int32
  | 0, _, _, _ => none
  | k + 1, x1, x2, x3 => (if (t.1 21 0) ≤ x3 then some x2 else k_cp (f_Ta_isOf t x3 x1) (fun r_1 => (if (k_b r_1) = 0 then k_lt (x3 + (1 : Int32)) (fun x3_2 => f_Ta_countOf_4 n t k x1 x2 x3_2) else k_lt (x2 + (1 : Int32)) (fun x2_3 => k_lt (x3 + (1 : Int32)) (fun x3_4 => f_Ta_countOf_4 n t k x1 x2_3 x3_4)))))
def f_Ta_countOf (n : Nat) (t : k_St) (x1 : Int32) : Option Int32 := f_Ta_countOf_4 n t n x1 (0 : Int32) (0 : Int32)
theorem m_Ta_countOf_4 {p : Program} (l : Launch) {e : Env} {s : State} {m : MethodId} {args : Array Value} {below : List Frame} {meth : Method} {c : Code} (G : k_G) (a : Nat → Nat) (tl : Value) (n : Nat) (t : k_St) {w0 : va_W} {r : Int32} (hA : k_Amb p s m args meth c cX7_countOf 4 "TaleShares$Tales" G (va_A w0 s.heap.size)) (hr : meth.sig.returnType = (some .int)) : ∀ (k : Nat) (x1 : Int32) (x2 : Int32) (x3 : Int32), f_Ta_countOf_4 n t k x1 x2 x3 = some r → k_Go p l e (k_rm 2) s m args below meth c (k_QI G w0 r (k_WX G.2.1 a tl t) args s below) 4 G (va_A w0 s.heap.size) (k_WX G.2.1 a tl t) 4 [(0, .ref (a 21)), (1, .int x1), (2, .int x2), (3, .int x3)] [] := by
  intro k
  induction k with
  | zero => intro x1 x2 x3 hf; cases hf
  | succ k ih =>
  intro x1 x2 x3 hf
  rw [f_Ta_countOf_4] at hf
  refine k_iload_n (i := 3) hA dX7_countOf_4 rfl 3 rfl ?_
  refine k_aload_n (i := 0) hA dX7_countOf_5 rfl 0 rfl ?_
  refine gt_X_21_0 hA wd_305 dX7_countOf_6 ?_
  refine k_icmp_ge (tgt := 30) hA dX7_countOf_9 rfl (fun hc => ?_) (fun hc => ?_)
  · have hf := k_ift hc hf
    obtain rfl := k_r1 hf
    refine k_iload_n (i := 2) hA dX7_countOf_30 rfl 2 rfl ?_
    exact k_iret hA hr rfl dX7_countOf_31
  have hf := k_iff hc hf
  obtain ⟨r_1, hr_1, hf⟩ := k_cp_e hf
  refine k_aload_n (i := 0) hA dX7_countOf_12 rfl 0 rfl ?_
  refine k_iload_n (i := 3) hA dX7_countOf_13 rfl 3 rfl ?_
  refine k_iload_n (i := 1) hA dX7_countOf_14 rfl 1 rfl ?_
  refine k_callVi (As := [.int x3, .int x1]) (rest := []) hA (m_Ta_isOf l G a tl t x3 x1 hr_1) cd_X7_isOf wd_793 (hc_X_21 G.2.1 a tl t) rfl rfl (Nat.le_of_ble_eq_true rfl) rfl rfl (Nat.le_of_ble_eq_true rfl) dX7_countOf_15 ?_
  refine k_if_eq (tgt := 24) hA dX7_countOf_18 rfl (fun hc => ?_) (fun hc => ?_)
  · have hf := k_ift hc hf
    obtain ⟨x3_2, ex3_2, hf⟩ := k_lt_e hf
    refine k_iinc (j := 3) (v := x3_2) (lv' := [(3, .int x3_2), (0, .ref (a 21)), (1, .int x1), (2, .int x2)]) hA dX7_countOf_24 rfl (k_inc ex3_2 kc_i_1) (Nat.le_of_ble_eq_true rfl) rfl ?_
    refine k_goto (tgt := 4) hA dX7_countOf_27 rfl ?_
    refine k_pick (lv' := [(0, .ref (a 21)), (1, .int x1), (2, .int x2), (3, .int x3_2)]) [1, 2, 3, 0] rfl ?_
    exact ih x1 x2 x3_2 hf
  have hf := k_iff hc hf
  obtain ⟨x2_3, ex2_3, hf⟩ := k_lt_e hf
  obtain ⟨x3_4, ex3_4, hf⟩ := k_lt_e hf
  refine k_iinc (j := 2) (v := x2_3) (lv' := [(2, .int x2_3), (0, .ref (a 21)), (1, .int x1), (3, .int x3)]) hA dX7_countOf_21 rfl (k_inc ex2_3 kc_i_1) (Nat.le_of_ble_eq_true rfl) rfl ?_
  refine k_iinc (j := 3) (v := x3_4) (lv' := [(3, .int x3_4), (2, .int x2_3), (0, .ref (a 21)), (1, .int x1)]) hA dX7_countOf_24 rfl (k_inc ex3_4 kc_i_1) (Nat.le_of_ble_eq_true rfl) rfl ?_
  refine k_goto (tgt := 4) hA dX7_countOf_27 rfl ?_
  refine k_pick (lv' := [(0, .ref (a 21)), (1, .int x1), (2, .int x2_3), (3, .int x3_4)]) [2, 3, 1, 0] rfl ?_
  exact ih x1 x2_3 x3_4 hf

theorem m_Ta_countOf (l : Launch) (G : k_G) (a : Nat → Nat) (tl : Value) (n : Nat) (t : k_St) (x1 : Int32) {r : Int32} (hf : f_Ta_countOf n t x1 = some r) : k_CI l G yX7_countOf cX7_countOf 4 (some .int) 2 (k_WX G.2.1 a tl t) [.ref (a 21), .int x1] r (k_WX G.2.1 a tl t) := by
  refine k_startI (lv := [(0, .ref (a 21)), (1, .int x1)]) (by decide +kernel) (Nat.le_of_ble_eq_true rfl) rfl ?_
  intro p e s m args below meth c hA hr
  have hA : k_Amb p s m args meth c cX7_countOf 4 "TaleShares$Tales" G _ := hA
  unfold f_Ta_countOf at hf
  refine k_iconst hA dX7_countOf_0 kc_i_0 ?_
  refine k_istore_n (i := 2) (lv' := [(2, .int (0 : Int32)), (0, .ref (a 21)), (1, .int x1)]) hA dX7_countOf_1 rfl rfl (Nat.le_of_ble_eq_true rfl) rfl ?_
  refine k_iconst hA dX7_countOf_2 kc_i_0 ?_
  refine k_istore_n (i := 3) (lv' := [(3, .int (0 : Int32)), (2, .int (0 : Int32)), (0, .ref (a 21)), (1, .int x1)]) hA dX7_countOf_3 rfl rfl (Nat.le_of_ble_eq_true rfl) rfl ?_
  refine k_pick (lv' := [(0, .ref (a 21)), (1, .int x1), (2, .int (0 : Int32)), (3, .int (0 : Int32))]) [2, 3, 1, 0] rfl ?_
  exact m_Ta_countOf_4 l G a tl n t hA hr n x1 (0 : Int32) (0 : Int32) hf

def f_X_tales (n : Nat) (x1 : Int32) (t : k_St) : Option (Int32 × k_St) := (if (k_b (f_X_noPieces t x1)) = 0 then k_cp (f_Ta_countOf n t x1) (fun r_1 => k_lt (f_X_answer r_1 t) (fun q_2 => some (q_2.1, q_2.2))) else k_lt (f_X_refuse (1 : Int32) t) (fun q_3 => some (q_3.1, q_3.2)))
theorem m_X_tales (l : Launch) (G : k_G) (a : Nat → Nat) (tl : Value) (n : Nat) (x1 : Int32) (t : k_St) {r : Int32} {t' : k_St} (hf : f_X_tales n x1 t = some (r, t')) : k_CI l G yX10_tales cX10_tales 2 (some .int) 3 (k_WX G.2.1 a tl t) [.ref (a 0), .int x1] r (k_WX G.2.1 a tl t') := by
  refine k_startI (lv := [(0, .ref (a 0)), (1, .int x1)]) (by decide +kernel) (Nat.le_of_ble_eq_true rfl) rfl ?_
  intro p e s m args below meth c hA hr
  have hA : k_Amb p s m args meth c cX10_tales 2 "TaleShares" G _ := hA
  unfold f_X_tales at hf
  refine k_aload_n (i := 0) hA dX10_tales_0 rfl 0 rfl ?_
  refine k_iload_n (i := 1) hA dX10_tales_1 rfl 1 rfl ?_
  refine k_callVi (As := [.int x1]) (rest := []) hA (m_X_noPieces l G a tl t x1 rfl) cd_X10_noPieces wd_815 (hc_X_0 G.2.1 a tl t) rfl rfl (Nat.le_of_ble_eq_true rfl) rfl rfl (Nat.le_of_ble_eq_true rfl) dX10_tales_2 ?_
  refine k_if_eq (tgt := 16) hA dX10_tales_5 rfl (fun hc => ?_) (fun hc => ?_)
  · have hf := k_ift hc hf
    obtain ⟨r_1, hr_1, hf⟩ := k_cp_e hf
    obtain ⟨⟨rq_2, tq_2⟩, hq_2, hf⟩ := k_lt_e hf
    dsimp only at hf
    obtain ⟨rfl, rfl⟩ := k_r2 hf
    refine k_aload_n (i := 0) hA dX10_tales_16 rfl 0 rfl ?_
    refine k_aload_n (i := 0) hA dX10_tales_17 rfl 0 rfl ?_
    refine gt_X_0_1 hA wd_438 dX10_tales_18 ?_
    refine k_iload_n (i := 1) hA dX10_tales_21 rfl 1 rfl ?_
    refine k_callVi (As := [.int x1]) (rest := [.ref (a 0)]) hA (m_Ta_countOf l G a tl n t x1 hr_1) cd_X7_countOf wd_823 (hc_X_21 G.2.1 a tl t) rfl rfl (Nat.le_of_ble_eq_true rfl) rfl rfl (Nat.le_of_ble_eq_true rfl) dX10_tales_22 ?_
    refine k_callVi (As := [.int r_1]) (rest := []) hA (m_X_answer l G a tl r_1 t hq_2.symm) cd_X10_answer wd_732 (hc_X_0 G.2.1 a tl t) rfl rfl (Nat.le_of_ble_eq_true rfl) rfl rfl (Nat.le_of_ble_eq_true rfl) dX10_tales_25 ?_
    exact k_iret hA hr rfl dX10_tales_28
  have hf := k_iff hc hf
  obtain ⟨⟨rq_3, tq_3⟩, hq_3, hf⟩ := k_lt_e hf
  dsimp only at hf
  obtain ⟨rfl, rfl⟩ := k_r2 hf
  refine k_aload_n (i := 0) hA dX10_tales_8 rfl 0 rfl ?_
  refine k_iconst hA dX10_tales_9 kc_i_1 ?_
  refine k_callVi (As := [.int (1 : Int32)]) (rest := []) hA (m_X_refuse l G a tl (1 : Int32) t hq_3.symm) cd_X10_refuse wd_480 (hc_X_0 G.2.1 a tl t) rfl rfl (Nat.le_of_ble_eq_true rfl) rfl rfl (Nat.le_of_ble_eq_true rfl) dX10_tales_10 ?_
  refine k_goto (tgt := 28) hA dX10_tales_13 rfl ?_
  exact k_iret hA hr rfl dX10_tales_28

def f_Ta_longestOf_7 (n : Nat) (t : k_St) : Nat → Int32 → Int32 → Int32 → Int32 → Option Int32
  | 0, _, _, _, _ => none
  | k + 1, x1, x2, x3, x4 => (if (t.1 21 0) ≤ x4 then some x2 else k_cp (f_Ta_isOf t x4 x1) (fun r_1 => (if (k_b r_1) = 0 then k_lt (x4 + (1 : Int32)) (fun x4_2 => f_Ta_longestOf_7 n t k x1 x2 x3 x4_2) else k_cp (f_Ta_lengthOf t x4) (fun r_3 => (if r_3 ≤ x3 then k_lt (x4 + (1 : Int32)) (fun x4_4 => f_Ta_longestOf_7 n t k x1 x2 x3 x4_4) else k_cp (f_Ta_lengthOf t x4) (fun r_5 => k_lt (x4 + (1 : Int32)) (fun x4_6 => f_Ta_longestOf_7 n t k x1 x4 r_5 x4_6)))))))
def f_Ta_longestOf (n : Nat) (t : k_St) (x1 : Int32) : Option Int32 := f_Ta_longestOf_7 n t n x1 (-1 : Int32) (0 : Int32) (0 : Int32)
theorem m_Ta_longestOf_7 {p : Program} (l : Launch) {e : Env} {s : State} {m : MethodId} {args : Array Value} {below : List Frame} {meth : Method} {c : Code} (G : k_G) (a : Nat → Nat) (tl : Value) (n : Nat) (t : k_St) {w0 : va_W} {r : Int32} (hA : k_Amb p s m args meth c cX7_longestOf 5 "TaleShares$Tales" G (va_A w0 s.heap.size)) (hr : meth.sig.returnType = (some .int)) : ∀ (k : Nat) (x1 : Int32) (x2 : Int32) (x3 : Int32) (x4 : Int32), f_Ta_longestOf_7 n t k x1 x2 x3 x4 = some r → k_Go p l e (k_rm 3) s m args below meth c (k_QI G w0 r (k_WX G.2.1 a tl t) args s below) 5 G (va_A w0 s.heap.size) (k_WX G.2.1 a tl t) 7 [(0, .ref (a 21)), (1, .int x1), (2, .int x2), (3, .int x3), (4, .int x4)] [] := by
  intro k
  induction k with
  | zero => intro x1 x2 x3 x4 hf; cases hf
  | succ k ih =>
  intro x1 x2 x3 x4 hf
  rw [f_Ta_longestOf_7] at hf
  refine k_iload hA dX7_longestOf_7 4 rfl ?_
  refine k_aload_n (i := 0) hA dX7_longestOf_9 rfl 0 rfl ?_
  refine gt_X_21_0 hA wd_305 dX7_longestOf_10 ?_
  refine k_icmp_ge (tgt := 52) hA dX7_longestOf_13 rfl (fun hc => ?_) (fun hc => ?_)
  · have hf := k_ift hc hf
    obtain rfl := k_r1 hf
    refine k_iload_n (i := 2) hA dX7_longestOf_52 rfl 2 rfl ?_
    exact k_iret hA hr rfl dX7_longestOf_53
  have hf := k_iff hc hf
  obtain ⟨r_1, hr_1, hf⟩ := k_cp_e hf
  refine k_aload_n (i := 0) hA dX7_longestOf_16 rfl 0 rfl ?_
  refine k_iload hA dX7_longestOf_17 4 rfl ?_
  refine k_iload_n (i := 1) hA dX7_longestOf_19 rfl 1 rfl ?_
  refine k_callVi (As := [.int x4, .int x1]) (rest := []) hA (m_Ta_isOf l G a tl t x4 x1 hr_1) cd_X7_isOf wd_793 (hc_X_21 G.2.1 a tl t) rfl rfl (Nat.le_of_ble_eq_true rfl) rfl rfl (Nat.le_of_ble_eq_true rfl) dX7_longestOf_20 ?_
  refine k_if_eq (tgt := 46) hA dX7_longestOf_23 rfl (fun hc => ?_) (fun hc => ?_)
  · have hf := k_ift hc hf
    obtain ⟨x4_2, ex4_2, hf⟩ := k_lt_e hf
    refine k_iinc (j := 4) (v := x4_2) (lv' := [(4, .int x4_2), (0, .ref (a 21)), (1, .int x1), (2, .int x2), (3, .int x3)]) hA dX7_longestOf_46 rfl (k_inc ex4_2 kc_i_1) (Nat.le_of_ble_eq_true rfl) rfl ?_
    refine k_goto (tgt := 7) hA dX7_longestOf_49 rfl ?_
    refine k_pick (lv' := [(0, .ref (a 21)), (1, .int x1), (2, .int x2), (3, .int x3), (4, .int x4_2)]) [1, 2, 3, 4, 0] rfl ?_
    exact ih x1 x2 x3 x4_2 hf
  have hf := k_iff hc hf
  obtain ⟨r_3, hr_3, hf⟩ := k_cp_e hf
  refine k_aload_n (i := 0) hA dX7_longestOf_26 rfl 0 rfl ?_
  refine k_iload hA dX7_longestOf_27 4 rfl ?_
  refine k_callVi (As := [.int x4]) (rest := []) hA (m_Ta_lengthOf l G a tl t x4 hr_3) cd_X7_lengthOf wd_724 (hc_X_21 G.2.1 a tl t) rfl rfl (Nat.le_of_ble_eq_true rfl) rfl rfl (Nat.le_of_ble_eq_true rfl) dX7_longestOf_29 ?_
  refine k_iload_n (i := 3) hA dX7_longestOf_32 rfl 3 rfl ?_
  refine k_icmp_le (tgt := 46) hA dX7_longestOf_33 rfl (fun hc => ?_) (fun hc => ?_)
  · have hf := k_ift hc hf
    obtain ⟨x4_4, ex4_4, hf⟩ := k_lt_e hf
    refine k_iinc (j := 4) (v := x4_4) (lv' := [(4, .int x4_4), (0, .ref (a 21)), (1, .int x1), (2, .int x2), (3, .int x3)]) hA dX7_longestOf_46 rfl (k_inc ex4_4 kc_i_1) (Nat.le_of_ble_eq_true rfl) rfl ?_
    refine k_goto (tgt := 7) hA dX7_longestOf_49 rfl ?_
    refine k_pick (lv' := [(0, .ref (a 21)), (1, .int x1), (2, .int x2), (3, .int x3), (4, .int x4_4)]) [1, 2, 3, 4, 0] rfl ?_
    exact ih x1 x2 x3 x4_4 hf
  have hf := k_iff hc hf
  obtain ⟨r_5, hr_5, hf⟩ := k_cp_e hf
  obtain ⟨x4_6, ex4_6, hf⟩ := k_lt_e hf
  refine k_iload hA dX7_longestOf_36 4 rfl ?_
  refine k_istore_n (i := 2) (lv' := [(2, .int x4), (0, .ref (a 21)), (1, .int x1), (3, .int x3), (4, .int x4)]) hA dX7_longestOf_38 rfl rfl (Nat.le_of_ble_eq_true rfl) rfl ?_
  refine k_aload_n (i := 0) hA dX7_longestOf_39 rfl 1 rfl ?_
  refine k_iload hA dX7_longestOf_40 4 rfl ?_
  refine k_callVi (As := [.int x4]) (rest := []) hA (m_Ta_lengthOf l G a tl t x4 hr_5) cd_X7_lengthOf wd_724 (hc_X_21 G.2.1 a tl t) rfl rfl (Nat.le_of_ble_eq_true rfl) rfl rfl (Nat.le_of_ble_eq_true rfl) dX7_longestOf_42 ?_
  refine k_istore_n (i := 3) (lv' := [(3, .int r_5), (2, .int x4), (0, .ref (a 21)), (1, .int x1), (4, .int x4)]) hA dX7_longestOf_45 rfl rfl (Nat.le_of_ble_eq_true rfl) rfl ?_
  refine k_iinc (j := 4) (v := x4_6) (lv' := [(4, .int x4_6), (3, .int r_5), (2, .int x4), (0, .ref (a 21)), (1, .int x1)]) hA dX7_longestOf_46 rfl (k_inc ex4_6 kc_i_1) (Nat.le_of_ble_eq_true rfl) rfl ?_
  refine k_goto (tgt := 7) hA dX7_longestOf_49 rfl ?_
  refine k_pick (lv' := [(0, .ref (a 21)), (1, .int x1), (2, .int x4), (3, .int r_5), (4, .int x4_6)]) [3, 4, 2, 1, 0] rfl ?_
  exact ih x1 x4 r_5 x4_6 hf

theorem m_Ta_longestOf (l : Launch) (G : k_G) (a : Nat → Nat) (tl : Value) (n : Nat) (t : k_St) (x1 : Int32) {r : Int32} (hf : f_Ta_longestOf n t x1 = some r) : k_CI l G yX7_longestOf cX7_longestOf 5 (some .int) 3 (k_WX G.2.1 a tl t) [.ref (a 21), .int x1] r (k_WX G.2.1 a tl t) := by
  refine k_startI (lv := [(0, .ref (a 21)), (1, .int x1)]) (by decide +kernel) (Nat.le_of_ble_eq_true rfl) rfl ?_
  intro p e s m args below meth c hA hr
  have hA : k_Amb p s m args meth c cX7_longestOf 5 "TaleShares$Tales" G _ := hA
  unfold f_Ta_longestOf at hf
  refine k_iconst hA dX7_longestOf_0 kc_i_m1 ?_
  refine k_istore_n (i := 2) (lv' := [(2, .int (-1 : Int32)), (0, .ref (a 21)), (1, .int x1)]) hA dX7_longestOf_1 rfl rfl (Nat.le_of_ble_eq_true rfl) rfl ?_
  refine k_iconst hA dX7_longestOf_2 kc_i_0 ?_
  refine k_istore_n (i := 3) (lv' := [(3, .int (0 : Int32)), (2, .int (-1 : Int32)), (0, .ref (a 21)), (1, .int x1)]) hA dX7_longestOf_3 rfl rfl (Nat.le_of_ble_eq_true rfl) rfl ?_
  refine k_iconst hA dX7_longestOf_4 kc_i_0 ?_
  refine k_istore (lv' := [(4, .int (0 : Int32)), (3, .int (0 : Int32)), (2, .int (-1 : Int32)), (0, .ref (a 21)), (1, .int x1)]) hA dX7_longestOf_5 rfl (Nat.le_of_ble_eq_true rfl) rfl ?_
  refine k_pick (lv' := [(0, .ref (a 21)), (1, .int x1), (2, .int (-1 : Int32)), (3, .int (0 : Int32)), (4, .int (0 : Int32))]) [3, 4, 2, 1, 0] rfl ?_
  exact m_Ta_longestOf_7 l G a tl n t hA hr n x1 (-1 : Int32) (0 : Int32) (0 : Int32) hf

def f_X_longest (n : Nat) (x1 : Int32) (t : k_St) : Option (Int32 × k_St) := (if (k_b (f_X_noPieces t x1)) = 0 then k_cp (f_Ta_longestOf n t x1) (fun r_1 => (if r_1 = (-1 : Int32) then k_lt (f_X_answer (-2 : Int32) t) (fun q_4 => some (q_4.1, q_4.2)) else k_cp (f_Ta_lengthOf t r_1) (fun r_2 => k_lt (f_X_answer r_2 t) (fun q_3 => some (q_3.1, q_3.2))))) else k_lt (f_X_refuse (1 : Int32) t) (fun q_5 => some (q_5.1, q_5.2)))
theorem m_X_longest (l : Launch) (G : k_G) (a : Nat → Nat) (tl : Value) (n : Nat) (x1 : Int32) (t : k_St) {r : Int32} {t' : k_St} (hf : f_X_longest n x1 t = some (r, t')) : k_CI l G yX10_longest cX10_longest 3 (some .int) 4 (k_WX G.2.1 a tl t) [.ref (a 0), .int x1] r (k_WX G.2.1 a tl t') := by
  refine k_startI (lv := [(0, .ref (a 0)), (1, .int x1)]) (by decide +kernel) (Nat.le_of_ble_eq_true rfl) rfl ?_
  intro p e s m args below meth c hA hr
  have hA : k_Amb p s m args meth c cX10_longest 3 "TaleShares" G _ := hA
  unfold f_X_longest at hf
  refine k_aload_n (i := 0) hA dX10_longest_0 rfl 0 rfl ?_
  refine k_iload_n (i := 1) hA dX10_longest_1 rfl 1 rfl ?_
  refine k_callVi (As := [.int x1]) (rest := []) hA (m_X_noPieces l G a tl t x1 rfl) cd_X10_noPieces wd_815 (hc_X_0 G.2.1 a tl t) rfl rfl (Nat.le_of_ble_eq_true rfl) rfl rfl (Nat.le_of_ble_eq_true rfl) dX10_longest_2 ?_
  refine k_if_eq (tgt := 14) hA dX10_longest_5 rfl (fun hc => ?_) (fun hc => ?_)
  · have hf := k_ift hc hf
    obtain ⟨r_1, hr_1, hf⟩ := k_cp_e hf
    refine k_aload_n (i := 0) hA dX10_longest_14 rfl 0 rfl ?_
    refine gt_X_0_1 hA wd_438 dX10_longest_15 ?_
    refine k_iload_n (i := 1) hA dX10_longest_18 rfl 1 rfl ?_
    refine k_callVi (As := [.int x1]) (rest := []) hA (m_Ta_longestOf l G a tl n t x1 hr_1) cd_X7_longestOf wd_831 (hc_X_21 G.2.1 a tl t) rfl rfl (Nat.le_of_ble_eq_true rfl) rfl rfl (Nat.le_of_ble_eq_true rfl) dX10_longest_19 ?_
    refine k_istore_n (i := 2) (lv' := [(2, .int r_1), (0, .ref (a 0)), (1, .int x1)]) hA dX10_longest_22 rfl rfl (Nat.le_of_ble_eq_true rfl) rfl ?_
    refine k_aload_n (i := 0) hA dX10_longest_23 rfl 1 rfl ?_
    refine k_iload_n (i := 2) hA dX10_longest_24 rfl 0 rfl ?_
    refine k_iconst hA dX10_longest_25 kc_i_m1 ?_
    refine k_icmp_ne (tgt := 34) hA dX10_longest_26 rfl (fun hc => ?_) (fun hc => ?_)
    · have hf := k_iff hc hf
      obtain ⟨r_2, hr_2, hf⟩ := k_cp_e hf
      obtain ⟨⟨rq_3, tq_3⟩, hq_3, hf⟩ := k_lt_e hf
      dsimp only at hf
      obtain ⟨rfl, rfl⟩ := k_r2 hf
      refine k_aload_n (i := 0) hA dX10_longest_34 rfl 1 rfl ?_
      refine gt_X_0_1 hA wd_438 dX10_longest_35 ?_
      refine k_iload_n (i := 2) hA dX10_longest_38 rfl 0 rfl ?_
      refine k_callVi (As := [.int r_1]) (rest := [.ref (a 0)]) hA (m_Ta_lengthOf l G a tl t r_1 hr_2) cd_X7_lengthOf wd_835 (hc_X_21 G.2.1 a tl t) rfl rfl (Nat.le_of_ble_eq_true rfl) rfl rfl (Nat.le_of_ble_eq_true rfl) dX10_longest_39 ?_
      refine k_callVi (As := [.int r_2]) (rest := []) hA (m_X_answer l G a tl r_2 t hq_3.symm) cd_X10_answer wd_732 (hc_X_0 G.2.1 a tl t) rfl rfl (Nat.le_of_ble_eq_true rfl) rfl rfl (Nat.le_of_ble_eq_true rfl) dX10_longest_42 ?_
      exact k_iret hA hr rfl dX10_longest_45
    have hf := k_ift hc hf
    obtain ⟨⟨rq_4, tq_4⟩, hq_4, hf⟩ := k_lt_e hf
    dsimp only at hf
    obtain ⟨rfl, rfl⟩ := k_r2 hf
    refine k_bipush hA dX10_longest_29 kc_b_m2 ?_
    refine k_goto (tgt := 42) hA dX10_longest_31 rfl ?_
    refine k_callVi (As := [.int (-2 : Int32)]) (rest := []) hA (m_X_answer l G a tl (-2 : Int32) t hq_4.symm) cd_X10_answer wd_732 (hc_X_0 G.2.1 a tl t) rfl rfl (Nat.le_of_ble_eq_true rfl) rfl rfl (Nat.le_of_ble_eq_true rfl) dX10_longest_42 ?_
    exact k_iret hA hr rfl dX10_longest_45
  have hf := k_iff hc hf
  obtain ⟨⟨rq_5, tq_5⟩, hq_5, hf⟩ := k_lt_e hf
  dsimp only at hf
  obtain ⟨rfl, rfl⟩ := k_r2 hf
  refine k_aload_n (i := 0) hA dX10_longest_8 rfl 0 rfl ?_
  refine k_iconst hA dX10_longest_9 kc_i_1 ?_
  refine k_callVi (As := [.int (1 : Int32)]) (rest := []) hA (m_X_refuse l G a tl (1 : Int32) t hq_5.symm) cd_X10_refuse wd_480 (hc_X_0 G.2.1 a tl t) rfl rfl (Nat.le_of_ble_eq_true rfl) rfl rfl (Nat.le_of_ble_eq_true rfl) dX10_longest_10 ?_
  exact k_iret hA hr rfl dX10_longest_13

def f_X_pieceOfTale (n : Nat) (x1 : Int32) (x2 : Int32) (t : k_St) : Option (Int32 × k_St) := (if x1 = (-1 : Int32) then k_lt (f_X_refuse (1 : Int32) t) (fun q_1 => some (q_1.1, q_1.2)) else (if x2 < 0 then k_lt (f_X_refuse (1 : Int32) t) (fun q_2 => some (q_2.1, q_2.2)) else k_cp (f_Ta_lengthOf t x1) (fun r_3 => (if x2 < r_3 then k_cp (f_Ta_pieceAt n t x1 x2) (fun r_4 => k_lt (f_X_answer r_4 t) (fun q_5 => some (q_5.1, q_5.2))) else k_lt (f_X_refuse (1 : Int32) t) (fun q_6 => some (q_6.1, q_6.2))))))
theorem m_X_pieceOfTale (l : Launch) (G : k_G) (a : Nat → Nat) (tl : Value) (n : Nat) (x1 : Int32) (x2 : Int32) (t : k_St) {r : Int32} {t' : k_St} (hf : f_X_pieceOfTale n x1 x2 t = some (r, t')) : k_CI l G yX10_pieceOfTale cX10_pieceOfTale 3 (some .int) 4 (k_WX G.2.1 a tl t) [.ref (a 0), .int x1, .int x2] r (k_WX G.2.1 a tl t') := by
  refine k_startI (lv := [(0, .ref (a 0)), (1, .int x1), (2, .int x2)]) (by decide +kernel) (Nat.le_of_ble_eq_true rfl) rfl ?_
  intro p e s m args below meth c hA hr
  have hA : k_Amb p s m args meth c cX10_pieceOfTale 3 "TaleShares" G _ := hA
  unfold f_X_pieceOfTale at hf
  refine k_iload_n (i := 1) hA dX10_pieceOfTale_0 rfl 1 rfl ?_
  refine k_iconst hA dX10_pieceOfTale_1 kc_i_m1 ?_
  refine k_icmp_eq (tgt := 21) hA dX10_pieceOfTale_2 rfl (fun hc => ?_) (fun hc => ?_)
  · have hf := k_ift hc hf
    obtain ⟨⟨rq_1, tq_1⟩, hq_1, hf⟩ := k_lt_e hf
    dsimp only at hf
    obtain ⟨rfl, rfl⟩ := k_r2 hf
    refine k_aload_n (i := 0) hA dX10_pieceOfTale_21 rfl 0 rfl ?_
    refine k_iconst hA dX10_pieceOfTale_22 kc_i_1 ?_
    refine k_callVi (As := [.int (1 : Int32)]) (rest := []) hA (m_X_refuse l G a tl (1 : Int32) t hq_1.symm) cd_X10_refuse wd_480 (hc_X_0 G.2.1 a tl t) rfl rfl (Nat.le_of_ble_eq_true rfl) rfl rfl (Nat.le_of_ble_eq_true rfl) dX10_pieceOfTale_23 ?_
    exact k_iret hA hr rfl dX10_pieceOfTale_26
  have hf := k_iff hc hf
  refine k_iload_n (i := 2) hA dX10_pieceOfTale_5 rfl 2 rfl ?_
  refine k_if_lt (tgt := 21) hA dX10_pieceOfTale_6 rfl (fun hc => ?_) (fun hc => ?_)
  · have hf := k_ift hc hf
    obtain ⟨⟨rq_2, tq_2⟩, hq_2, hf⟩ := k_lt_e hf
    dsimp only at hf
    obtain ⟨rfl, rfl⟩ := k_r2 hf
    refine k_aload_n (i := 0) hA dX10_pieceOfTale_21 rfl 0 rfl ?_
    refine k_iconst hA dX10_pieceOfTale_22 kc_i_1 ?_
    refine k_callVi (As := [.int (1 : Int32)]) (rest := []) hA (m_X_refuse l G a tl (1 : Int32) t hq_2.symm) cd_X10_refuse wd_480 (hc_X_0 G.2.1 a tl t) rfl rfl (Nat.le_of_ble_eq_true rfl) rfl rfl (Nat.le_of_ble_eq_true rfl) dX10_pieceOfTale_23 ?_
    exact k_iret hA hr rfl dX10_pieceOfTale_26
  have hf := k_iff hc hf
  obtain ⟨r_3, hr_3, hf⟩ := k_cp_e hf
  refine k_iload_n (i := 2) hA dX10_pieceOfTale_9 rfl 2 rfl ?_
  refine k_aload_n (i := 0) hA dX10_pieceOfTale_10 rfl 0 rfl ?_
  refine gt_X_0_1 hA wd_438 dX10_pieceOfTale_11 ?_
  refine k_iload_n (i := 1) hA dX10_pieceOfTale_14 rfl 1 rfl ?_
  refine k_callVi (As := [.int x1]) (rest := [.int x2]) hA (m_Ta_lengthOf l G a tl t x1 hr_3) cd_X7_lengthOf wd_835 (hc_X_21 G.2.1 a tl t) rfl rfl (Nat.le_of_ble_eq_true rfl) rfl rfl (Nat.le_of_ble_eq_true rfl) dX10_pieceOfTale_15 ?_
  refine k_icmp_lt (tgt := 27) hA dX10_pieceOfTale_18 rfl (fun hc => ?_) (fun hc => ?_)
  · have hf := k_ift hc hf
    obtain ⟨r_4, hr_4, hf⟩ := k_cp_e hf
    obtain ⟨⟨rq_5, tq_5⟩, hq_5, hf⟩ := k_lt_e hf
    dsimp only at hf
    obtain ⟨rfl, rfl⟩ := k_r2 hf
    refine k_aload_n (i := 0) hA dX10_pieceOfTale_27 rfl 0 rfl ?_
    refine k_aload_n (i := 0) hA dX10_pieceOfTale_28 rfl 0 rfl ?_
    refine gt_X_0_1 hA wd_438 dX10_pieceOfTale_29 ?_
    refine k_iload_n (i := 1) hA dX10_pieceOfTale_32 rfl 1 rfl ?_
    refine k_iload_n (i := 2) hA dX10_pieceOfTale_33 rfl 2 rfl ?_
    refine k_callVi (As := [.int x1, .int x2]) (rest := [.ref (a 0)]) hA (m_Ta_pieceAt l G a tl n t x1 x2 hr_4) cd_X7_pieceAt wd_844 (hc_X_21 G.2.1 a tl t) rfl rfl (Nat.le_of_ble_eq_true rfl) rfl rfl (Nat.le_of_ble_eq_true rfl) dX10_pieceOfTale_34 ?_
    refine k_callVi (As := [.int r_4]) (rest := []) hA (m_X_answer l G a tl r_4 t hq_5.symm) cd_X10_answer wd_732 (hc_X_0 G.2.1 a tl t) rfl rfl (Nat.le_of_ble_eq_true rfl) rfl rfl (Nat.le_of_ble_eq_true rfl) dX10_pieceOfTale_37 ?_
    exact k_iret hA hr rfl dX10_pieceOfTale_40
  have hf := k_iff hc hf
  obtain ⟨⟨rq_6, tq_6⟩, hq_6, hf⟩ := k_lt_e hf
  dsimp only at hf
  obtain ⟨rfl, rfl⟩ := k_r2 hf
  refine k_aload_n (i := 0) hA dX10_pieceOfTale_21 rfl 0 rfl ?_
  refine k_iconst hA dX10_pieceOfTale_22 kc_i_1 ?_
  refine k_callVi (As := [.int (1 : Int32)]) (rest := []) hA (m_X_refuse l G a tl (1 : Int32) t hq_6.symm) cd_X10_refuse wd_480 (hc_X_0 G.2.1 a tl t) rfl rfl (Nat.le_of_ble_eq_true rfl) rfl rfl (Nat.le_of_ble_eq_true rfl) dX10_pieceOfTale_23 ?_
  exact k_iret hA hr rfl dX10_pieceOfTale_26

def f_X_longestAt (n : Nat) (x1 : Int32) (x2 : Int32) (t : k_St) : Option (Int32 × k_St) := (if (k_b (f_X_noPieces t x1)) = 0 then k_cp (f_Ta_longestOf n t x1) (fun r_1 => k_cl (f_X_pieceOfTale n r_1 x2 t) (fun r_3 t_2 => some (r_3, t_2))) else k_lt (f_X_refuse (1 : Int32) t) (fun q_4 => some (q_4.1, q_4.2)))
theorem m_X_longestAt (l : Launch) (G : k_G) (a : Nat → Nat) (tl : Value) (n : Nat) (x1 : Int32) (x2 : Int32) (t : k_St) {r : Int32} {t' : k_St} (hf : f_X_longestAt n x1 x2 t = some (r, t')) : k_CI l G yX10_longestAt cX10_longestAt 3 (some .int) 5 (k_WX G.2.1 a tl t) [.ref (a 0), .int x1, .int x2] r (k_WX G.2.1 a tl t') := by
  refine k_startI (lv := [(0, .ref (a 0)), (1, .int x1), (2, .int x2)]) (by decide +kernel) (Nat.le_of_ble_eq_true rfl) rfl ?_
  intro p e s m args below meth c hA hr
  have hA : k_Amb p s m args meth c cX10_longestAt 3 "TaleShares" G _ := hA
  unfold f_X_longestAt at hf
  refine k_aload_n (i := 0) hA dX10_longestAt_0 rfl 0 rfl ?_
  refine k_iload_n (i := 1) hA dX10_longestAt_1 rfl 1 rfl ?_
  refine k_callVi (As := [.int x1]) (rest := []) hA (m_X_noPieces l G a tl t x1 rfl) cd_X10_noPieces wd_815 (hc_X_0 G.2.1 a tl t) rfl rfl (Nat.le_of_ble_eq_true rfl) rfl rfl (Nat.le_of_ble_eq_true rfl) dX10_longestAt_2 ?_
  refine k_if_eq (tgt := 16) hA dX10_longestAt_5 rfl (fun hc => ?_) (fun hc => ?_)
  · have hf := k_ift hc hf
    obtain ⟨r_1, hr_1, hf⟩ := k_cp_e hf
    obtain ⟨r_3, t_2, ht_2, hf⟩ := k_cl_e hf
    obtain ⟨rfl, rfl⟩ := k_r2 hf
    refine k_aload_n (i := 0) hA dX10_longestAt_16 rfl 0 rfl ?_
    refine k_aload_n (i := 0) hA dX10_longestAt_17 rfl 0 rfl ?_
    refine gt_X_0_1 hA wd_438 dX10_longestAt_18 ?_
    refine k_iload_n (i := 1) hA dX10_longestAt_21 rfl 1 rfl ?_
    refine k_callVi (As := [.int x1]) (rest := [.ref (a 0)]) hA (m_Ta_longestOf l G a tl n t x1 hr_1) cd_X7_longestOf wd_831 (hc_X_21 G.2.1 a tl t) rfl rfl (Nat.le_of_ble_eq_true rfl) rfl rfl (Nat.le_of_ble_eq_true rfl) dX10_longestAt_22 ?_
    refine k_iload_n (i := 2) hA dX10_longestAt_25 rfl 2 rfl ?_
    refine k_callVi (As := [.int r_1, .int x2]) (rest := []) hA (m_X_pieceOfTale l G a tl n r_1 x2 t ht_2) cd_X10_pieceOfTale wd_840 (hc_X_0 G.2.1 a tl t) rfl rfl (Nat.le_of_ble_eq_true rfl) rfl rfl (Nat.le_of_ble_eq_true rfl) dX10_longestAt_26 ?_
    exact k_iret hA hr rfl dX10_longestAt_29
  have hf := k_iff hc hf
  obtain ⟨⟨rq_4, tq_4⟩, hq_4, hf⟩ := k_lt_e hf
  dsimp only at hf
  obtain ⟨rfl, rfl⟩ := k_r2 hf
  refine k_aload_n (i := 0) hA dX10_longestAt_8 rfl 0 rfl ?_
  refine k_iconst hA dX10_longestAt_9 kc_i_1 ?_
  refine k_callVi (As := [.int (1 : Int32)]) (rest := []) hA (m_X_refuse l G a tl (1 : Int32) t hq_4.symm) cd_X10_refuse wd_480 (hc_X_0 G.2.1 a tl t) rfl rfl (Nat.le_of_ble_eq_true rfl) rfl rfl (Nat.le_of_ble_eq_true rfl) dX10_longestAt_10 ?_
  refine k_goto (tgt := 29) hA dX10_longestAt_13 rfl ?_
  exact k_iret hA hr rfl dX10_longestAt_29

def f_X_taleAt (n : Nat) (x1 : Int32) (x2 : Int32) (x3 : Int32) (t : k_St) : Option (Int32 × k_St) := (if (k_b (f_X_noPieces t x1)) = 0 then k_cp (f_Ta_find n t x1 x2) (fun r_1 => k_cl (f_X_pieceOfTale n r_1 x3 t) (fun r_3 t_2 => some (r_3, t_2))) else k_lt (f_X_refuse (1 : Int32) t) (fun q_4 => some (q_4.1, q_4.2)))
theorem m_X_taleAt (l : Launch) (G : k_G) (a : Nat → Nat) (tl : Value) (n : Nat) (x1 : Int32) (x2 : Int32) (x3 : Int32) (t : k_St) {r : Int32} {t' : k_St} (hf : f_X_taleAt n x1 x2 x3 t = some (r, t')) : k_CI l G yX10_taleAt cX10_taleAt 4 (some .int) 5 (k_WX G.2.1 a tl t) [.ref (a 0), .int x1, .int x2, .int x3] r (k_WX G.2.1 a tl t') := by
  refine k_startI (lv := [(0, .ref (a 0)), (1, .int x1), (2, .int x2), (3, .int x3)]) (by decide +kernel) (Nat.le_of_ble_eq_true rfl) rfl ?_
  intro p e s m args below meth c hA hr
  have hA : k_Amb p s m args meth c cX10_taleAt 4 "TaleShares" G _ := hA
  unfold f_X_taleAt at hf
  refine k_aload_n (i := 0) hA dX10_taleAt_0 rfl 0 rfl ?_
  refine k_iload_n (i := 1) hA dX10_taleAt_1 rfl 1 rfl ?_
  refine k_callVi (As := [.int x1]) (rest := []) hA (m_X_noPieces l G a tl t x1 rfl) cd_X10_noPieces wd_815 (hc_X_0 G.2.1 a tl t) rfl rfl (Nat.le_of_ble_eq_true rfl) rfl rfl (Nat.le_of_ble_eq_true rfl) dX10_taleAt_2 ?_
  refine k_if_eq (tgt := 16) hA dX10_taleAt_5 rfl (fun hc => ?_) (fun hc => ?_)
  · have hf := k_ift hc hf
    obtain ⟨r_1, hr_1, hf⟩ := k_cp_e hf
    obtain ⟨r_3, t_2, ht_2, hf⟩ := k_cl_e hf
    obtain ⟨rfl, rfl⟩ := k_r2 hf
    refine k_aload_n (i := 0) hA dX10_taleAt_16 rfl 0 rfl ?_
    refine k_aload_n (i := 0) hA dX10_taleAt_17 rfl 0 rfl ?_
    refine gt_X_0_1 hA wd_438 dX10_taleAt_18 ?_
    refine k_iload_n (i := 1) hA dX10_taleAt_21 rfl 1 rfl ?_
    refine k_iload_n (i := 2) hA dX10_taleAt_22 rfl 2 rfl ?_
    refine k_callVi (As := [.int x1, .int x2]) (rest := [.ref (a 0)]) hA (m_Ta_find l G a tl n t x1 x2 hr_1) cd_X7_find wd_849 (hc_X_21 G.2.1 a tl t) rfl rfl (Nat.le_of_ble_eq_true rfl) rfl rfl (Nat.le_of_ble_eq_true rfl) dX10_taleAt_23 ?_
    refine k_iload_n (i := 3) hA dX10_taleAt_26 rfl 3 rfl ?_
    refine k_callVi (As := [.int r_1, .int x3]) (rest := []) hA (m_X_pieceOfTale l G a tl n r_1 x3 t ht_2) cd_X10_pieceOfTale wd_840 (hc_X_0 G.2.1 a tl t) rfl rfl (Nat.le_of_ble_eq_true rfl) rfl rfl (Nat.le_of_ble_eq_true rfl) dX10_taleAt_27 ?_
    exact k_iret hA hr rfl dX10_taleAt_30
  have hf := k_iff hc hf
  obtain ⟨⟨rq_4, tq_4⟩, hq_4, hf⟩ := k_lt_e hf
  dsimp only at hf
  obtain ⟨rfl, rfl⟩ := k_r2 hf
  refine k_aload_n (i := 0) hA dX10_taleAt_8 rfl 0 rfl ?_
  refine k_iconst hA dX10_taleAt_9 kc_i_1 ?_
  refine k_callVi (As := [.int (1 : Int32)]) (rest := []) hA (m_X_refuse l G a tl (1 : Int32) t hq_4.symm) cd_X10_refuse wd_480 (hc_X_0 G.2.1 a tl t) rfl rfl (Nat.le_of_ble_eq_true rfl) rfl rfl (Nat.le_of_ble_eq_true rfl) dX10_taleAt_10 ?_
  refine k_goto (tgt := 30) hA dX10_taleAt_13 rfl ?_
  exact k_iret hA hr rfl dX10_taleAt_30

def f_Ta_inSome_4 (n : Nat) (t : k_St) : Nat → Int32 → Int32 → Int32 → Option Int32
  | 0, _, _, _ => none
  | k + 1, x1, x2, x3 => (if (t.1 21 0) ≤ x3 then some x2 else k_cp (f_Ta_isOf t x3 x1) (fun r_1 => (if (k_b r_1) = 0 then k_lt (x3 + (1 : Int32)) (fun x3_2 => f_Ta_inSome_4 n t k x1 x2 x3_2) else k_gi x3 162 (k_lt (x2 ||| (t.1 23 x3.toNatClampNeg)) (fun x2_4 => k_lt (x3 + (1 : Int32)) (fun x3_5 => f_Ta_inSome_4 n t k x1 x2_4 x3_5))))))
def f_Ta_inSome (n : Nat) (t : k_St) (x1 : Int32) : Option Int32 := f_Ta_inSome_4 n t n x1 (0 : Int32) (0 : Int32)
theorem m_Ta_inSome_4 {p : Program} (l : Launch) {e : Env} {s : State} {m : MethodId} {args : Array Value} {below : List Frame} {meth : Method} {c : Code} (G : k_G) (a : Nat → Nat) (tl : Value) (n : Nat) (t : k_St) {w0 : va_W} {r : Int32} (hA : k_Amb p s m args meth c cX7_inSome 4 "TaleShares$Tales" G (va_A w0 s.heap.size)) (hr : meth.sig.returnType = (some .int)) : ∀ (k : Nat) (x1 : Int32) (x2 : Int32) (x3 : Int32), f_Ta_inSome_4 n t k x1 x2 x3 = some r → k_Go p l e (k_rm 2) s m args below meth c (k_QI G w0 r (k_WX G.2.1 a tl t) args s below) 4 G (va_A w0 s.heap.size) (k_WX G.2.1 a tl t) 4 [(0, .ref (a 21)), (1, .int x1), (2, .int x2), (3, .int x3)] [] := by
  intro k
  induction k with
  | zero => intro x1 x2 x3 hf; cases hf
  | succ k ih =>
  intro x1 x2 x3 hf
  rw [f_Ta_inSome_4] at hf
  refine k_iload_n (i := 3) hA dX7_inSome_4 rfl 3 rfl ?_
  refine k_aload_n (i := 0) hA dX7_inSome_5 rfl 0 rfl ?_
  refine gt_X_21_0 hA wd_305 dX7_inSome_6 ?_
  refine k_icmp_ge (tgt := 36) hA dX7_inSome_9 rfl (fun hc => ?_) (fun hc => ?_)
  · have hf := k_ift hc hf
    obtain rfl := k_r1 hf
    refine k_iload_n (i := 2) hA dX7_inSome_36 rfl 2 rfl ?_
    exact k_iret hA hr rfl dX7_inSome_37
  have hf := k_iff hc hf
  obtain ⟨r_1, hr_1, hf⟩ := k_cp_e hf
  refine k_aload_n (i := 0) hA dX7_inSome_12 rfl 0 rfl ?_
  refine k_iload_n (i := 3) hA dX7_inSome_13 rfl 3 rfl ?_
  refine k_iload_n (i := 1) hA dX7_inSome_14 rfl 1 rfl ?_
  refine k_callVi (As := [.int x3, .int x1]) (rest := []) hA (m_Ta_isOf l G a tl t x3 x1 hr_1) cd_X7_isOf wd_793 (hc_X_21 G.2.1 a tl t) rfl rfl (Nat.le_of_ble_eq_true rfl) rfl rfl (Nat.le_of_ble_eq_true rfl) dX7_inSome_15 ?_
  refine k_if_eq (tgt := 30) hA dX7_inSome_18 rfl (fun hc => ?_) (fun hc => ?_)
  · have hf := k_ift hc hf
    obtain ⟨x3_2, ex3_2, hf⟩ := k_lt_e hf
    refine k_iinc (j := 3) (v := x3_2) (lv' := [(3, .int x3_2), (0, .ref (a 21)), (1, .int x1), (2, .int x2)]) hA dX7_inSome_30 rfl (k_inc ex3_2 kc_i_1) (Nat.le_of_ble_eq_true rfl) rfl ?_
    refine k_goto (tgt := 4) hA dX7_inSome_33 rfl ?_
    refine k_pick (lv' := [(0, .ref (a 21)), (1, .int x1), (2, .int x2), (3, .int x3_2)]) [1, 2, 3, 0] rfl ?_
    exact ih x1 x2 x3_2 hf
  have hf := k_iff hc hf
  obtain ⟨hi_3, hf⟩ := k_gi_e hf
  obtain ⟨x2_4, ex2_4, hf⟩ := k_lt_e hf
  obtain ⟨x3_5, ex3_5, hf⟩ := k_lt_e hf
  refine k_iload_n (i := 2) hA dX7_inSome_21 rfl 2 rfl ?_
  refine k_aload_n (i := 0) hA dX7_inSome_22 rfl 0 rfl ?_
  refine gt_X_21_2 hA wd_309 dX7_inSome_23 ?_
  refine k_iload_n (i := 3) hA dX7_inSome_26 rfl 3 rfl ?_
  refine ld_X_23 hA hi_3 dX7_inSome_27 ?_
  refine k_ior hA dX7_inSome_28 ?_
  refine k_istore_n (i := 2) (lv' := [(2, .int x2_4), (0, .ref (a 21)), (1, .int x1), (3, .int x3)]) hA dX7_inSome_29 rfl ex2_4 (Nat.le_of_ble_eq_true rfl) rfl ?_
  refine k_iinc (j := 3) (v := x3_5) (lv' := [(3, .int x3_5), (2, .int x2_4), (0, .ref (a 21)), (1, .int x1)]) hA dX7_inSome_30 rfl (k_inc ex3_5 kc_i_1) (Nat.le_of_ble_eq_true rfl) rfl ?_
  refine k_goto (tgt := 4) hA dX7_inSome_33 rfl ?_
  refine k_pick (lv' := [(0, .ref (a 21)), (1, .int x1), (2, .int x2_4), (3, .int x3_5)]) [2, 3, 1, 0] rfl ?_
  exact ih x1 x2_4 x3_5 hf

theorem m_Ta_inSome (l : Launch) (G : k_G) (a : Nat → Nat) (tl : Value) (n : Nat) (t : k_St) (x1 : Int32) {r : Int32} (hf : f_Ta_inSome n t x1 = some r) : k_CI l G yX7_inSome cX7_inSome 4 (some .int) 2 (k_WX G.2.1 a tl t) [.ref (a 21), .int x1] r (k_WX G.2.1 a tl t) := by
  refine k_startI (lv := [(0, .ref (a 21)), (1, .int x1)]) (by decide +kernel) (Nat.le_of_ble_eq_true rfl) rfl ?_
  intro p e s m args below meth c hA hr
  have hA : k_Amb p s m args meth c cX7_inSome 4 "TaleShares$Tales" G _ := hA
  unfold f_Ta_inSome at hf
  refine k_iconst hA dX7_inSome_0 kc_i_0 ?_
  refine k_istore_n (i := 2) (lv' := [(2, .int (0 : Int32)), (0, .ref (a 21)), (1, .int x1)]) hA dX7_inSome_1 rfl rfl (Nat.le_of_ble_eq_true rfl) rfl ?_
  refine k_iconst hA dX7_inSome_2 kc_i_0 ?_
  refine k_istore_n (i := 3) (lv' := [(3, .int (0 : Int32)), (2, .int (0 : Int32)), (0, .ref (a 21)), (1, .int x1)]) hA dX7_inSome_3 rfl rfl (Nat.le_of_ble_eq_true rfl) rfl ?_
  refine k_pick (lv' := [(0, .ref (a 21)), (1, .int x1), (2, .int (0 : Int32)), (3, .int (0 : Int32))]) [2, 3, 1, 0] rfl ?_
  exact m_Ta_inSome_4 l G a tl n t hA hr n x1 (0 : Int32) (0 : Int32) hf

def f_X_used (n : Nat) (x1 : Int32) (t : k_St) : Option (Int32 × k_St) := (if (k_b (f_X_noPieces t x1)) = 0 then k_cp (f_Ta_inSome n t x1) (fun r_1 => k_lt (f_X_answer r_1 t) (fun q_2 => some (q_2.1, q_2.2))) else k_lt (f_X_refuse (1 : Int32) t) (fun q_3 => some (q_3.1, q_3.2)))
theorem m_X_used (l : Launch) (G : k_G) (a : Nat → Nat) (tl : Value) (n : Nat) (x1 : Int32) (t : k_St) {r : Int32} {t' : k_St} (hf : f_X_used n x1 t = some (r, t')) : k_CI l G yX10_used cX10_used 2 (some .int) 3 (k_WX G.2.1 a tl t) [.ref (a 0), .int x1] r (k_WX G.2.1 a tl t') := by
  refine k_startI (lv := [(0, .ref (a 0)), (1, .int x1)]) (by decide +kernel) (Nat.le_of_ble_eq_true rfl) rfl ?_
  intro p e s m args below meth c hA hr
  have hA : k_Amb p s m args meth c cX10_used 2 "TaleShares" G _ := hA
  unfold f_X_used at hf
  refine k_aload_n (i := 0) hA dX10_used_0 rfl 0 rfl ?_
  refine k_iload_n (i := 1) hA dX10_used_1 rfl 1 rfl ?_
  refine k_callVi (As := [.int x1]) (rest := []) hA (m_X_noPieces l G a tl t x1 rfl) cd_X10_noPieces wd_815 (hc_X_0 G.2.1 a tl t) rfl rfl (Nat.le_of_ble_eq_true rfl) rfl rfl (Nat.le_of_ble_eq_true rfl) dX10_used_2 ?_
  refine k_if_eq (tgt := 16) hA dX10_used_5 rfl (fun hc => ?_) (fun hc => ?_)
  · have hf := k_ift hc hf
    obtain ⟨r_1, hr_1, hf⟩ := k_cp_e hf
    obtain ⟨⟨rq_2, tq_2⟩, hq_2, hf⟩ := k_lt_e hf
    dsimp only at hf
    obtain ⟨rfl, rfl⟩ := k_r2 hf
    refine k_aload_n (i := 0) hA dX10_used_16 rfl 0 rfl ?_
    refine k_aload_n (i := 0) hA dX10_used_17 rfl 0 rfl ?_
    refine gt_X_0_1 hA wd_438 dX10_used_18 ?_
    refine k_iload_n (i := 1) hA dX10_used_21 rfl 1 rfl ?_
    refine k_callVi (As := [.int x1]) (rest := [.ref (a 0)]) hA (m_Ta_inSome l G a tl n t x1 hr_1) cd_X7_inSome wd_854 (hc_X_21 G.2.1 a tl t) rfl rfl (Nat.le_of_ble_eq_true rfl) rfl rfl (Nat.le_of_ble_eq_true rfl) dX10_used_22 ?_
    refine k_callVi (As := [.int r_1]) (rest := []) hA (m_X_answer l G a tl r_1 t hq_2.symm) cd_X10_answer wd_732 (hc_X_0 G.2.1 a tl t) rfl rfl (Nat.le_of_ble_eq_true rfl) rfl rfl (Nat.le_of_ble_eq_true rfl) dX10_used_25 ?_
    exact k_iret hA hr rfl dX10_used_28
  have hf := k_iff hc hf
  obtain ⟨⟨rq_3, tq_3⟩, hq_3, hf⟩ := k_lt_e hf
  dsimp only at hf
  obtain ⟨rfl, rfl⟩ := k_r2 hf
  refine k_aload_n (i := 0) hA dX10_used_8 rfl 0 rfl ?_
  refine k_iconst hA dX10_used_9 kc_i_1 ?_
  refine k_callVi (As := [.int (1 : Int32)]) (rest := []) hA (m_X_refuse l G a tl (1 : Int32) t hq_3.symm) cd_X10_refuse wd_480 (hc_X_0 G.2.1 a tl t) rfl rfl (Nat.le_of_ble_eq_true rfl) rfl rfl (Nat.le_of_ble_eq_true rfl) dX10_used_10 ?_
  refine k_goto (tgt := 28) hA dX10_used_13 rfl ?_
  exact k_iret hA hr rfl dX10_used_28

def f_Ta_inAll_8 (n : Nat) (t : k_St) : Nat → Int32 → Int32 → Int32 → Option Int32
  | 0, _, _, _ => none
  | k + 1, x1, x2, x3 => (if (t.1 21 0) ≤ x3 then some x2 else k_cp (f_Ta_isOf t x3 x1) (fun r_1 => (if (k_b r_1) = 0 then k_lt (x3 + (1 : Int32)) (fun x3_2 => f_Ta_inAll_8 n t k x1 x2 x3_2) else k_gi x3 162 (k_lt (x2 &&& (t.1 23 x3.toNatClampNeg)) (fun x2_4 => k_lt (x3 + (1 : Int32)) (fun x3_5 => f_Ta_inAll_8 n t k x1 x2_4 x3_5))))))
def f_Ta_inAll (n : Nat) (t : k_St) (x1 : Int32) : Option Int32 := k_cp (f_Ta_inSome n t x1) (fun r_1 => f_Ta_inAll_8 n t n x1 r_1 (0 : Int32))
theorem m_Ta_inAll_8 {p : Program} (l : Launch) {e : Env} {s : State} {m : MethodId} {args : Array Value} {below : List Frame} {meth : Method} {c : Code} (G : k_G) (a : Nat → Nat) (tl : Value) (n : Nat) (t : k_St) {w0 : va_W} {r : Int32} (hA : k_Amb p s m args meth c cX7_inAll 4 "TaleShares$Tales" G (va_A w0 s.heap.size)) (hr : meth.sig.returnType = (some .int)) : ∀ (k : Nat) (x1 : Int32) (x2 : Int32) (x3 : Int32), f_Ta_inAll_8 n t k x1 x2 x3 = some r → k_Go p l e (k_rm 3) s m args below meth c (k_QI G w0 r (k_WX G.2.1 a tl t) args s below) 4 G (va_A w0 s.heap.size) (k_WX G.2.1 a tl t) 8 [(0, .ref (a 21)), (1, .int x1), (2, .int x2), (3, .int x3)] [] := by
  intro k
  induction k with
  | zero => intro x1 x2 x3 hf; cases hf
  | succ k ih =>
  intro x1 x2 x3 hf
  rw [f_Ta_inAll_8] at hf
  refine k_iload_n (i := 3) hA dX7_inAll_8 rfl 3 rfl ?_
  refine k_aload_n (i := 0) hA dX7_inAll_9 rfl 0 rfl ?_
  refine gt_X_21_0 hA wd_305 dX7_inAll_10 ?_
  refine k_icmp_ge (tgt := 40) hA dX7_inAll_13 rfl (fun hc => ?_) (fun hc => ?_)
  · have hf := k_ift hc hf
    obtain rfl := k_r1 hf
    refine k_iload_n (i := 2) hA dX7_inAll_40 rfl 2 rfl ?_
    exact k_iret hA hr rfl dX7_inAll_41
  have hf := k_iff hc hf
  obtain ⟨r_1, hr_1, hf⟩ := k_cp_e hf
  refine k_aload_n (i := 0) hA dX7_inAll_16 rfl 0 rfl ?_
  refine k_iload_n (i := 3) hA dX7_inAll_17 rfl 3 rfl ?_
  refine k_iload_n (i := 1) hA dX7_inAll_18 rfl 1 rfl ?_
  refine k_callVi (As := [.int x3, .int x1]) (rest := []) hA (m_Ta_isOf l G a tl t x3 x1 hr_1) cd_X7_isOf wd_793 (hc_X_21 G.2.1 a tl t) rfl rfl (Nat.le_of_ble_eq_true rfl) rfl rfl (Nat.le_of_ble_eq_true rfl) dX7_inAll_19 ?_
  refine k_if_eq (tgt := 34) hA dX7_inAll_22 rfl (fun hc => ?_) (fun hc => ?_)
  · have hf := k_ift hc hf
    obtain ⟨x3_2, ex3_2, hf⟩ := k_lt_e hf
    refine k_iinc (j := 3) (v := x3_2) (lv' := [(3, .int x3_2), (0, .ref (a 21)), (1, .int x1), (2, .int x2)]) hA dX7_inAll_34 rfl (k_inc ex3_2 kc_i_1) (Nat.le_of_ble_eq_true rfl) rfl ?_
    refine k_goto (tgt := 8) hA dX7_inAll_37 rfl ?_
    refine k_pick (lv' := [(0, .ref (a 21)), (1, .int x1), (2, .int x2), (3, .int x3_2)]) [1, 2, 3, 0] rfl ?_
    exact ih x1 x2 x3_2 hf
  have hf := k_iff hc hf
  obtain ⟨hi_3, hf⟩ := k_gi_e hf
  obtain ⟨x2_4, ex2_4, hf⟩ := k_lt_e hf
  obtain ⟨x3_5, ex3_5, hf⟩ := k_lt_e hf
  refine k_iload_n (i := 2) hA dX7_inAll_25 rfl 2 rfl ?_
  refine k_aload_n (i := 0) hA dX7_inAll_26 rfl 0 rfl ?_
  refine gt_X_21_2 hA wd_309 dX7_inAll_27 ?_
  refine k_iload_n (i := 3) hA dX7_inAll_30 rfl 3 rfl ?_
  refine ld_X_23 hA hi_3 dX7_inAll_31 ?_
  refine k_iand hA dX7_inAll_32 ?_
  refine k_istore_n (i := 2) (lv' := [(2, .int x2_4), (0, .ref (a 21)), (1, .int x1), (3, .int x3)]) hA dX7_inAll_33 rfl ex2_4 (Nat.le_of_ble_eq_true rfl) rfl ?_
  refine k_iinc (j := 3) (v := x3_5) (lv' := [(3, .int x3_5), (2, .int x2_4), (0, .ref (a 21)), (1, .int x1)]) hA dX7_inAll_34 rfl (k_inc ex3_5 kc_i_1) (Nat.le_of_ble_eq_true rfl) rfl ?_
  refine k_goto (tgt := 8) hA dX7_inAll_37 rfl ?_
  refine k_pick (lv' := [(0, .ref (a 21)), (1, .int x1), (2, .int x2_4), (3, .int x3_5)]) [2, 3, 1, 0] rfl ?_
  exact ih x1 x2_4 x3_5 hf

theorem m_Ta_inAll (l : Launch) (G : k_G) (a : Nat → Nat) (tl : Value) (n : Nat) (t : k_St) (x1 : Int32) {r : Int32} (hf : f_Ta_inAll n t x1 = some r) : k_CI l G yX7_inAll cX7_inAll 4 (some .int) 3 (k_WX G.2.1 a tl t) [.ref (a 21), .int x1] r (k_WX G.2.1 a tl t) := by
  refine k_startI (lv := [(0, .ref (a 21)), (1, .int x1)]) (by decide +kernel) (Nat.le_of_ble_eq_true rfl) rfl ?_
  intro p e s m args below meth c hA hr
  have hA : k_Amb p s m args meth c cX7_inAll 4 "TaleShares$Tales" G _ := hA
  unfold f_Ta_inAll at hf
  obtain ⟨r_1, hr_1, hf⟩ := k_cp_e hf
  refine k_aload_n (i := 0) hA dX7_inAll_0 rfl 0 rfl ?_
  refine k_iload_n (i := 1) hA dX7_inAll_1 rfl 1 rfl ?_
  refine k_callVi (As := [.int x1]) (rest := []) hA (m_Ta_inSome l G a tl n t x1 hr_1) cd_X7_inSome wd_866 (hc_X_21 G.2.1 a tl t) rfl rfl (Nat.le_of_ble_eq_true rfl) rfl rfl (Nat.le_of_ble_eq_true rfl) dX7_inAll_2 ?_
  refine k_istore_n (i := 2) (lv' := [(2, .int r_1), (0, .ref (a 21)), (1, .int x1)]) hA dX7_inAll_5 rfl rfl (Nat.le_of_ble_eq_true rfl) rfl ?_
  refine k_iconst hA dX7_inAll_6 kc_i_0 ?_
  refine k_istore_n (i := 3) (lv' := [(3, .int (0 : Int32)), (2, .int r_1), (0, .ref (a 21)), (1, .int x1)]) hA dX7_inAll_7 rfl rfl (Nat.le_of_ble_eq_true rfl) rfl ?_
  refine k_pick (lv' := [(0, .ref (a 21)), (1, .int x1), (2, .int r_1), (3, .int (0 : Int32))]) [2, 3, 1, 0] rfl ?_
  exact m_Ta_inAll_8 l G a tl n t hA hr n x1 r_1 (0 : Int32) hf

def f_X_needed (n : Nat) (x1 : Int32) (t : k_St) : Option (Int32 × k_St) := (if (k_b (f_X_noPieces t x1)) = 0 then k_cp (f_Ta_inAll n t x1) (fun r_1 => k_lt (f_X_answer r_1 t) (fun q_2 => some (q_2.1, q_2.2))) else k_lt (f_X_refuse (1 : Int32) t) (fun q_3 => some (q_3.1, q_3.2)))
theorem m_X_needed (l : Launch) (G : k_G) (a : Nat → Nat) (tl : Value) (n : Nat) (x1 : Int32) (t : k_St) {r : Int32} {t' : k_St} (hf : f_X_needed n x1 t = some (r, t')) : k_CI l G yX10_needed cX10_needed 2 (some .int) 4 (k_WX G.2.1 a tl t) [.ref (a 0), .int x1] r (k_WX G.2.1 a tl t') := by
  refine k_startI (lv := [(0, .ref (a 0)), (1, .int x1)]) (by decide +kernel) (Nat.le_of_ble_eq_true rfl) rfl ?_
  intro p e s m args below meth c hA hr
  have hA : k_Amb p s m args meth c cX10_needed 2 "TaleShares" G _ := hA
  unfold f_X_needed at hf
  refine k_aload_n (i := 0) hA dX10_needed_0 rfl 0 rfl ?_
  refine k_iload_n (i := 1) hA dX10_needed_1 rfl 1 rfl ?_
  refine k_callVi (As := [.int x1]) (rest := []) hA (m_X_noPieces l G a tl t x1 rfl) cd_X10_noPieces wd_815 (hc_X_0 G.2.1 a tl t) rfl rfl (Nat.le_of_ble_eq_true rfl) rfl rfl (Nat.le_of_ble_eq_true rfl) dX10_needed_2 ?_
  refine k_if_eq (tgt := 16) hA dX10_needed_5 rfl (fun hc => ?_) (fun hc => ?_)
  · have hf := k_ift hc hf
    obtain ⟨r_1, hr_1, hf⟩ := k_cp_e hf
    obtain ⟨⟨rq_2, tq_2⟩, hq_2, hf⟩ := k_lt_e hf
    dsimp only at hf
    obtain ⟨rfl, rfl⟩ := k_r2 hf
    refine k_aload_n (i := 0) hA dX10_needed_16 rfl 0 rfl ?_
    refine k_aload_n (i := 0) hA dX10_needed_17 rfl 0 rfl ?_
    refine gt_X_0_1 hA wd_438 dX10_needed_18 ?_
    refine k_iload_n (i := 1) hA dX10_needed_21 rfl 1 rfl ?_
    refine k_callVi (As := [.int x1]) (rest := [.ref (a 0)]) hA (m_Ta_inAll l G a tl n t x1 hr_1) cd_X7_inAll wd_862 (hc_X_21 G.2.1 a tl t) rfl rfl (Nat.le_of_ble_eq_true rfl) rfl rfl (Nat.le_of_ble_eq_true rfl) dX10_needed_22 ?_
    refine k_callVi (As := [.int r_1]) (rest := []) hA (m_X_answer l G a tl r_1 t hq_2.symm) cd_X10_answer wd_732 (hc_X_0 G.2.1 a tl t) rfl rfl (Nat.le_of_ble_eq_true rfl) rfl rfl (Nat.le_of_ble_eq_true rfl) dX10_needed_25 ?_
    exact k_iret hA hr rfl dX10_needed_28
  have hf := k_iff hc hf
  obtain ⟨⟨rq_3, tq_3⟩, hq_3, hf⟩ := k_lt_e hf
  dsimp only at hf
  obtain ⟨rfl, rfl⟩ := k_r2 hf
  refine k_aload_n (i := 0) hA dX10_needed_8 rfl 0 rfl ?_
  refine k_iconst hA dX10_needed_9 kc_i_1 ?_
  refine k_callVi (As := [.int (1 : Int32)]) (rest := []) hA (m_X_refuse l G a tl (1 : Int32) t hq_3.symm) cd_X10_refuse wd_480 (hc_X_0 G.2.1 a tl t) rfl rfl (Nat.le_of_ble_eq_true rfl) rfl rfl (Nat.le_of_ble_eq_true rfl) dX10_needed_10 ?_
  refine k_goto (tgt := 28) hA dX10_needed_13 rfl ?_
  exact k_iret hA hr rfl dX10_needed_28

def f_X_leftOver (n : Nat) (x1 : Int32) (t : k_St) : Option (Int32 × k_St) := (if (k_b (f_X_noPieces t x1)) = 0 then k_cp (f_Ta_longestOf n t x1) (fun r_1 => (if r_1 = (-1 : Int32) then k_lt (f_X_answer ((f_In_bitCount_0f7a4 x1) - (0 : Int32)) t) (fun q_4 => some (q_4.1, q_4.2)) else k_cp (f_Ta_lengthOf t r_1) (fun r_2 => k_lt (f_X_answer ((f_In_bitCount_0f7a4 x1) - r_2) t) (fun q_3 => some (q_3.1, q_3.2))))) else k_lt (f_X_refuse (1 : Int32) t) (fun q_5 => some (q_5.1, q_5.2)))
theorem m_X_leftOver (l : Launch) (G : k_G) (a : Nat → Nat) (tl : Value) (n : Nat) (x1 : Int32) (t : k_St) {r : Int32} {t' : k_St} (hf : f_X_leftOver n x1 t = some (r, t')) : k_CI l G yX10_leftOver cX10_leftOver 3 (some .int) 4 (k_WX G.2.1 a tl t) [.ref (a 0), .int x1] r (k_WX G.2.1 a tl t') := by
  refine k_startI (lv := [(0, .ref (a 0)), (1, .int x1)]) (by decide +kernel) (Nat.le_of_ble_eq_true rfl) rfl ?_
  intro p e s m args below meth c hA hr
  have hA : k_Amb p s m args meth c cX10_leftOver 3 "TaleShares" G _ := hA
  unfold f_X_leftOver at hf
  refine k_aload_n (i := 0) hA dX10_leftOver_0 rfl 0 rfl ?_
  refine k_iload_n (i := 1) hA dX10_leftOver_1 rfl 1 rfl ?_
  refine k_callVi (As := [.int x1]) (rest := []) hA (m_X_noPieces l G a tl t x1 rfl) cd_X10_noPieces wd_815 (hc_X_0 G.2.1 a tl t) rfl rfl (Nat.le_of_ble_eq_true rfl) rfl rfl (Nat.le_of_ble_eq_true rfl) dX10_leftOver_2 ?_
  refine k_if_eq (tgt := 14) hA dX10_leftOver_5 rfl (fun hc => ?_) (fun hc => ?_)
  · have hf := k_ift hc hf
    obtain ⟨r_1, hr_1, hf⟩ := k_cp_e hf
    refine k_aload_n (i := 0) hA dX10_leftOver_14 rfl 0 rfl ?_
    refine gt_X_0_1 hA wd_438 dX10_leftOver_15 ?_
    refine k_iload_n (i := 1) hA dX10_leftOver_18 rfl 1 rfl ?_
    refine k_callVi (As := [.int x1]) (rest := []) hA (m_Ta_longestOf l G a tl n t x1 hr_1) cd_X7_longestOf wd_831 (hc_X_21 G.2.1 a tl t) rfl rfl (Nat.le_of_ble_eq_true rfl) rfl rfl (Nat.le_of_ble_eq_true rfl) dX10_leftOver_19 ?_
    refine k_istore_n (i := 2) (lv' := [(2, .int r_1), (0, .ref (a 0)), (1, .int x1)]) hA dX10_leftOver_22 rfl rfl (Nat.le_of_ble_eq_true rfl) rfl ?_
    refine k_aload_n (i := 0) hA dX10_leftOver_23 rfl 1 rfl ?_
    refine k_iload_n (i := 1) hA dX10_leftOver_24 rfl 2 rfl ?_
    refine k_callSi (As := [.int x1]) (rest := [.ref (a 0)]) hA (m_In_bitCount_0f7a4 l G (k_WX G.2.1 a tl t) x1 rfl) cd_J6_bitCount_0f7a4 wd_871 (Nat.le_of_ble_eq_true rfl) rfl rfl (Nat.le_of_ble_eq_true rfl) dX10_leftOver_25 ?_
    refine k_iload_n (i := 2) hA dX10_leftOver_28 rfl 0 rfl ?_
    refine k_iconst hA dX10_leftOver_29 kc_i_m1 ?_
    refine k_icmp_ne (tgt := 37) hA dX10_leftOver_30 rfl (fun hc => ?_) (fun hc => ?_)
    · have hf := k_iff hc hf
      obtain ⟨r_2, hr_2, hf⟩ := k_cp_e hf
      obtain ⟨⟨rq_3, tq_3⟩, hq_3, hf⟩ := k_lt_e hf
      dsimp only at hf
      obtain ⟨rfl, rfl⟩ := k_r2 hf
      refine k_aload_n (i := 0) hA dX10_leftOver_37 rfl 1 rfl ?_
      refine gt_X_0_1 hA wd_438 dX10_leftOver_38 ?_
      refine k_iload_n (i := 2) hA dX10_leftOver_41 rfl 0 rfl ?_
      refine k_callVi (As := [.int r_1]) (rest := [.int (f_In_bitCount_0f7a4 x1), .ref (a 0)]) hA (m_Ta_lengthOf l G a tl t r_1 hr_2) cd_X7_lengthOf wd_835 (hc_X_21 G.2.1 a tl t) rfl rfl (Nat.le_of_ble_eq_true rfl) rfl rfl (Nat.le_of_ble_eq_true rfl) dX10_leftOver_42 ?_
      refine k_isub hA dX10_leftOver_45 ?_
      refine k_callVi (As := [.int ((f_In_bitCount_0f7a4 x1) - r_2)]) (rest := []) hA (m_X_answer l G a tl ((f_In_bitCount_0f7a4 x1) - r_2) t hq_3.symm) cd_X10_answer wd_732 (hc_X_0 G.2.1 a tl t) rfl rfl (Nat.le_of_ble_eq_true rfl) rfl rfl (Nat.le_of_ble_eq_true rfl) dX10_leftOver_46 ?_
      exact k_iret hA hr rfl dX10_leftOver_49
    have hf := k_ift hc hf
    obtain ⟨⟨rq_4, tq_4⟩, hq_4, hf⟩ := k_lt_e hf
    dsimp only at hf
    obtain ⟨rfl, rfl⟩ := k_r2 hf
    refine k_iconst hA dX10_leftOver_33 kc_i_0 ?_
    refine k_goto (tgt := 45) hA dX10_leftOver_34 rfl ?_
    refine k_isub hA dX10_leftOver_45 ?_
    refine k_callVi (As := [.int ((f_In_bitCount_0f7a4 x1) - (0 : Int32))]) (rest := []) hA (m_X_answer l G a tl ((f_In_bitCount_0f7a4 x1) - (0 : Int32)) t hq_4.symm) cd_X10_answer wd_732 (hc_X_0 G.2.1 a tl t) rfl rfl (Nat.le_of_ble_eq_true rfl) rfl rfl (Nat.le_of_ble_eq_true rfl) dX10_leftOver_46 ?_
    exact k_iret hA hr rfl dX10_leftOver_49
  have hf := k_iff hc hf
  obtain ⟨⟨rq_5, tq_5⟩, hq_5, hf⟩ := k_lt_e hf
  dsimp only at hf
  obtain ⟨rfl, rfl⟩ := k_r2 hf
  refine k_aload_n (i := 0) hA dX10_leftOver_8 rfl 0 rfl ?_
  refine k_iconst hA dX10_leftOver_9 kc_i_1 ?_
  refine k_callVi (As := [.int (1 : Int32)]) (rest := []) hA (m_X_refuse l G a tl (1 : Int32) t hq_5.symm) cd_X10_refuse wd_480 (hc_X_0 G.2.1 a tl t) rfl rfl (Nat.le_of_ble_eq_true rfl) rfl rfl (Nat.le_of_ble_eq_true rfl) dX10_leftOver_10 ?_
  exact k_iret hA hr rfl dX10_leftOver_13

def f_Ta_haveRow_2 (n : Nat) (t : k_St) : Nat → Int32 → Int32 → Option Bool
  | 0, _, _ => none
  | k + 1, x1, x2 => (if (t.1 21 0) ≤ x2 then some false else k_gi x2 162 ((if (t.1 22 x2.toNatClampNeg) = x1 then some true else k_lt (x2 + (1 : Int32)) (fun x2_2 => f_Ta_haveRow_2 n t k x1 x2_2))))
def f_Ta_haveRow (n : Nat) (t : k_St) (x1 : Int32) : Option Bool := f_Ta_haveRow_2 n t n x1 (0 : Int32)
theorem m_Ta_haveRow_2 {p : Program} (l : Launch) {e : Env} {s : State} {m : MethodId} {args : Array Value} {below : List Frame} {meth : Method} {c : Code} (G : k_G) (a : Nat → Nat) (tl : Value) (n : Nat) (t : k_St) {w0 : va_W} {r : Bool} (hA : k_Amb p s m args meth c cX7_haveRow 3 "TaleShares$Tales" G (va_A w0 s.heap.size)) (hr : meth.sig.returnType = (some .boolean)) : ∀ (k : Nat) (x1 : Int32) (x2 : Int32), f_Ta_haveRow_2 n t k x1 x2 = some r → k_Go p l e (k_rm 1) s m args below meth c (k_QI G w0 (k_b r) (k_WX G.2.1 a tl t) args s below) 3 G (va_A w0 s.heap.size) (k_WX G.2.1 a tl t) 2 [(0, .ref (a 21)), (1, .int x1), (2, .int x2)] [] := by
  intro k
  induction k with
  | zero => intro x1 x2 hf; cases hf
  | succ k ih =>
  intro x1 x2 hf
  rw [f_Ta_haveRow_2] at hf
  refine k_iload_n (i := 2) hA dX7_haveRow_2 rfl 2 rfl ?_
  refine k_aload_n (i := 0) hA dX7_haveRow_3 rfl 0 rfl ?_
  refine gt_X_21_0 hA wd_305 dX7_haveRow_4 ?_
  refine k_icmp_ge (tgt := 28) hA dX7_haveRow_7 rfl (fun hc => ?_) (fun hc => ?_)
  · have hf := k_ift hc hf
    obtain rfl := k_r1 hf
    refine k_iconst hA dX7_haveRow_28 kc_i_0 ?_
    exact k_iret hA hr (k_narB (k_b01 _)) dX7_haveRow_29
  have hf := k_iff hc hf
  obtain ⟨hi_1, hf⟩ := k_gi_e hf
  refine k_aload_n (i := 0) hA dX7_haveRow_10 rfl 0 rfl ?_
  refine gt_X_21_1 hA wd_308 dX7_haveRow_11 ?_
  refine k_iload_n (i := 2) hA dX7_haveRow_14 rfl 2 rfl ?_
  refine ld_X_22 hA hi_1 dX7_haveRow_15 ?_
  refine k_iload_n (i := 1) hA dX7_haveRow_16 rfl 1 rfl ?_
  refine k_icmp_ne (tgt := 22) hA dX7_haveRow_17 rfl (fun hc => ?_) (fun hc => ?_)
  · have hf := k_iff hc hf
    obtain ⟨x2_2, ex2_2, hf⟩ := k_lt_e hf
    refine k_iinc (j := 2) (v := x2_2) (lv' := [(2, .int x2_2), (0, .ref (a 21)), (1, .int x1)]) hA dX7_haveRow_22 rfl (k_inc ex2_2 kc_i_1) (Nat.le_of_ble_eq_true rfl) rfl ?_
    refine k_goto (tgt := 2) hA dX7_haveRow_25 rfl ?_
    refine k_pick (lv' := [(0, .ref (a 21)), (1, .int x1), (2, .int x2_2)]) [1, 2, 0] rfl ?_
    exact ih x1 x2_2 hf
  have hf := k_ift hc hf
  obtain rfl := k_r1 hf
  refine k_iconst hA dX7_haveRow_20 kc_i_1 ?_
  exact k_iret hA hr (k_narB (k_b01 _)) dX7_haveRow_21

theorem m_Ta_haveRow (l : Launch) (G : k_G) (a : Nat → Nat) (tl : Value) (n : Nat) (t : k_St) (x1 : Int32) {r : Bool} (hf : f_Ta_haveRow n t x1 = some r) : k_CI l G yX7_haveRow cX7_haveRow 3 (some .boolean) 1 (k_WX G.2.1 a tl t) [.ref (a 21), .int x1] (k_b r) (k_WX G.2.1 a tl t) := by
  refine k_startI (lv := [(0, .ref (a 21)), (1, .int x1)]) (by decide +kernel) (Nat.le_of_ble_eq_true rfl) rfl ?_
  intro p e s m args below meth c hA hr
  have hA : k_Amb p s m args meth c cX7_haveRow 3 "TaleShares$Tales" G _ := hA
  unfold f_Ta_haveRow at hf
  refine k_iconst hA dX7_haveRow_0 kc_i_0 ?_
  refine k_istore_n (i := 2) (lv' := [(2, .int (0 : Int32)), (0, .ref (a 21)), (1, .int x1)]) hA dX7_haveRow_1 rfl rfl (Nat.le_of_ble_eq_true rfl) rfl ?_
  refine k_pick (lv' := [(0, .ref (a 21)), (1, .int x1), (2, .int (0 : Int32))]) [1, 2, 0] rfl ?_
  exact m_Ta_haveRow_2 l G a tl n t hA hr n x1 (0 : Int32) hf

def f_X_isTale_26 (n : Nat) : Nat → Int32 → Int32 → k_St → Option (Int32 × k_St)
  | 0, _, _, _ => none
  | k + 1, x1, x2, t => (if x2 ≤ 0 then k_cp (f_Ta_haveRow n t x1) (fun r_1 => (if (k_b r_1) = 0 then k_lt (f_X_answer (0 : Int32) t) (fun q_2 => some (q_2.1, q_2.2)) else k_lt (f_X_answer (1 : Int32) t) (fun q_3 => some (q_3.1, q_3.2)))) else (if (k_b (f_X_noPiece t ((x2 - x2 / (10 : Int32) * (10 : Int32)) - (1 : Int32)))) = 0 then k_lt (x2 / (10 : Int32)) (fun x2_4 => f_X_isTale_26 n k x1 x2_4 t) else k_lt (f_X_refuse (2 : Int32) t) (fun q_5 => some (q_5.1, q_5.2))))
def f_X_isTale (n : Nat) (x1 : Int32) (t : k_St) : Option (Int32 × k_St) := (if (t.1 0 10) = 0 then k_lt (f_X_refuse (1 : Int32) t) (fun q_2 => some (q_2.1, q_2.2)) else (if (1 : Int32) ≤ x1 then f_X_isTale_26 n n x1 x1 t else k_lt (f_X_refuse (2 : Int32) t) (fun q_1 => some (q_1.1, q_1.2))))
theorem m_X_isTale_26 {p : Program} (l : Launch) {e : Env} {s : State} {m : MethodId} {args : Array Value} {below : List Frame} {meth : Method} {c : Code} (G : k_G) (a : Nat → Nat) (tl : Value) (n : Nat) {w0 : va_W} {r : Int32} {t' : k_St} (hA : k_Amb p s m args meth c cX10_isTale 3 "TaleShares" G (va_A w0 s.heap.size)) (hr : meth.sig.returnType = (some .int)) : ∀ (k : Nat) (x1 : Int32) (x2 : Int32) (t : k_St), f_X_isTale_26 n k x1 x2 t = some (r, t') → k_Go p l e (k_rm 2) s m args below meth c (k_QI G w0 r (k_WX G.2.1 a tl t') args s below) 3 G (va_A w0 s.heap.size) (k_WX G.2.1 a tl t) 26 [(0, .ref (a 0)), (1, .int x1), (2, .int x2)] [] := by
  intro k
  induction k with
  | zero => intro x1 x2 t hf; cases hf
  | succ k ih =>
  intro x1 x2 t hf
  rw [f_X_isTale_26] at hf
  refine k_iload_n (i := 2) hA dX10_isTale_26 rfl 2 rfl ?_
  refine k_if_le (tgt := 57) hA dX10_isTale_27 rfl (fun hc => ?_) (fun hc => ?_)
  · have hf := k_ift hc hf
    obtain ⟨r_1, hr_1, hf⟩ := k_cp_e hf
    refine k_aload_n (i := 0) hA dX10_isTale_57 rfl 0 rfl ?_
    refine k_aload_n (i := 0) hA dX10_isTale_58 rfl 0 rfl ?_
    refine gt_X_0_1 hA wd_438 dX10_isTale_59 ?_
    refine k_iload_n (i := 1) hA dX10_isTale_62 rfl 1 rfl ?_
    refine k_callVi (As := [.int x1]) (rest := [.ref (a 0)]) hA (m_Ta_haveRow l G a tl n t x1 hr_1) cd_X7_haveRow wd_876 (hc_X_21 G.2.1 a tl t) rfl rfl (Nat.le_of_ble_eq_true rfl) rfl rfl (Nat.le_of_ble_eq_true rfl) dX10_isTale_63 ?_
    refine k_if_eq (tgt := 73) hA dX10_isTale_66 rfl (fun hc => ?_) (fun hc => ?_)
    · have hf := k_ift hc hf
      obtain ⟨⟨rq_2, tq_2⟩, hq_2, hf⟩ := k_lt_e hf
      dsimp only at hf
      obtain ⟨rfl, rfl⟩ := k_r2 hf
      refine k_iconst hA dX10_isTale_73 kc_i_0 ?_
      refine k_callVi (As := [.int (0 : Int32)]) (rest := []) hA (m_X_answer l G a tl (0 : Int32) t hq_2.symm) cd_X10_answer wd_732 (hc_X_0 G.2.1 a tl t) rfl rfl (Nat.le_of_ble_eq_true rfl) rfl rfl (Nat.le_of_ble_eq_true rfl) dX10_isTale_74 ?_
      exact k_iret hA hr rfl dX10_isTale_77
    have hf := k_iff hc hf
    obtain ⟨⟨rq_3, tq_3⟩, hq_3, hf⟩ := k_lt_e hf
    dsimp only at hf
    obtain ⟨rfl, rfl⟩ := k_r2 hf
    refine k_iconst hA dX10_isTale_69 kc_i_1 ?_
    refine k_goto (tgt := 74) hA dX10_isTale_70 rfl ?_
    refine k_callVi (As := [.int (1 : Int32)]) (rest := []) hA (m_X_answer l G a tl (1 : Int32) t hq_3.symm) cd_X10_answer wd_732 (hc_X_0 G.2.1 a tl t) rfl rfl (Nat.le_of_ble_eq_true rfl) rfl rfl (Nat.le_of_ble_eq_true rfl) dX10_isTale_74 ?_
    exact k_iret hA hr rfl dX10_isTale_77
  have hf := k_iff hc hf
  refine k_aload_n (i := 0) hA dX10_isTale_30 rfl 0 rfl ?_
  refine k_iload_n (i := 2) hA dX10_isTale_31 rfl 2 rfl ?_
  refine k_bipush hA dX10_isTale_32 kc_b_10 ?_
  refine k_irem hA dX10_isTale_34 (by decide) ?_
  refine k_iconst hA dX10_isTale_35 kc_i_1 ?_
  refine k_isub hA dX10_isTale_36 ?_
  refine k_callVi (As := [.int ((x2 - x2 / (10 : Int32) * (10 : Int32)) - (1 : Int32))]) (rest := []) hA (m_X_noPiece l G a tl t ((x2 - x2 / (10 : Int32) * (10 : Int32)) - (1 : Int32)) rfl) cd_X10_noPiece wd_748 (hc_X_0 G.2.1 a tl t) rfl rfl (Nat.le_of_ble_eq_true rfl) rfl rfl (Nat.le_of_ble_eq_true rfl) dX10_isTale_37 ?_
  refine k_if_eq (tgt := 49) hA dX10_isTale_40 rfl (fun hc => ?_) (fun hc => ?_)
  · have hf := k_ift hc hf
    obtain ⟨x2_4, ex2_4, hf⟩ := k_lt_e hf
    refine k_iload_n (i := 2) hA dX10_isTale_49 rfl 2 rfl ?_
    refine k_bipush hA dX10_isTale_50 kc_b_10 ?_
    refine k_idiv hA dX10_isTale_52 (by decide) ?_
    refine k_istore_n (i := 2) (lv' := [(2, .int x2_4), (0, .ref (a 0)), (1, .int x1)]) hA dX10_isTale_53 rfl ex2_4 (Nat.le_of_ble_eq_true rfl) rfl ?_
    refine k_goto (tgt := 26) hA dX10_isTale_54 rfl ?_
    refine k_pick (lv' := [(0, .ref (a 0)), (1, .int x1), (2, .int x2_4)]) [1, 2, 0] rfl ?_
    exact ih x1 x2_4 t hf
  have hf := k_iff hc hf
  obtain ⟨⟨rq_5, tq_5⟩, hq_5, hf⟩ := k_lt_e hf
  dsimp only at hf
  obtain ⟨rfl, rfl⟩ := k_r2 hf
  refine k_aload_n (i := 0) hA dX10_isTale_43 rfl 0 rfl ?_
  refine k_iconst hA dX10_isTale_44 kc_i_2 ?_
  refine k_callVi (As := [.int (2 : Int32)]) (rest := []) hA (m_X_refuse l G a tl (2 : Int32) t hq_5.symm) cd_X10_refuse wd_480 (hc_X_0 G.2.1 a tl t) rfl rfl (Nat.le_of_ble_eq_true rfl) rfl rfl (Nat.le_of_ble_eq_true rfl) dX10_isTale_45 ?_
  exact k_iret hA hr rfl dX10_isTale_48

theorem m_X_isTale (l : Launch) (G : k_G) (a : Nat → Nat) (tl : Value) (n : Nat) (x1 : Int32) (t : k_St) {r : Int32} {t' : k_St} (hf : f_X_isTale n x1 t = some (r, t')) : k_CI l G yX10_isTale cX10_isTale 3 (some .int) 2 (k_WX G.2.1 a tl t) [.ref (a 0), .int x1] r (k_WX G.2.1 a tl t') := by
  refine k_startI (lv := [(0, .ref (a 0)), (1, .int x1)]) (by decide +kernel) (Nat.le_of_ble_eq_true rfl) rfl ?_
  intro p e s m args below meth c hA hr
  have hA : k_Amb p s m args meth c cX10_isTale 3 "TaleShares" G _ := hA
  unfold f_X_isTale at hf
  refine k_aload_n (i := 0) hA dX10_isTale_0 rfl 0 rfl ?_
  refine gt_X_0_8 hA wd_445 dX10_isTale_1 ?_
  refine k_if_ne (tgt := 13) hA dX10_isTale_4 rfl (fun hc => ?_) (fun hc => ?_)
  · have hf := k_iff hc hf
    refine k_iload_n (i := 1) hA dX10_isTale_13 rfl 1 rfl ?_
    refine k_iconst hA dX10_isTale_14 kc_i_1 ?_
    refine k_icmp_ge (tgt := 24) hA dX10_isTale_15 rfl (fun hc => ?_) (fun hc => ?_)
    · have hf := k_ift hc hf
      refine k_iload_n (i := 1) hA dX10_isTale_24 rfl 1 rfl ?_
      refine k_istore_n (i := 2) (lv' := [(2, .int x1), (0, .ref (a 0)), (1, .int x1)]) hA dX10_isTale_25 rfl rfl (Nat.le_of_ble_eq_true rfl) rfl ?_
      refine k_pick (lv' := [(0, .ref (a 0)), (1, .int x1), (2, .int x1)]) [1, 2, 0] rfl ?_
      exact m_X_isTale_26 l G a tl n hA hr n x1 x1 t hf
    have hf := k_iff hc hf
    obtain ⟨⟨rq_1, tq_1⟩, hq_1, hf⟩ := k_lt_e hf
    dsimp only at hf
    obtain ⟨rfl, rfl⟩ := k_r2 hf
    refine k_aload_n (i := 0) hA dX10_isTale_18 rfl 0 rfl ?_
    refine k_iconst hA dX10_isTale_19 kc_i_2 ?_
    refine k_callVi (As := [.int (2 : Int32)]) (rest := []) hA (m_X_refuse l G a tl (2 : Int32) t hq_1.symm) cd_X10_refuse wd_480 (hc_X_0 G.2.1 a tl t) rfl rfl (Nat.le_of_ble_eq_true rfl) rfl rfl (Nat.le_of_ble_eq_true rfl) dX10_isTale_20 ?_
    exact k_iret hA hr rfl dX10_isTale_23
  have hf := k_ift hc hf
  obtain ⟨⟨rq_2, tq_2⟩, hq_2, hf⟩ := k_lt_e hf
  dsimp only at hf
  obtain ⟨rfl, rfl⟩ := k_r2 hf
  refine k_aload_n (i := 0) hA dX10_isTale_7 rfl 0 rfl ?_
  refine k_iconst hA dX10_isTale_8 kc_i_1 ?_
  refine k_callVi (As := [.int (1 : Int32)]) (rest := []) hA (m_X_refuse l G a tl (1 : Int32) t hq_2.symm) cd_X10_refuse wd_480 (hc_X_0 G.2.1 a tl t) rfl rfl (Nat.le_of_ble_eq_true rfl) rfl rfl (Nat.le_of_ble_eq_true rfl) dX10_isTale_9 ?_
  exact k_iret hA hr rfl dX10_isTale_12

def f_X_talesOf (n : Nat) (x1 : Int32) (t : k_St) : Option (Int32 × k_St) := (if (k_b (f_X_noHouse t x1)) = 0 then k_cp (f_Ta_countOf n t (f_No_knownBy t x1)) (fun r_1 => k_lt (f_X_answer r_1 t) (fun q_2 => some (q_2.1, q_2.2))) else k_lt (f_X_refuse (1 : Int32) t) (fun q_3 => some (q_3.1, q_3.2)))
theorem m_X_talesOf (l : Launch) (G : k_G) (a : Nat → Nat) (tl : Value) (n : Nat) (x1 : Int32) (t : k_St) {r : Int32} {t' : k_St} (hf : f_X_talesOf n x1 t = some (r, t')) : k_CI l G yX10_talesOf cX10_talesOf 2 (some .int) 3 (k_WX G.2.1 a tl t) [.ref (a 0), .int x1] r (k_WX G.2.1 a tl t') := by
  refine k_startI (lv := [(0, .ref (a 0)), (1, .int x1)]) (by decide +kernel) (Nat.le_of_ble_eq_true rfl) rfl ?_
  intro p e s m args below meth c hA hr
  have hA : k_Amb p s m args meth c cX10_talesOf 2 "TaleShares" G _ := hA
  unfold f_X_talesOf at hf
  refine k_aload_n (i := 0) hA dX10_talesOf_0 rfl 0 rfl ?_
  refine k_iload_n (i := 1) hA dX10_talesOf_1 rfl 1 rfl ?_
  refine k_callVi (As := [.int x1]) (rest := []) hA (m_X_noHouse l G a tl t x1 rfl) cd_X10_noHouse wd_776 (hc_X_0 G.2.1 a tl t) rfl rfl (Nat.le_of_ble_eq_true rfl) rfl rfl (Nat.le_of_ble_eq_true rfl) dX10_talesOf_2 ?_
  refine k_if_eq (tgt := 16) hA dX10_talesOf_5 rfl (fun hc => ?_) (fun hc => ?_)
  · have hf := k_ift hc hf
    obtain ⟨r_1, hr_1, hf⟩ := k_cp_e hf
    obtain ⟨⟨rq_2, tq_2⟩, hq_2, hf⟩ := k_lt_e hf
    dsimp only at hf
    obtain ⟨rfl, rfl⟩ := k_r2 hf
    refine k_aload_n (i := 0) hA dX10_talesOf_16 rfl 0 rfl ?_
    refine k_aload_n (i := 0) hA dX10_talesOf_17 rfl 0 rfl ?_
    refine gt_X_0_1 hA wd_438 dX10_talesOf_18 ?_
    refine k_aload_n (i := 0) hA dX10_talesOf_21 rfl 0 rfl ?_
    refine gt_X_0_6 hA wd_443 dX10_talesOf_22 ?_
    refine k_iload_n (i := 1) hA dX10_talesOf_25 rfl 1 rfl ?_
    refine k_callVi (As := [.int x1]) (rest := [.ref (a 21), .ref (a 0)]) hA (m_No_knownBy l G a tl t x1 rfl) cd_X3_knownBy wd_780 (hc_X_34 G.2.1 a tl t) rfl rfl (Nat.le_of_ble_eq_true rfl) rfl rfl (Nat.le_of_ble_eq_true rfl) dX10_talesOf_26 ?_
    refine k_callVi (As := [.int (f_No_knownBy t x1)]) (rest := [.ref (a 0)]) hA (m_Ta_countOf l G a tl n t (f_No_knownBy t x1) hr_1) cd_X7_countOf wd_823 (hc_X_21 G.2.1 a tl t) rfl rfl (Nat.le_of_ble_eq_true rfl) rfl rfl (Nat.le_of_ble_eq_true rfl) dX10_talesOf_29 ?_
    refine k_callVi (As := [.int r_1]) (rest := []) hA (m_X_answer l G a tl r_1 t hq_2.symm) cd_X10_answer wd_732 (hc_X_0 G.2.1 a tl t) rfl rfl (Nat.le_of_ble_eq_true rfl) rfl rfl (Nat.le_of_ble_eq_true rfl) dX10_talesOf_32 ?_
    exact k_iret hA hr rfl dX10_talesOf_35
  have hf := k_iff hc hf
  obtain ⟨⟨rq_3, tq_3⟩, hq_3, hf⟩ := k_lt_e hf
  dsimp only at hf
  obtain ⟨rfl, rfl⟩ := k_r2 hf
  refine k_aload_n (i := 0) hA dX10_talesOf_8 rfl 0 rfl ?_
  refine k_iconst hA dX10_talesOf_9 kc_i_1 ?_
  refine k_callVi (As := [.int (1 : Int32)]) (rest := []) hA (m_X_refuse l G a tl (1 : Int32) t hq_3.symm) cd_X10_refuse wd_480 (hc_X_0 G.2.1 a tl t) rfl rfl (Nat.le_of_ble_eq_true rfl) rfl rfl (Nat.le_of_ble_eq_true rfl) dX10_talesOf_10 ?_
  refine k_goto (tgt := 35) hA dX10_talesOf_13 rfl ?_
  exact k_iret hA hr rfl dX10_talesOf_35

