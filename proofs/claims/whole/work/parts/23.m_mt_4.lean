theorem dX12_forget_0 : decode cX12_forget 0 = .ok (.aload_n 0, 1) := by decide +kernel
theorem dX12_forget_1 : decode cX12_forget 1 = .ok (.iconst 0, 1) := by decide +kernel
theorem dX12_forget_2 : decode cX12_forget 2 = .ok (.putfield 66, 3) := by decide +kernel
theorem dX12_forget_5 : decode cX12_forget 5 = .ok (.aload_n 0, 1) := by decide +kernel
theorem dX12_forget_6 : decode cX12_forget 6 = .ok (.iload_n 1, 1) := by decide +kernel
theorem dX12_forget_7 : decode cX12_forget 7 = .ok (.invokevirtual 350, 3) := by decide +kernel
theorem dX12_forget_10 : decode cX12_forget 10 = .ok (.ifCond .eq 11, 3) := by decide +kernel
theorem dX12_forget_13 : decode cX12_forget 13 = .ok (.aload_n 0, 1) := by decide +kernel
theorem dX12_forget_14 : decode cX12_forget 14 = .ok (.iload_n 2, 1) := by decide +kernel
theorem dX12_forget_15 : decode cX12_forget 15 = .ok (.invokevirtual 347, 3) := by decide +kernel
theorem dX12_forget_18 : decode cX12_forget 18 = .ok (.ifCond .ne 9, 3) := by decide +kernel
theorem dX12_forget_21 : decode cX12_forget 21 = .ok (.aload_n 0, 1) := by decide +kernel
theorem dX12_forget_22 : decode cX12_forget 22 = .ok (.iconst 1, 1) := by decide +kernel
theorem dX12_forget_23 : decode cX12_forget 23 = .ok (.invokevirtual 504, 3) := by decide +kernel
theorem dX12_forget_26 : decode cX12_forget 26 = .ok (.ireturn, 1) := by decide +kernel
theorem dX12_forget_27 : decode cX12_forget 27 = .ok (.aload_n 0, 1) := by decide +kernel
theorem dX12_forget_28 : decode cX12_forget 28 = .ok (.getfield 17, 3) := by decide +kernel
theorem dX12_forget_31 : decode cX12_forget 31 = .ok (.iload_n 1, 1) := by decide +kernel
theorem dX12_forget_32 : decode cX12_forget 32 = .ok (.iaload, 1) := by decide +kernel
theorem dX12_forget_33 : decode cX12_forget 33 = .ok (.iload_n 2, 1) := by decide +kernel
theorem dX12_forget_34 : decode cX12_forget 34 = .ok (.invokestatic 273, 3) := by decide +kernel
theorem dX12_forget_37 : decode cX12_forget 37 = .ok (.ifCond .ne 9, 3) := by decide +kernel
theorem dX12_forget_40 : decode cX12_forget 40 = .ok (.aload_n 0, 1) := by decide +kernel
theorem dX12_forget_41 : decode cX12_forget 41 = .ok (.iconst 5, 1) := by decide +kernel
theorem dX12_forget_42 : decode cX12_forget 42 = .ok (.invokevirtual 504, 3) := by decide +kernel
theorem dX12_forget_45 : decode cX12_forget 45 = .ok (.ireturn, 1) := by decide +kernel
theorem dX12_forget_46 : decode cX12_forget 46 = .ok (.aload_n 0, 1) := by decide +kernel
theorem dX12_forget_47 : decode cX12_forget 47 = .ok (.invokevirtual 501, 3) := by decide +kernel
theorem dX12_forget_50 : decode cX12_forget 50 = .ok (.aload_n 0, 1) := by decide +kernel
theorem dX12_forget_51 : decode cX12_forget 51 = .ok (.getfield 17, 3) := by decide +kernel
theorem dX12_forget_54 : decode cX12_forget 54 = .ok (.iload_n 1, 1) := by decide +kernel
theorem dX12_forget_55 : decode cX12_forget 55 = .ok (.dup2, 1) := by decide +kernel
theorem dX12_forget_56 : decode cX12_forget 56 = .ok (.iaload, 1) := by decide +kernel
theorem dX12_forget_57 : decode cX12_forget 57 = .ok (.iconst 1, 1) := by decide +kernel
theorem dX12_forget_58 : decode cX12_forget 58 = .ok (.iload_n 2, 1) := by decide +kernel
theorem dX12_forget_59 : decode cX12_forget 59 = .ok (.ishl, 1) := by decide +kernel
theorem dX12_forget_60 : decode cX12_forget 60 = .ok (.ixor, 1) := by decide +kernel
theorem dX12_forget_61 : decode cX12_forget 61 = .ok (.iastore, 1) := by decide +kernel
theorem dX12_forget_62 : decode cX12_forget 62 = .ok (.aload_n 0, 1) := by decide +kernel
theorem dX12_forget_63 : decode cX12_forget 63 = .ok (.invokevirtual 507, 3) := by decide +kernel
theorem dX12_forget_66 : decode cX12_forget 66 = .ok (.ireturn, 1) := by decide +kernel
theorem dX12_evening_0 : decode cX12_evening 0 = .ok (.aload_n 0, 1) := by decide +kernel
theorem dX12_evening_1 : decode cX12_evening 1 = .ok (.iconst 0, 1) := by decide +kernel
theorem dX12_evening_2 : decode cX12_evening 2 = .ok (.putfield 66, 3) := by decide +kernel
theorem dX12_evening_5 : decode cX12_evening 5 = .ok (.aload_n 0, 1) := by decide +kernel
theorem dX12_evening_6 : decode cX12_evening 6 = .ok (.iload_n 1, 1) := by decide +kernel
theorem dX12_evening_7 : decode cX12_evening 7 = .ok (.invokevirtual 350, 3) := by decide +kernel
theorem dX12_evening_10 : decode cX12_evening 10 = .ok (.ifCond .ne 9, 3) := by decide +kernel
theorem dX12_evening_13 : decode cX12_evening 13 = .ok (.aload_n 0, 1) := by decide +kernel
theorem dX12_evening_14 : decode cX12_evening 14 = .ok (.iconst 1, 1) := by decide +kernel
theorem dX12_evening_15 : decode cX12_evening 15 = .ok (.invokevirtual 72, 3) := by decide +kernel
theorem dX12_evening_18 : decode cX12_evening 18 = .ok (.ireturn, 1) := by decide +kernel
theorem dX12_evening_19 : decode cX12_evening 19 = .ok (.aload_n 0, 1) := by decide +kernel
theorem dX12_evening_20 : decode cX12_evening 20 = .ok (.aload_n 0, 1) := by decide +kernel
theorem dX12_evening_21 : decode cX12_evening 21 = .ok (.getfield 311, 3) := by decide +kernel
theorem dX12_evening_24 : decode cX12_evening 24 = .ok (.invokevirtual 359, 3) := by decide +kernel
theorem dX12_evening_27 : decode cX12_evening 27 = .ok (.invokevirtual 368, 3) := by decide +kernel
theorem dX12_evening_30 : decode cX12_evening 30 = .ok (.istore_n 2, 1) := by decide +kernel
theorem dX12_evening_31 : decode cX12_evening 31 = .ok (.iload_n 2, 1) := by decide +kernel
theorem dX12_evening_32 : decode cX12_evening 32 = .ok (.ifCond .ne 10, 3) := by decide +kernel
theorem dX12_evening_35 : decode cX12_evening 35 = .ok (.aload_n 0, 1) := by decide +kernel
theorem dX12_evening_36 : decode cX12_evening 36 = .ok (.bipush 6, 2) := by decide +kernel
theorem dX12_evening_38 : decode cX12_evening 38 = .ok (.invokevirtual 72, 3) := by decide +kernel
theorem dX12_evening_41 : decode cX12_evening 41 = .ok (.ireturn, 1) := by decide +kernel
theorem dX12_evening_42 : decode cX12_evening 42 = .ok (.aload_n 0, 1) := by decide +kernel
theorem dX12_evening_43 : decode cX12_evening 43 = .ok (.invokevirtual 501, 3) := by decide +kernel
theorem dX12_evening_46 : decode cX12_evening 46 = .ok (.aload_n 0, 1) := by decide +kernel
theorem dX12_evening_47 : decode cX12_evening 47 = .ok (.aload_n 0, 1) := by decide +kernel
theorem dX12_evening_48 : decode cX12_evening 48 = .ok (.aload_n 0, 1) := by decide +kernel
theorem dX12_evening_49 : decode cX12_evening 49 = .ok (.getfield 17, 3) := by decide +kernel
theorem dX12_evening_52 : decode cX12_evening 52 = .ok (.iload_n 1, 1) := by decide +kernel
theorem dX12_evening_53 : decode cX12_evening 53 = .ok (.iload_n 2, 1) := by decide +kernel
theorem dX12_evening_54 : decode cX12_evening 54 = .ok (.invokevirtual 488, 3) := by decide +kernel
theorem dX12_evening_57 : decode cX12_evening 57 = .ok (.invokevirtual 76, 3) := by decide +kernel
theorem dX12_evening_60 : decode cX12_evening 60 = .ok (.ireturn, 1) := by decide +kernel
theorem dX12_seed_0 : decode cX12_seed 0 = .ok (.aload_n 0, 1) := by decide +kernel
theorem dX12_seed_1 : decode cX12_seed 1 = .ok (.iconst 0, 1) := by decide +kernel
theorem dX12_seed_2 : decode cX12_seed 2 = .ok (.putfield 66, 3) := by decide +kernel
theorem dX12_seed_5 : decode cX12_seed 5 = .ok (.aload_n 0, 1) := by decide +kernel
theorem dX12_seed_6 : decode cX12_seed 6 = .ok (.getfield 311, 3) := by decide +kernel
theorem dX12_seed_9 : decode cX12_seed 9 = .ok (.ifnonnull 9, 3) := by decide +kernel
theorem dX12_seed_12 : decode cX12_seed 12 = .ok (.aload_n 0, 1) := by decide +kernel
theorem dX12_seed_13 : decode cX12_seed 13 = .ok (.iconst 1, 1) := by decide +kernel
theorem dX12_seed_14 : decode cX12_seed 14 = .ok (.invokevirtual 504, 3) := by decide +kernel
theorem dX12_seed_17 : decode cX12_seed 17 = .ok (.ireturn, 1) := by decide +kernel
theorem dX12_seed_18 : decode cX12_seed 18 = .ok (.iload_n 1, 1) := by decide +kernel
theorem dX12_seed_19 : decode cX12_seed 19 = .ok (.iconst 0, 1) := by decide +kernel
theorem dX12_seed_20 : decode cX12_seed 20 = .ok (.ldc_w 492, 3) := by decide +kernel
theorem dX12_seed_23 : decode cX12_seed 23 = .ok (.invokestatic 145, 3) := by decide +kernel
theorem dX12_seed_26 : decode cX12_seed 26 = .ok (.ifCond .ne 9, 3) := by decide +kernel
theorem dX12_seed_29 : decode cX12_seed 29 = .ok (.aload_n 0, 1) := by decide +kernel
theorem dX12_seed_30 : decode cX12_seed 30 = .ok (.iconst 2, 1) := by decide +kernel
theorem dX12_seed_31 : decode cX12_seed 31 = .ok (.invokevirtual 504, 3) := by decide +kernel
theorem dX12_seed_34 : decode cX12_seed 34 = .ok (.ireturn, 1) := by decide +kernel
theorem dX12_seed_35 : decode cX12_seed 35 = .ok (.aload_n 0, 1) := by decide +kernel
theorem dX12_seed_36 : decode cX12_seed 36 = .ok (.getfield 17, 3) := by decide +kernel
theorem dX12_seed_39 : decode cX12_seed 39 = .ok (.iconst 5, 1) := by decide +kernel
theorem dX12_seed_40 : decode cX12_seed 40 = .ok (.iload_n 1, 1) := by decide +kernel
theorem dX12_seed_41 : decode cX12_seed 41 = .ok (.iastore, 1) := by decide +kernel
theorem dX12_seed_42 : decode cX12_seed 42 = .ok (.aload_n 0, 1) := by decide +kernel
theorem dX12_seed_43 : decode cX12_seed 43 = .ok (.invokevirtual 507, 3) := by decide +kernel
theorem dX12_seed_46 : decode cX12_seed 46 = .ok (.ireturn, 1) := by decide +kernel
theorem dX12_undo_0 : decode cX12_undo 0 = .ok (.aload_n 0, 1) := by decide +kernel
theorem dX12_undo_1 : decode cX12_undo 1 = .ok (.iconst 0, 1) := by decide +kernel
theorem dX12_undo_2 : decode cX12_undo 2 = .ok (.putfield 66, 3) := by decide +kernel
theorem dX12_undo_5 : decode cX12_undo 5 = .ok (.aload_n 0, 1) := by decide +kernel
theorem dX12_undo_6 : decode cX12_undo 6 = .ok (.getfield 311, 3) := by decide +kernel
theorem dX12_undo_9 : decode cX12_undo 9 = .ok (.ifnull 10, 3) := by decide +kernel
theorem dX12_undo_12 : decode cX12_undo 12 = .ok (.aload_n 0, 1) := by decide +kernel
theorem dX12_undo_13 : decode cX12_undo 13 = .ok (.getfield 314, 3) := by decide +kernel
theorem dX12_undo_16 : decode cX12_undo 16 = .ok (.ifCond .ne 10, 3) := by decide +kernel
theorem dX12_undo_19 : decode cX12_undo 19 = .ok (.aload_n 0, 1) := by decide +kernel
theorem dX12_undo_20 : decode cX12_undo 20 = .ok (.bipush 6, 2) := by decide +kernel
theorem dX12_undo_22 : decode cX12_undo 22 = .ok (.invokevirtual 504, 3) := by decide +kernel
theorem dX12_undo_25 : decode cX12_undo 25 = .ok (.ireturn, 1) := by decide +kernel
theorem dX12_undo_26 : decode cX12_undo 26 = .ok (.aload_n 0, 1) := by decide +kernel
theorem dX12_undo_27 : decode cX12_undo 27 = .ok (.dup, 1) := by decide +kernel
theorem dX12_undo_28 : decode cX12_undo 28 = .ok (.getfield 314, 3) := by decide +kernel
theorem dX12_undo_31 : decode cX12_undo 31 = .ok (.iconst 1, 1) := by decide +kernel
theorem dX12_undo_32 : decode cX12_undo 32 = .ok (.isub, 1) := by decide +kernel
theorem dX12_undo_33 : decode cX12_undo 33 = .ok (.putfield 314, 3) := by decide +kernel
theorem dX12_undo_36 : decode cX12_undo 36 = .ok (.iconst 0, 1) := by decide +kernel
theorem dX12_undo_37 : decode cX12_undo 37 = .ok (.istore_n 1, 1) := by decide +kernel
theorem dX12_undo_38 : decode cX12_undo 38 = .ok (.iload_n 1, 1) := by decide +kernel
theorem dX12_undo_39 : decode cX12_undo 39 = .ok (.bipush 6, 2) := by decide +kernel
theorem dX12_undo_41 : decode cX12_undo 41 = .ok (.if_icmp .ge 29, 3) := by decide +kernel
theorem dX12_undo_44 : decode cX12_undo 44 = .ok (.aload_n 0, 1) := by decide +kernel
theorem dX12_undo_45 : decode cX12_undo 45 = .ok (.getfield 17, 3) := by decide +kernel
theorem dX12_undo_48 : decode cX12_undo 48 = .ok (.iload_n 1, 1) := by decide +kernel
theorem dX12_undo_49 : decode cX12_undo 49 = .ok (.aload_n 0, 1) := by decide +kernel
theorem dX12_undo_50 : decode cX12_undo 50 = .ok (.getfield 24, 3) := by decide +kernel
theorem dX12_undo_53 : decode cX12_undo 53 = .ok (.bipush 6, 2) := by decide +kernel
theorem dX12_undo_55 : decode cX12_undo 55 = .ok (.aload_n 0, 1) := by decide +kernel
theorem dX12_undo_56 : decode cX12_undo 56 = .ok (.getfield 314, 3) := by decide +kernel
theorem dX12_undo_59 : decode cX12_undo 59 = .ok (.imul, 1) := by decide +kernel
theorem dX12_undo_60 : decode cX12_undo 60 = .ok (.iload_n 1, 1) := by decide +kernel
theorem dX12_undo_61 : decode cX12_undo 61 = .ok (.iadd, 1) := by decide +kernel
theorem dX12_undo_62 : decode cX12_undo 62 = .ok (.iaload, 1) := by decide +kernel
theorem dX12_undo_63 : decode cX12_undo 63 = .ok (.iastore, 1) := by decide +kernel
theorem dX12_undo_64 : decode cX12_undo 64 = .ok (.iinc 1 1, 3) := by decide +kernel
theorem dX12_undo_67 : decode cX12_undo 67 = .ok (.goto (-29), 3) := by decide +kernel
theorem dX12_undo_70 : decode cX12_undo 70 = .ok (.aload_n 0, 1) := by decide +kernel
theorem dX12_undo_71 : decode cX12_undo 71 = .ok (.invokevirtual 507, 3) := by decide +kernel
theorem dX12_undo_74 : decode cX12_undo 74 = .ok (.ireturn, 1) := by decide +kernel
theorem dX12_image_0 : decode cX12_image 0 = .ok (.aload_n 0, 1) := by decide +kernel
theorem dX12_image_1 : decode cX12_image 1 = .ok (.iconst 0, 1) := by decide +kernel
theorem dX12_image_2 : decode cX12_image 2 = .ok (.putfield 66, 3) := by decide +kernel
theorem dX12_image_5 : decode cX12_image 5 = .ok (.aload_n 0, 1) := by decide +kernel
theorem dX12_image_6 : decode cX12_image 6 = .ok (.getfield 311, 3) := by decide +kernel
theorem dX12_image_9 : decode cX12_image 9 = .ok (.ifnonnull 9, 3) := by decide +kernel
theorem dX12_image_12 : decode cX12_image 12 = .ok (.aload_n 0, 1) := by decide +kernel
theorem dX12_image_13 : decode cX12_image 13 = .ok (.iconst 1, 1) := by decide +kernel
theorem dX12_image_14 : decode cX12_image 14 = .ok (.invokevirtual 72, 3) := by decide +kernel
theorem dX12_image_17 : decode cX12_image 17 = .ok (.ireturn, 1) := by decide +kernel
theorem dX12_image_18 : decode cX12_image 18 = .ok (.aload_n 0, 1) := by decide +kernel
theorem dX12_image_19 : decode cX12_image 19 = .ok (.getfield 317, 3) := by decide +kernel
theorem dX12_image_22 : decode cX12_image 22 = .ok (.iconst 3, 1) := by decide +kernel
theorem dX12_image_23 : decode cX12_image 23 = .ok (.if_icmp .ne 9, 3) := by decide +kernel
theorem dX12_image_26 : decode cX12_image 26 = .ok (.aload_n 0, 1) := by decide +kernel
theorem dX12_image_27 : decode cX12_image 27 = .ok (.iconst 3, 1) := by decide +kernel
theorem dX12_image_28 : decode cX12_image 28 = .ok (.invokevirtual 72, 3) := by decide +kernel
theorem dX12_image_31 : decode cX12_image 31 = .ok (.ireturn, 1) := by decide +kernel
theorem dX12_image_32 : decode cX12_image 32 = .ok (.iconst 0, 1) := by decide +kernel
theorem dX12_image_33 : decode cX12_image 33 = .ok (.istore_n 1, 1) := by decide +kernel
theorem dX12_image_34 : decode cX12_image 34 = .ok (.iload_n 1, 1) := by decide +kernel
theorem dX12_image_35 : decode cX12_image 35 = .ok (.bipush 6, 2) := by decide +kernel
theorem dX12_image_37 : decode cX12_image 37 = .ok (.if_icmp .ge 29, 3) := by decide +kernel
theorem dX12_image_40 : decode cX12_image 40 = .ok (.aload_n 0, 1) := by decide +kernel
theorem dX12_image_41 : decode cX12_image 41 = .ok (.getfield 27, 3) := by decide +kernel
theorem dX12_image_44 : decode cX12_image 44 = .ok (.bipush 6, 2) := by decide +kernel
theorem dX12_image_46 : decode cX12_image 46 = .ok (.aload_n 0, 1) := by decide +kernel
theorem dX12_image_47 : decode cX12_image 47 = .ok (.getfield 317, 3) := by decide +kernel
theorem dX12_image_50 : decode cX12_image 50 = .ok (.imul, 1) := by decide +kernel
theorem dX12_image_51 : decode cX12_image 51 = .ok (.iload_n 1, 1) := by decide +kernel
theorem dX12_image_52 : decode cX12_image 52 = .ok (.iadd, 1) := by decide +kernel
theorem dX12_image_53 : decode cX12_image 53 = .ok (.aload_n 0, 1) := by decide +kernel
theorem dX12_image_54 : decode cX12_image 54 = .ok (.getfield 17, 3) := by decide +kernel
theorem dX12_image_57 : decode cX12_image 57 = .ok (.iload_n 1, 1) := by decide +kernel
theorem dX12_image_58 : decode cX12_image 58 = .ok (.iaload, 1) := by decide +kernel
theorem dX12_image_59 : decode cX12_image 59 = .ok (.iastore, 1) := by decide +kernel
theorem dX12_image_60 : decode cX12_image 60 = .ok (.iinc 1 1, 3) := by decide +kernel
theorem dX12_image_63 : decode cX12_image 63 = .ok (.goto (-29), 3) := by decide +kernel
theorem dX12_image_66 : decode cX12_image 66 = .ok (.aload_n 0, 1) := by decide +kernel
theorem dX12_image_67 : decode cX12_image 67 = .ok (.dup, 1) := by decide +kernel
theorem dX12_image_68 : decode cX12_image 68 = .ok (.getfield 317, 3) := by decide +kernel
theorem dX12_image_71 : decode cX12_image 71 = .ok (.iconst 1, 1) := by decide +kernel
theorem dX12_image_72 : decode cX12_image 72 = .ok (.iadd, 1) := by decide +kernel
theorem dX12_image_73 : decode cX12_image 73 = .ok (.putfield 317, 3) := by decide +kernel
theorem dX12_image_76 : decode cX12_image 76 = .ok (.aload_n 0, 1) := by decide +kernel
theorem dX12_image_77 : decode cX12_image 77 = .ok (.aload_n 0, 1) := by decide +kernel
theorem dX12_image_78 : decode cX12_image 78 = .ok (.getfield 317, 3) := by decide +kernel
theorem dX12_image_81 : decode cX12_image 81 = .ok (.iconst 1, 1) := by decide +kernel
theorem dX12_image_82 : decode cX12_image 82 = .ok (.isub, 1) := by decide +kernel
theorem dX12_image_83 : decode cX12_image 83 = .ok (.invokevirtual 76, 3) := by decide +kernel
theorem dX12_image_86 : decode cX12_image 86 = .ok (.ireturn, 1) := by decide +kernel
theorem dX12_back_0 : decode cX12_back 0 = .ok (.aload_n 0, 1) := by decide +kernel
theorem dX12_back_1 : decode cX12_back 1 = .ok (.iconst 0, 1) := by decide +kernel
theorem dX12_back_2 : decode cX12_back 2 = .ok (.putfield 66, 3) := by decide +kernel
theorem dX12_back_5 : decode cX12_back 5 = .ok (.aload_n 0, 1) := by decide +kernel
theorem dX12_back_6 : decode cX12_back 6 = .ok (.getfield 311, 3) := by decide +kernel
theorem dX12_back_9 : decode cX12_back 9 = .ok (.ifnull 15, 3) := by decide +kernel
theorem dX12_back_12 : decode cX12_back 12 = .ok (.iload_n 1, 1) := by decide +kernel
theorem dX12_back_13 : decode cX12_back 13 = .ok (.ifCond .lt 11, 3) := by decide +kernel
theorem dX12_back_16 : decode cX12_back 16 = .ok (.iload_n 1, 1) := by decide +kernel
theorem dX12_back_17 : decode cX12_back 17 = .ok (.aload_n 0, 1) := by decide +kernel
theorem dX12_back_18 : decode cX12_back 18 = .ok (.getfield 317, 3) := by decide +kernel
theorem dX12_back_21 : decode cX12_back 21 = .ok (.if_icmp .lt 9, 3) := by decide +kernel
theorem dX12_back_24 : decode cX12_back 24 = .ok (.aload_n 0, 1) := by decide +kernel
theorem dX12_back_25 : decode cX12_back 25 = .ok (.iconst 1, 1) := by decide +kernel
theorem dX12_back_26 : decode cX12_back 26 = .ok (.invokevirtual 504, 3) := by decide +kernel
theorem dX12_back_29 : decode cX12_back 29 = .ok (.ireturn, 1) := by decide +kernel
theorem dX12_back_30 : decode cX12_back 30 = .ok (.iconst 0, 1) := by decide +kernel
theorem dX12_back_31 : decode cX12_back 31 = .ok (.istore_n 2, 1) := by decide +kernel
theorem dX12_back_32 : decode cX12_back 32 = .ok (.iload_n 2, 1) := by decide +kernel
theorem dX12_back_33 : decode cX12_back 33 = .ok (.bipush 6, 2) := by decide +kernel
theorem dX12_back_35 : decode cX12_back 35 = .ok (.if_icmp .ge 26, 3) := by decide +kernel
theorem dX12_back_38 : decode cX12_back 38 = .ok (.aload_n 0, 1) := by decide +kernel
theorem dX12_back_39 : decode cX12_back 39 = .ok (.getfield 17, 3) := by decide +kernel
theorem dX12_back_42 : decode cX12_back 42 = .ok (.iload_n 2, 1) := by decide +kernel
theorem dX12_back_43 : decode cX12_back 43 = .ok (.aload_n 0, 1) := by decide +kernel
theorem dX12_back_44 : decode cX12_back 44 = .ok (.getfield 27, 3) := by decide +kernel
theorem dX12_back_47 : decode cX12_back 47 = .ok (.bipush 6, 2) := by decide +kernel
theorem dX12_back_49 : decode cX12_back 49 = .ok (.iload_n 1, 1) := by decide +kernel
theorem dX12_back_50 : decode cX12_back 50 = .ok (.imul, 1) := by decide +kernel
theorem dX12_back_51 : decode cX12_back 51 = .ok (.iload_n 2, 1) := by decide +kernel
theorem dX12_back_52 : decode cX12_back 52 = .ok (.iadd, 1) := by decide +kernel
theorem dX12_back_53 : decode cX12_back 53 = .ok (.iaload, 1) := by decide +kernel
theorem dX12_back_54 : decode cX12_back 54 = .ok (.iastore, 1) := by decide +kernel
theorem dX12_back_55 : decode cX12_back 55 = .ok (.iinc 2 1, 3) := by decide +kernel
theorem dX12_back_58 : decode cX12_back 58 = .ok (.goto (-26), 3) := by decide +kernel
theorem dX12_back_61 : decode cX12_back 61 = .ok (.aload_n 0, 1) := by decide +kernel
theorem dX12_back_62 : decode cX12_back 62 = .ok (.iconst 0, 1) := by decide +kernel
theorem dX12_back_63 : decode cX12_back 63 = .ok (.putfield 314, 3) := by decide +kernel
theorem dX12_back_66 : decode cX12_back 66 = .ok (.aload_n 0, 1) := by decide +kernel
theorem dX12_back_67 : decode cX12_back 67 = .ok (.invokevirtual 507, 3) := by decide +kernel
theorem dX12_back_70 : decode cX12_back 70 = .ok (.ireturn, 1) := by decide +kernel
theorem dX12_size_0 : decode cX12_size 0 = .ok (.aload_n 0, 1) := by decide +kernel
theorem dX12_size_1 : decode cX12_size 1 = .ok (.iconst 0, 1) := by decide +kernel
theorem dX12_size_2 : decode cX12_size 2 = .ok (.putfield 66, 3) := by decide +kernel
theorem dX12_size_5 : decode cX12_size 5 = .ok (.iload_n 1, 1) := by decide +kernel
theorem dX12_size_6 : decode cX12_size 6 = .ok (.bipush 11, 2) := by decide +kernel
theorem dX12_size_8 : decode cX12_size 8 = .ok (.if_icmp .ne 8, 3) := by decide +kernel
theorem dX12_size_11 : decode cX12_size 11 = .ok (.aload_n 0, 1) := by decide +kernel
theorem dX12_size_12 : decode cX12_size 12 = .ok (.getfield 304, 3) := by decide +kernel
theorem dX12_size_15 : decode cX12_size 15 = .ok (.ireturn, 1) := by decide +kernel
theorem dX12_size_16 : decode cX12_size 16 = .ok (.iload_n 1, 1) := by decide +kernel
theorem dX12_size_17 : decode cX12_size 17 = .ok (.iconst 0, 1) := by decide +kernel
theorem dX12_size_18 : decode cX12_size 18 = .ok (.bipush 10, 2) := by decide +kernel
theorem dX12_size_20 : decode cX12_size 20 = .ok (.invokestatic 145, 3) := by decide +kernel
theorem dX12_size_23 : decode cX12_size 23 = .ok (.ifCond .ne 5, 3) := by decide +kernel
theorem dX12_size_26 : decode cX12_size 26 = .ok (.iconst (-1), 1) := by decide +kernel
theorem dX12_size_27 : decode cX12_size 27 = .ok (.ireturn, 1) := by decide +kernel
theorem dX12_size_28 : decode cX12_size 28 = .ok (.aload_n 0, 1) := by decide +kernel
theorem dX12_size_29 : decode cX12_size 29 = .ok (.getfield 311, 3) := by decide +kernel
theorem dX12_size_32 : decode cX12_size 32 = .ok (.ifnonnull 5, 3) := by decide +kernel
theorem dX12_size_35 : decode cX12_size 35 = .ok (.iconst 0, 1) := by decide +kernel
theorem dX12_size_36 : decode cX12_size 36 = .ok (.ireturn, 1) := by decide +kernel
theorem dX12_size_37 : decode cX12_size 37 = .ok (.iload_n 1, 1) := by decide +kernel
theorem dX12_size_38 : decode cX12_size 38 = .ok (.tableswitch 133 0 9 #[54, 62, 70, 78, 86, 94, 102, 113, 121, 128], 54) := by decide +kernel
theorem dX12_size_92 : decode cX12_size 92 = .ok (.aload_n 0, 1) := by decide +kernel
theorem dX12_size_93 : decode cX12_size 93 = .ok (.getfield 311, 3) := by decide +kernel
theorem dX12_size_96 : decode cX12_size 96 = .ok (.getfield 175, 3) := by decide +kernel
theorem dX12_size_99 : decode cX12_size 99 = .ok (.ireturn, 1) := by decide +kernel
theorem dX12_size_100 : decode cX12_size 100 = .ok (.aload_n 0, 1) := by decide +kernel
theorem dX12_size_101 : decode cX12_size 101 = .ok (.getfield 311, 3) := by decide +kernel
theorem dX12_size_104 : decode cX12_size 104 = .ok (.getfield 241, 3) := by decide +kernel
theorem dX12_size_107 : decode cX12_size 107 = .ok (.ireturn, 1) := by decide +kernel
theorem dX12_size_108 : decode cX12_size 108 = .ok (.aload_n 0, 1) := by decide +kernel
theorem dX12_size_109 : decode cX12_size 109 = .ok (.getfield 311, 3) := by decide +kernel
theorem dX12_size_112 : decode cX12_size 112 = .ok (.getfield 210, 3) := by decide +kernel
theorem dX12_size_115 : decode cX12_size 115 = .ok (.ireturn, 1) := by decide +kernel
theorem dX12_size_116 : decode cX12_size 116 = .ok (.aload_n 0, 1) := by decide +kernel
theorem dX12_size_117 : decode cX12_size 117 = .ok (.getfield 311, 3) := by decide +kernel
theorem dX12_size_120 : decode cX12_size 120 = .ok (.getfield 265, 3) := by decide +kernel
theorem dX12_size_123 : decode cX12_size 123 = .ok (.ireturn, 1) := by decide +kernel
theorem dX12_size_124 : decode cX12_size 124 = .ok (.aload_n 0, 1) := by decide +kernel
theorem dX12_size_125 : decode cX12_size 125 = .ok (.getfield 311, 3) := by decide +kernel
theorem dX12_size_128 : decode cX12_size 128 = .ok (.getfield 277, 3) := by decide +kernel
theorem dX12_size_131 : decode cX12_size 131 = .ok (.ireturn, 1) := by decide +kernel
theorem dX12_size_132 : decode cX12_size 132 = .ok (.aload_n 0, 1) := by decide +kernel
theorem dX12_size_133 : decode cX12_size 133 = .ok (.getfield 311, 3) := by decide +kernel
theorem dX12_size_136 : decode cX12_size 136 = .ok (.getfield 292, 3) := by decide +kernel
theorem dX12_size_139 : decode cX12_size 139 = .ok (.ireturn, 1) := by decide +kernel
theorem dX12_size_140 : decode cX12_size 140 = .ok (.aload_n 0, 1) := by decide +kernel
theorem dX12_size_141 : decode cX12_size 141 = .ok (.getfield 311, 3) := by decide +kernel
theorem dX12_size_144 : decode cX12_size 144 = .ok (.getfield 297, 3) := by decide +kernel
theorem dX12_size_147 : decode cX12_size 147 = .ok (.invokestatic 371, 3) := by decide +kernel
theorem dX12_size_150 : decode cX12_size 150 = .ok (.ireturn, 1) := by decide +kernel
theorem dX12_size_151 : decode cX12_size 151 = .ok (.aload_n 0, 1) := by decide +kernel
theorem dX12_size_152 : decode cX12_size 152 = .ok (.getfield 311, 3) := by decide +kernel
theorem dX12_size_155 : decode cX12_size 155 = .ok (.getfield 299, 3) := by decide +kernel
theorem dX12_size_158 : decode cX12_size 158 = .ok (.ireturn, 1) := by decide +kernel
theorem dX12_size_159 : decode cX12_size 159 = .ok (.aload_n 0, 1) := by decide +kernel
theorem dX12_size_160 : decode cX12_size 160 = .ok (.getfield 17, 3) := by decide +kernel
theorem dX12_size_163 : decode cX12_size 163 = .ok (.iconst 5, 1) := by decide +kernel
theorem dX12_size_164 : decode cX12_size 164 = .ok (.iaload, 1) := by decide +kernel
theorem dX12_size_165 : decode cX12_size 165 = .ok (.ireturn, 1) := by decide +kernel
theorem dX12_size_166 : decode cX12_size 166 = .ok (.aload_n 0, 1) := by decide +kernel
theorem dX12_size_167 : decode cX12_size 167 = .ok (.getfield 314, 3) := by decide +kernel
theorem dX12_size_170 : decode cX12_size 170 = .ok (.ireturn, 1) := by decide +kernel
theorem dX12_size_171 : decode cX12_size 171 = .ok (.aload_n 0, 1) := by decide +kernel
theorem dX12_size_172 : decode cX12_size 172 = .ok (.getfield 317, 3) := by decide +kernel
theorem dX12_size_175 : decode cX12_size 175 = .ok (.ireturn, 1) := by decide +kernel
theorem dX12_trouble_0 : decode cX12_trouble 0 = .ok (.aload_n 0, 1) := by decide +kernel
theorem dX12_trouble_1 : decode cX12_trouble 1 = .ok (.iconst 0, 1) := by decide +kernel
theorem dX12_trouble_2 : decode cX12_trouble 2 = .ok (.putfield 66, 3) := by decide +kernel
theorem dX12_trouble_5 : decode cX12_trouble 5 = .ok (.aload_n 0, 1) := by decide +kernel
theorem dX12_trouble_6 : decode cX12_trouble 6 = .ok (.getfield 69, 3) := by decide +kernel
theorem dX12_trouble_9 : decode cX12_trouble 9 = .ok (.ireturn, 1) := by decide +kernel
theorem dX12_led_0 : decode cX12_led 0 = .ok (.aload_n 0, 1) := by decide +kernel
theorem dX12_led_1 : decode cX12_led 1 = .ok (.iconst 0, 1) := by decide +kernel
theorem dX12_led_2 : decode cX12_led 2 = .ok (.putfield 66, 3) := by decide +kernel
theorem dX12_led_5 : decode cX12_led 5 = .ok (.iconst 0, 1) := by decide +kernel
theorem dX12_led_6 : decode cX12_led 6 = .ok (.istore_n 2, 1) := by decide +kernel
theorem dX12_led_7 : decode cX12_led 7 = .ok (.iconst 0, 1) := by decide +kernel
theorem dX12_led_8 : decode cX12_led 8 = .ok (.istore_n 3, 1) := by decide +kernel
theorem dX12_led_9 : decode cX12_led 9 = .ok (.aload_n 0, 1) := by decide +kernel
theorem dX12_led_10 : decode cX12_led 10 = .ok (.getfield 311, 3) := by decide +kernel
theorem dX12_led_13 : decode cX12_led 13 = .ok (.ifnull 46, 3) := by decide +kernel
theorem dX12_led_16 : decode cX12_led 16 = .ok (.iload_n 3, 1) := by decide +kernel
theorem dX12_led_17 : decode cX12_led 17 = .ok (.aload_n 0, 1) := by decide +kernel
theorem dX12_led_18 : decode cX12_led 18 = .ok (.getfield 311, 3) := by decide +kernel
theorem dX12_led_21 : decode cX12_led 21 = .ok (.getfield 277, 3) := by decide +kernel
theorem dX12_led_24 : decode cX12_led 24 = .ok (.if_icmp .ge 35, 3) := by decide +kernel
theorem dX12_led_27 : decode cX12_led 27 = .ok (.aload_n 0, 1) := by decide +kernel
theorem dX12_led_28 : decode cX12_led 28 = .ok (.aload_n 0, 1) := by decide +kernel
theorem dX12_led_29 : decode cX12_led 29 = .ok (.getfield 17, 3) := by decide +kernel
theorem dX12_led_32 : decode cX12_led 32 = .ok (.iload_n 3, 1) := by decide +kernel
theorem dX12_led_33 : decode cX12_led 33 = .ok (.iaload, 1) := by decide +kernel
theorem dX12_led_34 : decode cX12_led 34 = .ok (.invokevirtual 353, 3) := by decide +kernel
theorem dX12_led_37 : decode cX12_led 37 = .ok (.ifCond .eq 6, 3) := by decide +kernel
theorem dX12_led_40 : decode cX12_led 40 = .ok (.goto 13, 3) := by decide +kernel
theorem dX12_led_43 : decode cX12_led 43 = .ok (.iload_n 2, 1) := by decide +kernel
theorem dX12_led_44 : decode cX12_led 44 = .ok (.iload_n 1, 1) := by decide +kernel
theorem dX12_led_45 : decode cX12_led 45 = .ok (.if_icmp .ne 5, 3) := by decide +kernel
theorem dX12_led_48 : decode cX12_led 48 = .ok (.iload_n 3, 1) := by decide +kernel
theorem dX12_led_49 : decode cX12_led 49 = .ok (.ireturn, 1) := by decide +kernel
theorem dX12_led_50 : decode cX12_led 50 = .ok (.iinc 2 1, 3) := by decide +kernel
theorem dX12_led_53 : decode cX12_led 53 = .ok (.iinc 3 1, 3) := by decide +kernel
theorem dX12_led_56 : decode cX12_led 56 = .ok (.goto (-47), 3) := by decide +kernel
theorem dX12_led_59 : decode cX12_led 59 = .ok (.aload_n 0, 1) := by decide +kernel
theorem dX12_led_60 : decode cX12_led 60 = .ok (.iconst 1, 1) := by decide +kernel
theorem dX12_led_61 : decode cX12_led 61 = .ok (.putfield 66, 3) := by decide +kernel
theorem dX12_led_64 : decode cX12_led 64 = .ok (.iconst 0, 1) := by decide +kernel
theorem dX12_led_65 : decode cX12_led 65 = .ok (.ireturn, 1) := by decide +kernel
theorem dX12_thrown_0 : decode cX12_thrown 0 = .ok (.aload_n 0, 1) := by decide +kernel
theorem dX12_thrown_1 : decode cX12_thrown 1 = .ok (.getfield 66, 3) := by decide +kernel
theorem dX12_thrown_4 : decode cX12_thrown 4 = .ok (.ireturn, 1) := by decide +kernel
def f_M_forget (n : Nat) (x1 : Int32) (x2 : Int32) (t : k_St) : Option (Bool × k_St) := k_lt (k_sI t 0 0 (0 : Int32)) (fun t_1 => (if (k_b (f_M_isHouse t_1 x1)) = 0 then k_lt (f_M_denied (1 : Int32) t_1) (fun q_2 => some (q_2.1, q_2.2)) else (if (k_b (f_M_isPiece t_1 x2)) = 0 then k_lt (f_M_denied (1 : Int32) t_1) (fun q_10 => some (q_10.1, q_10.2)) else k_gi x1 6 ((if (k_b (f_M_bit (t_1.1 2 x1.toNatClampNeg) x2)) = 0 then k_lt (f_M_denied (5 : Int32) t_1) (fun q_9 => some (q_9.1, q_9.2)) else k_cv (f_M_remembers n t_1) (fun t_4 => k_gi x1 6 (k_gi x1 6 (k_lt (k_sI t_4 2 x1.toNatClampNeg ((t_4.1 2 x1.toNatClampNeg) ^^^ ((1 : Int32) <<< (x2 &&& 31)))) (fun t_7 => k_lt (f_M_granted t_7) (fun q_8 => some (q_8.1, q_8.2)))))))))))
theorem m_M_forget (l : Launch) (G : k_G) (a : Nat → Nat) (rv : Value) (n : Nat) (x1 : Int32) (x2 : Int32) (t : k_St) {r : Bool} {t' : k_St} (hf : f_M_forget n x1 x2 t = some (r, t')) : k_CI l G yX12_forget cX12_forget 3 (some .boolean) 3 (k_WT G.2.1 a rv t) [.ref (a 0), .int x1, .int x2] (k_b r) (k_WT G.2.1 a rv t') := by
  refine k_startI (lv := [(0, .ref (a 0)), (1, .int x1), (2, .int x2)]) (by decide +kernel) (Nat.le_of_ble_eq_true rfl) rfl ?_
  intro p e s m args below meth c hA hr
  have hA : k_Amb p s m args meth c cX12_forget 3 "TaleSharesModel" G _ := hA
  unfold f_M_forget at hf
  obtain ⟨t_1, et_1, hf⟩ := k_lt_e hf
  refine k_aload_n (i := 0) hA dX12_forget_0 rfl 0 rfl ?_
  refine k_iconst hA dX12_forget_1 kc_i_0 ?_
  refine pt_MT_0_0 hA wd_1248 et_1 dX12_forget_2 ?_
  refine k_aload_n (i := 0) hA dX12_forget_5 rfl 0 rfl ?_
  refine k_iload_n (i := 1) hA dX12_forget_6 rfl 1 rfl ?_
  refine k_callVi (As := [.int x1]) (rest := []) hA (m_M_isHouse l G a rv t_1 x1 rfl) cd_X12_isHouse wd_1625 (hc_MT_0 G.2.1 a rv t_1) rfl rfl (Nat.le_of_ble_eq_true rfl) rfl rfl (Nat.le_of_ble_eq_true rfl) dX12_forget_7 ?_
  refine k_if_eq (tgt := 21) hA dX12_forget_10 rfl (fun hc => ?_) (fun hc => ?_)
  · have hf := k_ift hc hf
    obtain ⟨⟨rq_2, tq_2⟩, hq_2, hf⟩ := k_lt_e hf
    dsimp only at hf
    obtain ⟨rfl, rfl⟩ := k_r2 hf
    refine k_aload_n (i := 0) hA dX12_forget_21 rfl 0 rfl ?_
    refine k_iconst hA dX12_forget_22 kc_i_1 ?_
    refine k_callVi (As := [.int (1 : Int32)]) (rest := []) hA (m_M_denied l G a rv (1 : Int32) t_1 hq_2.symm) cd_X12_denied wd_1947 (hc_MT_0 G.2.1 a rv t_1) rfl rfl (Nat.le_of_ble_eq_true rfl) rfl rfl (Nat.le_of_ble_eq_true rfl) dX12_forget_23 ?_
    exact k_iret hA hr (k_narB (k_b01 _)) dX12_forget_26
  have hf := k_iff hc hf
  refine k_aload_n (i := 0) hA dX12_forget_13 rfl 0 rfl ?_
  refine k_iload_n (i := 2) hA dX12_forget_14 rfl 2 rfl ?_
  refine k_callVi (As := [.int x2]) (rest := []) hA (m_M_isPiece l G a rv t_1 x2 rfl) cd_X12_isPiece wd_1617 (hc_MT_0 G.2.1 a rv t_1) rfl rfl (Nat.le_of_ble_eq_true rfl) rfl rfl (Nat.le_of_ble_eq_true rfl) dX12_forget_15 ?_
  refine k_if_ne (tgt := 27) hA dX12_forget_18 rfl (fun hc => ?_) (fun hc => ?_)
  · have hf := k_iff hc hf
    obtain ⟨hi_3, hf⟩ := k_gi_e hf
    refine k_aload_n (i := 0) hA dX12_forget_27 rfl 0 rfl ?_
    refine gt_MT_0_15 hA wd_1263 dX12_forget_28 ?_
    refine k_iload_n (i := 1) hA dX12_forget_31 rfl 1 rfl ?_
    refine ld_MT_2 hA hi_3 dX12_forget_32 ?_
    refine k_iload_n (i := 2) hA dX12_forget_33 rfl 2 rfl ?_
    refine k_callSi (As := [.int (t_1.1 2 x1.toNatClampNeg), .int x2]) (rest := []) hA (m_M_bit l G (k_WT G.2.1 a rv t_1) (t_1.1 2 x1.toNatClampNeg) x2 rfl) cd_X12_bit wd_1575 (Nat.le_of_ble_eq_true rfl) rfl rfl (Nat.le_of_ble_eq_true rfl) dX12_forget_34 ?_
    refine k_if_ne (tgt := 46) hA dX12_forget_37 rfl (fun hc => ?_) (fun hc => ?_)
    · have hf := k_iff hc hf
      obtain ⟨t_4, ht_4, hf⟩ := k_cv_e hf
      obtain ⟨hi_5, hf⟩ := k_gi_e hf
      obtain ⟨hi_6, hf⟩ := k_gi_e hf
      obtain ⟨t_7, et_7, hf⟩ := k_lt_e hf
      obtain ⟨⟨rq_8, tq_8⟩, hq_8, hf⟩ := k_lt_e hf
      dsimp only at hf
      obtain ⟨rfl, rfl⟩ := k_r2 hf
      refine k_aload_n (i := 0) hA dX12_forget_46 rfl 0 rfl ?_
      refine k_callVv (As := []) (rest := []) hA (m_M_remembers l G a rv n t_1 ht_4) cd_X12_remembers wd_1939 (hc_MT_0 G.2.1 a rv t_1) rfl rfl (Nat.le_of_ble_eq_true rfl) rfl rfl (Nat.le_of_ble_eq_true rfl) dX12_forget_47 ?_
      refine k_aload_n (i := 0) hA dX12_forget_50 rfl 0 rfl ?_
      refine gt_MT_0_15 hA wd_1263 dX12_forget_51 ?_
      refine k_iload_n (i := 1) hA dX12_forget_54 rfl 1 rfl ?_
      refine k_dup2_11 hA dX12_forget_55 rfl rfl ?_
      refine ld_MT_2 hA hi_5 dX12_forget_56 ?_
      refine k_iconst hA dX12_forget_57 kc_i_1 ?_
      refine k_iload_n (i := 2) hA dX12_forget_58 rfl 2 rfl ?_
      refine k_ishl hA dX12_forget_59 ?_
      refine k_ixor hA dX12_forget_60 ?_
      refine sr_MT_2 hA hi_6 et_7 dX12_forget_61 ?_
      refine k_aload_n (i := 0) hA dX12_forget_62 rfl 0 rfl ?_
      refine k_callVi (As := []) (rest := []) hA (m_M_granted l G a rv t_7 hq_8.symm) cd_X12_granted wd_1951 (hc_MT_0 G.2.1 a rv t_7) rfl rfl (Nat.le_of_ble_eq_true rfl) rfl rfl (Nat.le_of_ble_eq_true rfl) dX12_forget_63 ?_
      exact k_iret hA hr (k_narB (k_b01 _)) dX12_forget_66
    have hf := k_ift hc hf
    obtain ⟨⟨rq_9, tq_9⟩, hq_9, hf⟩ := k_lt_e hf
    dsimp only at hf
    obtain ⟨rfl, rfl⟩ := k_r2 hf
    refine k_aload_n (i := 0) hA dX12_forget_40 rfl 0 rfl ?_
    refine k_iconst hA dX12_forget_41 kc_i_5 ?_
    refine k_callVi (As := [.int (5 : Int32)]) (rest := []) hA (m_M_denied l G a rv (5 : Int32) t_1 hq_9.symm) cd_X12_denied wd_1947 (hc_MT_0 G.2.1 a rv t_1) rfl rfl (Nat.le_of_ble_eq_true rfl) rfl rfl (Nat.le_of_ble_eq_true rfl) dX12_forget_42 ?_
    exact k_iret hA hr (k_narB (k_b01 _)) dX12_forget_45
  have hf := k_ift hc hf
  obtain ⟨⟨rq_10, tq_10⟩, hq_10, hf⟩ := k_lt_e hf
  dsimp only at hf
  obtain ⟨rfl, rfl⟩ := k_r2 hf
  refine k_aload_n (i := 0) hA dX12_forget_21 rfl 0 rfl ?_
  refine k_iconst hA dX12_forget_22 kc_i_1 ?_
  refine k_callVi (As := [.int (1 : Int32)]) (rest := []) hA (m_M_denied l G a rv (1 : Int32) t_1 hq_10.symm) cd_X12_denied wd_1947 (hc_MT_0 G.2.1 a rv t_1) rfl rfl (Nat.le_of_ble_eq_true rfl) rfl rfl (Nat.le_of_ble_eq_true rfl) dX12_forget_23 ?_
  exact k_iret hA hr (k_narB (k_b01 _)) dX12_forget_26

def f_M_anEveningV_6 (n : Nat) : Nat → Int32 → Int32 → Int32 → Int32 → k_St → Option (Int32 × k_St)
  | 0, _, _, _, _, _ => none
  | k + 1, x2, x3, x4, x5, t => (if x5 = 0 then some (x4, t) else (if x3 ≤ x4 then some (x4, t) else k_gi (5 : Int32) 6 (k_gi (5 : Int32) 6 (k_lt (k_sI t 2 (5 : Int32).toNatClampNeg (((((75 : Int64) * ((t.1 2 (5 : Int32).toNatClampNeg).toInt64)) + (74 : Int64)) - (((75 : Int64) * ((t.1 2 (5 : Int32).toNatClampNeg).toInt64)) + (74 : Int64)) / (65537 : Int64) * (65537 : Int64)).toInt32)) (fun t_3 => k_gi (5 : Int32) 6 ((if ((t_3.1 2 (5 : Int32).toNatClampNeg) - (t_3.1 2 (5 : Int32).toNatClampNeg) / (100 : Int32) * (100 : Int32)) < (t_3.1 18 1) then (if (0 : Int32) = 0 then f_M_anEveningV_6 n k x2 x3 x4 (0 : Int32) t_3 else k_gi x2 6 (k_gi x4 8 (k_gi x2 6 (k_lt (k_sI t_3 2 x2.toNatClampNeg ((t_3.1 2 x2.toNatClampNeg) ||| ((1 : Int32) <<< ((t_3.1 7 x4.toNatClampNeg) &&& 31)))) (fun t_8 => k_lt (x4 + (1 : Int32)) (fun x4_9 => f_M_anEveningV_6 n k x2 x3 x4_9 (0 : Int32) t_8)))))) else (if (1 : Int32) = 0 then f_M_anEveningV_6 n k x2 x3 x4 (1 : Int32) t_3 else k_gi x2 6 (k_gi x4 8 (k_gi x2 6 (k_lt (k_sI t_3 2 x2.toNatClampNeg ((t_3.1 2 x2.toNatClampNeg) ||| ((1 : Int32) <<< ((t_3.1 7 x4.toNatClampNeg) &&& 31)))) (fun t_13 => k_lt (x4 + (1 : Int32)) (fun x4_14 => f_M_anEveningV_6 n k x2 x3 x4_14 (1 : Int32) t_13)))))))))))))
def f_M_anEveningV (n : Nat) (x2 : Int32) (x3 : Int32) (t : k_St) : Option (Int32 × k_St) := f_M_anEveningV_6 n n x2 x3 (0 : Int32) (1 : Int32) t
theorem m_M_anEveningV_6 {p : Program} (l : Launch) {e : Env} {s : State} {m : MethodId} {args : Array Value} {below : List Frame} {meth : Method} {c : Code} (G : k_G) (a : Nat → Nat) (rv : Value) (n : Nat) {w0 : va_W} {r : Int32} {t' : k_St} (hA : k_Amb p s m args meth c cX12_anEvening 6 "TaleSharesModel" G (va_A w0 s.heap.size)) (hr : meth.sig.returnType = (some .int)) : ∀ (k : Nat) (x2 : Int32) (x3 : Int32) (x4 : Int32) (x5 : Int32) (t : k_St), f_M_anEveningV_6 n k x2 x3 x4 x5 t = some (r, t') → k_Go p l e (k_rm 1) s m args below meth c (k_QI G w0 r (k_WT G.2.1 a rv t') args s below) 6 G (va_A w0 s.heap.size) (k_WT G.2.1 a rv t) 6 [(0, .ref (a 0)), (1, .ref (a 2)), (2, .int x2), (3, .int x3), (4, .int x4), (5, .int x5)] [] := by
  intro k
  induction k with
  | zero => intro x2 x3 x4 x5 t hf; cases hf
  | succ k ih =>
  intro x2 x3 x4 x5 t hf
  rw [f_M_anEveningV_6] at hf
  refine k_iload hA dX12_anEvening_6 5 rfl ?_
  refine k_if_eq (tgt := 89) hA dX12_anEvening_8 rfl (fun hc => ?_) (fun hc => ?_)
  · have hf := k_ift hc hf
    obtain ⟨rfl, rfl⟩ := k_r2 hf
    refine k_iload hA dX12_anEvening_89 4 rfl ?_
    exact k_iret hA hr rfl dX12_anEvening_91
  have hf := k_iff hc hf
  refine k_iload hA dX12_anEvening_11 4 rfl ?_
  refine k_iload_n (i := 3) hA dX12_anEvening_13 rfl 3 rfl ?_
  refine k_icmp_ge (tgt := 89) hA dX12_anEvening_14 rfl (fun hc => ?_) (fun hc => ?_)
  · have hf := k_ift hc hf
    obtain ⟨rfl, rfl⟩ := k_r2 hf
    refine k_iload hA dX12_anEvening_89 4 rfl ?_
    exact k_iret hA hr rfl dX12_anEvening_91
  have hf := k_iff hc hf
  obtain ⟨hi_1, hf⟩ := k_gi_e hf
  obtain ⟨hi_2, hf⟩ := k_gi_e hf
  obtain ⟨t_3, et_3, hf⟩ := k_lt_e hf
  obtain ⟨hi_4, hf⟩ := k_gi_e hf
  refine k_aload_n (i := 1) hA dX12_anEvening_17 rfl 1 rfl ?_
  refine k_iconst hA dX12_anEvening_18 kc_i_5 ?_
  refine k_ldc2 hA wd_1928 dX12_anEvening_19 ?_
  refine k_aload_n (i := 1) hA dX12_anEvening_22 rfl 1 rfl ?_
  refine k_iconst hA dX12_anEvening_23 kc_i_5 ?_
  refine ld_MT_2 hA hi_1 dX12_anEvening_24 ?_
  refine k_i2l hA dX12_anEvening_25 ?_
  refine k_lmul hA dX12_anEvening_26 ?_
  refine k_ldc2 hA wd_1929 dX12_anEvening_27 ?_
  refine k_ladd hA dX12_anEvening_30 ?_
  refine k_ldc2 hA wd_1930 dX12_anEvening_31 ?_
  refine k_lrem hA dX12_anEvening_34 (by decide) ?_
  refine k_l2i hA dX12_anEvening_35 ?_
  refine sr_MT_2 hA hi_2 et_3 dX12_anEvening_36 ?_
  refine k_aload_n (i := 1) hA dX12_anEvening_37 rfl 1 rfl ?_
  refine k_iconst hA dX12_anEvening_38 kc_i_5 ?_
  refine ld_MT_2 hA hi_4 dX12_anEvening_39 ?_
  refine k_bipush hA dX12_anEvening_40 kc_b_100 ?_
  refine k_irem hA dX12_anEvening_42 (by decide) ?_
  refine k_aload_n (i := 0) hA dX12_anEvening_43 rfl 0 rfl ?_
  refine gt_MT_0_3 hA wd_1251 dX12_anEvening_44 ?_
  refine gt_MT_18_1N hA rfl nf_241 dX12_anEvening_47 ?_
  refine k_icmp_lt (tgt := 57) hA dX12_anEvening_50 rfl (fun hc => ?_) (fun hc => ?_)
  · have hf := k_ift hc hf
    refine k_iconst hA dX12_anEvening_57 kc_i_0 ?_
    refine k_istore (lv' := [(5, .int (0 : Int32)), (0, .ref (a 0)), (1, .ref (a 2)), (2, .int x2), (3, .int x3), (4, .int x4)]) hA dX12_anEvening_58 rfl (Nat.le_of_ble_eq_true rfl) rfl ?_
    refine k_iload hA dX12_anEvening_60 0 rfl ?_
    refine k_if_ne (tgt := 68) hA dX12_anEvening_62 rfl (fun hc => ?_) (fun hc => ?_)
    · have hf := k_iff hc hf
      obtain ⟨hi_5, hf⟩ := k_gi_e hf
      obtain ⟨hi_6, hf⟩ := k_gi_e hf
      obtain ⟨hi_7, hf⟩ := k_gi_e hf
      obtain ⟨t_8, et_8, hf⟩ := k_lt_e hf
      obtain ⟨x4_9, ex4_9, hf⟩ := k_lt_e hf
      refine k_aload_n (i := 1) hA dX12_anEvening_68 rfl 2 rfl ?_
      refine k_iload_n (i := 2) hA dX12_anEvening_69 rfl 3 rfl ?_
      refine k_dup2_11 hA dX12_anEvening_70 rfl rfl ?_
      refine ld_MT_2 hA hi_5 dX12_anEvening_71 ?_
      refine k_iconst hA dX12_anEvening_72 kc_i_1 ?_
      refine k_aload_n (i := 0) hA dX12_anEvening_73 rfl 1 rfl ?_
      refine gt_MT_0_26 hA wd_1274 dX12_anEvening_74 ?_
      refine k_iload hA dX12_anEvening_77 5 rfl ?_
      refine ld_MT_7 hA hi_6 dX12_anEvening_79 ?_
      refine k_ishl hA dX12_anEvening_80 ?_
      refine k_ior hA dX12_anEvening_81 ?_
      refine sr_MT_2 hA hi_7 et_8 dX12_anEvening_82 ?_
      refine k_iinc (j := 5) (v := x4_9) (lv' := [(4, .int x4_9), (5, .int (0 : Int32)), (0, .ref (a 0)), (1, .ref (a 2)), (2, .int x2), (3, .int x3)]) hA dX12_anEvening_83 rfl (k_inc ex4_9 kc_i_1) (Nat.le_of_ble_eq_true rfl) rfl ?_
      refine k_goto (tgt := 6) hA dX12_anEvening_86 rfl ?_
      refine k_pick (lv' := [(0, .ref (a 0)), (1, .ref (a 2)), (2, .int x2), (3, .int x3), (4, .int x4_9), (5, .int (0 : Int32))]) [2, 3, 4, 5, 0, 1] rfl ?_
      exact ih x2 x3 x4_9 (0 : Int32) t_8 hf
    have hf := k_ift hc hf
    refine k_goto (tgt := 6) hA dX12_anEvening_65 rfl ?_
    refine k_pick (lv' := [(0, .ref (a 0)), (1, .ref (a 2)), (2, .int x2), (3, .int x3), (4, .int x4), (5, .int (0 : Int32))]) [1, 2, 3, 4, 5, 0] rfl ?_
    exact ih x2 x3 x4 (0 : Int32) t_3 hf
  have hf := k_iff hc hf
  refine k_iconst hA dX12_anEvening_53 kc_i_1 ?_
  refine k_goto (tgt := 58) hA dX12_anEvening_54 rfl ?_
  refine k_istore (lv' := [(5, .int (1 : Int32)), (0, .ref (a 0)), (1, .ref (a 2)), (2, .int x2), (3, .int x3), (4, .int x4)]) hA dX12_anEvening_58 rfl (Nat.le_of_ble_eq_true rfl) rfl ?_
  refine k_iload hA dX12_anEvening_60 0 rfl ?_
  refine k_if_ne (tgt := 68) hA dX12_anEvening_62 rfl (fun hc => ?_) (fun hc => ?_)
  · have hf := k_iff hc hf
    obtain ⟨hi_10, hf⟩ := k_gi_e hf
    obtain ⟨hi_11, hf⟩ := k_gi_e hf
    obtain ⟨hi_12, hf⟩ := k_gi_e hf
    obtain ⟨t_13, et_13, hf⟩ := k_lt_e hf
    obtain ⟨x4_14, ex4_14, hf⟩ := k_lt_e hf
    refine k_aload_n (i := 1) hA dX12_anEvening_68 rfl 2 rfl ?_
    refine k_iload_n (i := 2) hA dX12_anEvening_69 rfl 3 rfl ?_
    refine k_dup2_11 hA dX12_anEvening_70 rfl rfl ?_
    refine ld_MT_2 hA hi_10 dX12_anEvening_71 ?_
    refine k_iconst hA dX12_anEvening_72 kc_i_1 ?_
    refine k_aload_n (i := 0) hA dX12_anEvening_73 rfl 1 rfl ?_
    refine gt_MT_0_26 hA wd_1274 dX12_anEvening_74 ?_
    refine k_iload hA dX12_anEvening_77 5 rfl ?_
    refine ld_MT_7 hA hi_11 dX12_anEvening_79 ?_
    refine k_ishl hA dX12_anEvening_80 ?_
    refine k_ior hA dX12_anEvening_81 ?_
    refine sr_MT_2 hA hi_12 et_13 dX12_anEvening_82 ?_
    refine k_iinc (j := 5) (v := x4_14) (lv' := [(4, .int x4_14), (5, .int (1 : Int32)), (0, .ref (a 0)), (1, .ref (a 2)), (2, .int x2), (3, .int x3)]) hA dX12_anEvening_83 rfl (k_inc ex4_14 kc_i_1) (Nat.le_of_ble_eq_true rfl) rfl ?_
    refine k_goto (tgt := 6) hA dX12_anEvening_86 rfl ?_
    refine k_pick (lv' := [(0, .ref (a 0)), (1, .ref (a 2)), (2, .int x2), (3, .int x3), (4, .int x4_14), (5, .int (1 : Int32))]) [2, 3, 4, 5, 0, 1] rfl ?_
    exact ih x2 x3 x4_14 (1 : Int32) t_13 hf
  have hf := k_ift hc hf
  refine k_goto (tgt := 6) hA dX12_anEvening_65 rfl ?_
  refine k_pick (lv' := [(0, .ref (a 0)), (1, .ref (a 2)), (2, .int x2), (3, .int x3), (4, .int x4), (5, .int (1 : Int32))]) [1, 2, 3, 4, 5, 0] rfl ?_
  exact ih x2 x3 x4 (1 : Int32) t_3 hf

theorem m_M_anEveningV (l : Launch) (G : k_G) (a : Nat → Nat) (rv : Value) (n : Nat) (x2 : Int32) (x3 : Int32) (t : k_St) {r : Int32} {t' : k_St} (hf : f_M_anEveningV n x2 x3 t = some (r, t')) : k_CI l G yX12_anEvening cX12_anEvening 6 (some .int) 1 (k_WT G.2.1 a rv t) [.ref (a 0), .ref (a 2), .int x2, .int x3] r (k_WT G.2.1 a rv t') := by
  refine k_startI (lv := [(0, .ref (a 0)), (1, .ref (a 2)), (2, .int x2), (3, .int x3)]) (by decide +kernel) (Nat.le_of_ble_eq_true rfl) rfl ?_
  intro p e s m args below meth c hA hr
  have hA : k_Amb p s m args meth c cX12_anEvening 6 "TaleSharesModel" G _ := hA
  unfold f_M_anEveningV at hf
  refine k_iconst hA dX12_anEvening_0 kc_i_0 ?_
  refine k_istore (lv' := [(4, .int (0 : Int32)), (0, .ref (a 0)), (1, .ref (a 2)), (2, .int x2), (3, .int x3)]) hA dX12_anEvening_1 rfl (Nat.le_of_ble_eq_true rfl) rfl ?_
  refine k_iconst hA dX12_anEvening_3 kc_i_1 ?_
  refine k_istore (lv' := [(5, .int (1 : Int32)), (4, .int (0 : Int32)), (0, .ref (a 0)), (1, .ref (a 2)), (2, .int x2), (3, .int x3)]) hA dX12_anEvening_4 rfl (Nat.le_of_ble_eq_true rfl) rfl ?_
  refine k_pick (lv' := [(0, .ref (a 0)), (1, .ref (a 2)), (2, .int x2), (3, .int x3), (4, .int (0 : Int32)), (5, .int (1 : Int32))]) [2, 3, 4, 5, 1, 0] rfl ?_
  exact m_M_anEveningV_6 l G a rv n hA hr n x2 x3 (0 : Int32) (1 : Int32) t hf

def f_M_evening (n : Nat) (x1 : Int32) (t : k_St) : Option (Int32 × k_St) := k_lt (k_sI t 0 0 (0 : Int32)) (fun t_1 => (if (k_b (f_M_isHouse t_1 x1)) = 0 then k_lt (f_M_refused (1 : Int32) t_1) (fun q_9 => some (q_9.1, q_9.2)) else k_cl (f_M_longestOf n (f_Mt_all t_1) t_1) (fun r_3 t_2 => (if r_3 = 0 then k_lt (f_M_refused (6 : Int32) t_2) (fun q_8 => some (q_8.1, q_8.2)) else k_cv (f_M_remembers n t_2) (fun t_4 => k_cl (f_M_anEveningV n x1 r_3 t_4) (fun r_6 t_5 => k_lt (f_M_good r_6 t_5) (fun q_7 => some (q_7.1, q_7.2))))))))
theorem m_M_evening (l : Launch) (G : k_G) (a : Nat → Nat) (rv : Value) (n : Nat) (x1 : Int32) (t : k_St) {r : Int32} {t' : k_St} (hf : f_M_evening n x1 t = some (r, t')) : k_CI l G yX12_evening cX12_evening 3 (some .int) 5 (k_WT G.2.1 a rv t) [.ref (a 0), .int x1] r (k_WT G.2.1 a rv t') := by
  refine k_startI (lv := [(0, .ref (a 0)), (1, .int x1)]) (by decide +kernel) (Nat.le_of_ble_eq_true rfl) rfl ?_
  intro p e s m args below meth c hA hr
  have hA : k_Amb p s m args meth c cX12_evening 3 "TaleSharesModel" G _ := hA
  unfold f_M_evening at hf
  obtain ⟨t_1, et_1, hf⟩ := k_lt_e hf
  refine k_aload_n (i := 0) hA dX12_evening_0 rfl 0 rfl ?_
  refine k_iconst hA dX12_evening_1 kc_i_0 ?_
  refine pt_MT_0_0 hA wd_1248 et_1 dX12_evening_2 ?_
  refine k_aload_n (i := 0) hA dX12_evening_5 rfl 0 rfl ?_
  refine k_iload_n (i := 1) hA dX12_evening_6 rfl 1 rfl ?_
  refine k_callVi (As := [.int x1]) (rest := []) hA (m_M_isHouse l G a rv t_1 x1 rfl) cd_X12_isHouse wd_1625 (hc_MT_0 G.2.1 a rv t_1) rfl rfl (Nat.le_of_ble_eq_true rfl) rfl rfl (Nat.le_of_ble_eq_true rfl) dX12_evening_7 ?_
  refine k_if_ne (tgt := 19) hA dX12_evening_10 rfl (fun hc => ?_) (fun hc => ?_)
  · have hf := k_iff hc hf
    obtain ⟨r_3, t_2, ht_2, hf⟩ := k_cl_e hf
    refine k_aload_n (i := 0) hA dX12_evening_19 rfl 0 rfl ?_
    refine k_aload_n (i := 0) hA dX12_evening_20 rfl 0 rfl ?_
    refine gt_MT_0_3 hA wd_1251 dX12_evening_21 ?_
    refine k_callVi (As := []) (rest := [.ref (a 0)]) hA (m_Mt_all l G a rv t_1 rfl) cd_X11_all wd_1673 (hc_MT_18 G.2.1 a rv t_1) rfl rfl (Nat.le_of_ble_eq_true rfl) rfl rfl (Nat.le_of_ble_eq_true rfl) dX12_evening_24 ?_
    refine k_callVi (As := [.int (f_Mt_all t_1)]) (rest := []) hA (m_M_longestOf l G a rv n (f_Mt_all t_1) t_1 ht_2) cd_X12_longestOf wd_1685 (hc_MT_0 G.2.1 a rv t_1) rfl rfl (Nat.le_of_ble_eq_true rfl) rfl rfl (Nat.le_of_ble_eq_true rfl) dX12_evening_27 ?_
    refine k_istore_n (i := 2) (lv' := [(2, .int r_3), (0, .ref (a 0)), (1, .int x1)]) hA dX12_evening_30 rfl rfl (Nat.le_of_ble_eq_true rfl) rfl ?_
    refine k_iload_n (i := 2) hA dX12_evening_31 rfl 0 rfl ?_
    refine k_if_ne (tgt := 42) hA dX12_evening_32 rfl (fun hc => ?_) (fun hc => ?_)
    · have hf := k_iff hc hf
      obtain ⟨t_4, ht_4, hf⟩ := k_cv_e hf
      obtain ⟨r_6, t_5, ht_5, hf⟩ := k_cl_e hf
      obtain ⟨⟨rq_7, tq_7⟩, hq_7, hf⟩ := k_lt_e hf
      dsimp only at hf
      obtain ⟨rfl, rfl⟩ := k_r2 hf
      refine k_aload_n (i := 0) hA dX12_evening_42 rfl 1 rfl ?_
      refine k_callVv (As := []) (rest := []) hA (m_M_remembers l G a rv n t_2 ht_4) cd_X12_remembers wd_1939 (hc_MT_0 G.2.1 a rv t_2) rfl rfl (Nat.le_of_ble_eq_true rfl) rfl rfl (Nat.le_of_ble_eq_true rfl) dX12_evening_43 ?_
      refine k_aload_n (i := 0) hA dX12_evening_46 rfl 1 rfl ?_
      refine k_aload_n (i := 0) hA dX12_evening_47 rfl 1 rfl ?_
      refine k_aload_n (i := 0) hA dX12_evening_48 rfl 1 rfl ?_
      refine gt_MT_0_15 hA wd_1263 dX12_evening_49 ?_
      refine k_iload_n (i := 1) hA dX12_evening_52 rfl 2 rfl ?_
      refine k_iload_n (i := 2) hA dX12_evening_53 rfl 0 rfl ?_
      refine k_callVi (As := [.ref (a 2), .int x1, .int r_3]) (rest := [.ref (a 0)]) hA (m_M_anEveningV l G a rv n x1 r_3 t_4 ht_5) cd_X12_anEvening wd_1924 (hc_MT_0 G.2.1 a rv t_4) rfl rfl (Nat.le_of_ble_eq_true rfl) rfl rfl (Nat.le_of_ble_eq_true rfl) dX12_evening_54 ?_
      refine k_callVi (As := [.int r_6]) (rest := []) hA (m_M_good l G a rv r_6 t_5 hq_7.symm) cd_X12_good wd_1601 (hc_MT_0 G.2.1 a rv t_5) rfl rfl (Nat.le_of_ble_eq_true rfl) rfl rfl (Nat.le_of_ble_eq_true rfl) dX12_evening_57 ?_
      exact k_iret hA hr rfl dX12_evening_60
    have hf := k_ift hc hf
    obtain ⟨⟨rq_8, tq_8⟩, hq_8, hf⟩ := k_lt_e hf
    dsimp only at hf
    obtain ⟨rfl, rfl⟩ := k_r2 hf
    refine k_aload_n (i := 0) hA dX12_evening_35 rfl 1 rfl ?_
    refine k_bipush hA dX12_evening_36 kc_b_6 ?_
    refine k_callVi (As := [.int (6 : Int32)]) (rest := []) hA (m_M_refused l G a rv (6 : Int32) t_2 hq_8.symm) cd_X12_refused wd_1390 (hc_MT_0 G.2.1 a rv t_2) rfl rfl (Nat.le_of_ble_eq_true rfl) rfl rfl (Nat.le_of_ble_eq_true rfl) dX12_evening_38 ?_
    exact k_iret hA hr rfl dX12_evening_41
  have hf := k_ift hc hf
  obtain ⟨⟨rq_9, tq_9⟩, hq_9, hf⟩ := k_lt_e hf
  dsimp only at hf
  obtain ⟨rfl, rfl⟩ := k_r2 hf
  refine k_aload_n (i := 0) hA dX12_evening_13 rfl 0 rfl ?_
  refine k_iconst hA dX12_evening_14 kc_i_1 ?_
  refine k_callVi (As := [.int (1 : Int32)]) (rest := []) hA (m_M_refused l G a rv (1 : Int32) t_1 hq_9.symm) cd_X12_refused wd_1390 (hc_MT_0 G.2.1 a rv t_1) rfl rfl (Nat.le_of_ble_eq_true rfl) rfl rfl (Nat.le_of_ble_eq_true rfl) dX12_evening_15 ?_
  exact k_iret hA hr rfl dX12_evening_18

def f_M_seed (x1 : Int32) (t : k_St) : Option (Bool × k_St) := k_lt (k_sI t 0 0 (0 : Int32)) (fun t_1 => (if (k_b (f_M_in x1 (0 : Int32) (65536 : Int32))) = 0 then k_lt (f_M_denied (2 : Int32) t_1) (fun q_5 => some (q_5.1, q_5.2)) else k_gi (5 : Int32) 6 (k_lt (k_sI t_1 2 (5 : Int32).toNatClampNeg x1) (fun t_3 => k_lt (f_M_granted t_3) (fun q_4 => some (q_4.1, q_4.2))))))
theorem m_M_seed (l : Launch) (G : k_G) (a : Nat → Nat) (rv : Value) (x1 : Int32) (t : k_St) {r : Bool} {t' : k_St} (hf : f_M_seed x1 t = some (r, t')) : k_CI l G yX12_seed cX12_seed 2 (some .boolean) 3 (k_WT G.2.1 a rv t) [.ref (a 0), .int x1] (k_b r) (k_WT G.2.1 a rv t') := by
  refine k_startI (lv := [(0, .ref (a 0)), (1, .int x1)]) (by decide +kernel) (Nat.le_of_ble_eq_true rfl) rfl ?_
  intro p e s m args below meth c hA hr
  have hA : k_Amb p s m args meth c cX12_seed 2 "TaleSharesModel" G _ := hA
  unfold f_M_seed at hf
  obtain ⟨t_1, et_1, hf⟩ := k_lt_e hf
  refine k_aload_n (i := 0) hA dX12_seed_0 rfl 0 rfl ?_
  refine k_iconst hA dX12_seed_1 kc_i_0 ?_
  refine pt_MT_0_0 hA wd_1248 et_1 dX12_seed_2 ?_
  refine k_aload_n (i := 0) hA dX12_seed_5 rfl 0 rfl ?_
  refine gt_MT_0_3 hA wd_1251 dX12_seed_6 ?_
  refine k_ifnonnull (tgt := 18) hA dX12_seed_9 rfl ?_
  refine k_iload_n (i := 1) hA dX12_seed_18 rfl 1 rfl ?_
  refine k_iconst hA dX12_seed_19 kc_i_0 ?_
  refine k_ldcw hA wd_1919 dX12_seed_20 ?_
  refine k_callSi (As := [.int x1, .int (0 : Int32), .int (65536 : Int32)]) (rest := []) hA (m_M_in l G (k_WT G.2.1 a rv t_1) x1 (0 : Int32) (65536 : Int32) rfl) cd_X12_in wd_1525 (Nat.le_of_ble_eq_true rfl) rfl rfl (Nat.le_of_ble_eq_true rfl) dX12_seed_23 ?_
  refine k_if_ne (tgt := 35) hA dX12_seed_26 rfl (fun hc => ?_) (fun hc => ?_)
  · have hf := k_iff hc hf
    obtain ⟨hi_2, hf⟩ := k_gi_e hf
    obtain ⟨t_3, et_3, hf⟩ := k_lt_e hf
    obtain ⟨⟨rq_4, tq_4⟩, hq_4, hf⟩ := k_lt_e hf
    dsimp only at hf
    obtain ⟨rfl, rfl⟩ := k_r2 hf
    refine k_aload_n (i := 0) hA dX12_seed_35 rfl 0 rfl ?_
    refine gt_MT_0_15 hA wd_1263 dX12_seed_36 ?_
    refine k_iconst hA dX12_seed_39 kc_i_5 ?_
    refine k_iload_n (i := 1) hA dX12_seed_40 rfl 1 rfl ?_
    refine sr_MT_2 hA hi_2 et_3 dX12_seed_41 ?_
    refine k_aload_n (i := 0) hA dX12_seed_42 rfl 0 rfl ?_
    refine k_callVi (As := []) (rest := []) hA (m_M_granted l G a rv t_3 hq_4.symm) cd_X12_granted wd_1951 (hc_MT_0 G.2.1 a rv t_3) rfl rfl (Nat.le_of_ble_eq_true rfl) rfl rfl (Nat.le_of_ble_eq_true rfl) dX12_seed_43 ?_
    exact k_iret hA hr (k_narB (k_b01 _)) dX12_seed_46
  have hf := k_ift hc hf
  obtain ⟨⟨rq_5, tq_5⟩, hq_5, hf⟩ := k_lt_e hf
  dsimp only at hf
  obtain ⟨rfl, rfl⟩ := k_r2 hf
  refine k_aload_n (i := 0) hA dX12_seed_29 rfl 0 rfl ?_
  refine k_iconst hA dX12_seed_30 kc_i_2 ?_
  refine k_callVi (As := [.int (2 : Int32)]) (rest := []) hA (m_M_denied l G a rv (2 : Int32) t_1 hq_5.symm) cd_X12_denied wd_1947 (hc_MT_0 G.2.1 a rv t_1) rfl rfl (Nat.le_of_ble_eq_true rfl) rfl rfl (Nat.le_of_ble_eq_true rfl) dX12_seed_31 ?_
  exact k_iret hA hr (k_narB (k_b01 _)) dX12_seed_34

def f_M_undo_38 (n : Nat) : Nat → Int32 → k_St → Option (Bool × k_St)
  | 0, _, _ => none
  | k + 1, x1, t => (if (6 : Int32) ≤ x1 then k_lt (f_M_granted t) (fun q_1 => some (q_1.1, q_1.2)) else k_gi (((6 : Int32) * (t.1 0 19)) + x1) 96 (k_gi x1 6 (k_lt (k_sI t 2 x1.toNatClampNeg (t.1 4 (((6 : Int32) * (t.1 0 19)) + x1).toNatClampNeg)) (fun t_4 => k_lt (x1 + (1 : Int32)) (fun x1_5 => f_M_undo_38 n k x1_5 t_4)))))
def f_M_undo (n : Nat) (t : k_St) : Option (Bool × k_St) := k_lt (k_sI t 0 0 (0 : Int32)) (fun t_1 => (if (t_1.1 0 19) = 0 then k_lt (f_M_denied (6 : Int32) t_1) (fun q_3 => some (q_3.1, q_3.2)) else k_lt (k_sI t_1 0 19 ((t_1.1 0 19) - (1 : Int32))) (fun t_2 => f_M_undo_38 n n (0 : Int32) t_2)))
theorem m_M_undo_38 {p : Program} (l : Launch) {e : Env} {s : State} {m : MethodId} {args : Array Value} {below : List Frame} {meth : Method} {c : Code} (G : k_G) (a : Nat → Nat) (rv : Value) (n : Nat) {w0 : va_W} {r : Bool} {t' : k_St} (hA : k_Amb p s m args meth c cX12_undo 2 "TaleSharesModel" G (va_A w0 s.heap.size)) (hr : meth.sig.returnType = (some .boolean)) : ∀ (k : Nat) (x1 : Int32) (t : k_St), f_M_undo_38 n k x1 t = some (r, t') → k_Go p l e (k_rm 3) s m args below meth c (k_QI G w0 (k_b r) (k_WT G.2.1 a rv t') args s below) 2 G (va_A w0 s.heap.size) (k_WT G.2.1 a rv t) 38 [(0, .ref (a 0)), (1, .int x1)] [] := by
  intro k
  induction k with
  | zero => intro x1 t hf; cases hf
  | succ k ih =>
  intro x1 t hf
  rw [f_M_undo_38] at hf
  refine k_iload_n (i := 1) hA dX12_undo_38 rfl 1 rfl ?_
  refine k_bipush hA dX12_undo_39 kc_b_6 ?_
  refine k_icmp_ge (tgt := 70) hA dX12_undo_41 rfl (fun hc => ?_) (fun hc => ?_)
  · have hf := k_ift hc hf
    obtain ⟨⟨rq_1, tq_1⟩, hq_1, hf⟩ := k_lt_e hf
    dsimp only at hf
    obtain ⟨rfl, rfl⟩ := k_r2 hf
    refine k_aload_n (i := 0) hA dX12_undo_70 rfl 0 rfl ?_
    refine k_callVi (As := []) (rest := []) hA (m_M_granted l G a rv t hq_1.symm) cd_X12_granted wd_1951 (hc_MT_0 G.2.1 a rv t) rfl rfl (Nat.le_of_ble_eq_true rfl) rfl rfl (Nat.le_of_ble_eq_true rfl) dX12_undo_71 ?_
    exact k_iret hA hr (k_narB (k_b01 _)) dX12_undo_74
  have hf := k_iff hc hf
  obtain ⟨hi_2, hf⟩ := k_gi_e hf
  obtain ⟨hi_3, hf⟩ := k_gi_e hf
  obtain ⟨t_4, et_4, hf⟩ := k_lt_e hf
  obtain ⟨x1_5, ex1_5, hf⟩ := k_lt_e hf
  refine k_aload_n (i := 0) hA dX12_undo_44 rfl 0 rfl ?_
  refine gt_MT_0_15 hA wd_1263 dX12_undo_45 ?_
  refine k_iload_n (i := 1) hA dX12_undo_48 rfl 1 rfl ?_
  refine k_aload_n (i := 0) hA dX12_undo_49 rfl 0 rfl ?_
  refine gt_MT_0_17 hA wd_1265 dX12_undo_50 ?_
  refine k_bipush hA dX12_undo_53 kc_b_6 ?_
  refine k_aload_n (i := 0) hA dX12_undo_55 rfl 0 rfl ?_
  refine gt_MT_0_19 hA wd_1267 dX12_undo_56 ?_
  refine k_imul hA dX12_undo_59 ?_
  refine k_iload_n (i := 1) hA dX12_undo_60 rfl 1 rfl ?_
  refine k_iadd hA dX12_undo_61 ?_
  refine ld_MT_4 hA hi_2 dX12_undo_62 ?_
  refine sr_MT_2 hA hi_3 et_4 dX12_undo_63 ?_
  refine k_iinc (j := 1) (v := x1_5) (lv' := [(1, .int x1_5), (0, .ref (a 0))]) hA dX12_undo_64 rfl (k_inc ex1_5 kc_i_1) (Nat.le_of_ble_eq_true rfl) rfl ?_
  refine k_goto (tgt := 38) hA dX12_undo_67 rfl ?_
  refine k_pick (lv' := [(0, .ref (a 0)), (1, .int x1_5)]) [1, 0] rfl ?_
  exact ih x1_5 t_4 hf

theorem m_M_undo (l : Launch) (G : k_G) (a : Nat → Nat) (rv : Value) (n : Nat) (t : k_St) {r : Bool} {t' : k_St} (hf : f_M_undo n t = some (r, t')) : k_CI l G yX12_undo cX12_undo 2 (some .boolean) 3 (k_WT G.2.1 a rv t) [.ref (a 0)] (k_b r) (k_WT G.2.1 a rv t') := by
  refine k_startI (lv := [(0, .ref (a 0))]) (by decide +kernel) (Nat.le_of_ble_eq_true rfl) rfl ?_
  intro p e s m args below meth c hA hr
  have hA : k_Amb p s m args meth c cX12_undo 2 "TaleSharesModel" G _ := hA
  unfold f_M_undo at hf
  obtain ⟨t_1, et_1, hf⟩ := k_lt_e hf
  refine k_aload_n (i := 0) hA dX12_undo_0 rfl 0 rfl ?_
  refine k_iconst hA dX12_undo_1 kc_i_0 ?_
  refine pt_MT_0_0 hA wd_1248 et_1 dX12_undo_2 ?_
  refine k_aload_n (i := 0) hA dX12_undo_5 rfl 0 rfl ?_
  refine gt_MT_0_3 hA wd_1251 dX12_undo_6 ?_
  refine k_ifnull hA dX12_undo_9 ?_
  refine k_aload_n (i := 0) hA dX12_undo_12 rfl 0 rfl ?_
  refine gt_MT_0_19 hA wd_1267 dX12_undo_13 ?_
  refine k_if_ne (tgt := 26) hA dX12_undo_16 rfl (fun hc => ?_) (fun hc => ?_)
  · have hf := k_iff hc hf
    obtain ⟨t_2, et_2, hf⟩ := k_lt_e hf
    refine k_aload_n (i := 0) hA dX12_undo_26 rfl 0 rfl ?_
    refine k_dup hA dX12_undo_27 rfl ?_
    refine gt_MT_0_19 hA wd_1267 dX12_undo_28 ?_
    refine k_iconst hA dX12_undo_31 kc_i_1 ?_
    refine k_isub hA dX12_undo_32 ?_
    refine pt_MT_0_19 hA wd_1267 et_2 dX12_undo_33 ?_
    refine k_iconst hA dX12_undo_36 kc_i_0 ?_
    refine k_istore_n (i := 1) (lv' := [(1, .int (0 : Int32)), (0, .ref (a 0))]) hA dX12_undo_37 rfl rfl (Nat.le_of_ble_eq_true rfl) rfl ?_
    refine k_pick (lv' := [(0, .ref (a 0)), (1, .int (0 : Int32))]) [1, 0] rfl ?_
    exact m_M_undo_38 l G a rv n hA hr n (0 : Int32) t_2 hf
  have hf := k_ift hc hf
  obtain ⟨⟨rq_3, tq_3⟩, hq_3, hf⟩ := k_lt_e hf
  dsimp only at hf
  obtain ⟨rfl, rfl⟩ := k_r2 hf
  refine k_aload_n (i := 0) hA dX12_undo_19 rfl 0 rfl ?_
  refine k_bipush hA dX12_undo_20 kc_b_6 ?_
  refine k_callVi (As := [.int (6 : Int32)]) (rest := []) hA (m_M_denied l G a rv (6 : Int32) t_1 hq_3.symm) cd_X12_denied wd_1947 (hc_MT_0 G.2.1 a rv t_1) rfl rfl (Nat.le_of_ble_eq_true rfl) rfl rfl (Nat.le_of_ble_eq_true rfl) dX12_undo_22 ?_
  exact k_iret hA hr (k_narB (k_b01 _)) dX12_undo_25

def f_M_image_34 (n : Nat) : Nat → Int32 → k_St → Option (Int32 × k_St)
  | 0, _, _ => none
  | k + 1, x1, t => (if (6 : Int32) ≤ x1 then k_lt (k_sI t 0 20 ((t.1 0 20) + (1 : Int32))) (fun t_1 => k_lt (f_M_good ((t_1.1 0 20) - (1 : Int32)) t_1) (fun q_2 => some (q_2.1, q_2.2))) else k_gi x1 6 (k_gi (((6 : Int32) * (t.1 0 20)) + x1) 18 (k_lt (k_sI t 5 (((6 : Int32) * (t.1 0 20)) + x1).toNatClampNeg (t.1 2 x1.toNatClampNeg)) (fun t_5 => k_lt (x1 + (1 : Int32)) (fun x1_6 => f_M_image_34 n k x1_6 t_5)))))
def f_M_image (n : Nat) (t : k_St) : Option (Int32 × k_St) := k_lt (k_sI t 0 0 (0 : Int32)) (fun t_1 => (if (t_1.1 0 20) = (3 : Int32) then k_lt (f_M_refused (3 : Int32) t_1) (fun q_2 => some (q_2.1, q_2.2)) else f_M_image_34 n n (0 : Int32) t_1))
theorem m_M_image_34 {p : Program} (l : Launch) {e : Env} {s : State} {m : MethodId} {args : Array Value} {below : List Frame} {meth : Method} {c : Code} (G : k_G) (a : Nat → Nat) (rv : Value) (n : Nat) {w0 : va_W} {r : Int32} {t' : k_St} (hA : k_Amb p s m args meth c cX12_image 2 "TaleSharesModel" G (va_A w0 s.heap.size)) (hr : meth.sig.returnType = (some .int)) : ∀ (k : Nat) (x1 : Int32) (t : k_St), f_M_image_34 n k x1 t = some (r, t') → k_Go p l e (k_rm 2) s m args below meth c (k_QI G w0 r (k_WT G.2.1 a rv t') args s below) 2 G (va_A w0 s.heap.size) (k_WT G.2.1 a rv t) 34 [(0, .ref (a 0)), (1, .int x1)] [] := by
  intro k
  induction k with
  | zero => intro x1 t hf; cases hf
  | succ k ih =>
  intro x1 t hf
  rw [f_M_image_34] at hf
  refine k_iload_n (i := 1) hA dX12_image_34 rfl 1 rfl ?_
  refine k_bipush hA dX12_image_35 kc_b_6 ?_
  refine k_icmp_ge (tgt := 66) hA dX12_image_37 rfl (fun hc => ?_) (fun hc => ?_)
  · have hf := k_ift hc hf
    obtain ⟨t_1, et_1, hf⟩ := k_lt_e hf
    obtain ⟨⟨rq_2, tq_2⟩, hq_2, hf⟩ := k_lt_e hf
    dsimp only at hf
    obtain ⟨rfl, rfl⟩ := k_r2 hf
    refine k_aload_n (i := 0) hA dX12_image_66 rfl 0 rfl ?_
    refine k_dup hA dX12_image_67 rfl ?_
    refine gt_MT_0_20 hA wd_1268 dX12_image_68 ?_
    refine k_iconst hA dX12_image_71 kc_i_1 ?_
    refine k_iadd hA dX12_image_72 ?_
    refine pt_MT_0_20 hA wd_1268 et_1 dX12_image_73 ?_
    refine k_aload_n (i := 0) hA dX12_image_76 rfl 0 rfl ?_
    refine k_aload_n (i := 0) hA dX12_image_77 rfl 0 rfl ?_
    refine gt_MT_0_20 hA wd_1268 dX12_image_78 ?_
    refine k_iconst hA dX12_image_81 kc_i_1 ?_
    refine k_isub hA dX12_image_82 ?_
    refine k_callVi (As := [.int ((t_1.1 0 20) - (1 : Int32))]) (rest := []) hA (m_M_good l G a rv ((t_1.1 0 20) - (1 : Int32)) t_1 hq_2.symm) cd_X12_good wd_1601 (hc_MT_0 G.2.1 a rv t_1) rfl rfl (Nat.le_of_ble_eq_true rfl) rfl rfl (Nat.le_of_ble_eq_true rfl) dX12_image_83 ?_
    exact k_iret hA hr rfl dX12_image_86
  have hf := k_iff hc hf
  obtain ⟨hi_3, hf⟩ := k_gi_e hf
  obtain ⟨hi_4, hf⟩ := k_gi_e hf
  obtain ⟨t_5, et_5, hf⟩ := k_lt_e hf
  obtain ⟨x1_6, ex1_6, hf⟩ := k_lt_e hf
  refine k_aload_n (i := 0) hA dX12_image_40 rfl 0 rfl ?_
  refine gt_MT_0_18 hA wd_1266 dX12_image_41 ?_
  refine k_bipush hA dX12_image_44 kc_b_6 ?_
  refine k_aload_n (i := 0) hA dX12_image_46 rfl 0 rfl ?_
  refine gt_MT_0_20 hA wd_1268 dX12_image_47 ?_
  refine k_imul hA dX12_image_50 ?_
  refine k_iload_n (i := 1) hA dX12_image_51 rfl 1 rfl ?_
  refine k_iadd hA dX12_image_52 ?_
  refine k_aload_n (i := 0) hA dX12_image_53 rfl 0 rfl ?_
  refine gt_MT_0_15 hA wd_1263 dX12_image_54 ?_
  refine k_iload_n (i := 1) hA dX12_image_57 rfl 1 rfl ?_
  refine ld_MT_2 hA hi_3 dX12_image_58 ?_
  refine sr_MT_5 hA hi_4 et_5 dX12_image_59 ?_
  refine k_iinc (j := 1) (v := x1_6) (lv' := [(1, .int x1_6), (0, .ref (a 0))]) hA dX12_image_60 rfl (k_inc ex1_6 kc_i_1) (Nat.le_of_ble_eq_true rfl) rfl ?_
  refine k_goto (tgt := 34) hA dX12_image_63 rfl ?_
  refine k_pick (lv' := [(0, .ref (a 0)), (1, .int x1_6)]) [1, 0] rfl ?_
  exact ih x1_6 t_5 hf

theorem m_M_image (l : Launch) (G : k_G) (a : Nat → Nat) (rv : Value) (n : Nat) (t : k_St) {r : Int32} {t' : k_St} (hf : f_M_image n t = some (r, t')) : k_CI l G yX12_image cX12_image 2 (some .int) 2 (k_WT G.2.1 a rv t) [.ref (a 0)] r (k_WT G.2.1 a rv t') := by
  refine k_startI (lv := [(0, .ref (a 0))]) (by decide +kernel) (Nat.le_of_ble_eq_true rfl) rfl ?_
  intro p e s m args below meth c hA hr
  have hA : k_Amb p s m args meth c cX12_image 2 "TaleSharesModel" G _ := hA
  unfold f_M_image at hf
  obtain ⟨t_1, et_1, hf⟩ := k_lt_e hf
  refine k_aload_n (i := 0) hA dX12_image_0 rfl 0 rfl ?_
  refine k_iconst hA dX12_image_1 kc_i_0 ?_
  refine pt_MT_0_0 hA wd_1248 et_1 dX12_image_2 ?_
  refine k_aload_n (i := 0) hA dX12_image_5 rfl 0 rfl ?_
  refine gt_MT_0_3 hA wd_1251 dX12_image_6 ?_
  refine k_ifnonnull (tgt := 18) hA dX12_image_9 rfl ?_
  refine k_aload_n (i := 0) hA dX12_image_18 rfl 0 rfl ?_
  refine gt_MT_0_20 hA wd_1268 dX12_image_19 ?_
  refine k_iconst hA dX12_image_22 kc_i_3 ?_
  refine k_icmp_ne (tgt := 32) hA dX12_image_23 rfl (fun hc => ?_) (fun hc => ?_)
  · have hf := k_iff hc hf
    refine k_iconst hA dX12_image_32 kc_i_0 ?_
    refine k_istore_n (i := 1) (lv' := [(1, .int (0 : Int32)), (0, .ref (a 0))]) hA dX12_image_33 rfl rfl (Nat.le_of_ble_eq_true rfl) rfl ?_
    refine k_pick (lv' := [(0, .ref (a 0)), (1, .int (0 : Int32))]) [1, 0] rfl ?_
    exact m_M_image_34 l G a rv n hA hr n (0 : Int32) t_1 hf
  have hf := k_ift hc hf
  obtain ⟨⟨rq_2, tq_2⟩, hq_2, hf⟩ := k_lt_e hf
  dsimp only at hf
  obtain ⟨rfl, rfl⟩ := k_r2 hf
  refine k_aload_n (i := 0) hA dX12_image_26 rfl 0 rfl ?_
  refine k_iconst hA dX12_image_27 kc_i_3 ?_
  refine k_callVi (As := [.int (3 : Int32)]) (rest := []) hA (m_M_refused l G a rv (3 : Int32) t_1 hq_2.symm) cd_X12_refused wd_1390 (hc_MT_0 G.2.1 a rv t_1) rfl rfl (Nat.le_of_ble_eq_true rfl) rfl rfl (Nat.le_of_ble_eq_true rfl) dX12_image_28 ?_
  exact k_iret hA hr rfl dX12_image_31

def f_M_back_32 (n : Nat) : Nat → Int32 → Int32 → k_St → Option (Bool × k_St)
  | 0, _, _, _ => none
  | k + 1, x1, x2, t => (if (6 : Int32) ≤ x2 then k_lt (k_sI t 0 19 (0 : Int32)) (fun t_1 => k_lt (f_M_granted t_1) (fun q_2 => some (q_2.1, q_2.2))) else k_gi (((6 : Int32) * x1) + x2) 18 (k_gi x2 6 (k_lt (k_sI t 2 x2.toNatClampNeg (t.1 5 (((6 : Int32) * x1) + x2).toNatClampNeg)) (fun t_5 => k_lt (x2 + (1 : Int32)) (fun x2_6 => f_M_back_32 n k x1 x2_6 t_5)))))
def f_M_back (n : Nat) (x1 : Int32) (t : k_St) : Option (Bool × k_St) := k_lt (k_sI t 0 0 (0 : Int32)) (fun t_1 => (if x1 < 0 then k_lt (f_M_denied (1 : Int32) t_1) (fun q_2 => some (q_2.1, q_2.2)) else (if x1 < (t_1.1 0 20) then f_M_back_32 n n x1 (0 : Int32) t_1 else k_lt (f_M_denied (1 : Int32) t_1) (fun q_3 => some (q_3.1, q_3.2)))))
theorem m_M_back_32 {p : Program} (l : Launch) {e : Env} {s : State} {m : MethodId} {args : Array Value} {below : List Frame} {meth : Method} {c : Code} (G : k_G) (a : Nat → Nat) (rv : Value) (n : Nat) {w0 : va_W} {r : Bool} {t' : k_St} (hA : k_Amb p s m args meth c cX12_back 3 "TaleSharesModel" G (va_A w0 s.heap.size)) (hr : meth.sig.returnType = (some .boolean)) : ∀ (k : Nat) (x1 : Int32) (x2 : Int32) (t : k_St), f_M_back_32 n k x1 x2 t = some (r, t') → k_Go p l e (k_rm 3) s m args below meth c (k_QI G w0 (k_b r) (k_WT G.2.1 a rv t') args s below) 3 G (va_A w0 s.heap.size) (k_WT G.2.1 a rv t) 32 [(0, .ref (a 0)), (1, .int x1), (2, .int x2)] [] := by
  intro k
  induction k with
  | zero => intro x1 x2 t hf; cases hf
  | succ k ih =>
  intro x1 x2 t hf
  rw [f_M_back_32] at hf
  refine k_iload_n (i := 2) hA dX12_back_32 rfl 2 rfl ?_
  refine k_bipush hA dX12_back_33 kc_b_6 ?_
  refine k_icmp_ge (tgt := 61) hA dX12_back_35 rfl (fun hc => ?_) (fun hc => ?_)
  · have hf := k_ift hc hf
    obtain ⟨t_1, et_1, hf⟩ := k_lt_e hf
    obtain ⟨⟨rq_2, tq_2⟩, hq_2, hf⟩ := k_lt_e hf
    dsimp only at hf
    obtain ⟨rfl, rfl⟩ := k_r2 hf
    refine k_aload_n (i := 0) hA dX12_back_61 rfl 0 rfl ?_
    refine k_iconst hA dX12_back_62 kc_i_0 ?_
    refine pt_MT_0_19 hA wd_1267 et_1 dX12_back_63 ?_
    refine k_aload_n (i := 0) hA dX12_back_66 rfl 0 rfl ?_
    refine k_callVi (As := []) (rest := []) hA (m_M_granted l G a rv t_1 hq_2.symm) cd_X12_granted wd_1951 (hc_MT_0 G.2.1 a rv t_1) rfl rfl (Nat.le_of_ble_eq_true rfl) rfl rfl (Nat.le_of_ble_eq_true rfl) dX12_back_67 ?_
    exact k_iret hA hr (k_narB (k_b01 _)) dX12_back_70
  have hf := k_iff hc hf
  obtain ⟨hi_3, hf⟩ := k_gi_e hf
  obtain ⟨hi_4, hf⟩ := k_gi_e hf
  obtain ⟨t_5, et_5, hf⟩ := k_lt_e hf
  obtain ⟨x2_6, ex2_6, hf⟩ := k_lt_e hf
  refine k_aload_n (i := 0) hA dX12_back_38 rfl 0 rfl ?_
  refine gt_MT_0_15 hA wd_1263 dX12_back_39 ?_
  refine k_iload_n (i := 2) hA dX12_back_42 rfl 2 rfl ?_
  refine k_aload_n (i := 0) hA dX12_back_43 rfl 0 rfl ?_
  refine gt_MT_0_18 hA wd_1266 dX12_back_44 ?_
  refine k_bipush hA dX12_back_47 kc_b_6 ?_
  refine k_iload_n (i := 1) hA dX12_back_49 rfl 1 rfl ?_
  refine k_imul hA dX12_back_50 ?_
  refine k_iload_n (i := 2) hA dX12_back_51 rfl 2 rfl ?_
  refine k_iadd hA dX12_back_52 ?_
  refine ld_MT_5 hA hi_3 dX12_back_53 ?_
  refine sr_MT_2 hA hi_4 et_5 dX12_back_54 ?_
  refine k_iinc (j := 2) (v := x2_6) (lv' := [(2, .int x2_6), (0, .ref (a 0)), (1, .int x1)]) hA dX12_back_55 rfl (k_inc ex2_6 kc_i_1) (Nat.le_of_ble_eq_true rfl) rfl ?_
  refine k_goto (tgt := 32) hA dX12_back_58 rfl ?_
  refine k_pick (lv' := [(0, .ref (a 0)), (1, .int x1), (2, .int x2_6)]) [1, 2, 0] rfl ?_
  exact ih x1 x2_6 t_5 hf

theorem m_M_back (l : Launch) (G : k_G) (a : Nat → Nat) (rv : Value) (n : Nat) (x1 : Int32) (t : k_St) {r : Bool} {t' : k_St} (hf : f_M_back n x1 t = some (r, t')) : k_CI l G yX12_back cX12_back 3 (some .boolean) 3 (k_WT G.2.1 a rv t) [.ref (a 0), .int x1] (k_b r) (k_WT G.2.1 a rv t') := by
  refine k_startI (lv := [(0, .ref (a 0)), (1, .int x1)]) (by decide +kernel) (Nat.le_of_ble_eq_true rfl) rfl ?_
  intro p e s m args below meth c hA hr
  have hA : k_Amb p s m args meth c cX12_back 3 "TaleSharesModel" G _ := hA
  unfold f_M_back at hf
  obtain ⟨t_1, et_1, hf⟩ := k_lt_e hf
  refine k_aload_n (i := 0) hA dX12_back_0 rfl 0 rfl ?_
  refine k_iconst hA dX12_back_1 kc_i_0 ?_
  refine pt_MT_0_0 hA wd_1248 et_1 dX12_back_2 ?_
  refine k_aload_n (i := 0) hA dX12_back_5 rfl 0 rfl ?_
  refine gt_MT_0_3 hA wd_1251 dX12_back_6 ?_
  refine k_ifnull hA dX12_back_9 ?_
  refine k_iload_n (i := 1) hA dX12_back_12 rfl 1 rfl ?_
  refine k_if_lt (tgt := 24) hA dX12_back_13 rfl (fun hc => ?_) (fun hc => ?_)
  · have hf := k_ift hc hf
    obtain ⟨⟨rq_2, tq_2⟩, hq_2, hf⟩ := k_lt_e hf
    dsimp only at hf
    obtain ⟨rfl, rfl⟩ := k_r2 hf
    refine k_aload_n (i := 0) hA dX12_back_24 rfl 0 rfl ?_
    refine k_iconst hA dX12_back_25 kc_i_1 ?_
    refine k_callVi (As := [.int (1 : Int32)]) (rest := []) hA (m_M_denied l G a rv (1 : Int32) t_1 hq_2.symm) cd_X12_denied wd_1947 (hc_MT_0 G.2.1 a rv t_1) rfl rfl (Nat.le_of_ble_eq_true rfl) rfl rfl (Nat.le_of_ble_eq_true rfl) dX12_back_26 ?_
    exact k_iret hA hr (k_narB (k_b01 _)) dX12_back_29
  have hf := k_iff hc hf
  refine k_iload_n (i := 1) hA dX12_back_16 rfl 1 rfl ?_
  refine k_aload_n (i := 0) hA dX12_back_17 rfl 0 rfl ?_
  refine gt_MT_0_20 hA wd_1268 dX12_back_18 ?_
  refine k_icmp_lt (tgt := 30) hA dX12_back_21 rfl (fun hc => ?_) (fun hc => ?_)
  · have hf := k_ift hc hf
    refine k_iconst hA dX12_back_30 kc_i_0 ?_
    refine k_istore_n (i := 2) (lv' := [(2, .int (0 : Int32)), (0, .ref (a 0)), (1, .int x1)]) hA dX12_back_31 rfl rfl (Nat.le_of_ble_eq_true rfl) rfl ?_
    refine k_pick (lv' := [(0, .ref (a 0)), (1, .int x1), (2, .int (0 : Int32))]) [1, 2, 0] rfl ?_
    exact m_M_back_32 l G a rv n hA hr n x1 (0 : Int32) t_1 hf
  have hf := k_iff hc hf
  obtain ⟨⟨rq_3, tq_3⟩, hq_3, hf⟩ := k_lt_e hf
  dsimp only at hf
  obtain ⟨rfl, rfl⟩ := k_r2 hf
  refine k_aload_n (i := 0) hA dX12_back_24 rfl 0 rfl ?_
  refine k_iconst hA dX12_back_25 kc_i_1 ?_
  refine k_callVi (As := [.int (1 : Int32)]) (rest := []) hA (m_M_denied l G a rv (1 : Int32) t_1 hq_3.symm) cd_X12_denied wd_1947 (hc_MT_0 G.2.1 a rv t_1) rfl rfl (Nat.le_of_ble_eq_true rfl) rfl rfl (Nat.le_of_ble_eq_true rfl) dX12_back_26 ?_
  exact k_iret hA hr (k_narB (k_b01 _)) dX12_back_29

def f_M_size (n : Nat) (x1 : Int32) (t : k_St) : Option (Int32 × k_St) := k_lt (k_sI t 0 0 (0 : Int32)) (fun t_1 => (if x1 = (11 : Int32) then some ((t_1.1 0 6), t_1) else (if (k_b (f_M_in x1 (0 : Int32) (10 : Int32))) = 0 then some ((-1 : Int32), t_1) else (if x1 = (0 : Int32) then some ((t_1.1 18 0), t_1) else if x1 = (1 : Int32) then some ((t_1.1 18 1), t_1) else if x1 = (2 : Int32) then some ((t_1.1 18 2), t_1) else if x1 = (3 : Int32) then some ((t_1.1 18 3), t_1) else if x1 = (4 : Int32) then some ((t_1.1 18 4), t_1) else if x1 = (5 : Int32) then some ((t_1.1 18 5), t_1) else if x1 = (6 : Int32) then k_cp (f_M_bits n (t_1.1 18 6)) (fun r_2 => some (r_2, t_1)) else if x1 = (7 : Int32) then some ((t_1.1 18 7), t_1) else if x1 = (8 : Int32) then k_gi (5 : Int32) 6 (some ((t_1.1 2 (5 : Int32).toNatClampNeg), t_1)) else if x1 = (9 : Int32) then some ((t_1.1 0 19), t_1) else some ((t_1.1 0 20), t_1)))))
theorem m_M_size (l : Launch) (G : k_G) (a : Nat → Nat) (rv : Value) (n : Nat) (x1 : Int32) (t : k_St) {r : Int32} {t' : k_St} (hf : f_M_size n x1 t = some (r, t')) : k_CI l G yX12_size cX12_size 2 (some .int) 2 (k_WT G.2.1 a rv t) [.ref (a 0), .int x1] r (k_WT G.2.1 a rv t') := by
  refine k_startI (lv := [(0, .ref (a 0)), (1, .int x1)]) (by decide +kernel) (Nat.le_of_ble_eq_true rfl) rfl ?_
  intro p e s m args below meth c hA hr
  have hA : k_Amb p s m args meth c cX12_size 2 "TaleSharesModel" G _ := hA
  unfold f_M_size at hf
  obtain ⟨t_1, et_1, hf⟩ := k_lt_e hf
  refine k_aload_n (i := 0) hA dX12_size_0 rfl 0 rfl ?_
  refine k_iconst hA dX12_size_1 kc_i_0 ?_
  refine pt_MT_0_0 hA wd_1248 et_1 dX12_size_2 ?_
  refine k_iload_n (i := 1) hA dX12_size_5 rfl 1 rfl ?_
  refine k_bipush hA dX12_size_6 kc_b_11 ?_
  refine k_icmp_ne (tgt := 16) hA dX12_size_8 rfl (fun hc => ?_) (fun hc => ?_)
  · have hf := k_iff hc hf
    refine k_iload_n (i := 1) hA dX12_size_16 rfl 1 rfl ?_
    refine k_iconst hA dX12_size_17 kc_i_0 ?_
    refine k_bipush hA dX12_size_18 kc_b_10 ?_
    refine k_callSi (As := [.int x1, .int (0 : Int32), .int (10 : Int32)]) (rest := []) hA (m_M_in l G (k_WT G.2.1 a rv t_1) x1 (0 : Int32) (10 : Int32) rfl) cd_X12_in wd_1525 (Nat.le_of_ble_eq_true rfl) rfl rfl (Nat.le_of_ble_eq_true rfl) dX12_size_20 ?_
    refine k_if_ne (tgt := 28) hA dX12_size_23 rfl (fun hc => ?_) (fun hc => ?_)
    · have hf := k_iff hc hf
      refine k_aload_n (i := 0) hA dX12_size_28 rfl 0 rfl ?_
      refine gt_MT_0_3 hA wd_1251 dX12_size_29 ?_
      refine k_ifnonnull (tgt := 37) hA dX12_size_32 rfl ?_
      refine k_iload_n (i := 1) hA dX12_size_37 rfl 1 rfl ?_
      by_cases hs_0 : x1 = (0 : Int32)
      · have hf := k_ift hs_0 hf
        refine k_tin (tgt := 92) hA dX12_size_38 (by rw [hs_0]; decide) (by rw [hs_0]; decide) (by rw [hs_0]; rfl) rfl ?_
        obtain ⟨rfl, rfl⟩ := k_r2 hf
        refine k_aload_n (i := 0) hA dX12_size_92 rfl 0 rfl ?_
        refine gt_MT_0_3 hA wd_1251 dX12_size_93 ?_
        refine gt_MT_18_0N hA rfl nf_175 dX12_size_96 ?_
        exact k_iret hA hr rfl dX12_size_99
      have hf := k_iff hs_0 hf
      by_cases hs_1 : x1 = (1 : Int32)
      · have hf := k_ift hs_1 hf
        refine k_tin (tgt := 100) hA dX12_size_38 (by rw [hs_1]; decide) (by rw [hs_1]; decide) (by rw [hs_1]; rfl) rfl ?_
        obtain ⟨rfl, rfl⟩ := k_r2 hf
        refine k_aload_n (i := 0) hA dX12_size_100 rfl 0 rfl ?_
        refine gt_MT_0_3 hA wd_1251 dX12_size_101 ?_
        refine gt_MT_18_1N hA rfl nf_241 dX12_size_104 ?_
        exact k_iret hA hr rfl dX12_size_107
      have hf := k_iff hs_1 hf
      by_cases hs_2 : x1 = (2 : Int32)
      · have hf := k_ift hs_2 hf
        refine k_tin (tgt := 108) hA dX12_size_38 (by rw [hs_2]; decide) (by rw [hs_2]; decide) (by rw [hs_2]; rfl) rfl ?_
        obtain ⟨rfl, rfl⟩ := k_r2 hf
        refine k_aload_n (i := 0) hA dX12_size_108 rfl 0 rfl ?_
        refine gt_MT_0_3 hA wd_1251 dX12_size_109 ?_
        refine gt_MT_18_2N hA rfl nf_210 dX12_size_112 ?_
        exact k_iret hA hr rfl dX12_size_115
      have hf := k_iff hs_2 hf
      by_cases hs_3 : x1 = (3 : Int32)
      · have hf := k_ift hs_3 hf
        refine k_tin (tgt := 116) hA dX12_size_38 (by rw [hs_3]; decide) (by rw [hs_3]; decide) (by rw [hs_3]; rfl) rfl ?_
        obtain ⟨rfl, rfl⟩ := k_r2 hf
        refine k_aload_n (i := 0) hA dX12_size_116 rfl 0 rfl ?_
        refine gt_MT_0_3 hA wd_1251 dX12_size_117 ?_
        refine gt_MT_18_3N hA rfl nf_265 dX12_size_120 ?_
        exact k_iret hA hr rfl dX12_size_123
      have hf := k_iff hs_3 hf
      by_cases hs_4 : x1 = (4 : Int32)
      · have hf := k_ift hs_4 hf
        refine k_tin (tgt := 124) hA dX12_size_38 (by rw [hs_4]; decide) (by rw [hs_4]; decide) (by rw [hs_4]; rfl) rfl ?_
        obtain ⟨rfl, rfl⟩ := k_r2 hf
        refine k_aload_n (i := 0) hA dX12_size_124 rfl 0 rfl ?_
        refine gt_MT_0_3 hA wd_1251 dX12_size_125 ?_
        refine gt_MT_18_4N hA rfl nf_277 dX12_size_128 ?_
        exact k_iret hA hr rfl dX12_size_131
      have hf := k_iff hs_4 hf
      by_cases hs_5 : x1 = (5 : Int32)
      · have hf := k_ift hs_5 hf
        refine k_tin (tgt := 132) hA dX12_size_38 (by rw [hs_5]; decide) (by rw [hs_5]; decide) (by rw [hs_5]; rfl) rfl ?_
        obtain ⟨rfl, rfl⟩ := k_r2 hf
        refine k_aload_n (i := 0) hA dX12_size_132 rfl 0 rfl ?_
        refine gt_MT_0_3 hA wd_1251 dX12_size_133 ?_
        refine gt_MT_18_5N hA rfl nf_292 dX12_size_136 ?_
        exact k_iret hA hr rfl dX12_size_139
      have hf := k_iff hs_5 hf
      by_cases hs_6 : x1 = (6 : Int32)
      · have hf := k_ift hs_6 hf
        refine k_tin (tgt := 140) hA dX12_size_38 (by rw [hs_6]; decide) (by rw [hs_6]; decide) (by rw [hs_6]; rfl) rfl ?_
        obtain ⟨r_2, hr_2, hf⟩ := k_cp_e hf
        obtain ⟨rfl, rfl⟩ := k_r2 hf
        refine k_aload_n (i := 0) hA dX12_size_140 rfl 0 rfl ?_
        refine gt_MT_0_3 hA wd_1251 dX12_size_141 ?_
        refine gt_MT_18_6N hA rfl nf_297 dX12_size_144 ?_
        refine k_callSi (As := [.int (t_1.1 18 6)]) (rest := []) hA (m_M_bits l G (k_WT G.2.1 a rv t_1) n (t_1.1 18 6) hr_2) cd_X12_bits wd_1709 (Nat.le_of_ble_eq_true rfl) rfl rfl (Nat.le_of_ble_eq_true rfl) dX12_size_147 ?_
        exact k_iret hA hr rfl dX12_size_150
      have hf := k_iff hs_6 hf
      by_cases hs_7 : x1 = (7 : Int32)
      · have hf := k_ift hs_7 hf
        refine k_tin (tgt := 151) hA dX12_size_38 (by rw [hs_7]; decide) (by rw [hs_7]; decide) (by rw [hs_7]; rfl) rfl ?_
        obtain ⟨rfl, rfl⟩ := k_r2 hf
        refine k_aload_n (i := 0) hA dX12_size_151 rfl 0 rfl ?_
        refine gt_MT_0_3 hA wd_1251 dX12_size_152 ?_
        refine gt_MT_18_7N hA rfl nf_299 dX12_size_155 ?_
        exact k_iret hA hr rfl dX12_size_158
      have hf := k_iff hs_7 hf
      by_cases hs_8 : x1 = (8 : Int32)
      · have hf := k_ift hs_8 hf
        refine k_tin (tgt := 159) hA dX12_size_38 (by rw [hs_8]; decide) (by rw [hs_8]; decide) (by rw [hs_8]; rfl) rfl ?_
        obtain ⟨hi_3, hf⟩ := k_gi_e hf
        obtain ⟨rfl, rfl⟩ := k_r2 hf
        refine k_aload_n (i := 0) hA dX12_size_159 rfl 0 rfl ?_
        refine gt_MT_0_15 hA wd_1263 dX12_size_160 ?_
        refine k_iconst hA dX12_size_163 kc_i_5 ?_
        refine ld_MT_2 hA hi_3 dX12_size_164 ?_
        exact k_iret hA hr rfl dX12_size_165
      have hf := k_iff hs_8 hf
      by_cases hs_9 : x1 = (9 : Int32)
      · have hf := k_ift hs_9 hf
        refine k_tin (tgt := 166) hA dX12_size_38 (by rw [hs_9]; decide) (by rw [hs_9]; decide) (by rw [hs_9]; rfl) rfl ?_
        obtain ⟨rfl, rfl⟩ := k_r2 hf
        refine k_aload_n (i := 0) hA dX12_size_166 rfl 0 rfl ?_
        refine gt_MT_0_19 hA wd_1267 dX12_size_167 ?_
        exact k_iret hA hr rfl dX12_size_170
      have hf := k_iff hs_9 hf
      refine k_tout (tgt := 171) hA dX12_size_38 (k_sw0_9 hs_0 hs_1 hs_2 hs_3 hs_4 hs_5 hs_6 hs_7 hs_8 hs_9) rfl ?_
      obtain ⟨rfl, rfl⟩ := k_r2 hf
      refine k_aload_n (i := 0) hA dX12_size_171 rfl 0 rfl ?_
      refine gt_MT_0_20 hA wd_1268 dX12_size_172 ?_
      exact k_iret hA hr rfl dX12_size_175
    have hf := k_ift hc hf
    obtain ⟨rfl, rfl⟩ := k_r2 hf
    refine k_iconst hA dX12_size_26 kc_i_m1 ?_
    exact k_iret hA hr rfl dX12_size_27
  have hf := k_ift hc hf
  obtain ⟨rfl, rfl⟩ := k_r2 hf
  refine k_aload_n (i := 0) hA dX12_size_11 rfl 0 rfl ?_
  refine gt_MT_0_6 hA wd_1254 dX12_size_12 ?_
  exact k_iret hA hr rfl dX12_size_15

def f_M_trouble (t : k_St) : Int32 × k_St := k_lt (k_sI t 0 0 (0 : Int32)) (fun t_1 => ((t_1.1 0 1), t_1))
theorem m_M_trouble (l : Launch) (G : k_G) (a : Nat → Nat) (rv : Value) (t : k_St) {r : Int32} {t' : k_St} (hf : f_M_trouble t = (r, t')) : k_CI l G yX12_trouble cX12_trouble 1 (some .int) 1 (k_WT G.2.1 a rv t) [.ref (a 0)] r (k_WT G.2.1 a rv t') := by
  refine k_startI (lv := [(0, .ref (a 0))]) (by decide +kernel) (Nat.le_of_ble_eq_true rfl) rfl ?_
  intro p e s m args below meth c hA hr
  have hA : k_Amb p s m args meth c cX12_trouble 1 "TaleSharesModel" G _ := hA
  unfold f_M_trouble at hf
  obtain ⟨t_1, et_1, hf⟩ := k_lt_e hf
  obtain ⟨rfl, rfl⟩ := k_p2 hf
  refine k_aload_n (i := 0) hA dX12_trouble_0 rfl 0 rfl ?_
  refine k_iconst hA dX12_trouble_1 kc_i_0 ?_
  refine pt_MT_0_0 hA wd_1248 et_1 dX12_trouble_2 ?_
  refine k_aload_n (i := 0) hA dX12_trouble_5 rfl 0 rfl ?_
  refine gt_MT_0_1 hA wd_1249 dX12_trouble_6 ?_
  exact k_iret hA hr rfl dX12_trouble_9

def f_M_led_9 (n : Nat) : Nat → Int32 → Int32 → Int32 → k_St → Option (Int32 × k_St)
  | 0, _, _, _, _ => none
  | k + 1, x1, x2, x3, t => (if (t.1 18 4) ≤ x3 then k_lt (k_sI t 0 0 (1 : Int32)) (fun t_1 => some ((0 : Int32), t_1)) else k_gi x3 6 (k_cl (f_M_hasTale n (t.1 2 x3.toNatClampNeg) t) (fun r_4 t_3 => (if (k_b r_4) = 0 then (if x2 = x1 then some (x3, t_3) else k_lt (x2 + (1 : Int32)) (fun x2_5 => k_lt (x3 + (1 : Int32)) (fun x3_6 => f_M_led_9 n k x1 x2_5 x3_6 t_3))) else k_lt (x3 + (1 : Int32)) (fun x3_7 => f_M_led_9 n k x1 x2 x3_7 t_3)))))
def f_M_led (n : Nat) (x1 : Int32) (t : k_St) : Option (Int32 × k_St) := k_lt (k_sI t 0 0 (0 : Int32)) (fun t_1 => f_M_led_9 n n x1 (0 : Int32) (0 : Int32) t_1)
theorem m_M_led_9 {p : Program} (l : Launch) {e : Env} {s : State} {m : MethodId} {args : Array Value} {below : List Frame} {meth : Method} {c : Code} (G : k_G) (a : Nat → Nat) (rv : Value) (n : Nat) {w0 : va_W} {r : Int32} {t' : k_St} (hA : k_Amb p s m args meth c cX12_led 4 "TaleSharesModel" G (va_A w0 s.heap.size)) (hr : meth.sig.returnType = (some .int)) : ∀ (k : Nat) (x1 : Int32) (x2 : Int32) (x3 : Int32) (t : k_St), f_M_led_9 n k x1 x2 x3 t = some (r, t') → k_Go p l e (k_rm 5) s m args below meth c (k_QI G w0 r (k_WT G.2.1 a rv t') args s below) 4 G (va_A w0 s.heap.size) (k_WT G.2.1 a rv t) 9 [(0, .ref (a 0)), (1, .int x1), (2, .int x2), (3, .int x3)] [] := by
  intro k
  induction k with
  | zero => intro x1 x2 x3 t hf; cases hf
  | succ k ih =>
  intro x1 x2 x3 t hf
  rw [f_M_led_9] at hf
  refine k_aload_n (i := 0) hA dX12_led_9 rfl 0 rfl ?_
  refine gt_MT_0_3 hA wd_1251 dX12_led_10 ?_
  refine k_ifnull hA dX12_led_13 ?_
  refine k_iload_n (i := 3) hA dX12_led_16 rfl 3 rfl ?_
  refine k_aload_n (i := 0) hA dX12_led_17 rfl 0 rfl ?_
  refine gt_MT_0_3 hA wd_1251 dX12_led_18 ?_
  refine gt_MT_18_4N hA rfl nf_277 dX12_led_21 ?_
  refine k_icmp_ge (tgt := 59) hA dX12_led_24 rfl (fun hc => ?_) (fun hc => ?_)
  · have hf := k_ift hc hf
    obtain ⟨t_1, et_1, hf⟩ := k_lt_e hf
    obtain ⟨rfl, rfl⟩ := k_r2 hf
    refine k_aload_n (i := 0) hA dX12_led_59 rfl 0 rfl ?_
    refine k_iconst hA dX12_led_60 kc_i_1 ?_
    refine pt_MT_0_0 hA wd_1248 et_1 dX12_led_61 ?_
    refine k_iconst hA dX12_led_64 kc_i_0 ?_
    exact k_iret hA hr rfl dX12_led_65
  have hf := k_iff hc hf
  obtain ⟨hi_2, hf⟩ := k_gi_e hf
  obtain ⟨r_4, t_3, ht_3, hf⟩ := k_cl_e hf
  refine k_aload_n (i := 0) hA dX12_led_27 rfl 0 rfl ?_
  refine k_aload_n (i := 0) hA dX12_led_28 rfl 0 rfl ?_
  refine gt_MT_0_15 hA wd_1263 dX12_led_29 ?_
  refine k_iload_n (i := 3) hA dX12_led_32 rfl 3 rfl ?_
  refine ld_MT_2 hA hi_2 dX12_led_33 ?_
  refine k_callVi (As := [.int (t.1 2 x3.toNatClampNeg)]) (rest := []) hA (m_M_hasTale l G a rv n (t.1 2 x3.toNatClampNeg) t ht_3) cd_X12_hasTale wd_1629 (hc_MT_0 G.2.1 a rv t) rfl rfl (Nat.le_of_ble_eq_true rfl) rfl rfl (Nat.le_of_ble_eq_true rfl) dX12_led_34 ?_
  refine k_if_eq (tgt := 43) hA dX12_led_37 rfl (fun hc => ?_) (fun hc => ?_)
  · have hf := k_ift hc hf
    refine k_iload_n (i := 2) hA dX12_led_43 rfl 2 rfl ?_
    refine k_iload_n (i := 1) hA dX12_led_44 rfl 1 rfl ?_
    refine k_icmp_ne (tgt := 50) hA dX12_led_45 rfl (fun hc => ?_) (fun hc => ?_)
    · have hf := k_iff hc hf
      obtain ⟨x2_5, ex2_5, hf⟩ := k_lt_e hf
      obtain ⟨x3_6, ex3_6, hf⟩ := k_lt_e hf
      refine k_iinc (j := 2) (v := x2_5) (lv' := [(2, .int x2_5), (0, .ref (a 0)), (1, .int x1), (3, .int x3)]) hA dX12_led_50 rfl (k_inc ex2_5 kc_i_1) (Nat.le_of_ble_eq_true rfl) rfl ?_
      refine k_iinc (j := 3) (v := x3_6) (lv' := [(3, .int x3_6), (2, .int x2_5), (0, .ref (a 0)), (1, .int x1)]) hA dX12_led_53 rfl (k_inc ex3_6 kc_i_1) (Nat.le_of_ble_eq_true rfl) rfl ?_
      refine k_goto (tgt := 9) hA dX12_led_56 rfl ?_
      refine k_pick (lv' := [(0, .ref (a 0)), (1, .int x1), (2, .int x2_5), (3, .int x3_6)]) [2, 3, 1, 0] rfl ?_
      exact ih x1 x2_5 x3_6 t_3 hf
    have hf := k_ift hc hf
    obtain ⟨rfl, rfl⟩ := k_r2 hf
    refine k_iload_n (i := 3) hA dX12_led_48 rfl 3 rfl ?_
    exact k_iret hA hr rfl dX12_led_49
  have hf := k_iff hc hf
  obtain ⟨x3_7, ex3_7, hf⟩ := k_lt_e hf
  refine k_goto (tgt := 53) hA dX12_led_40 rfl ?_
  refine k_iinc (j := 3) (v := x3_7) (lv' := [(3, .int x3_7), (0, .ref (a 0)), (1, .int x1), (2, .int x2)]) hA dX12_led_53 rfl (k_inc ex3_7 kc_i_1) (Nat.le_of_ble_eq_true rfl) rfl ?_
  refine k_goto (tgt := 9) hA dX12_led_56 rfl ?_
  refine k_pick (lv' := [(0, .ref (a 0)), (1, .int x1), (2, .int x2), (3, .int x3_7)]) [1, 2, 3, 0] rfl ?_
  exact ih x1 x2 x3_7 t_3 hf

theorem m_M_led (l : Launch) (G : k_G) (a : Nat → Nat) (rv : Value) (n : Nat) (x1 : Int32) (t : k_St) {r : Int32} {t' : k_St} (hf : f_M_led n x1 t = some (r, t')) : k_CI l G yX12_led cX12_led 4 (some .int) 5 (k_WT G.2.1 a rv t) [.ref (a 0), .int x1] r (k_WT G.2.1 a rv t') := by
  refine k_startI (lv := [(0, .ref (a 0)), (1, .int x1)]) (by decide +kernel) (Nat.le_of_ble_eq_true rfl) rfl ?_
  intro p e s m args below meth c hA hr
  have hA : k_Amb p s m args meth c cX12_led 4 "TaleSharesModel" G _ := hA
  unfold f_M_led at hf
  obtain ⟨t_1, et_1, hf⟩ := k_lt_e hf
  refine k_aload_n (i := 0) hA dX12_led_0 rfl 0 rfl ?_
  refine k_iconst hA dX12_led_1 kc_i_0 ?_
  refine pt_MT_0_0 hA wd_1248 et_1 dX12_led_2 ?_
  refine k_iconst hA dX12_led_5 kc_i_0 ?_
  refine k_istore_n (i := 2) (lv' := [(2, .int (0 : Int32)), (0, .ref (a 0)), (1, .int x1)]) hA dX12_led_6 rfl rfl (Nat.le_of_ble_eq_true rfl) rfl ?_
  refine k_iconst hA dX12_led_7 kc_i_0 ?_
  refine k_istore_n (i := 3) (lv' := [(3, .int (0 : Int32)), (2, .int (0 : Int32)), (0, .ref (a 0)), (1, .int x1)]) hA dX12_led_8 rfl rfl (Nat.le_of_ble_eq_true rfl) rfl ?_
  refine k_pick (lv' := [(0, .ref (a 0)), (1, .int x1), (2, .int (0 : Int32)), (3, .int (0 : Int32))]) [2, 3, 1, 0] rfl ?_
  exact m_M_led_9 l G a rv n hA hr n x1 (0 : Int32) (0 : Int32) t_1 hf

def f_M_thrown (t : k_St) : Int32 := (t.1 0 0)
theorem m_M_thrown (l : Launch) (G : k_G) (a : Nat → Nat) (rv : Value) (t : k_St) {r : Int32} (hf : f_M_thrown t = r) : k_CI l G yX12_thrown cX12_thrown 1 (some .int) 1 (k_WT G.2.1 a rv t) [.ref (a 0)] r (k_WT G.2.1 a rv t) := by
  refine k_startI (lv := [(0, .ref (a 0))]) (by decide +kernel) (Nat.le_of_ble_eq_true rfl) rfl ?_
  intro p e s m args below meth c hA hr
  have hA : k_Amb p s m args meth c cX12_thrown 1 "TaleSharesModel" G _ := hA
  unfold f_M_thrown at hf
  subst hf
  refine k_aload_n (i := 0) hA dX12_thrown_0 rfl 0 rfl ?_
  refine gt_MT_0_0 hA wd_1248 dX12_thrown_1 ?_
  exact k_iret hA hr rfl dX12_thrown_4

