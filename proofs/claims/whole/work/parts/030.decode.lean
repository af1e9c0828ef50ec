theorem dX0_init_0 : decode cX0_init 0 = .ok (.aload_n 0, 1) := by decide +kernel
theorem dX0_init_1 : decode cX0_init 1 = .ok (.invokespecial 3, 3) := by decide +kernel
theorem dX0_init_4 : decode cX0_init 4 = .ok (.aload_n 0, 1) := by decide +kernel
theorem dX0_init_5 : decode cX0_init 5 = .ok (.sipush 768, 3) := by decide +kernel
theorem dX0_init_8 : decode cX0_init 8 = .ok (.newarray .int, 2) := by decide +kernel
theorem dX0_init_10 : decode cX0_init 10 = .ok (.putfield 11, 3) := by decide +kernel
theorem dX0_init_13 : decode cX0_init 13 = .ok (.aload_n 0, 1) := by decide +kernel
theorem dX0_init_14 : decode cX0_init 14 = .ok (.bipush 16, 2) := by decide +kernel
theorem dX0_init_16 : decode cX0_init 16 = .ok (.newarray .int, 2) := by decide +kernel
theorem dX0_init_18 : decode cX0_init 18 = .ok (.putfield 15, 3) := by decide +kernel
theorem dX0_init_21 : decode cX0_init 21 = .ok (.aload_n 0, 1) := by decide +kernel
theorem dX0_init_22 : decode cX0_init 22 = .ok (.bipush 16, 2) := by decide +kernel
theorem dX0_init_24 : decode cX0_init 24 = .ok (.newarray .int, 2) := by decide +kernel
theorem dX0_init_26 : decode cX0_init 26 = .ok (.putfield 18, 3) := by decide +kernel
theorem dX0_init_29 : decode cX0_init 29 = .ok (.aload_n 0, 1) := by decide +kernel
theorem dX0_init_30 : decode cX0_init 30 = .ok (.aload_n 1, 1) := by decide +kernel
theorem dX0_init_31 : decode cX0_init 31 = .ok (.putfield 21, 3) := by decide +kernel
theorem dX0_init_34 : decode cX0_init 34 = .ok (.return_, 1) := by decide +kernel
theorem dX0_threesOf_0 : decode cX0_threesOf 0 = .ok (.aload_n 0, 1) := by decide +kernel
theorem dX0_threesOf_1 : decode cX0_threesOf 1 = .ok (.getfield 18, 3) := by decide +kernel
theorem dX0_threesOf_4 : decode cX0_threesOf 4 = .ok (.invokestatic 25, 3) := by decide +kernel
theorem dX0_threesOf_7 : decode cX0_threesOf 7 = .ok (.aload_n 0, 1) := by decide +kernel
theorem dX0_threesOf_8 : decode cX0_threesOf 8 = .ok (.aload_n 1, 1) := by decide +kernel
theorem dX0_threesOf_9 : decode cX0_threesOf 9 = .ok (.iload_n 3, 1) := by decide +kernel
theorem dX0_threesOf_10 : decode cX0_threesOf 10 = .ok (.iconst 1, 1) := by decide +kernel
theorem dX0_threesOf_11 : decode cX0_threesOf 11 = .ok (.invokevirtual 29, 3) := by decide +kernel
theorem dX0_threesOf_14 : decode cX0_threesOf 14 = .ok (.aload_n 0, 1) := by decide +kernel
theorem dX0_threesOf_15 : decode cX0_threesOf 15 = .ok (.getfield 18, 3) := by decide +kernel
theorem dX0_threesOf_18 : decode cX0_threesOf 18 = .ok (.iload_n 2, 1) := by decide +kernel
theorem dX0_threesOf_19 : decode cX0_threesOf 19 = .ok (.iaload, 1) := by decide +kernel
theorem dX0_threesOf_20 : decode cX0_threesOf 20 = .ok (.ireturn, 1) := by decide +kernel
theorem dX0_difference_0 : decode cX0_difference 0 = .ok (.aload_n 0, 1) := by decide +kernel
theorem dX0_difference_1 : decode cX0_difference 1 = .ok (.getfield 18, 3) := by decide +kernel
theorem dX0_difference_4 : decode cX0_difference 4 = .ok (.invokestatic 25, 3) := by decide +kernel
theorem dX0_difference_7 : decode cX0_difference 7 = .ok (.aload_n 0, 1) := by decide +kernel
theorem dX0_difference_8 : decode cX0_difference 8 = .ok (.aload_n 1, 1) := by decide +kernel
theorem dX0_difference_9 : decode cX0_difference 9 = .ok (.aload_n 1, 1) := by decide +kernel
theorem dX0_difference_10 : decode cX0_difference 10 = .ok (.invokevirtual 33, 3) := by decide +kernel
theorem dX0_difference_13 : decode cX0_difference 13 = .ok (.iconst 1, 1) := by decide +kernel
theorem dX0_difference_14 : decode cX0_difference 14 = .ok (.invokevirtual 29, 3) := by decide +kernel
theorem dX0_difference_17 : decode cX0_difference 17 = .ok (.aload_n 0, 1) := by decide +kernel
theorem dX0_difference_18 : decode cX0_difference 18 = .ok (.aload_n 2, 1) := by decide +kernel
theorem dX0_difference_19 : decode cX0_difference 19 = .ok (.aload_n 2, 1) := by decide +kernel
theorem dX0_difference_20 : decode cX0_difference 20 = .ok (.invokevirtual 33, 3) := by decide +kernel
theorem dX0_difference_23 : decode cX0_difference 23 = .ok (.iconst (-1), 1) := by decide +kernel
theorem dX0_difference_24 : decode cX0_difference 24 = .ok (.invokevirtual 29, 3) := by decide +kernel
theorem dX0_difference_27 : decode cX0_difference 27 = .ok (.iconst 0, 1) := by decide +kernel
theorem dX0_difference_28 : decode cX0_difference 28 = .ok (.istore_n 3, 1) := by decide +kernel
theorem dX0_difference_29 : decode cX0_difference 29 = .ok (.iconst 0, 1) := by decide +kernel
theorem dX0_difference_30 : decode cX0_difference 30 = .ok (.istore 4, 2) := by decide +kernel
theorem dX0_difference_32 : decode cX0_difference 32 = .ok (.iload 4, 2) := by decide +kernel
theorem dX0_difference_34 : decode cX0_difference 34 = .ok (.bipush 16, 2) := by decide +kernel
theorem dX0_difference_36 : decode cX0_difference 36 = .ok (.if_icmp .ge 22, 3) := by decide +kernel
theorem dX0_difference_39 : decode cX0_difference 39 = .ok (.iload_n 3, 1) := by decide +kernel
theorem dX0_difference_40 : decode cX0_difference 40 = .ok (.aload_n 0, 1) := by decide +kernel
theorem dX0_difference_41 : decode cX0_difference 41 = .ok (.getfield 18, 3) := by decide +kernel
theorem dX0_difference_44 : decode cX0_difference 44 = .ok (.iload 4, 2) := by decide +kernel
theorem dX0_difference_46 : decode cX0_difference 46 = .ok (.iaload, 1) := by decide +kernel
theorem dX0_difference_47 : decode cX0_difference 47 = .ok (.invokestatic 39, 3) := by decide +kernel
theorem dX0_difference_50 : decode cX0_difference 50 = .ok (.iadd, 1) := by decide +kernel
theorem dX0_difference_51 : decode cX0_difference 51 = .ok (.istore_n 3, 1) := by decide +kernel
theorem dX0_difference_52 : decode cX0_difference 52 = .ok (.iinc 4 1, 3) := by decide +kernel
theorem dX0_difference_55 : decode cX0_difference 55 = .ok (.goto (-23), 3) := by decide +kernel
theorem dX0_difference_58 : decode cX0_difference 58 = .ok (.iload_n 3, 1) := by decide +kernel
theorem dX0_difference_59 : decode cX0_difference 59 = .ok (.ireturn, 1) := by decide +kernel
theorem dX0_addThrees_0 : decode cX0_addThrees 0 = .ok (.iconst 0, 1) := by decide +kernel
theorem dX0_addThrees_1 : decode cX0_addThrees 1 = .ok (.istore 4, 2) := by decide +kernel
theorem dX0_addThrees_3 : decode cX0_addThrees 3 = .ok (.iload 4, 2) := by decide +kernel
theorem dX0_addThrees_5 : decode cX0_addThrees 5 = .ok (.aload_n 1, 1) := by decide +kernel
theorem dX0_addThrees_6 : decode cX0_addThrees 6 = .ok (.getfield 45, 3) := by decide +kernel
theorem dX0_addThrees_9 : decode cX0_addThrees 9 = .ok (.if_icmp .ge 103, 3) := by decide +kernel
theorem dX0_addThrees_12 : decode cX0_addThrees 12 = .ok (.iload 4, 2) := by decide +kernel
theorem dX0_addThrees_14 : decode cX0_addThrees 14 = .ok (.iconst 1, 1) := by decide +kernel
theorem dX0_addThrees_15 : decode cX0_addThrees 15 = .ok (.iadd, 1) := by decide +kernel
theorem dX0_addThrees_16 : decode cX0_addThrees 16 = .ok (.istore 5, 2) := by decide +kernel
theorem dX0_addThrees_18 : decode cX0_addThrees 18 = .ok (.iload 5, 2) := by decide +kernel
theorem dX0_addThrees_20 : decode cX0_addThrees 20 = .ok (.aload_n 1, 1) := by decide +kernel
theorem dX0_addThrees_21 : decode cX0_addThrees 21 = .ok (.getfield 45, 3) := by decide +kernel
theorem dX0_addThrees_24 : decode cX0_addThrees 24 = .ok (.if_icmp .ge 82, 3) := by decide +kernel
theorem dX0_addThrees_27 : decode cX0_addThrees 27 = .ok (.iload 5, 2) := by decide +kernel
theorem dX0_addThrees_29 : decode cX0_addThrees 29 = .ok (.iconst 1, 1) := by decide +kernel
theorem dX0_addThrees_30 : decode cX0_addThrees 30 = .ok (.iadd, 1) := by decide +kernel
theorem dX0_addThrees_31 : decode cX0_addThrees 31 = .ok (.istore 6, 2) := by decide +kernel
theorem dX0_addThrees_33 : decode cX0_addThrees 33 = .ok (.iload 6, 2) := by decide +kernel
theorem dX0_addThrees_35 : decode cX0_addThrees 35 = .ok (.aload_n 1, 1) := by decide +kernel
theorem dX0_addThrees_36 : decode cX0_addThrees 36 = .ok (.getfield 45, 3) := by decide +kernel
theorem dX0_addThrees_39 : decode cX0_addThrees 39 = .ok (.if_icmp .ge 61, 3) := by decide +kernel
theorem dX0_addThrees_42 : decode cX0_addThrees 42 = .ok (.iconst 1, 1) := by decide +kernel
theorem dX0_addThrees_43 : decode cX0_addThrees 43 = .ok (.iload 4, 2) := by decide +kernel
theorem dX0_addThrees_45 : decode cX0_addThrees 45 = .ok (.ishl, 1) := by decide +kernel
theorem dX0_addThrees_46 : decode cX0_addThrees 46 = .ok (.iconst 1, 1) := by decide +kernel
theorem dX0_addThrees_47 : decode cX0_addThrees 47 = .ok (.iload 5, 2) := by decide +kernel
theorem dX0_addThrees_49 : decode cX0_addThrees 49 = .ok (.ishl, 1) := by decide +kernel
theorem dX0_addThrees_50 : decode cX0_addThrees 50 = .ok (.ior, 1) := by decide +kernel
theorem dX0_addThrees_51 : decode cX0_addThrees 51 = .ok (.iconst 1, 1) := by decide +kernel
theorem dX0_addThrees_52 : decode cX0_addThrees 52 = .ok (.iload 6, 2) := by decide +kernel
theorem dX0_addThrees_54 : decode cX0_addThrees 54 = .ok (.ishl, 1) := by decide +kernel
theorem dX0_addThrees_55 : decode cX0_addThrees 55 = .ok (.ior, 1) := by decide +kernel
theorem dX0_addThrees_56 : decode cX0_addThrees 56 = .ok (.istore 7, 2) := by decide +kernel
theorem dX0_addThrees_58 : decode cX0_addThrees 58 = .ok (.iload_n 2, 1) := by decide +kernel
theorem dX0_addThrees_59 : decode cX0_addThrees 59 = .ok (.iload 7, 2) := by decide +kernel
theorem dX0_addThrees_61 : decode cX0_addThrees 61 = .ok (.iand, 1) := by decide +kernel
theorem dX0_addThrees_62 : decode cX0_addThrees 62 = .ok (.iload 7, 2) := by decide +kernel
theorem dX0_addThrees_64 : decode cX0_addThrees 64 = .ok (.if_icmp .ne 30, 3) := by decide +kernel
theorem dX0_addThrees_67 : decode cX0_addThrees 67 = .ok (.aload_n 0, 1) := by decide +kernel
theorem dX0_addThrees_68 : decode cX0_addThrees 68 = .ok (.getfield 18, 3) := by decide +kernel
theorem dX0_addThrees_71 : decode cX0_addThrees 71 = .ok (.aload_n 0, 1) := by decide +kernel
theorem dX0_addThrees_72 : decode cX0_addThrees 72 = .ok (.getfield 21, 3) := by decide +kernel
theorem dX0_addThrees_75 : decode cX0_addThrees 75 = .ok (.getfield 49, 3) := by decide +kernel
theorem dX0_addThrees_78 : decode cX0_addThrees 78 = .ok (.aload_n 1, 1) := by decide +kernel
theorem dX0_addThrees_79 : decode cX0_addThrees 79 = .ok (.iload 4, 2) := by decide +kernel
theorem dX0_addThrees_81 : decode cX0_addThrees 81 = .ok (.iload 5, 2) := by decide +kernel
theorem dX0_addThrees_83 : decode cX0_addThrees 83 = .ok (.iload 6, 2) := by decide +kernel
theorem dX0_addThrees_85 : decode cX0_addThrees 85 = .ok (.invokevirtual 54, 3) := by decide +kernel
theorem dX0_addThrees_88 : decode cX0_addThrees 88 = .ok (.iaload, 1) := by decide +kernel
theorem dX0_addThrees_89 : decode cX0_addThrees 89 = .ok (.dup2, 1) := by decide +kernel
theorem dX0_addThrees_90 : decode cX0_addThrees 90 = .ok (.iaload, 1) := by decide +kernel
theorem dX0_addThrees_91 : decode cX0_addThrees 91 = .ok (.iload_n 3, 1) := by decide +kernel
theorem dX0_addThrees_92 : decode cX0_addThrees 92 = .ok (.iadd, 1) := by decide +kernel
theorem dX0_addThrees_93 : decode cX0_addThrees 93 = .ok (.iastore, 1) := by decide +kernel
theorem dX0_addThrees_94 : decode cX0_addThrees 94 = .ok (.iinc 6 1, 3) := by decide +kernel
theorem dX0_addThrees_97 : decode cX0_addThrees 97 = .ok (.goto (-64), 3) := by decide +kernel
theorem dX0_addThrees_100 : decode cX0_addThrees 100 = .ok (.iinc 5 1, 3) := by decide +kernel
theorem dX0_addThrees_103 : decode cX0_addThrees 103 = .ok (.goto (-85), 3) := by decide +kernel
theorem dX0_addThrees_106 : decode cX0_addThrees 106 = .ok (.iinc 4 1, 3) := by decide +kernel
theorem dX0_addThrees_109 : decode cX0_addThrees 109 = .ok (.goto (-106), 3) := by decide +kernel
theorem dX0_addThrees_112 : decode cX0_addThrees 112 = .ok (.return_, 1) := by decide +kernel
theorem dX0_countByPosts_0 : decode cX0_countByPosts 0 = .ok (.aload_n 0, 1) := by decide +kernel
theorem dX0_countByPosts_1 : decode cX0_countByPosts 1 = .ok (.getfield 11, 3) := by decide +kernel
theorem dX0_countByPosts_4 : decode cX0_countByPosts 4 = .ok (.invokestatic 25, 3) := by decide +kernel
theorem dX0_countByPosts_7 : decode cX0_countByPosts 7 = .ok (.iconst 0, 1) := by decide +kernel
theorem dX0_countByPosts_8 : decode cX0_countByPosts 8 = .ok (.istore_n 2, 1) := by decide +kernel
theorem dX0_countByPosts_9 : decode cX0_countByPosts 9 = .ok (.iload_n 2, 1) := by decide +kernel
theorem dX0_countByPosts_10 : decode cX0_countByPosts 10 = .ok (.aload_n 1, 1) := by decide +kernel
theorem dX0_countByPosts_11 : decode cX0_countByPosts 11 = .ok (.getfield 45, 3) := by decide +kernel
theorem dX0_countByPosts_14 : decode cX0_countByPosts 14 = .ok (.if_icmp .ge 82, 3) := by decide +kernel
theorem dX0_countByPosts_17 : decode cX0_countByPosts 17 = .ok (.iload_n 2, 1) := by decide +kernel
theorem dX0_countByPosts_18 : decode cX0_countByPosts 18 = .ok (.iconst 1, 1) := by decide +kernel
theorem dX0_countByPosts_19 : decode cX0_countByPosts 19 = .ok (.iadd, 1) := by decide +kernel
theorem dX0_countByPosts_20 : decode cX0_countByPosts 20 = .ok (.istore_n 3, 1) := by decide +kernel
theorem dX0_countByPosts_21 : decode cX0_countByPosts 21 = .ok (.iload_n 3, 1) := by decide +kernel
theorem dX0_countByPosts_22 : decode cX0_countByPosts 22 = .ok (.aload_n 1, 1) := by decide +kernel
theorem dX0_countByPosts_23 : decode cX0_countByPosts 23 = .ok (.getfield 45, 3) := by decide +kernel
theorem dX0_countByPosts_26 : decode cX0_countByPosts 26 = .ok (.if_icmp .ge 64, 3) := by decide +kernel
theorem dX0_countByPosts_29 : decode cX0_countByPosts 29 = .ok (.iload_n 3, 1) := by decide +kernel
theorem dX0_countByPosts_30 : decode cX0_countByPosts 30 = .ok (.iconst 1, 1) := by decide +kernel
theorem dX0_countByPosts_31 : decode cX0_countByPosts 31 = .ok (.iadd, 1) := by decide +kernel
theorem dX0_countByPosts_32 : decode cX0_countByPosts 32 = .ok (.istore 4, 2) := by decide +kernel
theorem dX0_countByPosts_34 : decode cX0_countByPosts 34 = .ok (.iload 4, 2) := by decide +kernel
theorem dX0_countByPosts_36 : decode cX0_countByPosts 36 = .ok (.aload_n 1, 1) := by decide +kernel
theorem dX0_countByPosts_37 : decode cX0_countByPosts 37 = .ok (.getfield 45, 3) := by decide +kernel
theorem dX0_countByPosts_40 : decode cX0_countByPosts 40 = .ok (.if_icmp .ge 44, 3) := by decide +kernel
theorem dX0_countByPosts_43 : decode cX0_countByPosts 43 = .ok (.aload_n 1, 1) := by decide +kernel
theorem dX0_countByPosts_44 : decode cX0_countByPosts 44 = .ok (.iload_n 2, 1) := by decide +kernel
theorem dX0_countByPosts_45 : decode cX0_countByPosts 45 = .ok (.iload_n 3, 1) := by decide +kernel
theorem dX0_countByPosts_46 : decode cX0_countByPosts 46 = .ok (.iload 4, 2) := by decide +kernel
theorem dX0_countByPosts_48 : decode cX0_countByPosts 48 = .ok (.invokevirtual 54, 3) := by decide +kernel
theorem dX0_countByPosts_51 : decode cX0_countByPosts 51 = .ok (.istore 5, 2) := by decide +kernel
theorem dX0_countByPosts_53 : decode cX0_countByPosts 53 = .ok (.aload_n 0, 1) := by decide +kernel
theorem dX0_countByPosts_54 : decode cX0_countByPosts 54 = .ok (.iload_n 2, 1) := by decide +kernel
theorem dX0_countByPosts_55 : decode cX0_countByPosts 55 = .ok (.iload 5, 2) := by decide +kernel
theorem dX0_countByPosts_57 : decode cX0_countByPosts 57 = .ok (.iconst 0, 1) := by decide +kernel
theorem dX0_countByPosts_58 : decode cX0_countByPosts 58 = .ok (.invokevirtual 58, 3) := by decide +kernel
theorem dX0_countByPosts_61 : decode cX0_countByPosts 61 = .ok (.aload_n 0, 1) := by decide +kernel
theorem dX0_countByPosts_62 : decode cX0_countByPosts 62 = .ok (.iload_n 3, 1) := by decide +kernel
theorem dX0_countByPosts_63 : decode cX0_countByPosts 63 = .ok (.iload 5, 2) := by decide +kernel
theorem dX0_countByPosts_65 : decode cX0_countByPosts 65 = .ok (.iconst 1, 1) := by decide +kernel
theorem dX0_countByPosts_66 : decode cX0_countByPosts 66 = .ok (.invokevirtual 58, 3) := by decide +kernel
theorem dX0_countByPosts_69 : decode cX0_countByPosts 69 = .ok (.aload_n 0, 1) := by decide +kernel
theorem dX0_countByPosts_70 : decode cX0_countByPosts 70 = .ok (.iload 4, 2) := by decide +kernel
theorem dX0_countByPosts_72 : decode cX0_countByPosts 72 = .ok (.iload 5, 2) := by decide +kernel
theorem dX0_countByPosts_74 : decode cX0_countByPosts 74 = .ok (.iconst 2, 1) := by decide +kernel
theorem dX0_countByPosts_75 : decode cX0_countByPosts 75 = .ok (.invokevirtual 58, 3) := by decide +kernel
theorem dX0_countByPosts_78 : decode cX0_countByPosts 78 = .ok (.iinc 4 1, 3) := by decide +kernel
theorem dX0_countByPosts_81 : decode cX0_countByPosts 81 = .ok (.goto (-47), 3) := by decide +kernel
theorem dX0_countByPosts_84 : decode cX0_countByPosts 84 = .ok (.iinc 3 1, 3) := by decide +kernel
theorem dX0_countByPosts_87 : decode cX0_countByPosts 87 = .ok (.goto (-66), 3) := by decide +kernel
theorem dX0_countByPosts_90 : decode cX0_countByPosts 90 = .ok (.iinc 2 1, 3) := by decide +kernel
theorem dX0_countByPosts_93 : decode cX0_countByPosts 93 = .ok (.goto (-84), 3) := by decide +kernel
theorem dX0_countByPosts_96 : decode cX0_countByPosts 96 = .ok (.return_, 1) := by decide +kernel
theorem dX0_addToPost_0 : decode cX0_addToPost 0 = .ok (.aload_n 0, 1) := by decide +kernel
theorem dX0_addToPost_1 : decode cX0_addToPost 1 = .ok (.getfield 11, 3) := by decide +kernel
theorem dX0_addToPost_4 : decode cX0_addToPost 4 = .ok (.iload_n 1, 1) := by decide +kernel
theorem dX0_addToPost_5 : decode cX0_addToPost 5 = .ok (.aload_n 0, 1) := by decide +kernel
theorem dX0_addToPost_6 : decode cX0_addToPost 6 = .ok (.getfield 21, 3) := by decide +kernel
theorem dX0_addToPost_9 : decode cX0_addToPost 9 = .ok (.getfield 49, 3) := by decide +kernel
theorem dX0_addToPost_12 : decode cX0_addToPost 12 = .ok (.iload_n 2, 1) := by decide +kernel
theorem dX0_addToPost_13 : decode cX0_addToPost 13 = .ok (.iaload, 1) := by decide +kernel
theorem dX0_addToPost_14 : decode cX0_addToPost 14 = .ok (.aload_n 0, 1) := by decide +kernel
theorem dX0_addToPost_15 : decode cX0_addToPost 15 = .ok (.getfield 21, 3) := by decide +kernel
theorem dX0_addToPost_18 : decode cX0_addToPost 18 = .ok (.iload_n 2, 1) := by decide +kernel
theorem dX0_addToPost_19 : decode cX0_addToPost 19 = .ok (.iload_n 3, 1) := by decide +kernel
theorem dX0_addToPost_20 : decode cX0_addToPost 20 = .ok (.invokevirtual 62, 3) := by decide +kernel
theorem dX0_addToPost_23 : decode cX0_addToPost 23 = .ok (.invokestatic 66, 3) := by decide +kernel
theorem dX0_addToPost_26 : decode cX0_addToPost 26 = .ok (.dup2, 1) := by decide +kernel
theorem dX0_addToPost_27 : decode cX0_addToPost 27 = .ok (.iaload, 1) := by decide +kernel
theorem dX0_addToPost_28 : decode cX0_addToPost 28 = .ok (.iconst 1, 1) := by decide +kernel
theorem dX0_addToPost_29 : decode cX0_addToPost 29 = .ok (.iadd, 1) := by decide +kernel
theorem dX0_addToPost_30 : decode cX0_addToPost 30 = .ok (.iastore, 1) := by decide +kernel
theorem dX0_addToPost_31 : decode cX0_addToPost 31 = .ok (.return_, 1) := by decide +kernel
theorem dX0_postCount_0 : decode cX0_postCount 0 = .ok (.aload_n 0, 1) := by decide +kernel
theorem dX0_postCount_1 : decode cX0_postCount 1 = .ok (.getfield 11, 3) := by decide +kernel
theorem dX0_postCount_4 : decode cX0_postCount 4 = .ok (.iload_n 1, 1) := by decide +kernel
theorem dX0_postCount_5 : decode cX0_postCount 5 = .ok (.iload_n 2, 1) := by decide +kernel
theorem dX0_postCount_6 : decode cX0_postCount 6 = .ok (.iload_n 3, 1) := by decide +kernel
theorem dX0_postCount_7 : decode cX0_postCount 7 = .ok (.invokestatic 66, 3) := by decide +kernel
theorem dX0_postCount_10 : decode cX0_postCount 10 = .ok (.iaload, 1) := by decide +kernel
theorem dX0_postCount_11 : decode cX0_postCount 11 = .ok (.ireturn, 1) := by decide +kernel
theorem dX0_countIndex_0 : decode cX0_countIndex 0 = .ok (.iload_n 0, 1) := by decide +kernel
theorem dX0_countIndex_1 : decode cX0_countIndex 1 = .ok (.bipush 48, 2) := by decide +kernel
theorem dX0_countIndex_3 : decode cX0_countIndex 3 = .ok (.imul, 1) := by decide +kernel
theorem dX0_countIndex_4 : decode cX0_countIndex 4 = .ok (.iload_n 1, 1) := by decide +kernel
theorem dX0_countIndex_5 : decode cX0_countIndex 5 = .ok (.iconst 3, 1) := by decide +kernel
theorem dX0_countIndex_6 : decode cX0_countIndex 6 = .ok (.imul, 1) := by decide +kernel
theorem dX0_countIndex_7 : decode cX0_countIndex 7 = .ok (.iadd, 1) := by decide +kernel
theorem dX0_countIndex_8 : decode cX0_countIndex 8 = .ok (.iload_n 2, 1) := by decide +kernel
theorem dX0_countIndex_9 : decode cX0_countIndex 9 = .ok (.iadd, 1) := by decide +kernel
theorem dX0_countIndex_10 : decode cX0_countIndex 10 = .ok (.ireturn, 1) := by decide +kernel
theorem dX0_findRoles_0 : decode cX0_findRoles 0 = .ok (.aload_n 0, 1) := by decide +kernel
theorem dX0_findRoles_1 : decode cX0_findRoles 1 = .ok (.aload_n 1, 1) := by decide +kernel
theorem dX0_findRoles_2 : decode cX0_findRoles 2 = .ok (.invokevirtual 69, 3) := by decide +kernel
theorem dX0_findRoles_5 : decode cX0_findRoles 5 = .ok (.iconst 0, 1) := by decide +kernel
theorem dX0_findRoles_6 : decode cX0_findRoles 6 = .ok (.istore_n 2, 1) := by decide +kernel
theorem dX0_findRoles_7 : decode cX0_findRoles 7 = .ok (.iconst 0, 1) := by decide +kernel
theorem dX0_findRoles_8 : decode cX0_findRoles 8 = .ok (.istore_n 3, 1) := by decide +kernel
theorem dX0_findRoles_9 : decode cX0_findRoles 9 = .ok (.iload_n 3, 1) := by decide +kernel
theorem dX0_findRoles_10 : decode cX0_findRoles 10 = .ok (.aload_n 1, 1) := by decide +kernel
theorem dX0_findRoles_11 : decode cX0_findRoles 11 = .ok (.getfield 45, 3) := by decide +kernel
theorem dX0_findRoles_14 : decode cX0_findRoles 14 = .ok (.if_icmp .ge 48, 3) := by decide +kernel
theorem dX0_findRoles_17 : decode cX0_findRoles 17 = .ok (.aload_n 0, 1) := by decide +kernel
theorem dX0_findRoles_18 : decode cX0_findRoles 18 = .ok (.iload_n 3, 1) := by decide +kernel
theorem dX0_findRoles_19 : decode cX0_findRoles 19 = .ok (.invokevirtual 73, 3) := by decide +kernel
theorem dX0_findRoles_22 : decode cX0_findRoles 22 = .ok (.istore 4, 2) := by decide +kernel
theorem dX0_findRoles_24 : decode cX0_findRoles 24 = .ok (.iload 4, 2) := by decide +kernel
theorem dX0_findRoles_26 : decode cX0_findRoles 26 = .ok (.iload_n 3, 1) := by decide +kernel
theorem dX0_findRoles_27 : decode cX0_findRoles 27 = .ok (.if_icmp .ne 16, 3) := by decide +kernel
theorem dX0_findRoles_30 : decode cX0_findRoles 30 = .ok (.aload_n 0, 1) := by decide +kernel
theorem dX0_findRoles_31 : decode cX0_findRoles 31 = .ok (.getfield 15, 3) := by decide +kernel
theorem dX0_findRoles_34 : decode cX0_findRoles 34 = .ok (.iload_n 3, 1) := by decide +kernel
theorem dX0_findRoles_35 : decode cX0_findRoles 35 = .ok (.iload_n 2, 1) := by decide +kernel
theorem dX0_findRoles_36 : decode cX0_findRoles 36 = .ok (.iastore, 1) := by decide +kernel
theorem dX0_findRoles_37 : decode cX0_findRoles 37 = .ok (.iinc 2 1, 3) := by decide +kernel
theorem dX0_findRoles_40 : decode cX0_findRoles 40 = .ok (.goto 16, 3) := by decide +kernel
theorem dX0_findRoles_43 : decode cX0_findRoles 43 = .ok (.aload_n 0, 1) := by decide +kernel
theorem dX0_findRoles_44 : decode cX0_findRoles 44 = .ok (.getfield 15, 3) := by decide +kernel
theorem dX0_findRoles_47 : decode cX0_findRoles 47 = .ok (.iload_n 3, 1) := by decide +kernel
theorem dX0_findRoles_48 : decode cX0_findRoles 48 = .ok (.aload_n 0, 1) := by decide +kernel
theorem dX0_findRoles_49 : decode cX0_findRoles 49 = .ok (.getfield 15, 3) := by decide +kernel
theorem dX0_findRoles_52 : decode cX0_findRoles 52 = .ok (.iload 4, 2) := by decide +kernel
theorem dX0_findRoles_54 : decode cX0_findRoles 54 = .ok (.iaload, 1) := by decide +kernel
theorem dX0_findRoles_55 : decode cX0_findRoles 55 = .ok (.iastore, 1) := by decide +kernel
theorem dX0_findRoles_56 : decode cX0_findRoles 56 = .ok (.iinc 3 1, 3) := by decide +kernel
theorem dX0_findRoles_59 : decode cX0_findRoles 59 = .ok (.goto (-50), 3) := by decide +kernel
theorem dX0_findRoles_62 : decode cX0_findRoles 62 = .ok (.iload_n 2, 1) := by decide +kernel
theorem dX0_findRoles_63 : decode cX0_findRoles 63 = .ok (.ireturn, 1) := by decide +kernel
theorem dX0_firstAlike_0 : decode cX0_firstAlike 0 = .ok (.iconst 0, 1) := by decide +kernel
theorem dX0_firstAlike_1 : decode cX0_firstAlike 1 = .ok (.istore_n 2, 1) := by decide +kernel
theorem dX0_firstAlike_2 : decode cX0_firstAlike 2 = .ok (.iload_n 2, 1) := by decide +kernel
theorem dX0_firstAlike_3 : decode cX0_firstAlike 3 = .ok (.iload_n 1, 1) := by decide +kernel
theorem dX0_firstAlike_4 : decode cX0_firstAlike 4 = .ok (.if_icmp .ge 20, 3) := by decide +kernel
theorem dX0_firstAlike_7 : decode cX0_firstAlike 7 = .ok (.aload_n 0, 1) := by decide +kernel
theorem dX0_firstAlike_8 : decode cX0_firstAlike 8 = .ok (.iload_n 2, 1) := by decide +kernel
theorem dX0_firstAlike_9 : decode cX0_firstAlike 9 = .ok (.iload_n 1, 1) := by decide +kernel
theorem dX0_firstAlike_10 : decode cX0_firstAlike 10 = .ok (.invokevirtual 76, 3) := by decide +kernel
theorem dX0_firstAlike_13 : decode cX0_firstAlike 13 = .ok (.ifCond .eq 5, 3) := by decide +kernel
theorem dX0_firstAlike_16 : decode cX0_firstAlike 16 = .ok (.iload_n 2, 1) := by decide +kernel
theorem dX0_firstAlike_17 : decode cX0_firstAlike 17 = .ok (.ireturn, 1) := by decide +kernel
theorem dX0_firstAlike_18 : decode cX0_firstAlike 18 = .ok (.iinc 2 1, 3) := by decide +kernel
theorem dX0_firstAlike_21 : decode cX0_firstAlike 21 = .ok (.goto (-19), 3) := by decide +kernel
theorem dX0_firstAlike_24 : decode cX0_firstAlike 24 = .ok (.iload_n 1, 1) := by decide +kernel
theorem dX0_firstAlike_25 : decode cX0_firstAlike 25 = .ok (.ireturn, 1) := by decide +kernel
theorem dX0_alike_0 : decode cX0_alike 0 = .ok (.iconst 0, 1) := by decide +kernel
theorem dX0_alike_1 : decode cX0_alike 1 = .ok (.istore_n 3, 1) := by decide +kernel
theorem dX0_alike_2 : decode cX0_alike 2 = .ok (.iload_n 3, 1) := by decide +kernel
theorem dX0_alike_3 : decode cX0_alike 3 = .ok (.bipush 48, 2) := by decide +kernel
theorem dX0_alike_5 : decode cX0_alike 5 = .ok (.if_icmp .ge 36, 3) := by decide +kernel
theorem dX0_alike_8 : decode cX0_alike 8 = .ok (.aload_n 0, 1) := by decide +kernel
theorem dX0_alike_9 : decode cX0_alike 9 = .ok (.getfield 11, 3) := by decide +kernel
theorem dX0_alike_12 : decode cX0_alike 12 = .ok (.iload_n 1, 1) := by decide +kernel
theorem dX0_alike_13 : decode cX0_alike 13 = .ok (.bipush 48, 2) := by decide +kernel
theorem dX0_alike_15 : decode cX0_alike 15 = .ok (.imul, 1) := by decide +kernel
theorem dX0_alike_16 : decode cX0_alike 16 = .ok (.iload_n 3, 1) := by decide +kernel
theorem dX0_alike_17 : decode cX0_alike 17 = .ok (.iadd, 1) := by decide +kernel
theorem dX0_alike_18 : decode cX0_alike 18 = .ok (.iaload, 1) := by decide +kernel
theorem dX0_alike_19 : decode cX0_alike 19 = .ok (.aload_n 0, 1) := by decide +kernel
theorem dX0_alike_20 : decode cX0_alike 20 = .ok (.getfield 11, 3) := by decide +kernel
theorem dX0_alike_23 : decode cX0_alike 23 = .ok (.iload_n 2, 1) := by decide +kernel
theorem dX0_alike_24 : decode cX0_alike 24 = .ok (.bipush 48, 2) := by decide +kernel
theorem dX0_alike_26 : decode cX0_alike 26 = .ok (.imul, 1) := by decide +kernel
theorem dX0_alike_27 : decode cX0_alike 27 = .ok (.iload_n 3, 1) := by decide +kernel
theorem dX0_alike_28 : decode cX0_alike 28 = .ok (.iadd, 1) := by decide +kernel
theorem dX0_alike_29 : decode cX0_alike 29 = .ok (.iaload, 1) := by decide +kernel
theorem dX0_alike_30 : decode cX0_alike 30 = .ok (.if_icmp .eq 5, 3) := by decide +kernel
theorem dX0_alike_33 : decode cX0_alike 33 = .ok (.iconst 0, 1) := by decide +kernel
theorem dX0_alike_34 : decode cX0_alike 34 = .ok (.ireturn, 1) := by decide +kernel
theorem dX0_alike_35 : decode cX0_alike 35 = .ok (.iinc 3 1, 3) := by decide +kernel
theorem dX0_alike_38 : decode cX0_alike 38 = .ok (.goto (-36), 3) := by decide +kernel
theorem dX0_alike_41 : decode cX0_alike 41 = .ok (.iconst 1, 1) := by decide +kernel
theorem dX0_alike_42 : decode cX0_alike 42 = .ok (.ireturn, 1) := by decide +kernel
theorem dX0_clear_0 : decode cX0_clear 0 = .ok (.iconst 0, 1) := by decide +kernel
theorem dX0_clear_1 : decode cX0_clear 1 = .ok (.istore_n 1, 1) := by decide +kernel
theorem dX0_clear_2 : decode cX0_clear 2 = .ok (.iload_n 1, 1) := by decide +kernel
theorem dX0_clear_3 : decode cX0_clear 3 = .ok (.aload_n 0, 1) := by decide +kernel
theorem dX0_clear_4 : decode cX0_clear 4 = .ok (.arraylength, 1) := by decide +kernel
theorem dX0_clear_5 : decode cX0_clear 5 = .ok (.if_icmp .ge 13, 3) := by decide +kernel
theorem dX0_clear_8 : decode cX0_clear 8 = .ok (.aload_n 0, 1) := by decide +kernel
theorem dX0_clear_9 : decode cX0_clear 9 = .ok (.iload_n 1, 1) := by decide +kernel
theorem dX0_clear_10 : decode cX0_clear 10 = .ok (.iconst 0, 1) := by decide +kernel
theorem dX0_clear_11 : decode cX0_clear 11 = .ok (.iastore, 1) := by decide +kernel
theorem dX0_clear_12 : decode cX0_clear 12 = .ok (.iinc 1 1, 3) := by decide +kernel
theorem dX0_clear_15 : decode cX0_clear 15 = .ok (.goto (-13), 3) := by decide +kernel
theorem dX0_clear_18 : decode cX0_clear 18 = .ok (.return_, 1) := by decide +kernel
theorem dX1_ofKind_0 : decode cX1_ofKind 0 = .ok (.iconst 0, 1) := by decide +kernel
theorem dX1_ofKind_1 : decode cX1_ofKind 1 = .ok (.istore_n 2, 1) := by decide +kernel
theorem dX1_ofKind_2 : decode cX1_ofKind 2 = .ok (.iconst 0, 1) := by decide +kernel
theorem dX1_ofKind_3 : decode cX1_ofKind 3 = .ok (.istore_n 3, 1) := by decide +kernel
theorem dX1_ofKind_4 : decode cX1_ofKind 4 = .ok (.iload_n 3, 1) := by decide +kernel
theorem dX1_ofKind_5 : decode cX1_ofKind 5 = .ok (.aload_n 0, 1) := by decide +kernel
theorem dX1_ofKind_6 : decode cX1_ofKind 6 = .ok (.getfield 7, 3) := by decide +kernel
theorem dX1_ofKind_9 : decode cX1_ofKind 9 = .ok (.if_icmp .ge 40, 3) := by decide +kernel
theorem dX1_ofKind_12 : decode cX1_ofKind 12 = .ok (.iload_n 3, 1) := by decide +kernel
theorem dX1_ofKind_13 : decode cX1_ofKind 13 = .ok (.iconst 1, 1) := by decide +kernel
theorem dX1_ofKind_14 : decode cX1_ofKind 14 = .ok (.iadd, 1) := by decide +kernel
theorem dX1_ofKind_15 : decode cX1_ofKind 15 = .ok (.istore 4, 2) := by decide +kernel
theorem dX1_ofKind_17 : decode cX1_ofKind 17 = .ok (.iload 4, 2) := by decide +kernel
theorem dX1_ofKind_19 : decode cX1_ofKind 19 = .ok (.aload_n 0, 1) := by decide +kernel
theorem dX1_ofKind_20 : decode cX1_ofKind 20 = .ok (.getfield 7, 3) := by decide +kernel
theorem dX1_ofKind_23 : decode cX1_ofKind 23 = .ok (.if_icmp .ge 20, 3) := by decide +kernel
theorem dX1_ofKind_26 : decode cX1_ofKind 26 = .ok (.iload_n 2, 1) := by decide +kernel
theorem dX1_ofKind_27 : decode cX1_ofKind 27 = .ok (.aload_n 0, 1) := by decide +kernel
theorem dX1_ofKind_28 : decode cX1_ofKind 28 = .ok (.iload_n 3, 1) := by decide +kernel
theorem dX1_ofKind_29 : decode cX1_ofKind 29 = .ok (.iload 4, 2) := by decide +kernel
theorem dX1_ofKind_31 : decode cX1_ofKind 31 = .ok (.iload_n 1, 1) := by decide +kernel
theorem dX1_ofKind_32 : decode cX1_ofKind 32 = .ok (.invokestatic 13, 3) := by decide +kernel
theorem dX1_ofKind_35 : decode cX1_ofKind 35 = .ok (.iadd, 1) := by decide +kernel
theorem dX1_ofKind_36 : decode cX1_ofKind 36 = .ok (.istore_n 2, 1) := by decide +kernel
theorem dX1_ofKind_37 : decode cX1_ofKind 37 = .ok (.iinc 4 1, 3) := by decide +kernel
theorem dX1_ofKind_40 : decode cX1_ofKind 40 = .ok (.goto (-23), 3) := by decide +kernel
theorem dX1_ofKind_43 : decode cX1_ofKind 43 = .ok (.iinc 3 1, 3) := by decide +kernel
theorem dX1_ofKind_46 : decode cX1_ofKind 46 = .ok (.goto (-42), 3) := by decide +kernel
theorem dX1_ofKind_49 : decode cX1_ofKind 49 = .ok (.iload_n 2, 1) := by decide +kernel
theorem dX1_ofKind_50 : decode cX1_ofKind 50 = .ok (.ireturn, 1) := by decide +kernel
theorem dX1_withTwo_0 : decode cX1_withTwo 0 = .ok (.iconst 0, 1) := by decide +kernel
theorem dX1_withTwo_1 : decode cX1_withTwo 1 = .ok (.istore 4, 2) := by decide +kernel
theorem dX1_withTwo_3 : decode cX1_withTwo 3 = .ok (.iload_n 2, 1) := by decide +kernel
theorem dX1_withTwo_4 : decode cX1_withTwo 4 = .ok (.iconst 1, 1) := by decide +kernel
theorem dX1_withTwo_5 : decode cX1_withTwo 5 = .ok (.iadd, 1) := by decide +kernel
theorem dX1_withTwo_6 : decode cX1_withTwo 6 = .ok (.istore 5, 2) := by decide +kernel
theorem dX1_withTwo_8 : decode cX1_withTwo 8 = .ok (.iload 5, 2) := by decide +kernel
theorem dX1_withTwo_10 : decode cX1_withTwo 10 = .ok (.aload_n 0, 1) := by decide +kernel
theorem dX1_withTwo_11 : decode cX1_withTwo 11 = .ok (.getfield 7, 3) := by decide +kernel
theorem dX1_withTwo_14 : decode cX1_withTwo 14 = .ok (.if_icmp .ge 47, 3) := by decide +kernel
theorem dX1_withTwo_17 : decode cX1_withTwo 17 = .ok (.iload 5, 2) := by decide +kernel
theorem dX1_withTwo_19 : decode cX1_withTwo 19 = .ok (.iconst 1, 1) := by decide +kernel
theorem dX1_withTwo_20 : decode cX1_withTwo 20 = .ok (.iadd, 1) := by decide +kernel
theorem dX1_withTwo_21 : decode cX1_withTwo 21 = .ok (.istore 6, 2) := by decide +kernel
theorem dX1_withTwo_23 : decode cX1_withTwo 23 = .ok (.iload 6, 2) := by decide +kernel
theorem dX1_withTwo_25 : decode cX1_withTwo 25 = .ok (.aload_n 0, 1) := by decide +kernel
theorem dX1_withTwo_26 : decode cX1_withTwo 26 = .ok (.getfield 7, 3) := by decide +kernel
theorem dX1_withTwo_29 : decode cX1_withTwo 29 = .ok (.if_icmp .ge 26, 3) := by decide +kernel
theorem dX1_withTwo_32 : decode cX1_withTwo 32 = .ok (.aload_n 0, 1) := by decide +kernel
theorem dX1_withTwo_33 : decode cX1_withTwo 33 = .ok (.iload_n 1, 1) := by decide +kernel
theorem dX1_withTwo_34 : decode cX1_withTwo 34 = .ok (.iload_n 2, 1) := by decide +kernel
theorem dX1_withTwo_35 : decode cX1_withTwo 35 = .ok (.iload 5, 2) := by decide +kernel
theorem dX1_withTwo_37 : decode cX1_withTwo 37 = .ok (.iload 6, 2) := by decide +kernel
theorem dX1_withTwo_39 : decode cX1_withTwo 39 = .ok (.invokestatic 19, 3) := by decide +kernel
theorem dX1_withTwo_42 : decode cX1_withTwo 42 = .ok (.iload_n 3, 1) := by decide +kernel
theorem dX1_withTwo_43 : decode cX1_withTwo 43 = .ok (.if_icmp .ne 6, 3) := by decide +kernel
theorem dX1_withTwo_46 : decode cX1_withTwo 46 = .ok (.iinc 4 1, 3) := by decide +kernel
theorem dX1_withTwo_49 : decode cX1_withTwo 49 = .ok (.iinc 6 1, 3) := by decide +kernel
theorem dX1_withTwo_52 : decode cX1_withTwo 52 = .ok (.goto (-29), 3) := by decide +kernel
theorem dX1_withTwo_55 : decode cX1_withTwo 55 = .ok (.iinc 5 1, 3) := by decide +kernel
theorem dX1_withTwo_58 : decode cX1_withTwo 58 = .ok (.goto (-50), 3) := by decide +kernel
theorem dX1_withTwo_61 : decode cX1_withTwo 61 = .ok (.iload 4, 2) := by decide +kernel
theorem dX1_withTwo_63 : decode cX1_withTwo 63 = .ok (.ireturn, 1) := by decide +kernel
theorem dX1_kindOfFour_0 : decode cX1_kindOfFour 0 = .ok (.aload_n 0, 1) := by decide +kernel
theorem dX1_kindOfFour_1 : decode cX1_kindOfFour 1 = .ok (.iload_n 1, 1) := by decide +kernel
theorem dX1_kindOfFour_2 : decode cX1_kindOfFour 2 = .ok (.iload_n 2, 1) := by decide +kernel
theorem dX1_kindOfFour_3 : decode cX1_kindOfFour 3 = .ok (.invokevirtual 23, 3) := by decide +kernel
theorem dX1_kindOfFour_6 : decode cX1_kindOfFour 6 = .ok (.istore 5, 2) := by decide +kernel
theorem dX1_kindOfFour_8 : decode cX1_kindOfFour 8 = .ok (.aload_n 0, 1) := by decide +kernel
theorem dX1_kindOfFour_9 : decode cX1_kindOfFour 9 = .ok (.iload_n 1, 1) := by decide +kernel
theorem dX1_kindOfFour_10 : decode cX1_kindOfFour 10 = .ok (.iload_n 3, 1) := by decide +kernel
theorem dX1_kindOfFour_11 : decode cX1_kindOfFour 11 = .ok (.invokevirtual 23, 3) := by decide +kernel
theorem dX1_kindOfFour_14 : decode cX1_kindOfFour 14 = .ok (.istore 6, 2) := by decide +kernel
theorem dX1_kindOfFour_16 : decode cX1_kindOfFour 16 = .ok (.aload_n 0, 1) := by decide +kernel
theorem dX1_kindOfFour_17 : decode cX1_kindOfFour 17 = .ok (.iload_n 1, 1) := by decide +kernel
theorem dX1_kindOfFour_18 : decode cX1_kindOfFour 18 = .ok (.iload 4, 2) := by decide +kernel
theorem dX1_kindOfFour_20 : decode cX1_kindOfFour 20 = .ok (.invokevirtual 23, 3) := by decide +kernel
theorem dX1_kindOfFour_23 : decode cX1_kindOfFour 23 = .ok (.istore 7, 2) := by decide +kernel
theorem dX1_kindOfFour_25 : decode cX1_kindOfFour 25 = .ok (.aload_n 0, 1) := by decide +kernel
theorem dX1_kindOfFour_26 : decode cX1_kindOfFour 26 = .ok (.iload_n 2, 1) := by decide +kernel
theorem dX1_kindOfFour_27 : decode cX1_kindOfFour 27 = .ok (.iload_n 3, 1) := by decide +kernel
theorem dX1_kindOfFour_28 : decode cX1_kindOfFour 28 = .ok (.invokevirtual 23, 3) := by decide +kernel
theorem dX1_kindOfFour_31 : decode cX1_kindOfFour 31 = .ok (.istore 8, 2) := by decide +kernel
theorem dX1_kindOfFour_33 : decode cX1_kindOfFour 33 = .ok (.aload_n 0, 1) := by decide +kernel
theorem dX1_kindOfFour_34 : decode cX1_kindOfFour 34 = .ok (.iload_n 2, 1) := by decide +kernel
theorem dX1_kindOfFour_35 : decode cX1_kindOfFour 35 = .ok (.iload 4, 2) := by decide +kernel
theorem dX1_kindOfFour_37 : decode cX1_kindOfFour 37 = .ok (.invokevirtual 23, 3) := by decide +kernel
theorem dX1_kindOfFour_40 : decode cX1_kindOfFour 40 = .ok (.istore 9, 2) := by decide +kernel
theorem dX1_kindOfFour_42 : decode cX1_kindOfFour 42 = .ok (.aload_n 0, 1) := by decide +kernel
theorem dX1_kindOfFour_43 : decode cX1_kindOfFour 43 = .ok (.iload_n 3, 1) := by decide +kernel
theorem dX1_kindOfFour_44 : decode cX1_kindOfFour 44 = .ok (.iload 4, 2) := by decide +kernel
theorem dX1_kindOfFour_46 : decode cX1_kindOfFour 46 = .ok (.invokevirtual 23, 3) := by decide +kernel
theorem dX1_kindOfFour_49 : decode cX1_kindOfFour 49 = .ok (.istore 10, 2) := by decide +kernel
theorem dX1_kindOfFour_51 : decode cX1_kindOfFour 51 = .ok (.iload 5, 2) := by decide +kernel
theorem dX1_kindOfFour_53 : decode cX1_kindOfFour 53 = .ok (.iload 6, 2) := by decide +kernel
theorem dX1_kindOfFour_55 : decode cX1_kindOfFour 55 = .ok (.iadd, 1) := by decide +kernel
theorem dX1_kindOfFour_56 : decode cX1_kindOfFour 56 = .ok (.iload 7, 2) := by decide +kernel
theorem dX1_kindOfFour_58 : decode cX1_kindOfFour 58 = .ok (.iadd, 1) := by decide +kernel
theorem dX1_kindOfFour_59 : decode cX1_kindOfFour 59 = .ok (.istore 11, 2) := by decide +kernel
theorem dX1_kindOfFour_61 : decode cX1_kindOfFour 61 = .ok (.iload 5, 2) := by decide +kernel
theorem dX1_kindOfFour_63 : decode cX1_kindOfFour 63 = .ok (.iload 8, 2) := by decide +kernel
theorem dX1_kindOfFour_65 : decode cX1_kindOfFour 65 = .ok (.iadd, 1) := by decide +kernel
theorem dX1_kindOfFour_66 : decode cX1_kindOfFour 66 = .ok (.iload 9, 2) := by decide +kernel
theorem dX1_kindOfFour_68 : decode cX1_kindOfFour 68 = .ok (.iadd, 1) := by decide +kernel
theorem dX1_kindOfFour_69 : decode cX1_kindOfFour 69 = .ok (.istore 12, 2) := by decide +kernel
theorem dX1_kindOfFour_71 : decode cX1_kindOfFour 71 = .ok (.iload 6, 2) := by decide +kernel
theorem dX1_kindOfFour_73 : decode cX1_kindOfFour 73 = .ok (.iload 8, 2) := by decide +kernel
theorem dX1_kindOfFour_75 : decode cX1_kindOfFour 75 = .ok (.iadd, 1) := by decide +kernel
theorem dX1_kindOfFour_76 : decode cX1_kindOfFour 76 = .ok (.iload 10, 2) := by decide +kernel
theorem dX1_kindOfFour_78 : decode cX1_kindOfFour 78 = .ok (.iadd, 1) := by decide +kernel
theorem dX1_kindOfFour_79 : decode cX1_kindOfFour 79 = .ok (.istore 13, 2) := by decide +kernel
theorem dX1_kindOfFour_81 : decode cX1_kindOfFour 81 = .ok (.iload 7, 2) := by decide +kernel
theorem dX1_kindOfFour_83 : decode cX1_kindOfFour 83 = .ok (.iload 9, 2) := by decide +kernel
theorem dX1_kindOfFour_85 : decode cX1_kindOfFour 85 = .ok (.iadd, 1) := by decide +kernel
theorem dX1_kindOfFour_86 : decode cX1_kindOfFour 86 = .ok (.iload 10, 2) := by decide +kernel
theorem dX1_kindOfFour_88 : decode cX1_kindOfFour 88 = .ok (.iadd, 1) := by decide +kernel
theorem dX1_kindOfFour_89 : decode cX1_kindOfFour 89 = .ok (.istore 14, 2) := by decide +kernel
theorem dX1_kindOfFour_91 : decode cX1_kindOfFour 91 = .ok (.iload 11, 2) := by decide +kernel
theorem dX1_kindOfFour_93 : decode cX1_kindOfFour 93 = .ok (.iload 12, 2) := by decide +kernel
theorem dX1_kindOfFour_95 : decode cX1_kindOfFour 95 = .ok (.invokestatic 27, 3) := by decide +kernel
theorem dX1_kindOfFour_98 : decode cX1_kindOfFour 98 = .ok (.iload 13, 2) := by decide +kernel
theorem dX1_kindOfFour_100 : decode cX1_kindOfFour 100 = .ok (.iload 14, 2) := by decide +kernel
theorem dX1_kindOfFour_102 : decode cX1_kindOfFour 102 = .ok (.invokestatic 27, 3) := by decide +kernel
theorem dX1_kindOfFour_105 : decode cX1_kindOfFour 105 = .ok (.invokestatic 27, 3) := by decide +kernel
theorem dX1_kindOfFour_108 : decode cX1_kindOfFour 108 = .ok (.istore 15, 2) := by decide +kernel
theorem dX1_kindOfFour_110 : decode cX1_kindOfFour 110 = .ok (.iload 11, 2) := by decide +kernel
theorem dX1_kindOfFour_112 : decode cX1_kindOfFour 112 = .ok (.iload 12, 2) := by decide +kernel
theorem dX1_kindOfFour_114 : decode cX1_kindOfFour 114 = .ok (.invokestatic 32, 3) := by decide +kernel
theorem dX1_kindOfFour_117 : decode cX1_kindOfFour 117 = .ok (.iload 13, 2) := by decide +kernel
theorem dX1_kindOfFour_119 : decode cX1_kindOfFour 119 = .ok (.iload 14, 2) := by decide +kernel
theorem dX1_kindOfFour_121 : decode cX1_kindOfFour 121 = .ok (.invokestatic 32, 3) := by decide +kernel
theorem dX1_kindOfFour_124 : decode cX1_kindOfFour 124 = .ok (.invokestatic 32, 3) := by decide +kernel
theorem dX1_kindOfFour_127 : decode cX1_kindOfFour 127 = .ok (.istore 16, 2) := by decide +kernel
theorem dX1_kindOfFour_129 : decode cX1_kindOfFour 129 = .ok (.iload 11, 2) := by decide +kernel
theorem dX1_kindOfFour_131 : decode cX1_kindOfFour 131 = .ok (.iload 12, 2) := by decide +kernel
theorem dX1_kindOfFour_133 : decode cX1_kindOfFour 133 = .ok (.iadd, 1) := by decide +kernel
theorem dX1_kindOfFour_134 : decode cX1_kindOfFour 134 = .ok (.iload 13, 2) := by decide +kernel
theorem dX1_kindOfFour_136 : decode cX1_kindOfFour 136 = .ok (.iadd, 1) := by decide +kernel
theorem dX1_kindOfFour_137 : decode cX1_kindOfFour 137 = .ok (.iload 14, 2) := by decide +kernel
theorem dX1_kindOfFour_139 : decode cX1_kindOfFour 139 = .ok (.iadd, 1) := by decide +kernel
theorem dX1_kindOfFour_140 : decode cX1_kindOfFour 140 = .ok (.iconst 2, 1) := by decide +kernel
theorem dX1_kindOfFour_141 : decode cX1_kindOfFour 141 = .ok (.idiv, 1) := by decide +kernel
theorem dX1_kindOfFour_142 : decode cX1_kindOfFour 142 = .ok (.iload 15, 2) := by decide +kernel
theorem dX1_kindOfFour_144 : decode cX1_kindOfFour 144 = .ok (.iload 16, 2) := by decide +kernel
theorem dX1_kindOfFour_146 : decode cX1_kindOfFour 146 = .ok (.invokestatic 35, 3) := by decide +kernel
theorem dX1_kindOfFour_149 : decode cX1_kindOfFour 149 = .ok (.ireturn, 1) := by decide +kernel
theorem dX1_kindBy_0 : decode cX1_kindBy 0 = .ok (.iload_n 0, 1) := by decide +kernel
theorem dX1_kindBy_1 : decode cX1_kindBy 1 = .ok (.tableswitch 63 3 6 #[31, 48, 59, 61], 31) := by decide +kernel
theorem dX1_kindBy_32 : decode cX1_kindBy 32 = .ok (.iload_n 2, 1) := by decide +kernel
theorem dX1_kindBy_33 : decode cX1_kindBy 33 = .ok (.ifCond .ne 5, 3) := by decide +kernel
theorem dX1_kindBy_36 : decode cX1_kindBy 36 = .ok (.iconst (-1), 1) := by decide +kernel
theorem dX1_kindBy_37 : decode cX1_kindBy 37 = .ok (.ireturn, 1) := by decide +kernel
theorem dX1_kindBy_38 : decode cX1_kindBy 38 = .ok (.iload_n 1, 1) := by decide +kernel
theorem dX1_kindBy_39 : decode cX1_kindBy 39 = .ok (.iconst 3, 1) := by decide +kernel
theorem dX1_kindBy_40 : decode cX1_kindBy 40 = .ok (.if_icmp .ne 7, 3) := by decide +kernel
theorem dX1_kindBy_43 : decode cX1_kindBy 43 = .ok (.iconst 1, 1) := by decide +kernel
theorem dX1_kindBy_44 : decode cX1_kindBy 44 = .ok (.goto 4, 3) := by decide +kernel
theorem dX1_kindBy_47 : decode cX1_kindBy 47 = .ok (.iconst 0, 1) := by decide +kernel
theorem dX1_kindBy_48 : decode cX1_kindBy 48 = .ok (.ireturn, 1) := by decide +kernel
theorem dX1_kindBy_49 : decode cX1_kindBy 49 = .ok (.iload_n 1, 1) := by decide +kernel
theorem dX1_kindBy_50 : decode cX1_kindBy 50 = .ok (.iconst 3, 1) := by decide +kernel
theorem dX1_kindBy_51 : decode cX1_kindBy 51 = .ok (.if_icmp .ne 7, 3) := by decide +kernel
theorem dX1_kindBy_54 : decode cX1_kindBy 54 = .ok (.iconst 3, 1) := by decide +kernel
theorem dX1_kindBy_55 : decode cX1_kindBy 55 = .ok (.goto 4, 3) := by decide +kernel
theorem dX1_kindBy_58 : decode cX1_kindBy 58 = .ok (.iconst 2, 1) := by decide +kernel
theorem dX1_kindBy_59 : decode cX1_kindBy 59 = .ok (.ireturn, 1) := by decide +kernel
theorem dX1_kindBy_60 : decode cX1_kindBy 60 = .ok (.iconst 4, 1) := by decide +kernel
theorem dX1_kindBy_61 : decode cX1_kindBy 61 = .ok (.ireturn, 1) := by decide +kernel
theorem dX1_kindBy_62 : decode cX1_kindBy 62 = .ok (.iconst 5, 1) := by decide +kernel
theorem dX1_kindBy_63 : decode cX1_kindBy 63 = .ok (.ireturn, 1) := by decide +kernel
theorem dX1_kindBy_64 : decode cX1_kindBy 64 = .ok (.iconst (-1), 1) := by decide +kernel
theorem dX1_kindBy_65 : decode cX1_kindBy 65 = .ok (.ireturn, 1) := by decide +kernel
theorem dX2_init_0 : decode cX2_init 0 = .ok (.aload_n 0, 1) := by decide +kernel
theorem dX2_init_1 : decode cX2_init 1 = .ok (.invokespecial 1, 3) := by decide +kernel
theorem dX2_init_4 : decode cX2_init 4 = .ok (.aload_n 0, 1) := by decide +kernel
theorem dX2_init_5 : decode cX2_init 5 = .ok (.lconst 0, 1) := by decide +kernel
theorem dX2_init_6 : decode cX2_init 6 = .ok (.putfield 7, 3) := by decide +kernel
theorem dX2_init_9 : decode cX2_init 9 = .ok (.aload_n 0, 1) := by decide +kernel
theorem dX2_init_10 : decode cX2_init 10 = .ok (.lconst 1, 1) := by decide +kernel
theorem dX2_init_11 : decode cX2_init 11 = .ok (.putfield 13, 3) := by decide +kernel
theorem dX2_init_14 : decode cX2_init 14 = .ok (.return_, 1) := by decide +kernel
theorem dX2_become_0 : decode cX2_become 0 = .ok (.lload_n 1, 1) := by decide +kernel
theorem dX2_become_1 : decode cX2_become 1 = .ok (.lload_n 3, 1) := by decide +kernel
theorem dX2_become_2 : decode cX2_become 2 = .ok (.invokestatic 16, 3) := by decide +kernel
theorem dX2_become_5 : decode cX2_become 5 = .ok (.lstore 5, 2) := by decide +kernel
theorem dX2_become_7 : decode cX2_become 7 = .ok (.lload_n 3, 1) := by decide +kernel
theorem dX2_become_8 : decode cX2_become 8 = .ok (.lconst 0, 1) := by decide +kernel
theorem dX2_become_9 : decode cX2_become 9 = .ok (.lcmp, 1) := by decide +kernel
theorem dX2_become_10 : decode cX2_become 10 = .ok (.ifCond .le 10, 3) := by decide +kernel
theorem dX2_become_13 : decode cX2_become 13 = .ok (.lload 5, 2) := by decide +kernel
theorem dX2_become_15 : decode cX2_become 15 = .ok (.lconst 0, 1) := by decide +kernel
theorem dX2_become_16 : decode cX2_become 16 = .ok (.lcmp, 1) := by decide +kernel
theorem dX2_become_17 : decode cX2_become 17 = .ok (.ifCond .gt 14, 3) := by decide +kernel
theorem dX2_become_20 : decode cX2_become 20 = .ok (.aload_n 0, 1) := by decide +kernel
theorem dX2_become_21 : decode cX2_become 21 = .ok (.lconst 0, 1) := by decide +kernel
theorem dX2_become_22 : decode cX2_become 22 = .ok (.putfield 7, 3) := by decide +kernel
theorem dX2_become_25 : decode cX2_become 25 = .ok (.aload_n 0, 1) := by decide +kernel
theorem dX2_become_26 : decode cX2_become 26 = .ok (.lconst 1, 1) := by decide +kernel
theorem dX2_become_27 : decode cX2_become 27 = .ok (.putfield 13, 3) := by decide +kernel
theorem dX2_become_30 : decode cX2_become 30 = .ok (.return_, 1) := by decide +kernel
theorem dX2_become_31 : decode cX2_become 31 = .ok (.aload_n 0, 1) := by decide +kernel
theorem dX2_become_32 : decode cX2_become 32 = .ok (.lload_n 1, 1) := by decide +kernel
theorem dX2_become_33 : decode cX2_become 33 = .ok (.lload 5, 2) := by decide +kernel
theorem dX2_become_35 : decode cX2_become 35 = .ok (.ldiv, 1) := by decide +kernel
theorem dX2_become_36 : decode cX2_become 36 = .ok (.putfield 7, 3) := by decide +kernel
theorem dX2_become_39 : decode cX2_become 39 = .ok (.aload_n 0, 1) := by decide +kernel
theorem dX2_become_40 : decode cX2_become 40 = .ok (.lload_n 3, 1) := by decide +kernel
theorem dX2_become_41 : decode cX2_become 41 = .ok (.lload 5, 2) := by decide +kernel
theorem dX2_become_43 : decode cX2_become 43 = .ok (.ldiv, 1) := by decide +kernel
theorem dX2_become_44 : decode cX2_become 44 = .ok (.putfield 13, 3) := by decide +kernel
theorem dX2_become_47 : decode cX2_become 47 = .ok (.return_, 1) := by decide +kernel
theorem dX2_commonDivisor_0 : decode cX2_commonDivisor 0 = .ok (.lload_n 0, 1) := by decide +kernel
theorem dX2_commonDivisor_1 : decode cX2_commonDivisor 1 = .ok (.lstore 4, 2) := by decide +kernel
theorem dX2_commonDivisor_3 : decode cX2_commonDivisor 3 = .ok (.lload_n 2, 1) := by decide +kernel
theorem dX2_commonDivisor_4 : decode cX2_commonDivisor 4 = .ok (.lstore 6, 2) := by decide +kernel
theorem dX2_commonDivisor_6 : decode cX2_commonDivisor 6 = .ok (.iconst 0, 1) := by decide +kernel
theorem dX2_commonDivisor_7 : decode cX2_commonDivisor 7 = .ok (.istore 8, 2) := by decide +kernel
theorem dX2_commonDivisor_9 : decode cX2_commonDivisor 9 = .ok (.iload 8, 2) := by decide +kernel
theorem dX2_commonDivisor_11 : decode cX2_commonDivisor 11 = .ok (.sipush 200, 3) := by decide +kernel
theorem dX2_commonDivisor_14 : decode cX2_commonDivisor 14 = .ok (.if_icmp .ge 31, 3) := by decide +kernel
theorem dX2_commonDivisor_17 : decode cX2_commonDivisor 17 = .ok (.lload 6, 2) := by decide +kernel
theorem dX2_commonDivisor_19 : decode cX2_commonDivisor 19 = .ok (.lconst 0, 1) := by decide +kernel
theorem dX2_commonDivisor_20 : decode cX2_commonDivisor 20 = .ok (.lcmp, 1) := by decide +kernel
theorem dX2_commonDivisor_21 : decode cX2_commonDivisor 21 = .ok (.ifCond .eq 24, 3) := by decide +kernel
theorem dX2_commonDivisor_24 : decode cX2_commonDivisor 24 = .ok (.lload 4, 2) := by decide +kernel
theorem dX2_commonDivisor_26 : decode cX2_commonDivisor 26 = .ok (.lload 6, 2) := by decide +kernel
theorem dX2_commonDivisor_28 : decode cX2_commonDivisor 28 = .ok (.lrem, 1) := by decide +kernel
theorem dX2_commonDivisor_29 : decode cX2_commonDivisor 29 = .ok (.lstore 9, 2) := by decide +kernel
theorem dX2_commonDivisor_31 : decode cX2_commonDivisor 31 = .ok (.lload 6, 2) := by decide +kernel
theorem dX2_commonDivisor_33 : decode cX2_commonDivisor 33 = .ok (.lstore 4, 2) := by decide +kernel
theorem dX2_commonDivisor_35 : decode cX2_commonDivisor 35 = .ok (.lload 9, 2) := by decide +kernel
theorem dX2_commonDivisor_37 : decode cX2_commonDivisor 37 = .ok (.lstore 6, 2) := by decide +kernel
theorem dX2_commonDivisor_39 : decode cX2_commonDivisor 39 = .ok (.iinc 8 1, 3) := by decide +kernel
theorem dX2_commonDivisor_42 : decode cX2_commonDivisor 42 = .ok (.goto (-33), 3) := by decide +kernel
theorem dX2_commonDivisor_45 : decode cX2_commonDivisor 45 = .ok (.lload 4, 2) := by decide +kernel
theorem dX2_commonDivisor_47 : decode cX2_commonDivisor 47 = .ok (.lreturn, 1) := by decide +kernel
theorem dX3_init_0 : decode cX3_init 0 = .ok (.aload_n 0, 1) := by decide +kernel
theorem dX3_init_1 : decode cX3_init 1 = .ok (.invokespecial 1, 3) := by decide +kernel
theorem dX3_init_4 : decode cX3_init 4 = .ok (.aload_n 0, 1) := by decide +kernel
theorem dX3_init_5 : decode cX3_init 5 = .ok (.iconst 1, 1) := by decide +kernel
theorem dX3_init_6 : decode cX3_init 6 = .ok (.putfield 7, 3) := by decide +kernel
theorem dX3_init_9 : decode cX3_init 9 = .ok (.return_, 1) := by decide +kernel
theorem dX3_drawBelow_0 : decode cX3_drawBelow 0 = .ok (.aload_n 0, 1) := by decide +kernel
theorem dX3_drawBelow_1 : decode cX3_drawBelow 1 = .ok (.aload_n 0, 1) := by decide +kernel
theorem dX3_drawBelow_2 : decode cX3_drawBelow 2 = .ok (.getfield 7, 3) := by decide +kernel
theorem dX3_drawBelow_5 : decode cX3_drawBelow 5 = .ok (.ldc 13, 2) := by decide +kernel
theorem dX3_drawBelow_7 : decode cX3_drawBelow 7 = .ok (.imul, 1) := by decide +kernel
theorem dX3_drawBelow_8 : decode cX3_drawBelow 8 = .ok (.sipush 12345, 3) := by decide +kernel
theorem dX3_drawBelow_11 : decode cX3_drawBelow 11 = .ok (.iadd, 1) := by decide +kernel
theorem dX3_drawBelow_12 : decode cX3_drawBelow 12 = .ok (.putfield 7, 3) := by decide +kernel
theorem dX3_drawBelow_15 : decode cX3_drawBelow 15 = .ok (.iload_n 1, 1) := by decide +kernel
theorem dX3_drawBelow_16 : decode cX3_drawBelow 16 = .ok (.ifCond .le 15, 3) := by decide +kernel
theorem dX3_drawBelow_19 : decode cX3_drawBelow 19 = .ok (.aload_n 0, 1) := by decide +kernel
theorem dX3_drawBelow_20 : decode cX3_drawBelow 20 = .ok (.getfield 7, 3) := by decide +kernel
theorem dX3_drawBelow_23 : decode cX3_drawBelow 23 = .ok (.bipush 16, 2) := by decide +kernel
theorem dX3_drawBelow_25 : decode cX3_drawBelow 25 = .ok (.iushr, 1) := by decide +kernel
theorem dX3_drawBelow_26 : decode cX3_drawBelow 26 = .ok (.iload_n 1, 1) := by decide +kernel
theorem dX3_drawBelow_27 : decode cX3_drawBelow 27 = .ok (.irem, 1) := by decide +kernel
theorem dX3_drawBelow_28 : decode cX3_drawBelow 28 = .ok (.goto 4, 3) := by decide +kernel
theorem dX3_drawBelow_31 : decode cX3_drawBelow 31 = .ok (.iconst 0, 1) := by decide +kernel
theorem dX3_drawBelow_32 : decode cX3_drawBelow 32 = .ok (.ireturn, 1) := by decide +kernel
theorem dX3_mixLinks_0 : decode cX3_mixLinks 0 = .ok (.iconst 0, 1) := by decide +kernel
theorem dX3_mixLinks_1 : decode cX3_mixLinks 1 = .ok (.istore_n 3, 1) := by decide +kernel
theorem dX3_mixLinks_2 : decode cX3_mixLinks 2 = .ok (.aload_n 1, 1) := by decide +kernel
theorem dX3_mixLinks_3 : decode cX3_mixLinks 3 = .ok (.invokevirtual 14, 3) := by decide +kernel
theorem dX3_mixLinks_6 : decode cX3_mixLinks 6 = .ok (.istore 4, 2) := by decide +kernel
theorem dX3_mixLinks_8 : decode cX3_mixLinks 8 = .ok (.iconst 0, 1) := by decide +kernel
theorem dX3_mixLinks_9 : decode cX3_mixLinks 9 = .ok (.istore 5, 2) := by decide +kernel
theorem dX3_mixLinks_11 : decode cX3_mixLinks 11 = .ok (.iload 5, 2) := by decide +kernel
theorem dX3_mixLinks_13 : decode cX3_mixLinks 13 = .ok (.iload_n 2, 1) := by decide +kernel
theorem dX3_mixLinks_14 : decode cX3_mixLinks 14 = .ok (.if_icmp .ge 47, 3) := by decide +kernel
theorem dX3_mixLinks_17 : decode cX3_mixLinks 17 = .ok (.aload_n 0, 1) := by decide +kernel
theorem dX3_mixLinks_18 : decode cX3_mixLinks 18 = .ok (.iload 4, 2) := by decide +kernel
theorem dX3_mixLinks_20 : decode cX3_mixLinks 20 = .ok (.invokevirtual 20, 3) := by decide +kernel
theorem dX3_mixLinks_23 : decode cX3_mixLinks 23 = .ok (.istore 6, 2) := by decide +kernel
theorem dX3_mixLinks_25 : decode cX3_mixLinks 25 = .ok (.aload_n 0, 1) := by decide +kernel
theorem dX3_mixLinks_26 : decode cX3_mixLinks 26 = .ok (.iload 4, 2) := by decide +kernel
theorem dX3_mixLinks_28 : decode cX3_mixLinks 28 = .ok (.invokevirtual 20, 3) := by decide +kernel
theorem dX3_mixLinks_31 : decode cX3_mixLinks 31 = .ok (.istore 7, 2) := by decide +kernel
theorem dX3_mixLinks_33 : decode cX3_mixLinks 33 = .ok (.aload_n 1, 1) := by decide +kernel
theorem dX3_mixLinks_34 : decode cX3_mixLinks 34 = .ok (.aload_n 1, 1) := by decide +kernel
theorem dX3_mixLinks_35 : decode cX3_mixLinks 35 = .ok (.iload 6, 2) := by decide +kernel
theorem dX3_mixLinks_37 : decode cX3_mixLinks 37 = .ok (.invokevirtual 24, 3) := by decide +kernel
theorem dX3_mixLinks_40 : decode cX3_mixLinks 40 = .ok (.aload_n 1, 1) := by decide +kernel
theorem dX3_mixLinks_41 : decode cX3_mixLinks 41 = .ok (.iload 7, 2) := by decide +kernel
theorem dX3_mixLinks_43 : decode cX3_mixLinks 43 = .ok (.invokevirtual 24, 3) := by decide +kernel
theorem dX3_mixLinks_46 : decode cX3_mixLinks 46 = .ok (.invokevirtual 27, 3) := by decide +kernel
theorem dX3_mixLinks_49 : decode cX3_mixLinks 49 = .ok (.ifCond .eq 6, 3) := by decide +kernel
theorem dX3_mixLinks_52 : decode cX3_mixLinks 52 = .ok (.iinc 3 1, 3) := by decide +kernel
theorem dX3_mixLinks_55 : decode cX3_mixLinks 55 = .ok (.iinc 5 1, 3) := by decide +kernel
theorem dX3_mixLinks_58 : decode cX3_mixLinks 58 = .ok (.goto (-47), 3) := by decide +kernel
theorem dX3_mixLinks_61 : decode cX3_mixLinks 61 = .ok (.iload_n 3, 1) := by decide +kernel
theorem dX3_mixLinks_62 : decode cX3_mixLinks 62 = .ok (.ireturn, 1) := by decide +kernel
theorem dX4_init_0 : decode cX4_init 0 = .ok (.aload_n 0, 1) := by decide +kernel
theorem dX4_init_1 : decode cX4_init 1 = .ok (.invokespecial 3, 3) := by decide +kernel
theorem dX4_init_4 : decode cX4_init 4 = .ok (.aload_n 0, 1) := by decide +kernel
theorem dX4_init_5 : decode cX4_init 5 = .ok (.bipush 16, 2) := by decide +kernel
theorem dX4_init_7 : decode cX4_init 7 = .ok (.newarray .int, 2) := by decide +kernel
theorem dX4_init_9 : decode cX4_init 9 = .ok (.putfield 9, 3) := by decide +kernel
theorem dX4_init_12 : decode cX4_init 12 = .ok (.aload_n 0, 1) := by decide +kernel
theorem dX4_init_13 : decode cX4_init 13 = .ok (.bipush 16, 2) := by decide +kernel
theorem dX4_init_15 : decode cX4_init 15 = .ok (.newarray .int, 2) := by decide +kernel
theorem dX4_init_17 : decode cX4_init 17 = .ok (.putfield 15, 3) := by decide +kernel
theorem dX4_init_20 : decode cX4_init 20 = .ok (.aload_n 0, 1) := by decide +kernel
theorem dX4_init_21 : decode cX4_init 21 = .ok (.sipush 256, 3) := by decide +kernel
theorem dX4_init_24 : decode cX4_init 24 = .ok (.newarray .int, 2) := by decide +kernel
theorem dX4_init_26 : decode cX4_init 26 = .ok (.putfield 18, 3) := by decide +kernel
theorem dX4_init_29 : decode cX4_init 29 = .ok (.aload_n 0, 1) := by decide +kernel
theorem dX4_init_30 : decode cX4_init 30 = .ok (.iload_n 1, 1) := by decide +kernel
theorem dX4_init_31 : decode cX4_init 31 = .ok (.putfield 21, 3) := by decide +kernel
theorem dX4_init_34 : decode cX4_init 34 = .ok (.return_, 1) := by decide +kernel
theorem dX4_spot_0 : decode cX4_spot 0 = .ok (.iload_n 0, 1) := by decide +kernel
theorem dX4_spot_1 : decode cX4_spot 1 = .ok (.bipush 16, 2) := by decide +kernel
theorem dX4_spot_3 : decode cX4_spot 3 = .ok (.imul, 1) := by decide +kernel
theorem dX4_spot_4 : decode cX4_spot 4 = .ok (.iload_n 1, 1) := by decide +kernel
theorem dX4_spot_5 : decode cX4_spot 5 = .ok (.iadd, 1) := by decide +kernel
theorem dX4_spot_6 : decode cX4_spot 6 = .ok (.ireturn, 1) := by decide +kernel
theorem dX4_fromOf_0 : decode cX4_fromOf 0 = .ok (.iload_n 0, 1) := by decide +kernel
theorem dX4_fromOf_1 : decode cX4_fromOf 1 = .ok (.bipush 16, 2) := by decide +kernel
theorem dX4_fromOf_3 : decode cX4_fromOf 3 = .ok (.idiv, 1) := by decide +kernel
theorem dX4_fromOf_4 : decode cX4_fromOf 4 = .ok (.ireturn, 1) := by decide +kernel
theorem dX4_toOf_0 : decode cX4_toOf 0 = .ok (.iload_n 0, 1) := by decide +kernel
theorem dX4_toOf_1 : decode cX4_toOf 1 = .ok (.bipush 16, 2) := by decide +kernel
theorem dX4_toOf_3 : decode cX4_toOf 3 = .ok (.irem, 1) := by decide +kernel
theorem dX4_toOf_4 : decode cX4_toOf 4 = .ok (.ireturn, 1) := by decide +kernel
theorem dX4_startAnew_0 : decode cX4_startAnew 0 = .ok (.aload_n 0, 1) := by decide +kernel
theorem dX4_startAnew_1 : decode cX4_startAnew 1 = .ok (.iload_n 1, 1) := by decide +kernel
theorem dX4_startAnew_2 : decode cX4_startAnew 2 = .ok (.putfield 21, 3) := by decide +kernel
theorem dX4_startAnew_5 : decode cX4_startAnew 5 = .ok (.iconst 0, 1) := by decide +kernel
theorem dX4_startAnew_6 : decode cX4_startAnew 6 = .ok (.istore_n 2, 1) := by decide +kernel
theorem dX4_startAnew_7 : decode cX4_startAnew 7 = .ok (.iload_n 2, 1) := by decide +kernel
theorem dX4_startAnew_8 : decode cX4_startAnew 8 = .ok (.bipush 16, 2) := by decide +kernel
theorem dX4_startAnew_10 : decode cX4_startAnew 10 = .ok (.if_icmp .ge 23, 3) := by decide +kernel
theorem dX4_startAnew_13 : decode cX4_startAnew 13 = .ok (.aload_n 0, 1) := by decide +kernel
theorem dX4_startAnew_14 : decode cX4_startAnew 14 = .ok (.getfield 9, 3) := by decide +kernel
theorem dX4_startAnew_17 : decode cX4_startAnew 17 = .ok (.iload_n 2, 1) := by decide +kernel
theorem dX4_startAnew_18 : decode cX4_startAnew 18 = .ok (.iconst 0, 1) := by decide +kernel
theorem dX4_startAnew_19 : decode cX4_startAnew 19 = .ok (.iastore, 1) := by decide +kernel
theorem dX4_startAnew_20 : decode cX4_startAnew 20 = .ok (.aload_n 0, 1) := by decide +kernel
theorem dX4_startAnew_21 : decode cX4_startAnew 21 = .ok (.getfield 15, 3) := by decide +kernel
theorem dX4_startAnew_24 : decode cX4_startAnew 24 = .ok (.iload_n 2, 1) := by decide +kernel
theorem dX4_startAnew_25 : decode cX4_startAnew 25 = .ok (.iconst 0, 1) := by decide +kernel
theorem dX4_startAnew_26 : decode cX4_startAnew 26 = .ok (.iastore, 1) := by decide +kernel
theorem dX4_startAnew_27 : decode cX4_startAnew 27 = .ok (.iinc 2 1, 3) := by decide +kernel
theorem dX4_startAnew_30 : decode cX4_startAnew 30 = .ok (.goto (-23), 3) := by decide +kernel
theorem dX4_startAnew_33 : decode cX4_startAnew 33 = .ok (.return_, 1) := by decide +kernel
theorem dX4_becomeLike_0 : decode cX4_becomeLike 0 = .ok (.aload_n 0, 1) := by decide +kernel
theorem dX4_becomeLike_1 : decode cX4_becomeLike 1 = .ok (.aload_n 1, 1) := by decide +kernel
theorem dX4_becomeLike_2 : decode cX4_becomeLike 2 = .ok (.getfield 21, 3) := by decide +kernel
theorem dX4_becomeLike_5 : decode cX4_becomeLike 5 = .ok (.putfield 21, 3) := by decide +kernel
theorem dX4_becomeLike_8 : decode cX4_becomeLike 8 = .ok (.aload_n 1, 1) := by decide +kernel
theorem dX4_becomeLike_9 : decode cX4_becomeLike 9 = .ok (.getfield 9, 3) := by decide +kernel
theorem dX4_becomeLike_12 : decode cX4_becomeLike 12 = .ok (.iconst 0, 1) := by decide +kernel
theorem dX4_becomeLike_13 : decode cX4_becomeLike 13 = .ok (.aload_n 0, 1) := by decide +kernel
theorem dX4_becomeLike_14 : decode cX4_becomeLike 14 = .ok (.getfield 9, 3) := by decide +kernel
theorem dX4_becomeLike_17 : decode cX4_becomeLike 17 = .ok (.iconst 0, 1) := by decide +kernel
theorem dX4_becomeLike_18 : decode cX4_becomeLike 18 = .ok (.bipush 16, 2) := by decide +kernel
theorem dX4_becomeLike_20 : decode cX4_becomeLike 20 = .ok (.invokestatic 25, 3) := by decide +kernel
theorem dX4_becomeLike_23 : decode cX4_becomeLike 23 = .ok (.aload_n 1, 1) := by decide +kernel
theorem dX4_becomeLike_24 : decode cX4_becomeLike 24 = .ok (.getfield 15, 3) := by decide +kernel
theorem dX4_becomeLike_27 : decode cX4_becomeLike 27 = .ok (.iconst 0, 1) := by decide +kernel
theorem dX4_becomeLike_28 : decode cX4_becomeLike 28 = .ok (.aload_n 0, 1) := by decide +kernel
theorem dX4_becomeLike_29 : decode cX4_becomeLike 29 = .ok (.getfield 15, 3) := by decide +kernel
theorem dX4_becomeLike_32 : decode cX4_becomeLike 32 = .ok (.iconst 0, 1) := by decide +kernel
theorem dX4_becomeLike_33 : decode cX4_becomeLike 33 = .ok (.bipush 16, 2) := by decide +kernel
theorem dX4_becomeLike_35 : decode cX4_becomeLike 35 = .ok (.invokestatic 25, 3) := by decide +kernel
theorem dX4_becomeLike_38 : decode cX4_becomeLike 38 = .ok (.aload_n 1, 1) := by decide +kernel
theorem dX4_becomeLike_39 : decode cX4_becomeLike 39 = .ok (.getfield 18, 3) := by decide +kernel
theorem dX4_becomeLike_42 : decode cX4_becomeLike 42 = .ok (.iconst 0, 1) := by decide +kernel
theorem dX4_becomeLike_43 : decode cX4_becomeLike 43 = .ok (.aload_n 0, 1) := by decide +kernel
theorem dX4_becomeLike_44 : decode cX4_becomeLike 44 = .ok (.getfield 18, 3) := by decide +kernel
theorem dX4_becomeLike_47 : decode cX4_becomeLike 47 = .ok (.iconst 0, 1) := by decide +kernel
theorem dX4_becomeLike_48 : decode cX4_becomeLike 48 = .ok (.sipush 256, 3) := by decide +kernel
theorem dX4_becomeLike_51 : decode cX4_becomeLike 51 = .ok (.invokestatic 25, 3) := by decide +kernel
theorem dX4_becomeLike_54 : decode cX4_becomeLike 54 = .ok (.return_, 1) := by decide +kernel
theorem dX4_bit_0 : decode cX4_bit 0 = .ok (.aload_n 0, 1) := by decide +kernel
theorem dX4_bit_1 : decode cX4_bit 1 = .ok (.getfield 9, 3) := by decide +kernel
theorem dX4_bit_4 : decode cX4_bit 4 = .ok (.iload_n 1, 1) := by decide +kernel
theorem dX4_bit_5 : decode cX4_bit 5 = .ok (.iaload, 1) := by decide +kernel
theorem dX4_bit_6 : decode cX4_bit 6 = .ok (.iload_n 2, 1) := by decide +kernel
theorem dX4_bit_7 : decode cX4_bit 7 = .ok (.ishr, 1) := by decide +kernel
theorem dX4_bit_8 : decode cX4_bit 8 = .ok (.iconst 1, 1) := by decide +kernel
theorem dX4_bit_9 : decode cX4_bit 9 = .ok (.iand, 1) := by decide +kernel
theorem dX4_bit_10 : decode cX4_bit 10 = .ok (.ireturn, 1) := by decide +kernel
theorem dX4_has_0 : decode cX4_has 0 = .ok (.aload_n 0, 1) := by decide +kernel
theorem dX4_has_1 : decode cX4_has 1 = .ok (.iload_n 1, 1) := by decide +kernel
theorem dX4_has_2 : decode cX4_has 2 = .ok (.iload_n 2, 1) := by decide +kernel
theorem dX4_has_3 : decode cX4_has 3 = .ok (.invokevirtual 31, 3) := by decide +kernel
theorem dX4_has_6 : decode cX4_has 6 = .ok (.iconst 1, 1) := by decide +kernel
theorem dX4_has_7 : decode cX4_has 7 = .ok (.if_icmp .ne 7, 3) := by decide +kernel
theorem dX4_has_10 : decode cX4_has 10 = .ok (.iconst 1, 1) := by decide +kernel
theorem dX4_has_11 : decode cX4_has 11 = .ok (.goto 4, 3) := by decide +kernel
theorem dX4_has_14 : decode cX4_has 14 = .ok (.iconst 0, 1) := by decide +kernel
theorem dX4_has_15 : decode cX4_has 15 = .ok (.ireturn, 1) := by decide +kernel
theorem dX4_kindOf_0 : decode cX4_kindOf 0 = .ok (.aload_n 0, 1) := by decide +kernel
theorem dX4_kindOf_1 : decode cX4_kindOf 1 = .ok (.getfield 15, 3) := by decide +kernel
theorem dX4_kindOf_4 : decode cX4_kindOf 4 = .ok (.iload_n 1, 1) := by decide +kernel
theorem dX4_kindOf_5 : decode cX4_kindOf 5 = .ok (.iaload, 1) := by decide +kernel
theorem dX4_kindOf_6 : decode cX4_kindOf 6 = .ok (.iload_n 2, 1) := by decide +kernel
theorem dX4_kindOf_7 : decode cX4_kindOf 7 = .ok (.ishr, 1) := by decide +kernel
theorem dX4_kindOf_8 : decode cX4_kindOf 8 = .ok (.iconst 1, 1) := by decide +kernel
theorem dX4_kindOf_9 : decode cX4_kindOf 9 = .ok (.iand, 1) := by decide +kernel
theorem dX4_kindOf_10 : decode cX4_kindOf 10 = .ok (.ireturn, 1) := by decide +kernel
theorem dX4_timeOf_0 : decode cX4_timeOf 0 = .ok (.aload_n 0, 1) := by decide +kernel
theorem dX4_timeOf_1 : decode cX4_timeOf 1 = .ok (.iload_n 1, 1) := by decide +kernel
theorem dX4_timeOf_2 : decode cX4_timeOf 2 = .ok (.iload_n 2, 1) := by decide +kernel
theorem dX4_timeOf_3 : decode cX4_timeOf 3 = .ok (.invokevirtual 35, 3) := by decide +kernel
theorem dX4_timeOf_6 : decode cX4_timeOf 6 = .ok (.ifCond .eq 16, 3) := by decide +kernel
theorem dX4_timeOf_9 : decode cX4_timeOf 9 = .ok (.aload_n 0, 1) := by decide +kernel
theorem dX4_timeOf_10 : decode cX4_timeOf 10 = .ok (.getfield 18, 3) := by decide +kernel
theorem dX4_timeOf_13 : decode cX4_timeOf 13 = .ok (.iload_n 1, 1) := by decide +kernel
theorem dX4_timeOf_14 : decode cX4_timeOf 14 = .ok (.iload_n 2, 1) := by decide +kernel
theorem dX4_timeOf_15 : decode cX4_timeOf 15 = .ok (.invokestatic 39, 3) := by decide +kernel
theorem dX4_timeOf_18 : decode cX4_timeOf 18 = .ok (.iaload, 1) := by decide +kernel
theorem dX4_timeOf_19 : decode cX4_timeOf 19 = .ok (.goto 4, 3) := by decide +kernel
theorem dX4_timeOf_22 : decode cX4_timeOf 22 = .ok (.iconst 0, 1) := by decide +kernel
theorem dX4_timeOf_23 : decode cX4_timeOf 23 = .ok (.ireturn, 1) := by decide +kernel
theorem dX4_put_0 : decode cX4_put 0 = .ok (.aload_n 0, 1) := by decide +kernel
theorem dX4_put_1 : decode cX4_put 1 = .ok (.iload_n 1, 1) := by decide +kernel
theorem dX4_put_2 : decode cX4_put 2 = .ok (.iload_n 2, 1) := by decide +kernel
theorem dX4_put_3 : decode cX4_put 3 = .ok (.invokevirtual 42, 3) := by decide +kernel
theorem dX4_put_6 : decode cX4_put 6 = .ok (.aload_n 0, 1) := by decide +kernel
theorem dX4_put_7 : decode cX4_put 7 = .ok (.getfield 9, 3) := by decide +kernel
theorem dX4_put_10 : decode cX4_put 10 = .ok (.iload_n 1, 1) := by decide +kernel
theorem dX4_put_11 : decode cX4_put 11 = .ok (.dup2, 1) := by decide +kernel
theorem dX4_put_12 : decode cX4_put 12 = .ok (.iaload, 1) := by decide +kernel
theorem dX4_put_13 : decode cX4_put 13 = .ok (.iconst 1, 1) := by decide +kernel
theorem dX4_put_14 : decode cX4_put 14 = .ok (.iload_n 2, 1) := by decide +kernel
theorem dX4_put_15 : decode cX4_put 15 = .ok (.ishl, 1) := by decide +kernel
theorem dX4_put_16 : decode cX4_put 16 = .ok (.ior, 1) := by decide +kernel
theorem dX4_put_17 : decode cX4_put 17 = .ok (.iastore, 1) := by decide +kernel
theorem dX4_put_18 : decode cX4_put 18 = .ok (.aload_n 0, 1) := by decide +kernel
theorem dX4_put_19 : decode cX4_put 19 = .ok (.getfield 15, 3) := by decide +kernel
theorem dX4_put_22 : decode cX4_put 22 = .ok (.iload_n 1, 1) := by decide +kernel
theorem dX4_put_23 : decode cX4_put 23 = .ok (.dup2, 1) := by decide +kernel
theorem dX4_put_24 : decode cX4_put 24 = .ok (.iaload, 1) := by decide +kernel
theorem dX4_put_25 : decode cX4_put 25 = .ok (.iload_n 3, 1) := by decide +kernel
theorem dX4_put_26 : decode cX4_put 26 = .ok (.iload_n 2, 1) := by decide +kernel
theorem dX4_put_27 : decode cX4_put 27 = .ok (.ishl, 1) := by decide +kernel
theorem dX4_put_28 : decode cX4_put 28 = .ok (.ior, 1) := by decide +kernel
theorem dX4_put_29 : decode cX4_put 29 = .ok (.iastore, 1) := by decide +kernel
theorem dX4_put_30 : decode cX4_put 30 = .ok (.aload_n 0, 1) := by decide +kernel
theorem dX4_put_31 : decode cX4_put 31 = .ok (.getfield 18, 3) := by decide +kernel
theorem dX4_put_34 : decode cX4_put 34 = .ok (.iload_n 1, 1) := by decide +kernel
theorem dX4_put_35 : decode cX4_put 35 = .ok (.iload_n 2, 1) := by decide +kernel
theorem dX4_put_36 : decode cX4_put 36 = .ok (.invokestatic 39, 3) := by decide +kernel
theorem dX4_put_39 : decode cX4_put 39 = .ok (.iload 4, 2) := by decide +kernel
theorem dX4_put_41 : decode cX4_put 41 = .ok (.iastore, 1) := by decide +kernel
theorem dX4_put_42 : decode cX4_put 42 = .ok (.return_, 1) := by decide +kernel
theorem dX4_drop_0 : decode cX4_drop 0 = .ok (.aload_n 0, 1) := by decide +kernel
theorem dX4_drop_1 : decode cX4_drop 1 = .ok (.getfield 9, 3) := by decide +kernel
theorem dX4_drop_4 : decode cX4_drop 4 = .ok (.iload_n 1, 1) := by decide +kernel
theorem dX4_drop_5 : decode cX4_drop 5 = .ok (.dup2, 1) := by decide +kernel
theorem dX4_drop_6 : decode cX4_drop 6 = .ok (.iaload, 1) := by decide +kernel
theorem dX4_drop_7 : decode cX4_drop 7 = .ok (.iconst 1, 1) := by decide +kernel
theorem dX4_drop_8 : decode cX4_drop 8 = .ok (.iload_n 2, 1) := by decide +kernel
theorem dX4_drop_9 : decode cX4_drop 9 = .ok (.ishl, 1) := by decide +kernel
theorem dX4_drop_10 : decode cX4_drop 10 = .ok (.iconst (-1), 1) := by decide +kernel
theorem dX4_drop_11 : decode cX4_drop 11 = .ok (.ixor, 1) := by decide +kernel
theorem dX4_drop_12 : decode cX4_drop 12 = .ok (.iand, 1) := by decide +kernel
theorem dX4_drop_13 : decode cX4_drop 13 = .ok (.iastore, 1) := by decide +kernel
theorem dX4_drop_14 : decode cX4_drop 14 = .ok (.aload_n 0, 1) := by decide +kernel
theorem dX4_drop_15 : decode cX4_drop 15 = .ok (.getfield 15, 3) := by decide +kernel
theorem dX4_drop_18 : decode cX4_drop 18 = .ok (.iload_n 1, 1) := by decide +kernel
theorem dX4_drop_19 : decode cX4_drop 19 = .ok (.dup2, 1) := by decide +kernel
theorem dX4_drop_20 : decode cX4_drop 20 = .ok (.iaload, 1) := by decide +kernel
theorem dX4_drop_21 : decode cX4_drop 21 = .ok (.iconst 1, 1) := by decide +kernel
theorem dX4_drop_22 : decode cX4_drop 22 = .ok (.iload_n 2, 1) := by decide +kernel
theorem dX4_drop_23 : decode cX4_drop 23 = .ok (.ishl, 1) := by decide +kernel
theorem dX4_drop_24 : decode cX4_drop 24 = .ok (.iconst (-1), 1) := by decide +kernel
theorem dX4_drop_25 : decode cX4_drop 25 = .ok (.ixor, 1) := by decide +kernel
theorem dX4_drop_26 : decode cX4_drop 26 = .ok (.iand, 1) := by decide +kernel
theorem dX4_drop_27 : decode cX4_drop 27 = .ok (.iastore, 1) := by decide +kernel
theorem dX4_drop_28 : decode cX4_drop 28 = .ok (.return_, 1) := by decide +kernel
theorem dX4_everyPost_0 : decode cX4_everyPost 0 = .ok (.iconst 1, 1) := by decide +kernel
theorem dX4_everyPost_1 : decode cX4_everyPost 1 = .ok (.aload_n 0, 1) := by decide +kernel
theorem dX4_everyPost_2 : decode cX4_everyPost 2 = .ok (.getfield 21, 3) := by decide +kernel
theorem dX4_everyPost_5 : decode cX4_everyPost 5 = .ok (.ishl, 1) := by decide +kernel
theorem dX4_everyPost_6 : decode cX4_everyPost 6 = .ok (.iconst 1, 1) := by decide +kernel
theorem dX4_everyPost_7 : decode cX4_everyPost 7 = .ok (.isub, 1) := by decide +kernel
theorem dX4_everyPost_8 : decode cX4_everyPost 8 = .ok (.ireturn, 1) := by decide +kernel
theorem dX4_into_0 : decode cX4_into 0 = .ok (.iconst 0, 1) := by decide +kernel
theorem dX4_into_1 : decode cX4_into 1 = .ok (.istore_n 2, 1) := by decide +kernel
theorem dX4_into_2 : decode cX4_into 2 = .ok (.iconst 0, 1) := by decide +kernel
theorem dX4_into_3 : decode cX4_into 3 = .ok (.istore_n 3, 1) := by decide +kernel
theorem dX4_into_4 : decode cX4_into 4 = .ok (.iload_n 3, 1) := by decide +kernel
theorem dX4_into_5 : decode cX4_into 5 = .ok (.aload_n 0, 1) := by decide +kernel
theorem dX4_into_6 : decode cX4_into 6 = .ok (.getfield 21, 3) := by decide +kernel
theorem dX4_into_9 : decode cX4_into 9 = .ok (.if_icmp .ge 20, 3) := by decide +kernel
theorem dX4_into_12 : decode cX4_into 12 = .ok (.iload_n 2, 1) := by decide +kernel
theorem dX4_into_13 : decode cX4_into 13 = .ok (.aload_n 0, 1) := by decide +kernel
theorem dX4_into_14 : decode cX4_into 14 = .ok (.iload_n 3, 1) := by decide +kernel
theorem dX4_into_15 : decode cX4_into 15 = .ok (.iload_n 1, 1) := by decide +kernel
theorem dX4_into_16 : decode cX4_into 16 = .ok (.invokevirtual 31, 3) := by decide +kernel
theorem dX4_into_19 : decode cX4_into 19 = .ok (.iload_n 3, 1) := by decide +kernel
theorem dX4_into_20 : decode cX4_into 20 = .ok (.ishl, 1) := by decide +kernel
theorem dX4_into_21 : decode cX4_into 21 = .ok (.ior, 1) := by decide +kernel
theorem dX4_into_22 : decode cX4_into 22 = .ok (.istore_n 2, 1) := by decide +kernel
theorem dX4_into_23 : decode cX4_into 23 = .ok (.iinc 3 1, 3) := by decide +kernel
theorem dX4_into_26 : decode cX4_into 26 = .ok (.goto (-22), 3) := by decide +kernel
theorem dX4_into_29 : decode cX4_into 29 = .ok (.iload_n 2, 1) := by decide +kernel
theorem dX4_into_30 : decode cX4_into 30 = .ok (.ireturn, 1) := by decide +kernel
theorem dX4_beside_0 : decode cX4_beside 0 = .ok (.aload_n 0, 1) := by decide +kernel
theorem dX4_beside_1 : decode cX4_beside 1 = .ok (.getfield 9, 3) := by decide +kernel
theorem dX4_beside_4 : decode cX4_beside 4 = .ok (.iload_n 1, 1) := by decide +kernel
theorem dX4_beside_5 : decode cX4_beside 5 = .ok (.iaload, 1) := by decide +kernel
theorem dX4_beside_6 : decode cX4_beside 6 = .ok (.aload_n 0, 1) := by decide +kernel
theorem dX4_beside_7 : decode cX4_beside 7 = .ok (.iload_n 1, 1) := by decide +kernel
theorem dX4_beside_8 : decode cX4_beside 8 = .ok (.invokevirtual 46, 3) := by decide +kernel
theorem dX4_beside_11 : decode cX4_beside 11 = .ok (.ior, 1) := by decide +kernel
theorem dX4_beside_12 : decode cX4_beside 12 = .ok (.ireturn, 1) := by decide +kernel
theorem dX4_opposed_0 : decode cX4_opposed 0 = .ok (.aload_n 0, 1) := by decide +kernel
theorem dX4_opposed_1 : decode cX4_opposed 1 = .ok (.getfield 15, 3) := by decide +kernel
theorem dX4_opposed_4 : decode cX4_opposed 4 = .ok (.iload_n 1, 1) := by decide +kernel
theorem dX4_opposed_5 : decode cX4_opposed 5 = .ok (.iaload, 1) := by decide +kernel
theorem dX4_opposed_6 : decode cX4_opposed 6 = .ok (.istore_n 2, 1) := by decide +kernel
theorem dX4_opposed_7 : decode cX4_opposed 7 = .ok (.iconst 0, 1) := by decide +kernel
theorem dX4_opposed_8 : decode cX4_opposed 8 = .ok (.istore_n 3, 1) := by decide +kernel
theorem dX4_opposed_9 : decode cX4_opposed 9 = .ok (.iload_n 3, 1) := by decide +kernel
theorem dX4_opposed_10 : decode cX4_opposed 10 = .ok (.aload_n 0, 1) := by decide +kernel
theorem dX4_opposed_11 : decode cX4_opposed 11 = .ok (.getfield 21, 3) := by decide +kernel
theorem dX4_opposed_14 : decode cX4_opposed 14 = .ok (.if_icmp .ge 20, 3) := by decide +kernel
theorem dX4_opposed_17 : decode cX4_opposed 17 = .ok (.iload_n 2, 1) := by decide +kernel
theorem dX4_opposed_18 : decode cX4_opposed 18 = .ok (.aload_n 0, 1) := by decide +kernel
theorem dX4_opposed_19 : decode cX4_opposed 19 = .ok (.iload_n 3, 1) := by decide +kernel
theorem dX4_opposed_20 : decode cX4_opposed 20 = .ok (.iload_n 1, 1) := by decide +kernel
theorem dX4_opposed_21 : decode cX4_opposed 21 = .ok (.invokevirtual 50, 3) := by decide +kernel
theorem dX4_opposed_24 : decode cX4_opposed 24 = .ok (.iload_n 3, 1) := by decide +kernel
theorem dX4_opposed_25 : decode cX4_opposed 25 = .ok (.ishl, 1) := by decide +kernel
theorem dX4_opposed_26 : decode cX4_opposed 26 = .ok (.ior, 1) := by decide +kernel
theorem dX4_opposed_27 : decode cX4_opposed 27 = .ok (.istore_n 2, 1) := by decide +kernel
theorem dX4_opposed_28 : decode cX4_opposed 28 = .ok (.iinc 3 1, 3) := by decide +kernel
theorem dX4_opposed_31 : decode cX4_opposed 31 = .ok (.goto (-22), 3) := by decide +kernel
theorem dX4_opposed_34 : decode cX4_opposed 34 = .ok (.iload_n 2, 1) := by decide +kernel
theorem dX4_opposed_35 : decode cX4_opposed 35 = .ok (.ireturn, 1) := by decide +kernel
theorem dX4_besideBit_0 : decode cX4_besideBit 0 = .ok (.aload_n 0, 1) := by decide +kernel
theorem dX4_besideBit_1 : decode cX4_besideBit 1 = .ok (.iload_n 1, 1) := by decide +kernel
theorem dX4_besideBit_2 : decode cX4_besideBit 2 = .ok (.iload_n 2, 1) := by decide +kernel
theorem dX4_besideBit_3 : decode cX4_besideBit 3 = .ok (.invokevirtual 31, 3) := by decide +kernel
theorem dX4_besideBit_6 : decode cX4_besideBit 6 = .ok (.aload_n 0, 1) := by decide +kernel
theorem dX4_besideBit_7 : decode cX4_besideBit 7 = .ok (.iload_n 2, 1) := by decide +kernel
theorem dX4_besideBit_8 : decode cX4_besideBit 8 = .ok (.iload_n 1, 1) := by decide +kernel
theorem dX4_besideBit_9 : decode cX4_besideBit 9 = .ok (.invokevirtual 31, 3) := by decide +kernel
theorem dX4_besideBit_12 : decode cX4_besideBit 12 = .ok (.ior, 1) := by decide +kernel
theorem dX4_besideBit_13 : decode cX4_besideBit 13 = .ok (.ireturn, 1) := by decide +kernel
theorem dX4_opposedBit_0 : decode cX4_opposedBit 0 = .ok (.aload_n 0, 1) := by decide +kernel
theorem dX4_opposedBit_1 : decode cX4_opposedBit 1 = .ok (.iload_n 1, 1) := by decide +kernel
theorem dX4_opposedBit_2 : decode cX4_opposedBit 2 = .ok (.iload_n 2, 1) := by decide +kernel
theorem dX4_opposedBit_3 : decode cX4_opposedBit 3 = .ok (.invokevirtual 50, 3) := by decide +kernel
theorem dX4_opposedBit_6 : decode cX4_opposedBit 6 = .ok (.aload_n 0, 1) := by decide +kernel
theorem dX4_opposedBit_7 : decode cX4_opposedBit 7 = .ok (.iload_n 2, 1) := by decide +kernel
theorem dX4_opposedBit_8 : decode cX4_opposedBit 8 = .ok (.iload_n 1, 1) := by decide +kernel
theorem dX4_opposedBit_9 : decode cX4_opposedBit 9 = .ok (.invokevirtual 50, 3) := by decide +kernel
theorem dX4_opposedBit_12 : decode cX4_opposedBit 12 = .ok (.ior, 1) := by decide +kernel
theorem dX4_opposedBit_13 : decode cX4_opposedBit 13 = .ok (.ireturn, 1) := by decide +kernel
theorem dX4_linkCount_0 : decode cX4_linkCount 0 = .ok (.iconst 0, 1) := by decide +kernel
theorem dX4_linkCount_1 : decode cX4_linkCount 1 = .ok (.istore_n 1, 1) := by decide +kernel
theorem dX4_linkCount_2 : decode cX4_linkCount 2 = .ok (.iconst 0, 1) := by decide +kernel
theorem dX4_linkCount_3 : decode cX4_linkCount 3 = .ok (.istore_n 2, 1) := by decide +kernel
theorem dX4_linkCount_4 : decode cX4_linkCount 4 = .ok (.iload_n 2, 1) := by decide +kernel
theorem dX4_linkCount_5 : decode cX4_linkCount 5 = .ok (.aload_n 0, 1) := by decide +kernel
theorem dX4_linkCount_6 : decode cX4_linkCount 6 = .ok (.getfield 21, 3) := by decide +kernel
theorem dX4_linkCount_9 : decode cX4_linkCount 9 = .ok (.if_icmp .ge 21, 3) := by decide +kernel
theorem dX4_linkCount_12 : decode cX4_linkCount 12 = .ok (.iload_n 1, 1) := by decide +kernel
theorem dX4_linkCount_13 : decode cX4_linkCount 13 = .ok (.aload_n 0, 1) := by decide +kernel
theorem dX4_linkCount_14 : decode cX4_linkCount 14 = .ok (.getfield 9, 3) := by decide +kernel
theorem dX4_linkCount_17 : decode cX4_linkCount 17 = .ok (.iload_n 2, 1) := by decide +kernel
theorem dX4_linkCount_18 : decode cX4_linkCount 18 = .ok (.iaload, 1) := by decide +kernel
theorem dX4_linkCount_19 : decode cX4_linkCount 19 = .ok (.invokestatic 53, 3) := by decide +kernel
theorem dX4_linkCount_22 : decode cX4_linkCount 22 = .ok (.iadd, 1) := by decide +kernel
theorem dX4_linkCount_23 : decode cX4_linkCount 23 = .ok (.istore_n 1, 1) := by decide +kernel
theorem dX4_linkCount_24 : decode cX4_linkCount 24 = .ok (.iinc 2 1, 3) := by decide +kernel
theorem dX4_linkCount_27 : decode cX4_linkCount 27 = .ok (.goto (-23), 3) := by decide +kernel
theorem dX4_linkCount_30 : decode cX4_linkCount 30 = .ok (.iload_n 1, 1) := by decide +kernel
theorem dX4_linkCount_31 : decode cX4_linkCount 31 = .ok (.ireturn, 1) := by decide +kernel
theorem dX4_againstCount_0 : decode cX4_againstCount 0 = .ok (.iconst 0, 1) := by decide +kernel
theorem dX4_againstCount_1 : decode cX4_againstCount 1 = .ok (.istore_n 1, 1) := by decide +kernel
theorem dX4_againstCount_2 : decode cX4_againstCount 2 = .ok (.iconst 0, 1) := by decide +kernel
theorem dX4_againstCount_3 : decode cX4_againstCount 3 = .ok (.istore_n 2, 1) := by decide +kernel
theorem dX4_againstCount_4 : decode cX4_againstCount 4 = .ok (.iload_n 2, 1) := by decide +kernel
theorem dX4_againstCount_5 : decode cX4_againstCount 5 = .ok (.aload_n 0, 1) := by decide +kernel
theorem dX4_againstCount_6 : decode cX4_againstCount 6 = .ok (.getfield 21, 3) := by decide +kernel
theorem dX4_againstCount_9 : decode cX4_againstCount 9 = .ok (.if_icmp .ge 21, 3) := by decide +kernel
theorem dX4_againstCount_12 : decode cX4_againstCount 12 = .ok (.iload_n 1, 1) := by decide +kernel
theorem dX4_againstCount_13 : decode cX4_againstCount 13 = .ok (.aload_n 0, 1) := by decide +kernel
theorem dX4_againstCount_14 : decode cX4_againstCount 14 = .ok (.getfield 15, 3) := by decide +kernel
theorem dX4_againstCount_17 : decode cX4_againstCount 17 = .ok (.iload_n 2, 1) := by decide +kernel
theorem dX4_againstCount_18 : decode cX4_againstCount 18 = .ok (.iaload, 1) := by decide +kernel
theorem dX4_againstCount_19 : decode cX4_againstCount 19 = .ok (.invokestatic 53, 3) := by decide +kernel
theorem dX4_againstCount_22 : decode cX4_againstCount 22 = .ok (.iadd, 1) := by decide +kernel
theorem dX4_againstCount_23 : decode cX4_againstCount 23 = .ok (.istore_n 1, 1) := by decide +kernel
theorem dX4_againstCount_24 : decode cX4_againstCount 24 = .ok (.iinc 2 1, 3) := by decide +kernel
theorem dX4_againstCount_27 : decode cX4_againstCount 27 = .ok (.goto (-23), 3) := by decide +kernel
theorem dX4_againstCount_30 : decode cX4_againstCount 30 = .ok (.iload_n 1, 1) := by decide +kernel
theorem dX4_againstCount_31 : decode cX4_againstCount 31 = .ok (.ireturn, 1) := by decide +kernel
theorem dX4_besideCount_0 : decode cX4_besideCount 0 = .ok (.iconst 0, 1) := by decide +kernel
theorem dX4_besideCount_1 : decode cX4_besideCount 1 = .ok (.istore_n 1, 1) := by decide +kernel
theorem dX4_besideCount_2 : decode cX4_besideCount 2 = .ok (.iconst 0, 1) := by decide +kernel
theorem dX4_besideCount_3 : decode cX4_besideCount 3 = .ok (.istore_n 2, 1) := by decide +kernel
theorem dX4_besideCount_4 : decode cX4_besideCount 4 = .ok (.iload_n 2, 1) := by decide +kernel
theorem dX4_besideCount_5 : decode cX4_besideCount 5 = .ok (.aload_n 0, 1) := by decide +kernel
theorem dX4_besideCount_6 : decode cX4_besideCount 6 = .ok (.getfield 21, 3) := by decide +kernel
theorem dX4_besideCount_9 : decode cX4_besideCount 9 = .ok (.if_icmp .ge 36, 3) := by decide +kernel
theorem dX4_besideCount_12 : decode cX4_besideCount 12 = .ok (.iload_n 2, 1) := by decide +kernel
theorem dX4_besideCount_13 : decode cX4_besideCount 13 = .ok (.iconst 1, 1) := by decide +kernel
theorem dX4_besideCount_14 : decode cX4_besideCount 14 = .ok (.iadd, 1) := by decide +kernel
theorem dX4_besideCount_15 : decode cX4_besideCount 15 = .ok (.istore_n 3, 1) := by decide +kernel
theorem dX4_besideCount_16 : decode cX4_besideCount 16 = .ok (.iload_n 3, 1) := by decide +kernel
theorem dX4_besideCount_17 : decode cX4_besideCount 17 = .ok (.aload_n 0, 1) := by decide +kernel
theorem dX4_besideCount_18 : decode cX4_besideCount 18 = .ok (.getfield 21, 3) := by decide +kernel
theorem dX4_besideCount_21 : decode cX4_besideCount 21 = .ok (.if_icmp .ge 18, 3) := by decide +kernel
theorem dX4_besideCount_24 : decode cX4_besideCount 24 = .ok (.iload_n 1, 1) := by decide +kernel
theorem dX4_besideCount_25 : decode cX4_besideCount 25 = .ok (.aload_n 0, 1) := by decide +kernel
theorem dX4_besideCount_26 : decode cX4_besideCount 26 = .ok (.iload_n 2, 1) := by decide +kernel
theorem dX4_besideCount_27 : decode cX4_besideCount 27 = .ok (.iload_n 3, 1) := by decide +kernel
theorem dX4_besideCount_28 : decode cX4_besideCount 28 = .ok (.invokevirtual 58, 3) := by decide +kernel
theorem dX4_besideCount_31 : decode cX4_besideCount 31 = .ok (.iadd, 1) := by decide +kernel
theorem dX4_besideCount_32 : decode cX4_besideCount 32 = .ok (.istore_n 1, 1) := by decide +kernel
theorem dX4_besideCount_33 : decode cX4_besideCount 33 = .ok (.iinc 3 1, 3) := by decide +kernel
theorem dX4_besideCount_36 : decode cX4_besideCount 36 = .ok (.goto (-20), 3) := by decide +kernel
theorem dX4_besideCount_39 : decode cX4_besideCount 39 = .ok (.iinc 2 1, 3) := by decide +kernel
theorem dX4_besideCount_42 : decode cX4_besideCount 42 = .ok (.goto (-38), 3) := by decide +kernel
theorem dX4_besideCount_45 : decode cX4_besideCount 45 = .ok (.iload_n 1, 1) := by decide +kernel
theorem dX4_besideCount_46 : decode cX4_besideCount 46 = .ok (.ireturn, 1) := by decide +kernel
theorem dX4_codeOf_0 : decode cX4_codeOf 0 = .ok (.aload_n 0, 1) := by decide +kernel
theorem dX4_codeOf_1 : decode cX4_codeOf 1 = .ok (.iload_n 1, 1) := by decide +kernel
theorem dX4_codeOf_2 : decode cX4_codeOf 2 = .ok (.iload_n 2, 1) := by decide +kernel
theorem dX4_codeOf_3 : decode cX4_codeOf 3 = .ok (.invokevirtual 31, 3) := by decide +kernel
theorem dX4_codeOf_6 : decode cX4_codeOf 6 = .ok (.aload_n 0, 1) := by decide +kernel
theorem dX4_codeOf_7 : decode cX4_codeOf 7 = .ok (.iload_n 1, 1) := by decide +kernel
theorem dX4_codeOf_8 : decode cX4_codeOf 8 = .ok (.iload_n 3, 1) := by decide +kernel
theorem dX4_codeOf_9 : decode cX4_codeOf 9 = .ok (.invokevirtual 31, 3) := by decide +kernel
theorem dX4_codeOf_12 : decode cX4_codeOf 12 = .ok (.iconst 1, 1) := by decide +kernel
theorem dX4_codeOf_13 : decode cX4_codeOf 13 = .ok (.ishl, 1) := by decide +kernel
theorem dX4_codeOf_14 : decode cX4_codeOf 14 = .ok (.ior, 1) := by decide +kernel
theorem dX4_codeOf_15 : decode cX4_codeOf 15 = .ok (.aload_n 0, 1) := by decide +kernel
theorem dX4_codeOf_16 : decode cX4_codeOf 16 = .ok (.iload_n 2, 1) := by decide +kernel
theorem dX4_codeOf_17 : decode cX4_codeOf 17 = .ok (.iload_n 1, 1) := by decide +kernel
theorem dX4_codeOf_18 : decode cX4_codeOf 18 = .ok (.invokevirtual 31, 3) := by decide +kernel
theorem dX4_codeOf_21 : decode cX4_codeOf 21 = .ok (.iconst 2, 1) := by decide +kernel
theorem dX4_codeOf_22 : decode cX4_codeOf 22 = .ok (.ishl, 1) := by decide +kernel
theorem dX4_codeOf_23 : decode cX4_codeOf 23 = .ok (.ior, 1) := by decide +kernel
theorem dX4_codeOf_24 : decode cX4_codeOf 24 = .ok (.aload_n 0, 1) := by decide +kernel
theorem dX4_codeOf_25 : decode cX4_codeOf 25 = .ok (.iload_n 2, 1) := by decide +kernel
theorem dX4_codeOf_26 : decode cX4_codeOf 26 = .ok (.iload_n 3, 1) := by decide +kernel
theorem dX4_codeOf_27 : decode cX4_codeOf 27 = .ok (.invokevirtual 31, 3) := by decide +kernel
theorem dX4_codeOf_30 : decode cX4_codeOf 30 = .ok (.iconst 3, 1) := by decide +kernel
theorem dX4_codeOf_31 : decode cX4_codeOf 31 = .ok (.ishl, 1) := by decide +kernel
theorem dX4_codeOf_32 : decode cX4_codeOf 32 = .ok (.ior, 1) := by decide +kernel
theorem dX4_codeOf_33 : decode cX4_codeOf 33 = .ok (.aload_n 0, 1) := by decide +kernel
theorem dX4_codeOf_34 : decode cX4_codeOf 34 = .ok (.iload_n 3, 1) := by decide +kernel
theorem dX4_codeOf_35 : decode cX4_codeOf 35 = .ok (.iload_n 1, 1) := by decide +kernel
theorem dX4_codeOf_36 : decode cX4_codeOf 36 = .ok (.invokevirtual 31, 3) := by decide +kernel
theorem dX4_codeOf_39 : decode cX4_codeOf 39 = .ok (.iconst 4, 1) := by decide +kernel
theorem dX4_codeOf_40 : decode cX4_codeOf 40 = .ok (.ishl, 1) := by decide +kernel
theorem dX4_codeOf_41 : decode cX4_codeOf 41 = .ok (.ior, 1) := by decide +kernel
theorem dX4_codeOf_42 : decode cX4_codeOf 42 = .ok (.aload_n 0, 1) := by decide +kernel
theorem dX4_codeOf_43 : decode cX4_codeOf 43 = .ok (.iload_n 3, 1) := by decide +kernel
theorem dX4_codeOf_44 : decode cX4_codeOf 44 = .ok (.iload_n 2, 1) := by decide +kernel
theorem dX4_codeOf_45 : decode cX4_codeOf 45 = .ok (.invokevirtual 31, 3) := by decide +kernel
theorem dX4_codeOf_48 : decode cX4_codeOf 48 = .ok (.iconst 5, 1) := by decide +kernel
theorem dX4_codeOf_49 : decode cX4_codeOf 49 = .ok (.ishl, 1) := by decide +kernel
theorem dX4_codeOf_50 : decode cX4_codeOf 50 = .ok (.ior, 1) := by decide +kernel
theorem dX4_codeOf_51 : decode cX4_codeOf 51 = .ok (.ireturn, 1) := by decide +kernel
theorem dX4_spotOf_0 : decode cX4_spotOf 0 = .ok (.iload_n 1, 1) := by decide +kernel
theorem dX4_spotOf_1 : decode cX4_spotOf 1 = .ok (.istore_n 2, 1) := by decide +kernel
theorem dX4_spotOf_2 : decode cX4_spotOf 2 = .ok (.iconst 0, 1) := by decide +kernel
theorem dX4_spotOf_3 : decode cX4_spotOf 3 = .ok (.istore_n 3, 1) := by decide +kernel
theorem dX4_spotOf_4 : decode cX4_spotOf 4 = .ok (.iload_n 3, 1) := by decide +kernel
theorem dX4_spotOf_5 : decode cX4_spotOf 5 = .ok (.aload_n 0, 1) := by decide +kernel
theorem dX4_spotOf_6 : decode cX4_spotOf 6 = .ok (.getfield 21, 3) := by decide +kernel
theorem dX4_spotOf_9 : decode cX4_spotOf 9 = .ok (.if_icmp .ge 46, 3) := by decide +kernel
theorem dX4_spotOf_12 : decode cX4_spotOf 12 = .ok (.aload_n 0, 1) := by decide +kernel
theorem dX4_spotOf_13 : decode cX4_spotOf 13 = .ok (.getfield 9, 3) := by decide +kernel
theorem dX4_spotOf_16 : decode cX4_spotOf 16 = .ok (.iload_n 3, 1) := by decide +kernel
theorem dX4_spotOf_17 : decode cX4_spotOf 17 = .ok (.iaload, 1) := by decide +kernel
theorem dX4_spotOf_18 : decode cX4_spotOf 18 = .ok (.invokestatic 53, 3) := by decide +kernel
theorem dX4_spotOf_21 : decode cX4_spotOf 21 = .ok (.istore 4, 2) := by decide +kernel
theorem dX4_spotOf_23 : decode cX4_spotOf 23 = .ok (.iload_n 2, 1) := by decide +kernel
theorem dX4_spotOf_24 : decode cX4_spotOf 24 = .ok (.iload 4, 2) := by decide +kernel
theorem dX4_spotOf_26 : decode cX4_spotOf 26 = .ok (.if_icmp .ge 18, 3) := by decide +kernel
theorem dX4_spotOf_29 : decode cX4_spotOf 29 = .ok (.iload_n 3, 1) := by decide +kernel
theorem dX4_spotOf_30 : decode cX4_spotOf 30 = .ok (.aload_n 0, 1) := by decide +kernel
theorem dX4_spotOf_31 : decode cX4_spotOf 31 = .ok (.getfield 9, 3) := by decide +kernel
theorem dX4_spotOf_34 : decode cX4_spotOf 34 = .ok (.iload_n 3, 1) := by decide +kernel
theorem dX4_spotOf_35 : decode cX4_spotOf 35 = .ok (.iaload, 1) := by decide +kernel
theorem dX4_spotOf_36 : decode cX4_spotOf 36 = .ok (.iload_n 2, 1) := by decide +kernel
theorem dX4_spotOf_37 : decode cX4_spotOf 37 = .ok (.invokestatic 61, 3) := by decide +kernel
theorem dX4_spotOf_40 : decode cX4_spotOf 40 = .ok (.invokestatic 39, 3) := by decide +kernel
theorem dX4_spotOf_43 : decode cX4_spotOf 43 = .ok (.ireturn, 1) := by decide +kernel
theorem dX4_spotOf_44 : decode cX4_spotOf 44 = .ok (.iload_n 2, 1) := by decide +kernel
theorem dX4_spotOf_45 : decode cX4_spotOf 45 = .ok (.iload 4, 2) := by decide +kernel
theorem dX4_spotOf_47 : decode cX4_spotOf 47 = .ok (.isub, 1) := by decide +kernel
theorem dX4_spotOf_48 : decode cX4_spotOf 48 = .ok (.istore_n 2, 1) := by decide +kernel
theorem dX4_spotOf_49 : decode cX4_spotOf 49 = .ok (.iinc 3 1, 3) := by decide +kernel
theorem dX4_spotOf_52 : decode cX4_spotOf 52 = .ok (.goto (-48), 3) := by decide +kernel
theorem dX4_spotOf_55 : decode cX4_spotOf 55 = .ok (.iconst 0, 1) := by decide +kernel
theorem dX4_spotOf_56 : decode cX4_spotOf 56 = .ok (.ireturn, 1) := by decide +kernel
theorem dX4_setBit_0 : decode cX4_setBit 0 = .ok (.iload_n 1, 1) := by decide +kernel
theorem dX4_setBit_1 : decode cX4_setBit 1 = .ok (.istore_n 2, 1) := by decide +kernel
theorem dX4_setBit_2 : decode cX4_setBit 2 = .ok (.iconst 0, 1) := by decide +kernel
theorem dX4_setBit_3 : decode cX4_setBit 3 = .ok (.istore_n 3, 1) := by decide +kernel
theorem dX4_setBit_4 : decode cX4_setBit 4 = .ok (.iload_n 3, 1) := by decide +kernel
theorem dX4_setBit_5 : decode cX4_setBit 5 = .ok (.bipush 16, 2) := by decide +kernel
theorem dX4_setBit_7 : decode cX4_setBit 7 = .ok (.if_icmp .ge 27, 3) := by decide +kernel
theorem dX4_setBit_10 : decode cX4_setBit 10 = .ok (.iload_n 0, 1) := by decide +kernel
theorem dX4_setBit_11 : decode cX4_setBit 11 = .ok (.iload_n 3, 1) := by decide +kernel
theorem dX4_setBit_12 : decode cX4_setBit 12 = .ok (.ishr, 1) := by decide +kernel
theorem dX4_setBit_13 : decode cX4_setBit 13 = .ok (.iconst 1, 1) := by decide +kernel
theorem dX4_setBit_14 : decode cX4_setBit 14 = .ok (.iand, 1) := by decide +kernel
theorem dX4_setBit_15 : decode cX4_setBit 15 = .ok (.iconst 1, 1) := by decide +kernel
theorem dX4_setBit_16 : decode cX4_setBit 16 = .ok (.if_icmp .ne 12, 3) := by decide +kernel
theorem dX4_setBit_19 : decode cX4_setBit 19 = .ok (.iload_n 2, 1) := by decide +kernel
theorem dX4_setBit_20 : decode cX4_setBit 20 = .ok (.ifCond .ne 5, 3) := by decide +kernel
theorem dX4_setBit_23 : decode cX4_setBit 23 = .ok (.iload_n 3, 1) := by decide +kernel
theorem dX4_setBit_24 : decode cX4_setBit 24 = .ok (.ireturn, 1) := by decide +kernel
theorem dX4_setBit_25 : decode cX4_setBit 25 = .ok (.iinc 2 (-1), 3) := by decide +kernel
theorem dX4_setBit_28 : decode cX4_setBit 28 = .ok (.iinc 3 1, 3) := by decide +kernel
theorem dX4_setBit_31 : decode cX4_setBit 31 = .ok (.goto (-27), 3) := by decide +kernel
theorem dX4_setBit_34 : decode cX4_setBit 34 = .ok (.iconst 0, 1) := by decide +kernel
theorem dX4_setBit_35 : decode cX4_setBit 35 = .ok (.ireturn, 1) := by decide +kernel
theorem dX4_exchange_0 : decode cX4_exchange 0 = .ok (.iload_n 1, 1) := by decide +kernel
theorem dX4_exchange_1 : decode cX4_exchange 1 = .ok (.invokestatic 64, 3) := by decide +kernel
theorem dX4_exchange_4 : decode cX4_exchange 4 = .ok (.istore_n 3, 1) := by decide +kernel
theorem dX4_exchange_5 : decode cX4_exchange 5 = .ok (.iload_n 1, 1) := by decide +kernel
theorem dX4_exchange_6 : decode cX4_exchange 6 = .ok (.invokestatic 67, 3) := by decide +kernel
theorem dX4_exchange_9 : decode cX4_exchange 9 = .ok (.istore 4, 2) := by decide +kernel
theorem dX4_exchange_11 : decode cX4_exchange 11 = .ok (.iload_n 2, 1) := by decide +kernel
theorem dX4_exchange_12 : decode cX4_exchange 12 = .ok (.invokestatic 64, 3) := by decide +kernel
theorem dX4_exchange_15 : decode cX4_exchange 15 = .ok (.istore 5, 2) := by decide +kernel
theorem dX4_exchange_17 : decode cX4_exchange 17 = .ok (.iload_n 2, 1) := by decide +kernel
theorem dX4_exchange_18 : decode cX4_exchange 18 = .ok (.invokestatic 67, 3) := by decide +kernel
theorem dX4_exchange_21 : decode cX4_exchange 21 = .ok (.istore 6, 2) := by decide +kernel
theorem dX4_exchange_23 : decode cX4_exchange 23 = .ok (.iload_n 3, 1) := by decide +kernel
theorem dX4_exchange_24 : decode cX4_exchange 24 = .ok (.iload 5, 2) := by decide +kernel
theorem dX4_exchange_26 : decode cX4_exchange 26 = .ok (.if_icmp .eq 44, 3) := by decide +kernel
theorem dX4_exchange_29 : decode cX4_exchange 29 = .ok (.iload 4, 2) := by decide +kernel
theorem dX4_exchange_31 : decode cX4_exchange 31 = .ok (.iload 6, 2) := by decide +kernel
theorem dX4_exchange_33 : decode cX4_exchange 33 = .ok (.if_icmp .eq 37, 3) := by decide +kernel
theorem dX4_exchange_36 : decode cX4_exchange 36 = .ok (.iload_n 3, 1) := by decide +kernel
theorem dX4_exchange_37 : decode cX4_exchange 37 = .ok (.iload 6, 2) := by decide +kernel
theorem dX4_exchange_39 : decode cX4_exchange 39 = .ok (.if_icmp .eq 31, 3) := by decide +kernel
theorem dX4_exchange_42 : decode cX4_exchange 42 = .ok (.iload 5, 2) := by decide +kernel
theorem dX4_exchange_44 : decode cX4_exchange 44 = .ok (.iload 4, 2) := by decide +kernel
theorem dX4_exchange_46 : decode cX4_exchange 46 = .ok (.if_icmp .eq 24, 3) := by decide +kernel
theorem dX4_exchange_49 : decode cX4_exchange 49 = .ok (.aload_n 0, 1) := by decide +kernel
theorem dX4_exchange_50 : decode cX4_exchange 50 = .ok (.iload_n 3, 1) := by decide +kernel
theorem dX4_exchange_51 : decode cX4_exchange 51 = .ok (.iload 6, 2) := by decide +kernel
theorem dX4_exchange_53 : decode cX4_exchange 53 = .ok (.invokevirtual 35, 3) := by decide +kernel
theorem dX4_exchange_56 : decode cX4_exchange 56 = .ok (.ifCond .ne 14, 3) := by decide +kernel
theorem dX4_exchange_59 : decode cX4_exchange 59 = .ok (.aload_n 0, 1) := by decide +kernel
theorem dX4_exchange_60 : decode cX4_exchange 60 = .ok (.iload 5, 2) := by decide +kernel
theorem dX4_exchange_62 : decode cX4_exchange 62 = .ok (.iload 4, 2) := by decide +kernel
theorem dX4_exchange_64 : decode cX4_exchange 64 = .ok (.invokevirtual 35, 3) := by decide +kernel
theorem dX4_exchange_67 : decode cX4_exchange 67 = .ok (.ifCond .eq 5, 3) := by decide +kernel
theorem dX4_exchange_70 : decode cX4_exchange 70 = .ok (.iconst 0, 1) := by decide +kernel
theorem dX4_exchange_71 : decode cX4_exchange 71 = .ok (.ireturn, 1) := by decide +kernel
theorem dX4_exchange_72 : decode cX4_exchange 72 = .ok (.aload_n 0, 1) := by decide +kernel
theorem dX4_exchange_73 : decode cX4_exchange 73 = .ok (.iload_n 3, 1) := by decide +kernel
theorem dX4_exchange_74 : decode cX4_exchange 74 = .ok (.iload 6, 2) := by decide +kernel
theorem dX4_exchange_76 : decode cX4_exchange 76 = .ok (.aload_n 0, 1) := by decide +kernel
theorem dX4_exchange_77 : decode cX4_exchange 77 = .ok (.iload_n 3, 1) := by decide +kernel
theorem dX4_exchange_78 : decode cX4_exchange 78 = .ok (.iload 4, 2) := by decide +kernel
theorem dX4_exchange_80 : decode cX4_exchange 80 = .ok (.invokevirtual 50, 3) := by decide +kernel
theorem dX4_exchange_83 : decode cX4_exchange 83 = .ok (.aload_n 0, 1) := by decide +kernel
theorem dX4_exchange_84 : decode cX4_exchange 84 = .ok (.iload_n 3, 1) := by decide +kernel
theorem dX4_exchange_85 : decode cX4_exchange 85 = .ok (.iload 4, 2) := by decide +kernel
theorem dX4_exchange_87 : decode cX4_exchange 87 = .ok (.invokevirtual 70, 3) := by decide +kernel
theorem dX4_exchange_90 : decode cX4_exchange 90 = .ok (.invokevirtual 73, 3) := by decide +kernel
theorem dX4_exchange_93 : decode cX4_exchange 93 = .ok (.aload_n 0, 1) := by decide +kernel
theorem dX4_exchange_94 : decode cX4_exchange 94 = .ok (.iload 5, 2) := by decide +kernel
theorem dX4_exchange_96 : decode cX4_exchange 96 = .ok (.iload 4, 2) := by decide +kernel
theorem dX4_exchange_98 : decode cX4_exchange 98 = .ok (.aload_n 0, 1) := by decide +kernel
theorem dX4_exchange_99 : decode cX4_exchange 99 = .ok (.iload 5, 2) := by decide +kernel
theorem dX4_exchange_101 : decode cX4_exchange 101 = .ok (.iload 6, 2) := by decide +kernel
theorem dX4_exchange_103 : decode cX4_exchange 103 = .ok (.invokevirtual 50, 3) := by decide +kernel
theorem dX4_exchange_106 : decode cX4_exchange 106 = .ok (.aload_n 0, 1) := by decide +kernel
theorem dX4_exchange_107 : decode cX4_exchange 107 = .ok (.iload 5, 2) := by decide +kernel
theorem dX4_exchange_109 : decode cX4_exchange 109 = .ok (.iload 6, 2) := by decide +kernel
theorem dX4_exchange_111 : decode cX4_exchange 111 = .ok (.invokevirtual 70, 3) := by decide +kernel
theorem dX4_exchange_114 : decode cX4_exchange 114 = .ok (.invokevirtual 73, 3) := by decide +kernel
theorem dX4_exchange_117 : decode cX4_exchange 117 = .ok (.aload_n 0, 1) := by decide +kernel
theorem dX4_exchange_118 : decode cX4_exchange 118 = .ok (.iload_n 3, 1) := by decide +kernel
theorem dX4_exchange_119 : decode cX4_exchange 119 = .ok (.iload 4, 2) := by decide +kernel
theorem dX4_exchange_121 : decode cX4_exchange 121 = .ok (.invokevirtual 42, 3) := by decide +kernel
theorem dX4_exchange_124 : decode cX4_exchange 124 = .ok (.aload_n 0, 1) := by decide +kernel
theorem dX4_exchange_125 : decode cX4_exchange 125 = .ok (.iload 5, 2) := by decide +kernel
theorem dX4_exchange_127 : decode cX4_exchange 127 = .ok (.iload 6, 2) := by decide +kernel
theorem dX4_exchange_129 : decode cX4_exchange 129 = .ok (.invokevirtual 42, 3) := by decide +kernel
theorem dX4_exchange_132 : decode cX4_exchange 132 = .ok (.iconst 1, 1) := by decide +kernel
theorem dX4_exchange_133 : decode cX4_exchange 133 = .ok (.ireturn, 1) := by decide +kernel
theorem dX5_init_0 : decode cX5_init 0 = .ok (.aload_n 0, 1) := by decide +kernel
theorem dX5_init_1 : decode cX5_init 1 = .ok (.invokespecial 3, 3) := by decide +kernel
theorem dX5_init_4 : decode cX5_init 4 = .ok (.aload_n 0, 1) := by decide +kernel
theorem dX5_init_5 : decode cX5_init 5 = .ok (.bipush 64, 2) := by decide +kernel
theorem dX5_init_7 : decode cX5_init 7 = .ok (.newarray .int, 2) := by decide +kernel
theorem dX5_init_9 : decode cX5_init 9 = .ok (.putfield 11, 3) := by decide +kernel
theorem dX5_init_12 : decode cX5_init 12 = .ok (.aload_n 0, 1) := by decide +kernel
theorem dX5_init_13 : decode cX5_init 13 = .ok (.bipush 16, 2) := by decide +kernel
theorem dX5_init_15 : decode cX5_init 15 = .ok (.newarray .int, 2) := by decide +kernel
theorem dX5_init_17 : decode cX5_init 17 = .ok (.putfield 15, 3) := by decide +kernel
theorem dX5_init_20 : decode cX5_init 20 = .ok (.aload_n 0, 1) := by decide +kernel
theorem dX5_init_21 : decode cX5_init 21 = .ok (.bipush 16, 2) := by decide +kernel
theorem dX5_init_23 : decode cX5_init 23 = .ok (.newarray .int, 2) := by decide +kernel
theorem dX5_init_25 : decode cX5_init 25 = .ok (.putfield 18, 3) := by decide +kernel
theorem dX5_init_28 : decode cX5_init 28 = .ok (.aload_n 0, 1) := by decide +kernel
theorem dX5_init_29 : decode cX5_init 29 = .ok (.bipush 16, 2) := by decide +kernel
theorem dX5_init_31 : decode cX5_init 31 = .ok (.newarray .int, 2) := by decide +kernel
theorem dX5_init_33 : decode cX5_init 33 = .ok (.putfield 21, 3) := by decide +kernel
theorem dX5_init_36 : decode cX5_init 36 = .ok (.aload_n 0, 1) := by decide +kernel
theorem dX5_init_37 : decode cX5_init 37 = .ok (.sipush 192, 3) := by decide +kernel
theorem dX5_init_40 : decode cX5_init 40 = .ok (.newarray .int, 2) := by decide +kernel
theorem dX5_init_42 : decode cX5_init 42 = .ok (.putfield 24, 3) := by decide +kernel
theorem dX5_init_45 : decode cX5_init 45 = .ok (.iconst 0, 1) := by decide +kernel
theorem dX5_init_46 : decode cX5_init 46 = .ok (.istore_n 1, 1) := by decide +kernel
theorem dX5_init_47 : decode cX5_init 47 = .ok (.iconst 0, 1) := by decide +kernel
theorem dX5_init_48 : decode cX5_init 48 = .ok (.istore_n 2, 1) := by decide +kernel
theorem dX5_init_49 : decode cX5_init 49 = .ok (.iload_n 2, 1) := by decide +kernel
theorem dX5_init_50 : decode cX5_init 50 = .ok (.bipush 64, 2) := by decide +kernel
theorem dX5_init_52 : decode cX5_init 52 = .ok (.if_icmp .ge 75, 3) := by decide +kernel
theorem dX5_init_55 : decode cX5_init 55 = .ok (.iload_n 2, 1) := by decide +kernel
theorem dX5_init_56 : decode cX5_init 56 = .ok (.invokestatic 27, 3) := by decide +kernel
theorem dX5_init_59 : decode cX5_init 59 = .ok (.istore_n 3, 1) := by decide +kernel
theorem dX5_init_60 : decode cX5_init 60 = .ok (.iload_n 3, 1) := by decide +kernel
theorem dX5_init_61 : decode cX5_init 61 = .ok (.iload_n 2, 1) := by decide +kernel
theorem dX5_init_62 : decode cX5_init 62 = .ok (.if_icmp .ne 26, 3) := by decide +kernel
theorem dX5_init_65 : decode cX5_init 65 = .ok (.iload_n 1, 1) := by decide +kernel
theorem dX5_init_66 : decode cX5_init 66 = .ok (.bipush 16, 2) := by decide +kernel
theorem dX5_init_68 : decode cX5_init 68 = .ok (.if_icmp .ge 20, 3) := by decide +kernel
theorem dX5_init_71 : decode cX5_init 71 = .ok (.aload_n 0, 1) := by decide +kernel
theorem dX5_init_72 : decode cX5_init 72 = .ok (.getfield 15, 3) := by decide +kernel
theorem dX5_init_75 : decode cX5_init 75 = .ok (.iload_n 1, 1) := by decide +kernel
theorem dX5_init_76 : decode cX5_init 76 = .ok (.iload_n 2, 1) := by decide +kernel
theorem dX5_init_77 : decode cX5_init 77 = .ok (.iastore, 1) := by decide +kernel
theorem dX5_init_78 : decode cX5_init 78 = .ok (.aload_n 0, 1) := by decide +kernel
theorem dX5_init_79 : decode cX5_init 79 = .ok (.getfield 11, 3) := by decide +kernel
theorem dX5_init_82 : decode cX5_init 82 = .ok (.iload_n 2, 1) := by decide +kernel
theorem dX5_init_83 : decode cX5_init 83 = .ok (.iload_n 1, 1) := by decide +kernel
theorem dX5_init_84 : decode cX5_init 84 = .ok (.iastore, 1) := by decide +kernel
theorem dX5_init_85 : decode cX5_init 85 = .ok (.iinc 1 1, 3) := by decide +kernel
theorem dX5_init_88 : decode cX5_init 88 = .ok (.aload_n 0, 1) := by decide +kernel
theorem dX5_init_89 : decode cX5_init 89 = .ok (.getfield 11, 3) := by decide +kernel
theorem dX5_init_92 : decode cX5_init 92 = .ok (.iload_n 3, 1) := by decide +kernel
theorem dX5_init_93 : decode cX5_init 93 = .ok (.iaload, 1) := by decide +kernel
theorem dX5_init_94 : decode cX5_init 94 = .ok (.istore 4, 2) := by decide +kernel
theorem dX5_init_96 : decode cX5_init 96 = .ok (.aload_n 0, 1) := by decide +kernel
theorem dX5_init_97 : decode cX5_init 97 = .ok (.getfield 11, 3) := by decide +kernel
theorem dX5_init_100 : decode cX5_init 100 = .ok (.iload_n 2, 1) := by decide +kernel
theorem dX5_init_101 : decode cX5_init 101 = .ok (.iload 4, 2) := by decide +kernel
theorem dX5_init_103 : decode cX5_init 103 = .ok (.iastore, 1) := by decide +kernel
theorem dX5_init_104 : decode cX5_init 104 = .ok (.aload_n 0, 1) := by decide +kernel
theorem dX5_init_105 : decode cX5_init 105 = .ok (.getfield 18, 3) := by decide +kernel
theorem dX5_init_108 : decode cX5_init 108 = .ok (.iload 4, 2) := by decide +kernel
theorem dX5_init_110 : decode cX5_init 110 = .ok (.dup2, 1) := by decide +kernel
theorem dX5_init_111 : decode cX5_init 111 = .ok (.iaload, 1) := by decide +kernel
theorem dX5_init_112 : decode cX5_init 112 = .ok (.iconst 1, 1) := by decide +kernel
theorem dX5_init_113 : decode cX5_init 113 = .ok (.iadd, 1) := by decide +kernel
theorem dX5_init_114 : decode cX5_init 114 = .ok (.iastore, 1) := by decide +kernel
theorem dX5_init_115 : decode cX5_init 115 = .ok (.aload_n 0, 1) := by decide +kernel
theorem dX5_init_116 : decode cX5_init 116 = .ok (.iload_n 2, 1) := by decide +kernel
theorem dX5_init_117 : decode cX5_init 117 = .ok (.iload_n 3, 1) := by decide +kernel
theorem dX5_init_118 : decode cX5_init 118 = .ok (.invokevirtual 31, 3) := by decide +kernel
theorem dX5_init_121 : decode cX5_init 121 = .ok (.iinc 2 1, 3) := by decide +kernel
theorem dX5_init_124 : decode cX5_init 124 = .ok (.goto (-75), 3) := by decide +kernel
theorem dX5_init_127 : decode cX5_init 127 = .ok (.iconst 0, 1) := by decide +kernel
theorem dX5_init_128 : decode cX5_init 128 = .ok (.istore_n 2, 1) := by decide +kernel
theorem dX5_init_129 : decode cX5_init 129 = .ok (.iload_n 2, 1) := by decide +kernel
theorem dX5_init_130 : decode cX5_init 130 = .ok (.bipush 16, 2) := by decide +kernel
theorem dX5_init_132 : decode cX5_init 132 = .ok (.if_icmp .ge 25, 3) := by decide +kernel
theorem dX5_init_135 : decode cX5_init 135 = .ok (.aload_n 0, 1) := by decide +kernel
theorem dX5_init_136 : decode cX5_init 136 = .ok (.getfield 21, 3) := by decide +kernel
theorem dX5_init_139 : decode cX5_init 139 = .ok (.iload_n 2, 1) := by decide +kernel
theorem dX5_init_140 : decode cX5_init 140 = .ok (.aload_n 0, 1) := by decide +kernel
theorem dX5_init_141 : decode cX5_init 141 = .ok (.aload_n 0, 1) := by decide +kernel
theorem dX5_init_142 : decode cX5_init 142 = .ok (.getfield 15, 3) := by decide +kernel
theorem dX5_init_145 : decode cX5_init 145 = .ok (.iload_n 2, 1) := by decide +kernel
theorem dX5_init_146 : decode cX5_init 146 = .ok (.iaload, 1) := by decide +kernel
theorem dX5_init_147 : decode cX5_init 147 = .ok (.invokevirtual 35, 3) := by decide +kernel
theorem dX5_init_150 : decode cX5_init 150 = .ok (.iastore, 1) := by decide +kernel
theorem dX5_init_151 : decode cX5_init 151 = .ok (.iinc 2 1, 3) := by decide +kernel
theorem dX5_init_154 : decode cX5_init 154 = .ok (.goto (-25), 3) := by decide +kernel
theorem dX5_init_157 : decode cX5_init 157 = .ok (.return_, 1) := by decide +kernel
theorem dX5_linkCount_0 : decode cX5_linkCount 0 = .ok (.aload_n 0, 1) := by decide +kernel
theorem dX5_linkCount_1 : decode cX5_linkCount 1 = .ok (.getfield 15, 3) := by decide +kernel
theorem dX5_linkCount_4 : decode cX5_linkCount 4 = .ok (.iload_n 1, 1) := by decide +kernel
theorem dX5_linkCount_5 : decode cX5_linkCount 5 = .ok (.iaload, 1) := by decide +kernel
theorem dX5_linkCount_6 : decode cX5_linkCount 6 = .ok (.invokestatic 38, 3) := by decide +kernel
theorem dX5_linkCount_9 : decode cX5_linkCount 9 = .ok (.ireturn, 1) := by decide +kernel
