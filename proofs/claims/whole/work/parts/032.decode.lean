theorem dX10_mean_7 : decode cX10_mean 7 = .ok (.aload_n 0, 1) := by decide +kernel
theorem dX10_mean_8 : decode cX10_mean 8 = .ok (.iconst (-1), 1) := by decide +kernel
theorem dX10_mean_9 : decode cX10_mean 9 = .ok (.invokevirtual 70, 3) := by decide +kernel
theorem dX10_mean_12 : decode cX10_mean 12 = .ok (.i2l, 1) := by decide +kernel
theorem dX10_mean_13 : decode cX10_mean 13 = .ok (.lreturn, 1) := by decide +kernel
theorem dX10_mean_14 : decode cX10_mean 14 = .ok (.iload_n 2, 1) := by decide +kernel
theorem dX10_mean_15 : decode cX10_mean 15 = .ok (.ifCond .eq 16, 3) := by decide +kernel
theorem dX10_mean_18 : decode cX10_mean 18 = .ok (.iload_n 2, 1) := by decide +kernel
theorem dX10_mean_19 : decode cX10_mean 19 = .ok (.iconst 1, 1) := by decide +kernel
theorem dX10_mean_20 : decode cX10_mean 20 = .ok (.if_icmp .eq 11, 3) := by decide +kernel
theorem dX10_mean_23 : decode cX10_mean 23 = .ok (.aload_n 0, 1) := by decide +kernel
theorem dX10_mean_24 : decode cX10_mean 24 = .ok (.bipush (-2), 2) := by decide +kernel
theorem dX10_mean_26 : decode cX10_mean 26 = .ok (.invokevirtual 70, 3) := by decide +kernel
theorem dX10_mean_29 : decode cX10_mean 29 = .ok (.i2l, 1) := by decide +kernel
theorem dX10_mean_30 : decode cX10_mean 30 = .ok (.lreturn, 1) := by decide +kernel
theorem dX10_mean_31 : decode cX10_mean 31 = .ok (.aload_n 0, 1) := by decide +kernel
theorem dX10_mean_32 : decode cX10_mean 32 = .ok (.iload_n 1, 1) := by decide +kernel
theorem dX10_mean_33 : decode cX10_mean 33 = .ok (.invokevirtual 194, 3) := by decide +kernel
theorem dX10_mean_36 : decode cX10_mean 36 = .ok (.iload_n 2, 1) := by decide +kernel
theorem dX10_mean_37 : decode cX10_mean 37 = .ok (.ifCond .ne 13, 3) := by decide +kernel
theorem dX10_mean_40 : decode cX10_mean 40 = .ok (.aload_n 0, 1) := by decide +kernel
theorem dX10_mean_41 : decode cX10_mean 41 = .ok (.getfield 45, 3) := by decide +kernel
theorem dX10_mean_44 : decode cX10_mean 44 = .ok (.getfield 197, 3) := by decide +kernel
theorem dX10_mean_47 : decode cX10_mean 47 = .ok (.goto 10, 3) := by decide +kernel
theorem dX10_mean_50 : decode cX10_mean 50 = .ok (.aload_n 0, 1) := by decide +kernel
theorem dX10_mean_51 : decode cX10_mean 51 = .ok (.getfield 45, 3) := by decide +kernel
theorem dX10_mean_54 : decode cX10_mean 54 = .ok (.getfield 201, 3) := by decide +kernel
theorem dX10_mean_57 : decode cX10_mean 57 = .ok (.lreturn, 1) := by decide +kernel
theorem dX10_more_0 : decode cX10_more 0 = .ok (.iload_n 1, 1) := by decide +kernel
theorem dX10_more_1 : decode cX10_more 1 = .ok (.invokestatic 134, 3) := by decide +kernel
theorem dX10_more_4 : decode cX10_more 4 = .ok (.ifCond .ne 12, 3) := by decide +kernel
theorem dX10_more_7 : decode cX10_more 7 = .ok (.ldc 204, 2) := by decide +kernel
theorem dX10_more_9 : decode cX10_more 9 = .ok (.aload_n 0, 1) := by decide +kernel
theorem dX10_more_10 : decode cX10_more 10 = .ok (.iconst (-1), 1) := by decide +kernel
theorem dX10_more_11 : decode cX10_more 11 = .ok (.invokevirtual 70, 3) := by decide +kernel
theorem dX10_more_14 : decode cX10_more 14 = .ok (.isub, 1) := by decide +kernel
theorem dX10_more_15 : decode cX10_more 15 = .ok (.ireturn, 1) := by decide +kernel
theorem dX10_more_16 : decode cX10_more 16 = .ok (.aload_n 0, 1) := by decide +kernel
theorem dX10_more_17 : decode cX10_more 17 = .ok (.iload_n 1, 1) := by decide +kernel
theorem dX10_more_18 : decode cX10_more 18 = .ok (.invokevirtual 194, 3) := by decide +kernel
theorem dX10_more_21 : decode cX10_more 21 = .ok (.aload_n 0, 1) := by decide +kernel
theorem dX10_more_22 : decode cX10_more 22 = .ok (.getfield 38, 3) := by decide +kernel
theorem dX10_more_25 : decode cX10_more 25 = .ok (.aload_n 0, 1) := by decide +kernel
theorem dX10_more_26 : decode cX10_more 26 = .ok (.getfield 14, 3) := by decide +kernel
theorem dX10_more_29 : decode cX10_more 29 = .ok (.iload_n 1, 1) := by decide +kernel
theorem dX10_more_30 : decode cX10_more 30 = .ok (.aload_n 0, 1) := by decide +kernel
theorem dX10_more_31 : decode cX10_more 31 = .ok (.getfield 14, 3) := by decide +kernel
theorem dX10_more_34 : decode cX10_more 34 = .ok (.invokevirtual 152, 3) := by decide +kernel
theorem dX10_more_37 : decode cX10_more 37 = .ok (.invokevirtual 156, 3) := by decide +kernel
theorem dX10_more_40 : decode cX10_more 40 = .ok (.i2l, 1) := by decide +kernel
theorem dX10_more_41 : decode cX10_more 41 = .ok (.lstore_n 2, 1) := by decide +kernel
theorem dX10_more_42 : decode cX10_more 42 = .ok (.lload_n 2, 1) := by decide +kernel
theorem dX10_more_43 : decode cX10_more 43 = .ok (.aload_n 0, 1) := by decide +kernel
theorem dX10_more_44 : decode cX10_more 44 = .ok (.getfield 45, 3) := by decide +kernel
theorem dX10_more_47 : decode cX10_more 47 = .ok (.getfield 201, 3) := by decide +kernel
theorem dX10_more_50 : decode cX10_more 50 = .ok (.lmul, 1) := by decide +kernel
theorem dX10_more_51 : decode cX10_more 51 = .ok (.aload_n 0, 1) := by decide +kernel
theorem dX10_more_52 : decode cX10_more 52 = .ok (.getfield 45, 3) := by decide +kernel
theorem dX10_more_55 : decode cX10_more 55 = .ok (.getfield 197, 3) := by decide +kernel
theorem dX10_more_58 : decode cX10_more 58 = .ok (.invokestatic 205, 3) := by decide +kernel
theorem dX10_more_61 : decode cX10_more 61 = .ok (.ireturn, 1) := by decide +kernel
theorem dX10_chains_0 : decode cX10_chains 0 = .ok (.iload_n 2, 1) := by decide +kernel
theorem dX10_chains_1 : decode cX10_chains 1 = .ok (.ifCond .eq 15, 3) := by decide +kernel
theorem dX10_chains_4 : decode cX10_chains 4 = .ok (.iload_n 2, 1) := by decide +kernel
theorem dX10_chains_5 : decode cX10_chains 5 = .ok (.iconst 1, 1) := by decide +kernel
theorem dX10_chains_6 : decode cX10_chains 6 = .ok (.if_icmp .eq 10, 3) := by decide +kernel
theorem dX10_chains_9 : decode cX10_chains 9 = .ok (.aload_n 0, 1) := by decide +kernel
theorem dX10_chains_10 : decode cX10_chains 10 = .ok (.bipush (-2), 2) := by decide +kernel
theorem dX10_chains_12 : decode cX10_chains 12 = .ok (.invokevirtual 70, 3) := by decide +kernel
theorem dX10_chains_15 : decode cX10_chains 15 = .ok (.ireturn, 1) := by decide +kernel
theorem dX10_chains_16 : decode cX10_chains 16 = .ok (.iload_n 1, 1) := by decide +kernel
theorem dX10_chains_17 : decode cX10_chains 17 = .ok (.ifCond .ge 10, 3) := by decide +kernel
theorem dX10_chains_20 : decode cX10_chains 20 = .ok (.aload_n 0, 1) := by decide +kernel
theorem dX10_chains_21 : decode cX10_chains 21 = .ok (.bipush (-4), 2) := by decide +kernel
theorem dX10_chains_23 : decode cX10_chains 23 = .ok (.invokevirtual 70, 3) := by decide +kernel
theorem dX10_chains_26 : decode cX10_chains 26 = .ok (.ireturn, 1) := by decide +kernel
theorem dX10_chains_27 : decode cX10_chains 27 = .ok (.iload_n 1, 1) := by decide +kernel
theorem dX10_chains_28 : decode cX10_chains 28 = .ok (.sipush 1000, 3) := by decide +kernel
theorem dX10_chains_31 : decode cX10_chains 31 = .ok (.if_icmp .le 10, 3) := by decide +kernel
theorem dX10_chains_34 : decode cX10_chains 34 = .ok (.aload_n 0, 1) := by decide +kernel
theorem dX10_chains_35 : decode cX10_chains 35 = .ok (.bipush (-6), 2) := by decide +kernel
theorem dX10_chains_37 : decode cX10_chains 37 = .ok (.invokevirtual 70, 3) := by decide +kernel
theorem dX10_chains_40 : decode cX10_chains 40 = .ok (.ireturn, 1) := by decide +kernel
theorem dX10_chains_41 : decode cX10_chains 41 = .ok (.iload_n 2, 1) := by decide +kernel
theorem dX10_chains_42 : decode cX10_chains 42 = .ok (.ifCond .ne 14, 3) := by decide +kernel
theorem dX10_chains_45 : decode cX10_chains 45 = .ok (.aload_n 0, 1) := by decide +kernel
theorem dX10_chains_46 : decode cX10_chains 46 = .ok (.getfield 14, 3) := by decide +kernel
theorem dX10_chains_49 : decode cX10_chains 49 = .ok (.iload_n 1, 1) := by decide +kernel
theorem dX10_chains_50 : decode cX10_chains 50 = .ok (.invokestatic 211, 3) := by decide +kernel
theorem dX10_chains_53 : decode cX10_chains 53 = .ok (.goto 11, 3) := by decide +kernel
theorem dX10_chains_56 : decode cX10_chains 56 = .ok (.aload_n 0, 1) := by decide +kernel
theorem dX10_chains_57 : decode cX10_chains 57 = .ok (.getfield 14, 3) := by decide +kernel
theorem dX10_chains_60 : decode cX10_chains 60 = .ok (.iload_n 1, 1) := by decide +kernel
theorem dX10_chains_61 : decode cX10_chains 61 = .ok (.invokestatic 216, 3) := by decide +kernel
theorem dX10_chains_64 : decode cX10_chains 64 = .ok (.ireturn, 1) := by decide +kernel
theorem dX10_burst_0 : decode cX10_burst 0 = .ok (.aload_n 0, 1) := by decide +kernel
theorem dX10_burst_1 : decode cX10_burst 1 = .ok (.iload_n 1, 1) := by decide +kernel
theorem dX10_burst_2 : decode cX10_burst 2 = .ok (.invokevirtual 160, 3) := by decide +kernel
theorem dX10_burst_5 : decode cX10_burst 5 = .ok (.ifCond .ne 9, 3) := by decide +kernel
theorem dX10_burst_8 : decode cX10_burst 8 = .ok (.aload_n 0, 1) := by decide +kernel
theorem dX10_burst_9 : decode cX10_burst 9 = .ok (.iconst (-1), 1) := by decide +kernel
theorem dX10_burst_10 : decode cX10_burst 10 = .ok (.invokevirtual 70, 3) := by decide +kernel
theorem dX10_burst_13 : decode cX10_burst 13 = .ok (.ireturn, 1) := by decide +kernel
theorem dX10_burst_14 : decode cX10_burst 14 = .ok (.iload_n 2, 1) := by decide +kernel
theorem dX10_burst_15 : decode cX10_burst 15 = .ok (.ifCond .ge 10, 3) := by decide +kernel
theorem dX10_burst_18 : decode cX10_burst 18 = .ok (.aload_n 0, 1) := by decide +kernel
theorem dX10_burst_19 : decode cX10_burst 19 = .ok (.bipush (-4), 2) := by decide +kernel
theorem dX10_burst_21 : decode cX10_burst 21 = .ok (.invokevirtual 70, 3) := by decide +kernel
theorem dX10_burst_24 : decode cX10_burst 24 = .ok (.ireturn, 1) := by decide +kernel
theorem dX10_burst_25 : decode cX10_burst 25 = .ok (.iload_n 2, 1) := by decide +kernel
theorem dX10_burst_26 : decode cX10_burst 26 = .ok (.sipush 1000, 3) := by decide +kernel
theorem dX10_burst_29 : decode cX10_burst 29 = .ok (.if_icmp .le 10, 3) := by decide +kernel
theorem dX10_burst_32 : decode cX10_burst 32 = .ok (.aload_n 0, 1) := by decide +kernel
theorem dX10_burst_33 : decode cX10_burst 33 = .ok (.bipush (-6), 2) := by decide +kernel
theorem dX10_burst_35 : decode cX10_burst 35 = .ok (.invokevirtual 70, 3) := by decide +kernel
theorem dX10_burst_38 : decode cX10_burst 38 = .ok (.ireturn, 1) := by decide +kernel
theorem dX10_burst_39 : decode cX10_burst 39 = .ok (.aload_n 0, 1) := by decide +kernel
theorem dX10_burst_40 : decode cX10_burst 40 = .ok (.getfield 14, 3) := by decide +kernel
theorem dX10_burst_43 : decode cX10_burst 43 = .ok (.iload_n 1, 1) := by decide +kernel
theorem dX10_burst_44 : decode cX10_burst 44 = .ok (.iload_n 2, 1) := by decide +kernel
theorem dX10_burst_45 : decode cX10_burst 45 = .ok (.invokestatic 219, 3) := by decide +kernel
theorem dX10_burst_48 : decode cX10_burst 48 = .ok (.ireturn, 1) := by decide +kernel
theorem dX10_signs_0 : decode cX10_signs 0 = .ok (.iload_n 1, 1) := by decide +kernel
theorem dX10_signs_1 : decode cX10_signs 1 = .ok (.ifCond .eq 15, 3) := by decide +kernel
theorem dX10_signs_4 : decode cX10_signs 4 = .ok (.iload_n 1, 1) := by decide +kernel
theorem dX10_signs_5 : decode cX10_signs 5 = .ok (.iconst 1, 1) := by decide +kernel
theorem dX10_signs_6 : decode cX10_signs 6 = .ok (.if_icmp .eq 10, 3) := by decide +kernel
theorem dX10_signs_9 : decode cX10_signs 9 = .ok (.aload_n 0, 1) := by decide +kernel
theorem dX10_signs_10 : decode cX10_signs 10 = .ok (.bipush (-2), 2) := by decide +kernel
theorem dX10_signs_12 : decode cX10_signs 12 = .ok (.invokevirtual 70, 3) := by decide +kernel
theorem dX10_signs_15 : decode cX10_signs 15 = .ok (.ireturn, 1) := by decide +kernel
theorem dX10_signs_16 : decode cX10_signs 16 = .ok (.aload_n 0, 1) := by decide +kernel
theorem dX10_signs_17 : decode cX10_signs 17 = .ok (.getfield 14, 3) := by decide +kernel
theorem dX10_signs_20 : decode cX10_signs 20 = .ok (.iload_n 1, 1) := by decide +kernel
theorem dX10_signs_21 : decode cX10_signs 21 = .ok (.iconst 1, 1) := by decide +kernel
theorem dX10_signs_22 : decode cX10_signs 22 = .ok (.if_icmp .ne 7, 3) := by decide +kernel
theorem dX10_signs_25 : decode cX10_signs 25 = .ok (.iconst 1, 1) := by decide +kernel
theorem dX10_signs_26 : decode cX10_signs 26 = .ok (.goto 4, 3) := by decide +kernel
theorem dX10_signs_29 : decode cX10_signs 29 = .ok (.iconst 0, 1) := by decide +kernel
theorem dX10_signs_30 : decode cX10_signs 30 = .ok (.invokestatic 222, 3) := by decide +kernel
theorem dX10_signs_33 : decode cX10_signs 33 = .ok (.ireturn, 1) := by decide +kernel
theorem dX10_sides_0 : decode cX10_sides 0 = .ok (.iload_n 1, 1) := by decide +kernel
theorem dX10_sides_1 : decode cX10_sides 1 = .ok (.ifCond .eq 15, 3) := by decide +kernel
theorem dX10_sides_4 : decode cX10_sides 4 = .ok (.iload_n 1, 1) := by decide +kernel
theorem dX10_sides_5 : decode cX10_sides 5 = .ok (.iconst 1, 1) := by decide +kernel
theorem dX10_sides_6 : decode cX10_sides 6 = .ok (.if_icmp .eq 10, 3) := by decide +kernel
theorem dX10_sides_9 : decode cX10_sides 9 = .ok (.aload_n 0, 1) := by decide +kernel
theorem dX10_sides_10 : decode cX10_sides 10 = .ok (.bipush (-2), 2) := by decide +kernel
theorem dX10_sides_12 : decode cX10_sides 12 = .ok (.invokevirtual 70, 3) := by decide +kernel
theorem dX10_sides_15 : decode cX10_sides 15 = .ok (.ireturn, 1) := by decide +kernel
theorem dX10_sides_16 : decode cX10_sides 16 = .ok (.aload_n 0, 1) := by decide +kernel
theorem dX10_sides_17 : decode cX10_sides 17 = .ok (.getfield 59, 3) := by decide +kernel
theorem dX10_sides_20 : decode cX10_sides 20 = .ok (.aload_n 0, 1) := by decide +kernel
theorem dX10_sides_21 : decode cX10_sides 21 = .ok (.getfield 14, 3) := by decide +kernel
theorem dX10_sides_24 : decode cX10_sides 24 = .ok (.invokevirtual 228, 3) := by decide +kernel
theorem dX10_sides_27 : decode cX10_sides 27 = .ok (.iload_n 1, 1) := by decide +kernel
theorem dX10_sides_28 : decode cX10_sides 28 = .ok (.ifCond .ne 13, 3) := by decide +kernel
theorem dX10_sides_31 : decode cX10_sides 31 = .ok (.aload_n 0, 1) := by decide +kernel
theorem dX10_sides_32 : decode cX10_sides 32 = .ok (.getfield 59, 3) := by decide +kernel
theorem dX10_sides_35 : decode cX10_sides 35 = .ok (.getfield 231, 3) := by decide +kernel
theorem dX10_sides_38 : decode cX10_sides 38 = .ok (.goto 10, 3) := by decide +kernel
theorem dX10_sides_41 : decode cX10_sides 41 = .ok (.aload_n 0, 1) := by decide +kernel
theorem dX10_sides_42 : decode cX10_sides 42 = .ok (.getfield 59, 3) := by decide +kernel
theorem dX10_sides_45 : decode cX10_sides 45 = .ok (.getfield 234, 3) := by decide +kernel
theorem dX10_sides_48 : decode cX10_sides 48 = .ok (.ireturn, 1) := by decide +kernel
theorem dX10_walks_0 : decode cX10_walks 0 = .ok (.aload_n 0, 1) := by decide +kernel
theorem dX10_walks_1 : decode cX10_walks 1 = .ok (.iload_n 1, 1) := by decide +kernel
theorem dX10_walks_2 : decode cX10_walks 2 = .ok (.invokevirtual 160, 3) := by decide +kernel
theorem dX10_walks_5 : decode cX10_walks 5 = .ok (.ifCond .eq 11, 3) := by decide +kernel
theorem dX10_walks_8 : decode cX10_walks 8 = .ok (.aload_n 0, 1) := by decide +kernel
theorem dX10_walks_9 : decode cX10_walks 9 = .ok (.iload_n 2, 1) := by decide +kernel
theorem dX10_walks_10 : decode cX10_walks 10 = .ok (.invokevirtual 160, 3) := by decide +kernel
theorem dX10_walks_13 : decode cX10_walks 13 = .ok (.ifCond .ne 9, 3) := by decide +kernel
theorem dX10_walks_16 : decode cX10_walks 16 = .ok (.aload_n 0, 1) := by decide +kernel
theorem dX10_walks_17 : decode cX10_walks 17 = .ok (.iconst (-1), 1) := by decide +kernel
theorem dX10_walks_18 : decode cX10_walks 18 = .ok (.invokevirtual 70, 3) := by decide +kernel
theorem dX10_walks_21 : decode cX10_walks 21 = .ok (.ireturn, 1) := by decide +kernel
theorem dX10_walks_22 : decode cX10_walks 22 = .ok (.iload_n 3, 1) := by decide +kernel
theorem dX10_walks_23 : decode cX10_walks 23 = .ok (.ifCond .ge 10, 3) := by decide +kernel
theorem dX10_walks_26 : decode cX10_walks 26 = .ok (.aload_n 0, 1) := by decide +kernel
theorem dX10_walks_27 : decode cX10_walks 27 = .ok (.bipush (-4), 2) := by decide +kernel
theorem dX10_walks_29 : decode cX10_walks 29 = .ok (.invokevirtual 70, 3) := by decide +kernel
theorem dX10_walks_32 : decode cX10_walks 32 = .ok (.ireturn, 1) := by decide +kernel
theorem dX10_walks_33 : decode cX10_walks 33 = .ok (.iload_n 3, 1) := by decide +kernel
theorem dX10_walks_34 : decode cX10_walks 34 = .ok (.bipush 60, 2) := by decide +kernel
theorem dX10_walks_36 : decode cX10_walks 36 = .ok (.if_icmp .le 10, 3) := by decide +kernel
theorem dX10_walks_39 : decode cX10_walks 39 = .ok (.aload_n 0, 1) := by decide +kernel
theorem dX10_walks_40 : decode cX10_walks 40 = .ok (.bipush (-6), 2) := by decide +kernel
theorem dX10_walks_42 : decode cX10_walks 42 = .ok (.invokevirtual 70, 3) := by decide +kernel
theorem dX10_walks_45 : decode cX10_walks 45 = .ok (.ireturn, 1) := by decide +kernel
theorem dX10_walks_46 : decode cX10_walks 46 = .ok (.aload_n 0, 1) := by decide +kernel
theorem dX10_walks_47 : decode cX10_walks 47 = .ok (.getfield 66, 3) := by decide +kernel
theorem dX10_walks_50 : decode cX10_walks 50 = .ok (.aload_n 0, 1) := by decide +kernel
theorem dX10_walks_51 : decode cX10_walks 51 = .ok (.getfield 14, 3) := by decide +kernel
theorem dX10_walks_54 : decode cX10_walks 54 = .ok (.iload_n 1, 1) := by decide +kernel
theorem dX10_walks_55 : decode cX10_walks 55 = .ok (.iload_n 3, 1) := by decide +kernel
theorem dX10_walks_56 : decode cX10_walks 56 = .ok (.invokevirtual 237, 3) := by decide +kernel
theorem dX10_walks_59 : decode cX10_walks 59 = .ok (.iload 4, 2) := by decide +kernel
theorem dX10_walks_61 : decode cX10_walks 61 = .ok (.ifCond .lt 16, 3) := by decide +kernel
theorem dX10_walks_64 : decode cX10_walks 64 = .ok (.iload 4, 2) := by decide +kernel
theorem dX10_walks_66 : decode cX10_walks 66 = .ok (.aload_n 0, 1) := by decide +kernel
theorem dX10_walks_67 : decode cX10_walks 67 = .ok (.getfield 66, 3) := by decide +kernel
theorem dX10_walks_70 : decode cX10_walks 70 = .ok (.iload_n 2, 1) := by decide +kernel
theorem dX10_walks_71 : decode cX10_walks 71 = .ok (.invokevirtual 241, 3) := by decide +kernel
theorem dX10_walks_74 : decode cX10_walks 74 = .ok (.if_icmp .lt 6, 3) := by decide +kernel
theorem dX10_walks_77 : decode cX10_walks 77 = .ok (.bipush (-9), 2) := by decide +kernel
theorem dX10_walks_79 : decode cX10_walks 79 = .ok (.ireturn, 1) := by decide +kernel
theorem dX10_walks_80 : decode cX10_walks 80 = .ok (.aload_n 0, 1) := by decide +kernel
theorem dX10_walks_81 : decode cX10_walks 81 = .ok (.getfield 66, 3) := by decide +kernel
theorem dX10_walks_84 : decode cX10_walks 84 = .ok (.iload_n 2, 1) := by decide +kernel
theorem dX10_walks_85 : decode cX10_walks 85 = .ok (.iload 4, 2) := by decide +kernel
theorem dX10_walks_87 : decode cX10_walks 87 = .ok (.invokevirtual 244, 3) := by decide +kernel
theorem dX10_walks_90 : decode cX10_walks 90 = .ok (.ireturn, 1) := by decide +kernel
theorem dX10_sample_0 : decode cX10_sample 0 = .ok (.iload_n 2, 1) := by decide +kernel
theorem dX10_sample_1 : decode cX10_sample 1 = .ok (.invokestatic 134, 3) := by decide +kernel
theorem dX10_sample_4 : decode cX10_sample 4 = .ok (.ifCond .eq 17, 3) := by decide +kernel
theorem dX10_sample_7 : decode cX10_sample 7 = .ok (.iload_n 1, 1) := by decide +kernel
theorem dX10_sample_8 : decode cX10_sample 8 = .ok (.aload_n 0, 1) := by decide +kernel
theorem dX10_sample_9 : decode cX10_sample 9 = .ok (.getfield 14, 3) := by decide +kernel
theorem dX10_sample_12 : decode cX10_sample 12 = .ok (.invokevirtual 152, 3) := by decide +kernel
theorem dX10_sample_15 : decode cX10_sample 15 = .ok (.iconst (-1), 1) := by decide +kernel
theorem dX10_sample_16 : decode cX10_sample 16 = .ok (.ixor, 1) := by decide +kernel
theorem dX10_sample_17 : decode cX10_sample 17 = .ok (.iand, 1) := by decide +kernel
theorem dX10_sample_18 : decode cX10_sample 18 = .ok (.ifCond .eq 9, 3) := by decide +kernel
theorem dX10_sample_21 : decode cX10_sample 21 = .ok (.aload_n 0, 1) := by decide +kernel
theorem dX10_sample_22 : decode cX10_sample 22 = .ok (.iconst (-1), 1) := by decide +kernel
theorem dX10_sample_23 : decode cX10_sample 23 = .ok (.invokevirtual 70, 3) := by decide +kernel
theorem dX10_sample_26 : decode cX10_sample 26 = .ok (.ireturn, 1) := by decide +kernel
theorem dX10_sample_27 : decode cX10_sample 27 = .ok (.iload_n 1, 1) := by decide +kernel
theorem dX10_sample_28 : decode cX10_sample 28 = .ok (.invokestatic 247, 3) := by decide +kernel
theorem dX10_sample_31 : decode cX10_sample 31 = .ok (.istore 4, 2) := by decide +kernel
theorem dX10_sample_33 : decode cX10_sample 33 = .ok (.iload 4, 2) := by decide +kernel
theorem dX10_sample_35 : decode cX10_sample 35 = .ok (.iconst 3, 1) := by decide +kernel
theorem dX10_sample_36 : decode cX10_sample 36 = .ok (.if_icmp .ge 10, 3) := by decide +kernel
theorem dX10_sample_39 : decode cX10_sample 39 = .ok (.aload_n 0, 1) := by decide +kernel
theorem dX10_sample_40 : decode cX10_sample 40 = .ok (.bipush (-3), 2) := by decide +kernel
theorem dX10_sample_42 : decode cX10_sample 42 = .ok (.invokevirtual 70, 3) := by decide +kernel
theorem dX10_sample_45 : decode cX10_sample 45 = .ok (.ireturn, 1) := by decide +kernel
theorem dX10_sample_46 : decode cX10_sample 46 = .ok (.iload_n 3, 1) := by decide +kernel
theorem dX10_sample_47 : decode cX10_sample 47 = .ok (.ifCond .eq 15, 3) := by decide +kernel
theorem dX10_sample_50 : decode cX10_sample 50 = .ok (.iload_n 3, 1) := by decide +kernel
theorem dX10_sample_51 : decode cX10_sample 51 = .ok (.iconst 1, 1) := by decide +kernel
theorem dX10_sample_52 : decode cX10_sample 52 = .ok (.if_icmp .eq 10, 3) := by decide +kernel
theorem dX10_sample_55 : decode cX10_sample 55 = .ok (.aload_n 0, 1) := by decide +kernel
theorem dX10_sample_56 : decode cX10_sample 56 = .ok (.bipush (-2), 2) := by decide +kernel
theorem dX10_sample_58 : decode cX10_sample 58 = .ok (.invokevirtual 70, 3) := by decide +kernel
theorem dX10_sample_61 : decode cX10_sample 61 = .ok (.ireturn, 1) := by decide +kernel
theorem dX10_sample_62 : decode cX10_sample 62 = .ok (.aload_n 0, 1) := by decide +kernel
theorem dX10_sample_63 : decode cX10_sample 63 = .ok (.getfield 38, 3) := by decide +kernel
theorem dX10_sample_66 : decode cX10_sample 66 = .ok (.aload_n 0, 1) := by decide +kernel
theorem dX10_sample_67 : decode cX10_sample 67 = .ok (.getfield 14, 3) := by decide +kernel
theorem dX10_sample_70 : decode cX10_sample 70 = .ok (.iload_n 2, 1) := by decide +kernel
theorem dX10_sample_71 : decode cX10_sample 71 = .ok (.iload_n 1, 1) := by decide +kernel
theorem dX10_sample_72 : decode cX10_sample 72 = .ok (.invokevirtual 156, 3) := by decide +kernel
theorem dX10_sample_75 : decode cX10_sample 75 = .ok (.i2l, 1) := by decide +kernel
theorem dX10_sample_76 : decode cX10_sample 76 = .ok (.lstore 5, 2) := by decide +kernel
theorem dX10_sample_78 : decode cX10_sample 78 = .ok (.aload_n 0, 1) := by decide +kernel
theorem dX10_sample_79 : decode cX10_sample 79 = .ok (.getfield 45, 3) := by decide +kernel
theorem dX10_sample_82 : decode cX10_sample 82 = .ok (.lload 5, 2) := by decide +kernel
theorem dX10_sample_84 : decode cX10_sample 84 = .ok (.aload_n 0, 1) := by decide +kernel
theorem dX10_sample_85 : decode cX10_sample 85 = .ok (.getfield 14, 3) := by decide +kernel
theorem dX10_sample_88 : decode cX10_sample 88 = .ok (.getfield 74, 3) := by decide +kernel
theorem dX10_sample_91 : decode cX10_sample 91 = .ok (.invokestatic 252, 3) := by decide +kernel
theorem dX10_sample_94 : decode cX10_sample 94 = .ok (.lmul, 1) := by decide +kernel
theorem dX10_sample_95 : decode cX10_sample 95 = .ok (.iload 4, 2) := by decide +kernel
theorem dX10_sample_97 : decode cX10_sample 97 = .ok (.invokestatic 252, 3) := by decide +kernel
theorem dX10_sample_100 : decode cX10_sample 100 = .ok (.invokevirtual 256, 3) := by decide +kernel
theorem dX10_sample_103 : decode cX10_sample 103 = .ok (.iload_n 3, 1) := by decide +kernel
theorem dX10_sample_104 : decode cX10_sample 104 = .ok (.ifCond .ne 13, 3) := by decide +kernel
theorem dX10_sample_107 : decode cX10_sample 107 = .ok (.aload_n 0, 1) := by decide +kernel
theorem dX10_sample_108 : decode cX10_sample 108 = .ok (.getfield 45, 3) := by decide +kernel
theorem dX10_sample_111 : decode cX10_sample 111 = .ok (.getfield 197, 3) := by decide +kernel
theorem dX10_sample_114 : decode cX10_sample 114 = .ok (.goto 10, 3) := by decide +kernel
theorem dX10_sample_117 : decode cX10_sample 117 = .ok (.aload_n 0, 1) := by decide +kernel
theorem dX10_sample_118 : decode cX10_sample 118 = .ok (.getfield 45, 3) := by decide +kernel
theorem dX10_sample_121 : decode cX10_sample 121 = .ok (.getfield 201, 3) := by decide +kernel
theorem dX10_sample_124 : decode cX10_sample 124 = .ok (.l2i, 1) := by decide +kernel
theorem dX10_sample_125 : decode cX10_sample 125 = .ok (.ireturn, 1) := by decide +kernel
theorem dX10_keep_0 : decode cX10_keep 0 = .ok (.iload_n 1, 1) := by decide +kernel
theorem dX10_keep_1 : decode cX10_keep 1 = .ok (.invokestatic 260, 3) := by decide +kernel
theorem dX10_keep_4 : decode cX10_keep 4 = .ok (.ifCond .ne 9, 3) := by decide +kernel
theorem dX10_keep_7 : decode cX10_keep 7 = .ok (.aload_n 0, 1) := by decide +kernel
theorem dX10_keep_8 : decode cX10_keep 8 = .ok (.iconst (-1), 1) := by decide +kernel
theorem dX10_keep_9 : decode cX10_keep 9 = .ok (.invokevirtual 70, 3) := by decide +kernel
theorem dX10_keep_12 : decode cX10_keep 12 = .ok (.ireturn, 1) := by decide +kernel
theorem dX10_keep_13 : decode cX10_keep 13 = .ok (.aload_n 0, 1) := by decide +kernel
theorem dX10_keep_14 : decode cX10_keep 14 = .ok (.getfield 18, 3) := by decide +kernel
theorem dX10_keep_17 : decode cX10_keep 17 = .ok (.iload_n 1, 1) := by decide +kernel
theorem dX10_keep_18 : decode cX10_keep 18 = .ok (.aaload, 1) := by decide +kernel
theorem dX10_keep_19 : decode cX10_keep 19 = .ok (.aload_n 0, 1) := by decide +kernel
theorem dX10_keep_20 : decode cX10_keep 20 = .ok (.getfield 14, 3) := by decide +kernel
theorem dX10_keep_23 : decode cX10_keep 23 = .ok (.invokevirtual 263, 3) := by decide +kernel
theorem dX10_keep_26 : decode cX10_keep 26 = .ok (.aload_n 0, 1) := by decide +kernel
theorem dX10_keep_27 : decode cX10_keep 27 = .ok (.getfield 22, 3) := by decide +kernel
theorem dX10_keep_30 : decode cX10_keep 30 = .ok (.iload_n 1, 1) := by decide +kernel
theorem dX10_keep_31 : decode cX10_keep 31 = .ok (.iconst 1, 1) := by decide +kernel
theorem dX10_keep_32 : decode cX10_keep 32 = .ok (.bastore, 1) := by decide +kernel
theorem dX10_keep_33 : decode cX10_keep 33 = .ok (.aload_n 0, 1) := by decide +kernel
theorem dX10_keep_34 : decode cX10_keep 34 = .ok (.getfield 14, 3) := by decide +kernel
theorem dX10_keep_37 : decode cX10_keep 37 = .ok (.invokevirtual 189, 3) := by decide +kernel
theorem dX10_keep_40 : decode cX10_keep 40 = .ok (.ireturn, 1) := by decide +kernel
theorem dX10_take_0 : decode cX10_take 0 = .ok (.iload_n 1, 1) := by decide +kernel
theorem dX10_take_1 : decode cX10_take 1 = .ok (.invokestatic 260, 3) := by decide +kernel
theorem dX10_take_4 : decode cX10_take 4 = .ok (.ifCond .ne 9, 3) := by decide +kernel
theorem dX10_take_7 : decode cX10_take 7 = .ok (.aload_n 0, 1) := by decide +kernel
theorem dX10_take_8 : decode cX10_take 8 = .ok (.iconst (-1), 1) := by decide +kernel
theorem dX10_take_9 : decode cX10_take 9 = .ok (.invokevirtual 70, 3) := by decide +kernel
theorem dX10_take_12 : decode cX10_take 12 = .ok (.ireturn, 1) := by decide +kernel
theorem dX10_take_13 : decode cX10_take 13 = .ok (.aload_n 0, 1) := by decide +kernel
theorem dX10_take_14 : decode cX10_take 14 = .ok (.getfield 22, 3) := by decide +kernel
theorem dX10_take_17 : decode cX10_take 17 = .ok (.iload_n 1, 1) := by decide +kernel
theorem dX10_take_18 : decode cX10_take 18 = .ok (.baload, 1) := by decide +kernel
theorem dX10_take_19 : decode cX10_take 19 = .ok (.ifCond .ne 10, 3) := by decide +kernel
theorem dX10_take_22 : decode cX10_take 22 = .ok (.aload_n 0, 1) := by decide +kernel
theorem dX10_take_23 : decode cX10_take 23 = .ok (.bipush (-5), 2) := by decide +kernel
theorem dX10_take_25 : decode cX10_take 25 = .ok (.invokevirtual 70, 3) := by decide +kernel
theorem dX10_take_28 : decode cX10_take 28 = .ok (.ireturn, 1) := by decide +kernel
theorem dX10_take_29 : decode cX10_take 29 = .ok (.aload_n 0, 1) := by decide +kernel
theorem dX10_take_30 : decode cX10_take 30 = .ok (.getfield 14, 3) := by decide +kernel
theorem dX10_take_33 : decode cX10_take 33 = .ok (.aload_n 0, 1) := by decide +kernel
theorem dX10_take_34 : decode cX10_take 34 = .ok (.getfield 18, 3) := by decide +kernel
theorem dX10_take_37 : decode cX10_take 37 = .ok (.iload_n 1, 1) := by decide +kernel
theorem dX10_take_38 : decode cX10_take 38 = .ok (.aaload, 1) := by decide +kernel
theorem dX10_take_39 : decode cX10_take 39 = .ok (.invokevirtual 263, 3) := by decide +kernel
theorem dX10_take_42 : decode cX10_take 42 = .ok (.aload_n 0, 1) := by decide +kernel
theorem dX10_take_43 : decode cX10_take 43 = .ok (.getfield 14, 3) := by decide +kernel
theorem dX10_take_46 : decode cX10_take 46 = .ok (.invokevirtual 189, 3) := by decide +kernel
theorem dX10_take_49 : decode cX10_take 49 = .ok (.ireturn, 1) := by decide +kernel
theorem dX10_lose_0 : decode cX10_lose 0 = .ok (.iload_n 1, 1) := by decide +kernel
theorem dX10_lose_1 : decode cX10_lose 1 = .ok (.invokestatic 260, 3) := by decide +kernel
theorem dX10_lose_4 : decode cX10_lose 4 = .ok (.ifCond .ne 9, 3) := by decide +kernel
theorem dX10_lose_7 : decode cX10_lose 7 = .ok (.aload_n 0, 1) := by decide +kernel
theorem dX10_lose_8 : decode cX10_lose 8 = .ok (.iconst (-1), 1) := by decide +kernel
theorem dX10_lose_9 : decode cX10_lose 9 = .ok (.invokevirtual 70, 3) := by decide +kernel
theorem dX10_lose_12 : decode cX10_lose 12 = .ok (.ireturn, 1) := by decide +kernel
theorem dX10_lose_13 : decode cX10_lose 13 = .ok (.aload_n 0, 1) := by decide +kernel
theorem dX10_lose_14 : decode cX10_lose 14 = .ok (.getfield 22, 3) := by decide +kernel
theorem dX10_lose_17 : decode cX10_lose 17 = .ok (.iload_n 1, 1) := by decide +kernel
theorem dX10_lose_18 : decode cX10_lose 18 = .ok (.baload, 1) := by decide +kernel
theorem dX10_lose_19 : decode cX10_lose 19 = .ok (.ifCond .ne 10, 3) := by decide +kernel
theorem dX10_lose_22 : decode cX10_lose 22 = .ok (.aload_n 0, 1) := by decide +kernel
theorem dX10_lose_23 : decode cX10_lose 23 = .ok (.bipush (-5), 2) := by decide +kernel
theorem dX10_lose_25 : decode cX10_lose 25 = .ok (.invokevirtual 70, 3) := by decide +kernel
theorem dX10_lose_28 : decode cX10_lose 28 = .ok (.ireturn, 1) := by decide +kernel
theorem dX10_lose_29 : decode cX10_lose 29 = .ok (.aload_n 0, 1) := by decide +kernel
theorem dX10_lose_30 : decode cX10_lose 30 = .ok (.getfield 22, 3) := by decide +kernel
theorem dX10_lose_33 : decode cX10_lose 33 = .ok (.iload_n 1, 1) := by decide +kernel
theorem dX10_lose_34 : decode cX10_lose 34 = .ok (.iconst 0, 1) := by decide +kernel
theorem dX10_lose_35 : decode cX10_lose 35 = .ok (.bastore, 1) := by decide +kernel
theorem dX10_lose_36 : decode cX10_lose 36 = .ok (.iconst 1, 1) := by decide +kernel
theorem dX10_lose_37 : decode cX10_lose 37 = .ok (.ireturn, 1) := by decide +kernel
theorem dX10_far_0 : decode cX10_far 0 = .ok (.iload_n 1, 1) := by decide +kernel
theorem dX10_far_1 : decode cX10_far 1 = .ok (.invokestatic 260, 3) := by decide +kernel
theorem dX10_far_4 : decode cX10_far 4 = .ok (.ifCond .ne 9, 3) := by decide +kernel
theorem dX10_far_7 : decode cX10_far 7 = .ok (.aload_n 0, 1) := by decide +kernel
theorem dX10_far_8 : decode cX10_far 8 = .ok (.iconst (-1), 1) := by decide +kernel
theorem dX10_far_9 : decode cX10_far 9 = .ok (.invokevirtual 70, 3) := by decide +kernel
theorem dX10_far_12 : decode cX10_far 12 = .ok (.ireturn, 1) := by decide +kernel
theorem dX10_far_13 : decode cX10_far 13 = .ok (.aload_n 0, 1) := by decide +kernel
theorem dX10_far_14 : decode cX10_far 14 = .ok (.getfield 22, 3) := by decide +kernel
theorem dX10_far_17 : decode cX10_far 17 = .ok (.iload_n 1, 1) := by decide +kernel
theorem dX10_far_18 : decode cX10_far 18 = .ok (.baload, 1) := by decide +kernel
theorem dX10_far_19 : decode cX10_far 19 = .ok (.ifCond .ne 10, 3) := by decide +kernel
theorem dX10_far_22 : decode cX10_far 22 = .ok (.aload_n 0, 1) := by decide +kernel
theorem dX10_far_23 : decode cX10_far 23 = .ok (.bipush (-5), 2) := by decide +kernel
theorem dX10_far_25 : decode cX10_far 25 = .ok (.invokevirtual 70, 3) := by decide +kernel
theorem dX10_far_28 : decode cX10_far 28 = .ok (.ireturn, 1) := by decide +kernel
theorem dX10_far_29 : decode cX10_far 29 = .ok (.aload_n 0, 1) := by decide +kernel
theorem dX10_far_30 : decode cX10_far 30 = .ok (.getfield 38, 3) := by decide +kernel
theorem dX10_far_33 : decode cX10_far 33 = .ok (.aload_n 0, 1) := by decide +kernel
theorem dX10_far_34 : decode cX10_far 34 = .ok (.getfield 14, 3) := by decide +kernel
theorem dX10_far_37 : decode cX10_far 37 = .ok (.aload_n 0, 1) := by decide +kernel
theorem dX10_far_38 : decode cX10_far 38 = .ok (.getfield 18, 3) := by decide +kernel
theorem dX10_far_41 : decode cX10_far 41 = .ok (.iload_n 1, 1) := by decide +kernel
theorem dX10_far_42 : decode cX10_far 42 = .ok (.aaload, 1) := by decide +kernel
theorem dX10_far_43 : decode cX10_far 43 = .ok (.invokevirtual 266, 3) := by decide +kernel
theorem dX10_far_46 : decode cX10_far 46 = .ok (.ireturn, 1) := by decide +kernel
theorem dX10_status_0 : decode cX10_status 0 = .ok (.iload_n 1, 1) := by decide +kernel
theorem dX10_status_1 : decode cX10_status 1 = .ok (.tableswitch 105 0 6 #[43, 51, 59, 67, 75, 80, 93], 43) := by decide +kernel
theorem dX10_status_44 : decode cX10_status 44 = .ok (.aload_n 0, 1) := by decide +kernel
theorem dX10_status_45 : decode cX10_status 45 = .ok (.getfield 14, 3) := by decide +kernel
theorem dX10_status_48 : decode cX10_status 48 = .ok (.getfield 74, 3) := by decide +kernel
theorem dX10_status_51 : decode cX10_status 51 = .ok (.ireturn, 1) := by decide +kernel
theorem dX10_status_52 : decode cX10_status 52 = .ok (.aload_n 0, 1) := by decide +kernel
theorem dX10_status_53 : decode cX10_status 53 = .ok (.getfield 14, 3) := by decide +kernel
theorem dX10_status_56 : decode cX10_status 56 = .ok (.invokevirtual 189, 3) := by decide +kernel
theorem dX10_status_59 : decode cX10_status 59 = .ok (.ireturn, 1) := by decide +kernel
theorem dX10_status_60 : decode cX10_status 60 = .ok (.aload_n 0, 1) := by decide +kernel
theorem dX10_status_61 : decode cX10_status 61 = .ok (.getfield 14, 3) := by decide +kernel
theorem dX10_status_64 : decode cX10_status 64 = .ok (.invokevirtual 270, 3) := by decide +kernel
theorem dX10_status_67 : decode cX10_status 67 = .ok (.ireturn, 1) := by decide +kernel
theorem dX10_status_68 : decode cX10_status 68 = .ok (.aload_n 0, 1) := by decide +kernel
theorem dX10_status_69 : decode cX10_status 69 = .ok (.getfield 14, 3) := by decide +kernel
theorem dX10_status_72 : decode cX10_status 72 = .ok (.invokevirtual 273, 3) := by decide +kernel
theorem dX10_status_75 : decode cX10_status 75 = .ok (.ireturn, 1) := by decide +kernel
theorem dX10_status_76 : decode cX10_status 76 = .ok (.aload_n 0, 1) := by decide +kernel
theorem dX10_status_77 : decode cX10_status 77 = .ok (.invokevirtual 276, 3) := by decide +kernel
theorem dX10_status_80 : decode cX10_status 80 = .ok (.ireturn, 1) := by decide +kernel
theorem dX10_status_81 : decode cX10_status 81 = .ok (.aload_n 0, 1) := by decide +kernel
theorem dX10_status_82 : decode cX10_status 82 = .ok (.getfield 14, 3) := by decide +kernel
theorem dX10_status_85 : decode cX10_status 85 = .ok (.getfield 279, 3) := by decide +kernel
theorem dX10_status_88 : decode cX10_status 88 = .ok (.iconst 0, 1) := by decide +kernel
theorem dX10_status_89 : decode cX10_status 89 = .ok (.iaload, 1) := by decide +kernel
theorem dX10_status_90 : decode cX10_status 90 = .ok (.invokestatic 247, 3) := by decide +kernel
theorem dX10_status_93 : decode cX10_status 93 = .ok (.ireturn, 1) := by decide +kernel
theorem dX10_status_94 : decode cX10_status 94 = .ok (.aload_n 0, 1) := by decide +kernel
theorem dX10_status_95 : decode cX10_status 95 = .ok (.getfield 14, 3) := by decide +kernel
theorem dX10_status_98 : decode cX10_status 98 = .ok (.iconst 0, 1) := by decide +kernel
theorem dX10_status_99 : decode cX10_status 99 = .ok (.invokevirtual 282, 3) := by decide +kernel
theorem dX10_status_102 : decode cX10_status 102 = .ok (.invokestatic 247, 3) := by decide +kernel
theorem dX10_status_105 : decode cX10_status 105 = .ok (.ireturn, 1) := by decide +kernel
theorem dX10_status_106 : decode cX10_status 106 = .ok (.aload_n 0, 1) := by decide +kernel
theorem dX10_status_107 : decode cX10_status 107 = .ok (.iload_n 1, 1) := by decide +kernel
theorem dX10_status_108 : decode cX10_status 108 = .ok (.invokevirtual 285, 3) := by decide +kernel
theorem dX10_status_111 : decode cX10_status 111 = .ok (.ireturn, 1) := by decide +kernel
theorem dX10_refuse_0 : decode cX10_refuse 0 = .ok (.iconst (-1), 1) := by decide +kernel
theorem dX10_refuse_1 : decode cX10_refuse 1 = .ok (.iload_n 1, 1) := by decide +kernel
theorem dX10_refuse_2 : decode cX10_refuse 2 = .ok (.isub, 1) := by decide +kernel
theorem dX10_refuse_3 : decode cX10_refuse 3 = .ok (.istore_n 2, 1) := by decide +kernel
theorem dX10_refuse_4 : decode cX10_refuse 4 = .ok (.iload_n 2, 1) := by decide +kernel
theorem dX10_refuse_5 : decode cX10_refuse 5 = .ok (.ifCond .lt 19, 3) := by decide +kernel
theorem dX10_refuse_8 : decode cX10_refuse 8 = .ok (.iload_n 2, 1) := by decide +kernel
theorem dX10_refuse_9 : decode cX10_refuse 9 = .ok (.bipush 6, 2) := by decide +kernel
theorem dX10_refuse_11 : decode cX10_refuse 11 = .ok (.if_icmp .ge 13, 3) := by decide +kernel
theorem dX10_refuse_14 : decode cX10_refuse 14 = .ok (.aload_n 0, 1) := by decide +kernel
theorem dX10_refuse_15 : decode cX10_refuse 15 = .ok (.getfield 26, 3) := by decide +kernel
theorem dX10_refuse_18 : decode cX10_refuse 18 = .ok (.iload_n 2, 1) := by decide +kernel
theorem dX10_refuse_19 : decode cX10_refuse 19 = .ok (.dup2, 1) := by decide +kernel
theorem dX10_refuse_20 : decode cX10_refuse 20 = .ok (.iaload, 1) := by decide +kernel
theorem dX10_refuse_21 : decode cX10_refuse 21 = .ok (.iconst 1, 1) := by decide +kernel
theorem dX10_refuse_22 : decode cX10_refuse 22 = .ok (.iadd, 1) := by decide +kernel
theorem dX10_refuse_23 : decode cX10_refuse 23 = .ok (.iastore, 1) := by decide +kernel
theorem dX10_refuse_24 : decode cX10_refuse 24 = .ok (.iload_n 1, 1) := by decide +kernel
theorem dX10_refuse_25 : decode cX10_refuse 25 = .ok (.ireturn, 1) := by decide +kernel
theorem dX10_refusalCount_0 : decode cX10_refusalCount 0 = .ok (.iload_n 1, 1) := by decide +kernel
theorem dX10_refusalCount_1 : decode cX10_refusalCount 1 = .ok (.bipush 11, 2) := by decide +kernel
theorem dX10_refusalCount_3 : decode cX10_refusalCount 3 = .ok (.if_icmp .lt 9, 3) := by decide +kernel
theorem dX10_refusalCount_6 : decode cX10_refusalCount 6 = .ok (.iload_n 1, 1) := by decide +kernel
theorem dX10_refusalCount_7 : decode cX10_refusalCount 7 = .ok (.bipush 17, 2) := by decide +kernel
theorem dX10_refusalCount_9 : decode cX10_refusalCount 9 = .ok (.if_icmp .lt 6, 3) := by decide +kernel
theorem dX10_refusalCount_12 : decode cX10_refusalCount 12 = .ok (.bipush (-9), 2) := by decide +kernel
theorem dX10_refusalCount_14 : decode cX10_refusalCount 14 = .ok (.ireturn, 1) := by decide +kernel
theorem dX10_refusalCount_15 : decode cX10_refusalCount 15 = .ok (.aload_n 0, 1) := by decide +kernel
theorem dX10_refusalCount_16 : decode cX10_refusalCount 16 = .ok (.getfield 26, 3) := by decide +kernel
theorem dX10_refusalCount_19 : decode cX10_refusalCount 19 = .ok (.iload_n 1, 1) := by decide +kernel
theorem dX10_refusalCount_20 : decode cX10_refusalCount 20 = .ok (.bipush 11, 2) := by decide +kernel
theorem dX10_refusalCount_22 : decode cX10_refusalCount 22 = .ok (.isub, 1) := by decide +kernel
theorem dX10_refusalCount_23 : decode cX10_refusalCount 23 = .ok (.iaload, 1) := by decide +kernel
theorem dX10_refusalCount_24 : decode cX10_refusalCount 24 = .ok (.ireturn, 1) := by decide +kernel
theorem dX10_isPost_0 : decode cX10_isPost 0 = .ok (.iload_n 1, 1) := by decide +kernel
theorem dX10_isPost_1 : decode cX10_isPost 1 = .ok (.ifCond .lt 18, 3) := by decide +kernel
theorem dX10_isPost_4 : decode cX10_isPost 4 = .ok (.iload_n 1, 1) := by decide +kernel
theorem dX10_isPost_5 : decode cX10_isPost 5 = .ok (.aload_n 0, 1) := by decide +kernel
theorem dX10_isPost_6 : decode cX10_isPost 6 = .ok (.getfield 14, 3) := by decide +kernel
theorem dX10_isPost_9 : decode cX10_isPost 9 = .ok (.getfield 74, 3) := by decide +kernel
theorem dX10_isPost_12 : decode cX10_isPost 12 = .ok (.if_icmp .ge 7, 3) := by decide +kernel
theorem dX10_isPost_15 : decode cX10_isPost 15 = .ok (.iconst 1, 1) := by decide +kernel
theorem dX10_isPost_16 : decode cX10_isPost 16 = .ok (.goto 4, 3) := by decide +kernel
theorem dX10_isPost_19 : decode cX10_isPost 19 = .ok (.iconst 0, 1) := by decide +kernel
theorem dX10_isPost_20 : decode cX10_isPost 20 = .ok (.ireturn, 1) := by decide +kernel
theorem dX10_isTwo_0 : decode cX10_isTwo 0 = .ok (.aload_n 0, 1) := by decide +kernel
theorem dX10_isTwo_1 : decode cX10_isTwo 1 = .ok (.iload_n 1, 1) := by decide +kernel
theorem dX10_isTwo_2 : decode cX10_isTwo 2 = .ok (.invokevirtual 160, 3) := by decide +kernel
theorem dX10_isTwo_5 : decode cX10_isTwo 5 = .ok (.ifCond .eq 20, 3) := by decide +kernel
theorem dX10_isTwo_8 : decode cX10_isTwo 8 = .ok (.aload_n 0, 1) := by decide +kernel
theorem dX10_isTwo_9 : decode cX10_isTwo 9 = .ok (.iload_n 2, 1) := by decide +kernel
theorem dX10_isTwo_10 : decode cX10_isTwo 10 = .ok (.invokevirtual 160, 3) := by decide +kernel
theorem dX10_isTwo_13 : decode cX10_isTwo 13 = .ok (.ifCond .eq 12, 3) := by decide +kernel
theorem dX10_isTwo_16 : decode cX10_isTwo 16 = .ok (.iload_n 1, 1) := by decide +kernel
theorem dX10_isTwo_17 : decode cX10_isTwo 17 = .ok (.iload_n 2, 1) := by decide +kernel
theorem dX10_isTwo_18 : decode cX10_isTwo 18 = .ok (.if_icmp .eq 7, 3) := by decide +kernel
theorem dX10_isTwo_21 : decode cX10_isTwo 21 = .ok (.iconst 1, 1) := by decide +kernel
theorem dX10_isTwo_22 : decode cX10_isTwo 22 = .ok (.goto 4, 3) := by decide +kernel
theorem dX10_isTwo_25 : decode cX10_isTwo 25 = .ok (.iconst 0, 1) := by decide +kernel
theorem dX10_isTwo_26 : decode cX10_isTwo 26 = .ok (.ireturn, 1) := by decide +kernel
theorem dX10_isThree_0 : decode cX10_isThree 0 = .ok (.aload_n 0, 1) := by decide +kernel
theorem dX10_isThree_1 : decode cX10_isThree 1 = .ok (.iload_n 1, 1) := by decide +kernel
theorem dX10_isThree_2 : decode cX10_isThree 2 = .ok (.iload_n 2, 1) := by decide +kernel
theorem dX10_isThree_3 : decode cX10_isThree 3 = .ok (.invokevirtual 81, 3) := by decide +kernel
theorem dX10_isThree_6 : decode cX10_isThree 6 = .ok (.ifCond .eq 21, 3) := by decide +kernel
theorem dX10_isThree_9 : decode cX10_isThree 9 = .ok (.aload_n 0, 1) := by decide +kernel
theorem dX10_isThree_10 : decode cX10_isThree 10 = .ok (.iload_n 1, 1) := by decide +kernel
theorem dX10_isThree_11 : decode cX10_isThree 11 = .ok (.iload_n 3, 1) := by decide +kernel
theorem dX10_isThree_12 : decode cX10_isThree 12 = .ok (.invokevirtual 81, 3) := by decide +kernel
theorem dX10_isThree_15 : decode cX10_isThree 15 = .ok (.ifCond .eq 12, 3) := by decide +kernel
theorem dX10_isThree_18 : decode cX10_isThree 18 = .ok (.iload_n 2, 1) := by decide +kernel
theorem dX10_isThree_19 : decode cX10_isThree 19 = .ok (.iload_n 3, 1) := by decide +kernel
theorem dX10_isThree_20 : decode cX10_isThree 20 = .ok (.if_icmp .eq 7, 3) := by decide +kernel
theorem dX10_isThree_23 : decode cX10_isThree 23 = .ok (.iconst 1, 1) := by decide +kernel
theorem dX10_isThree_24 : decode cX10_isThree 24 = .ok (.goto 4, 3) := by decide +kernel
theorem dX10_isThree_27 : decode cX10_isThree 27 = .ok (.iconst 0, 1) := by decide +kernel
theorem dX10_isThree_28 : decode cX10_isThree 28 = .ok (.ireturn, 1) := by decide +kernel
theorem dX10_isLink_0 : decode cX10_isLink 0 = .ok (.iload_n 1, 1) := by decide +kernel
theorem dX10_isLink_1 : decode cX10_isLink 1 = .ok (.ifCond .lt 18, 3) := by decide +kernel
theorem dX10_isLink_4 : decode cX10_isLink 4 = .ok (.iload_n 1, 1) := by decide +kernel
theorem dX10_isLink_5 : decode cX10_isLink 5 = .ok (.aload_n 0, 1) := by decide +kernel
theorem dX10_isLink_6 : decode cX10_isLink 6 = .ok (.getfield 14, 3) := by decide +kernel
theorem dX10_isLink_9 : decode cX10_isLink 9 = .ok (.invokevirtual 189, 3) := by decide +kernel
theorem dX10_isLink_12 : decode cX10_isLink 12 = .ok (.if_icmp .ge 7, 3) := by decide +kernel
theorem dX10_isLink_15 : decode cX10_isLink 15 = .ok (.iconst 1, 1) := by decide +kernel
theorem dX10_isLink_16 : decode cX10_isLink 16 = .ok (.goto 4, 3) := by decide +kernel
theorem dX10_isLink_19 : decode cX10_isLink 19 = .ok (.iconst 0, 1) := by decide +kernel
theorem dX10_isLink_20 : decode cX10_isLink 20 = .ok (.ireturn, 1) := by decide +kernel
theorem dX10_isShape_0 : decode cX10_isShape 0 = .ok (.iload_n 0, 1) := by decide +kernel
theorem dX10_isShape_1 : decode cX10_isShape 1 = .ok (.ifCond .lt 13, 3) := by decide +kernel
theorem dX10_isShape_4 : decode cX10_isShape 4 = .ok (.iload_n 0, 1) := by decide +kernel
theorem dX10_isShape_5 : decode cX10_isShape 5 = .ok (.bipush 16, 2) := by decide +kernel
theorem dX10_isShape_7 : decode cX10_isShape 7 = .ok (.if_icmp .ge 7, 3) := by decide +kernel
theorem dX10_isShape_10 : decode cX10_isShape 10 = .ok (.iconst 1, 1) := by decide +kernel
theorem dX10_isShape_11 : decode cX10_isShape 11 = .ok (.goto 4, 3) := by decide +kernel
theorem dX10_isShape_14 : decode cX10_isShape 14 = .ok (.iconst 0, 1) := by decide +kernel
theorem dX10_isShape_15 : decode cX10_isShape 15 = .ok (.ireturn, 1) := by decide +kernel
theorem dX10_isSheet_0 : decode cX10_isSheet 0 = .ok (.iload_n 0, 1) := by decide +kernel
theorem dX10_isSheet_1 : decode cX10_isSheet 1 = .ok (.ifCond .lt 12, 3) := by decide +kernel
theorem dX10_isSheet_4 : decode cX10_isSheet 4 = .ok (.iload_n 0, 1) := by decide +kernel
theorem dX10_isSheet_5 : decode cX10_isSheet 5 = .ok (.iconst 4, 1) := by decide +kernel
theorem dX10_isSheet_6 : decode cX10_isSheet 6 = .ok (.if_icmp .ge 7, 3) := by decide +kernel
theorem dX10_isSheet_9 : decode cX10_isSheet 9 = .ok (.iconst 1, 1) := by decide +kernel
theorem dX10_isSheet_10 : decode cX10_isSheet 10 = .ok (.goto 4, 3) := by decide +kernel
theorem dX10_isSheet_13 : decode cX10_isSheet 13 = .ok (.iconst 0, 1) := by decide +kernel
theorem dX10_isSheet_14 : decode cX10_isSheet 14 = .ok (.ireturn, 1) := by decide +kernel
theorem dX10_heldCount_0 : decode cX10_heldCount 0 = .ok (.iconst 0, 1) := by decide +kernel
theorem dX10_heldCount_1 : decode cX10_heldCount 1 = .ok (.istore_n 1, 1) := by decide +kernel
theorem dX10_heldCount_2 : decode cX10_heldCount 2 = .ok (.iconst 0, 1) := by decide +kernel
theorem dX10_heldCount_3 : decode cX10_heldCount 3 = .ok (.istore_n 2, 1) := by decide +kernel
theorem dX10_heldCount_4 : decode cX10_heldCount 4 = .ok (.iload_n 2, 1) := by decide +kernel
theorem dX10_heldCount_5 : decode cX10_heldCount 5 = .ok (.iconst 4, 1) := by decide +kernel
theorem dX10_heldCount_6 : decode cX10_heldCount 6 = .ok (.if_icmp .ge 21, 3) := by decide +kernel
theorem dX10_heldCount_9 : decode cX10_heldCount 9 = .ok (.aload_n 0, 1) := by decide +kernel
theorem dX10_heldCount_10 : decode cX10_heldCount 10 = .ok (.getfield 22, 3) := by decide +kernel
theorem dX10_heldCount_13 : decode cX10_heldCount 13 = .ok (.iload_n 2, 1) := by decide +kernel
theorem dX10_heldCount_14 : decode cX10_heldCount 14 = .ok (.baload, 1) := by decide +kernel
theorem dX10_heldCount_15 : decode cX10_heldCount 15 = .ok (.ifCond .eq 6, 3) := by decide +kernel
theorem dX10_heldCount_18 : decode cX10_heldCount 18 = .ok (.iinc 1 1, 3) := by decide +kernel
theorem dX10_heldCount_21 : decode cX10_heldCount 21 = .ok (.iinc 2 1, 3) := by decide +kernel
theorem dX10_heldCount_24 : decode cX10_heldCount 24 = .ok (.goto (-20), 3) := by decide +kernel
theorem dX10_heldCount_27 : decode cX10_heldCount 27 = .ok (.iload_n 1, 1) := by decide +kernel
theorem dX10_heldCount_28 : decode cX10_heldCount 28 = .ok (.ireturn, 1) := by decide +kernel
theorem dX10_threesAmong_0 : decode cX10_threesAmong 0 = .ok (.iload_n 0, 1) := by decide +kernel
theorem dX10_threesAmong_1 : decode cX10_threesAmong 1 = .ok (.i2l, 1) := by decide +kernel
theorem dX10_threesAmong_2 : decode cX10_threesAmong 2 = .ok (.iload_n 0, 1) := by decide +kernel
theorem dX10_threesAmong_3 : decode cX10_threesAmong 3 = .ok (.iconst 1, 1) := by decide +kernel
theorem dX10_threesAmong_4 : decode cX10_threesAmong 4 = .ok (.isub, 1) := by decide +kernel
theorem dX10_threesAmong_5 : decode cX10_threesAmong 5 = .ok (.i2l, 1) := by decide +kernel
theorem dX10_threesAmong_6 : decode cX10_threesAmong 6 = .ok (.lmul, 1) := by decide +kernel
theorem dX10_threesAmong_7 : decode cX10_threesAmong 7 = .ok (.iload_n 0, 1) := by decide +kernel
theorem dX10_threesAmong_8 : decode cX10_threesAmong 8 = .ok (.iconst 2, 1) := by decide +kernel
theorem dX10_threesAmong_9 : decode cX10_threesAmong 9 = .ok (.isub, 1) := by decide +kernel
theorem dX10_threesAmong_10 : decode cX10_threesAmong 10 = .ok (.i2l, 1) := by decide +kernel
theorem dX10_threesAmong_11 : decode cX10_threesAmong 11 = .ok (.lmul, 1) := by decide +kernel
theorem dX10_threesAmong_12 : decode cX10_threesAmong 12 = .ok (.ldc2_w 288, 3) := by decide +kernel
theorem dX10_threesAmong_15 : decode cX10_threesAmong 15 = .ok (.ldiv, 1) := by decide +kernel
theorem dX10_threesAmong_16 : decode cX10_threesAmong 16 = .ok (.lreturn, 1) := by decide +kernel
theorem dX10_findMean_0 : decode cX10_findMean 0 = .ok (.aload_n 0, 1) := by decide +kernel
theorem dX10_findMean_1 : decode cX10_findMean 1 = .ok (.getfield 14, 3) := by decide +kernel
theorem dX10_findMean_4 : decode cX10_findMean 4 = .ok (.getfield 74, 3) := by decide +kernel
theorem dX10_findMean_7 : decode cX10_findMean 7 = .ok (.aload_n 0, 1) := by decide +kernel
theorem dX10_findMean_8 : decode cX10_findMean 8 = .ok (.getfield 14, 3) := by decide +kernel
theorem dX10_findMean_11 : decode cX10_findMean 11 = .ok (.getfield 74, 3) := by decide +kernel
theorem dX10_findMean_14 : decode cX10_findMean 14 = .ok (.iconst 1, 1) := by decide +kernel
theorem dX10_findMean_15 : decode cX10_findMean 15 = .ok (.isub, 1) := by decide +kernel
theorem dX10_findMean_16 : decode cX10_findMean 16 = .ok (.imul, 1) := by decide +kernel
theorem dX10_findMean_17 : decode cX10_findMean 17 = .ok (.istore_n 2, 1) := by decide +kernel
theorem dX10_findMean_18 : decode cX10_findMean 18 = .ok (.aload_n 0, 1) := by decide +kernel
theorem dX10_findMean_19 : decode cX10_findMean 19 = .ok (.getfield 14, 3) := by decide +kernel
theorem dX10_findMean_22 : decode cX10_findMean 22 = .ok (.invokevirtual 189, 3) := by decide +kernel
theorem dX10_findMean_25 : decode cX10_findMean 25 = .ok (.istore_n 3, 1) := by decide +kernel
theorem dX10_findMean_26 : decode cX10_findMean 26 = .ok (.aload_n 0, 1) := by decide +kernel
theorem dX10_findMean_27 : decode cX10_findMean 27 = .ok (.getfield 38, 3) := by decide +kernel
theorem dX10_findMean_30 : decode cX10_findMean 30 = .ok (.getfield 123, 3) := by decide +kernel
theorem dX10_findMean_33 : decode cX10_findMean 33 = .ok (.iload_n 1, 1) := by decide +kernel
theorem dX10_findMean_34 : decode cX10_findMean 34 = .ok (.invokevirtual 143, 3) := by decide +kernel
theorem dX10_findMean_37 : decode cX10_findMean 37 = .ok (.istore 4, 2) := by decide +kernel
theorem dX10_findMean_39 : decode cX10_findMean 39 = .ok (.aload_n 0, 1) := by decide +kernel
theorem dX10_findMean_40 : decode cX10_findMean 40 = .ok (.getfield 14, 3) := by decide +kernel
theorem dX10_findMean_43 : decode cX10_findMean 43 = .ok (.getfield 74, 3) := by decide +kernel
theorem dX10_findMean_46 : decode cX10_findMean 46 = .ok (.invokestatic 252, 3) := by decide +kernel
theorem dX10_findMean_49 : decode cX10_findMean 49 = .ok (.aload_n 0, 1) := by decide +kernel
theorem dX10_findMean_50 : decode cX10_findMean 50 = .ok (.getfield 38, 3) := by decide +kernel
theorem dX10_findMean_53 : decode cX10_findMean 53 = .ok (.getfield 123, 3) := by decide +kernel
theorem dX10_findMean_56 : decode cX10_findMean 56 = .ok (.getfield 140, 3) := by decide +kernel
theorem dX10_findMean_59 : decode cX10_findMean 59 = .ok (.iload_n 1, 1) := by decide +kernel
theorem dX10_findMean_60 : decode cX10_findMean 60 = .ok (.iaload, 1) := by decide +kernel
theorem dX10_findMean_61 : decode cX10_findMean 61 = .ok (.i2l, 1) := by decide +kernel
theorem dX10_findMean_62 : decode cX10_findMean 62 = .ok (.lmul, 1) := by decide +kernel
theorem dX10_findMean_63 : decode cX10_findMean 63 = .ok (.lstore 5, 2) := by decide +kernel
theorem dX10_findMean_65 : decode cX10_findMean 65 = .ok (.lload 5, 2) := by decide +kernel
theorem dX10_findMean_67 : decode cX10_findMean 67 = .ok (.iload_n 3, 1) := by decide +kernel
theorem dX10_findMean_68 : decode cX10_findMean 68 = .ok (.iload 4, 2) := by decide +kernel
theorem dX10_findMean_70 : decode cX10_findMean 70 = .ok (.invokestatic 290, 3) := by decide +kernel
theorem dX10_findMean_73 : decode cX10_findMean 73 = .ok (.lmul, 1) := by decide +kernel
theorem dX10_findMean_74 : decode cX10_findMean 74 = .ok (.lstore 5, 2) := by decide +kernel
theorem dX10_findMean_76 : decode cX10_findMean 76 = .ok (.lload 5, 2) := by decide +kernel
theorem dX10_findMean_78 : decode cX10_findMean 78 = .ok (.iload_n 2, 1) := by decide +kernel
theorem dX10_findMean_79 : decode cX10_findMean 79 = .ok (.iload_n 3, 1) := by decide +kernel
theorem dX10_findMean_80 : decode cX10_findMean 80 = .ok (.isub, 1) := by decide +kernel
theorem dX10_findMean_81 : decode cX10_findMean 81 = .ok (.bipush 6, 2) := by decide +kernel
theorem dX10_findMean_83 : decode cX10_findMean 83 = .ok (.iload 4, 2) := by decide +kernel
theorem dX10_findMean_85 : decode cX10_findMean 85 = .ok (.isub, 1) := by decide +kernel
theorem dX10_findMean_86 : decode cX10_findMean 86 = .ok (.invokestatic 290, 3) := by decide +kernel
theorem dX10_findMean_89 : decode cX10_findMean 89 = .ok (.lmul, 1) := by decide +kernel
theorem dX10_findMean_90 : decode cX10_findMean 90 = .ok (.lstore 5, 2) := by decide +kernel
theorem dX10_findMean_92 : decode cX10_findMean 92 = .ok (.aload_n 0, 1) := by decide +kernel
theorem dX10_findMean_93 : decode cX10_findMean 93 = .ok (.getfield 45, 3) := by decide +kernel
theorem dX10_findMean_96 : decode cX10_findMean 96 = .ok (.lload 5, 2) := by decide +kernel
theorem dX10_findMean_98 : decode cX10_findMean 98 = .ok (.iload_n 2, 1) := by decide +kernel
theorem dX10_findMean_99 : decode cX10_findMean 99 = .ok (.bipush 6, 2) := by decide +kernel
theorem dX10_findMean_101 : decode cX10_findMean 101 = .ok (.invokestatic 290, 3) := by decide +kernel
theorem dX10_findMean_104 : decode cX10_findMean 104 = .ok (.invokevirtual 256, 3) := by decide +kernel
theorem dX10_findMean_107 : decode cX10_findMean 107 = .ok (.return_, 1) := by decide +kernel
theorem dX10_factorsDown_0 : decode cX10_factorsDown 0 = .ok (.lconst 1, 1) := by decide +kernel
theorem dX10_factorsDown_1 : decode cX10_factorsDown 1 = .ok (.lstore_n 2, 1) := by decide +kernel
theorem dX10_factorsDown_2 : decode cX10_factorsDown 2 = .ok (.iconst 0, 1) := by decide +kernel
theorem dX10_factorsDown_3 : decode cX10_factorsDown 3 = .ok (.istore 4, 2) := by decide +kernel
theorem dX10_factorsDown_5 : decode cX10_factorsDown 5 = .ok (.iload 4, 2) := by decide +kernel
theorem dX10_factorsDown_7 : decode cX10_factorsDown 7 = .ok (.iload_n 1, 1) := by decide +kernel
theorem dX10_factorsDown_8 : decode cX10_factorsDown 8 = .ok (.if_icmp .ge 21, 3) := by decide +kernel
theorem dX10_factorsDown_11 : decode cX10_factorsDown 11 = .ok (.lload_n 2, 1) := by decide +kernel
theorem dX10_factorsDown_12 : decode cX10_factorsDown 12 = .ok (.iconst 0, 1) := by decide +kernel
theorem dX10_factorsDown_13 : decode cX10_factorsDown 13 = .ok (.iload_n 0, 1) := by decide +kernel
theorem dX10_factorsDown_14 : decode cX10_factorsDown 14 = .ok (.iload 4, 2) := by decide +kernel
theorem dX10_factorsDown_16 : decode cX10_factorsDown 16 = .ok (.isub, 1) := by decide +kernel
theorem dX10_factorsDown_17 : decode cX10_factorsDown 17 = .ok (.invokestatic 294, 3) := by decide +kernel
theorem dX10_factorsDown_20 : decode cX10_factorsDown 20 = .ok (.i2l, 1) := by decide +kernel
theorem dX10_factorsDown_21 : decode cX10_factorsDown 21 = .ok (.lmul, 1) := by decide +kernel
theorem dX10_factorsDown_22 : decode cX10_factorsDown 22 = .ok (.lstore_n 2, 1) := by decide +kernel
theorem dX10_factorsDown_23 : decode cX10_factorsDown 23 = .ok (.iinc 4 1, 3) := by decide +kernel
theorem dX10_factorsDown_26 : decode cX10_factorsDown 26 = .ok (.goto (-21), 3) := by decide +kernel
theorem dX10_factorsDown_29 : decode cX10_factorsDown 29 = .ok (.lload_n 2, 1) := by decide +kernel
theorem dX10_factorsDown_30 : decode cX10_factorsDown 30 = .ok (.lreturn, 1) := by decide +kernel
theorem dX11_init_0 : decode cX11_init 0 = .ok (.aload_n 0, 1) := by decide +kernel
theorem dX11_init_1 : decode cX11_init 1 = .ok (.invokespecial 1, 3) := by decide +kernel
theorem dX11_init_4 : decode cX11_init 4 = .ok (.aload_n 0, 1) := by decide +kernel
theorem dX11_init_5 : decode cX11_init 5 = .ok (.bipush 6, 2) := by decide +kernel
theorem dX11_init_7 : decode cX11_init 7 = .ok (.putfield 7, 3) := by decide +kernel
theorem dX11_init_10 : decode cX11_init 10 = .ok (.aload_n 0, 1) := by decide +kernel
theorem dX11_init_11 : decode cX11_init 11 = .ok (.sipush 256, 3) := by decide +kernel
theorem dX11_init_14 : decode cX11_init 14 = .ok (.newarray .boolean, 2) := by decide +kernel
theorem dX11_init_16 : decode cX11_init 16 = .ok (.putfield 13, 3) := by decide +kernel
theorem dX11_init_19 : decode cX11_init 19 = .ok (.aload_n 0, 1) := by decide +kernel
theorem dX11_init_20 : decode cX11_init 20 = .ok (.sipush 256, 3) := by decide +kernel
theorem dX11_init_23 : decode cX11_init 23 = .ok (.newarray .int, 2) := by decide +kernel
theorem dX11_init_25 : decode cX11_init 25 = .ok (.putfield 17, 3) := by decide +kernel
theorem dX11_init_28 : decode cX11_init 28 = .ok (.aload_n 0, 1) := by decide +kernel
theorem dX11_init_29 : decode cX11_init 29 = .ok (.sipush 256, 3) := by decide +kernel
theorem dX11_init_32 : decode cX11_init 32 = .ok (.newarray .int, 2) := by decide +kernel
theorem dX11_init_34 : decode cX11_init 34 = .ok (.putfield 21, 3) := by decide +kernel
theorem dX11_init_37 : decode cX11_init 37 = .ok (.aload_n 0, 1) := by decide +kernel
theorem dX11_init_38 : decode cX11_init 38 = .ok (.iconst 1, 1) := by decide +kernel
theorem dX11_init_39 : decode cX11_init 39 = .ok (.putfield 24, 3) := by decide +kernel
theorem dX11_init_42 : decode cX11_init 42 = .ok (.aload_n 0, 1) := by decide +kernel
theorem dX11_init_43 : decode cX11_init 43 = .ok (.iconst 4, 1) := by decide +kernel
theorem dX11_init_44 : decode cX11_init 44 = .ok (.newarray .int, 2) := by decide +kernel
theorem dX11_init_46 : decode cX11_init 46 = .ok (.putfield 27, 3) := by decide +kernel
theorem dX11_init_49 : decode cX11_init 49 = .ok (.aload_n 0, 1) := by decide +kernel
theorem dX11_init_50 : decode cX11_init 50 = .ok (.sipush 1024, 3) := by decide +kernel
theorem dX11_init_53 : decode cX11_init 53 = .ok (.newarray .boolean, 2) := by decide +kernel
theorem dX11_init_55 : decode cX11_init 55 = .ok (.putfield 30, 3) := by decide +kernel
theorem dX11_init_58 : decode cX11_init 58 = .ok (.aload_n 0, 1) := by decide +kernel
theorem dX11_init_59 : decode cX11_init 59 = .ok (.sipush 1024, 3) := by decide +kernel
theorem dX11_init_62 : decode cX11_init 62 = .ok (.newarray .int, 2) := by decide +kernel
theorem dX11_init_64 : decode cX11_init 64 = .ok (.putfield 33, 3) := by decide +kernel
theorem dX11_init_67 : decode cX11_init 67 = .ok (.aload_n 0, 1) := by decide +kernel
theorem dX11_init_68 : decode cX11_init 68 = .ok (.sipush 1024, 3) := by decide +kernel
theorem dX11_init_71 : decode cX11_init 71 = .ok (.newarray .int, 2) := by decide +kernel
theorem dX11_init_73 : decode cX11_init 73 = .ok (.putfield 36, 3) := by decide +kernel
theorem dX11_init_76 : decode cX11_init 76 = .ok (.aload_n 0, 1) := by decide +kernel
theorem dX11_init_77 : decode cX11_init 77 = .ok (.bipush 7, 2) := by decide +kernel
theorem dX11_init_79 : decode cX11_init 79 = .ok (.newarray .int, 2) := by decide +kernel
theorem dX11_init_81 : decode cX11_init 81 = .ok (.putfield 39, 3) := by decide +kernel
theorem dX11_init_84 : decode cX11_init 84 = .ok (.aload_n 0, 1) := by decide +kernel
theorem dX11_init_85 : decode cX11_init 85 = .ok (.bipush 64, 2) := by decide +kernel
theorem dX11_init_87 : decode cX11_init 87 = .ok (.newarray .int, 2) := by decide +kernel
theorem dX11_init_89 : decode cX11_init 89 = .ok (.putfield 42, 3) := by decide +kernel
theorem dX11_init_92 : decode cX11_init 92 = .ok (.aload_n 0, 1) := by decide +kernel
theorem dX11_init_93 : decode cX11_init 93 = .ok (.bipush 16, 2) := by decide +kernel
theorem dX11_init_95 : decode cX11_init 95 = .ok (.newarray .int, 2) := by decide +kernel
theorem dX11_init_97 : decode cX11_init 97 = .ok (.putfield 45, 3) := by decide +kernel
theorem dX11_init_100 : decode cX11_init 100 = .ok (.aload_n 0, 1) := by decide +kernel
theorem dX11_init_101 : decode cX11_init 101 = .ok (.bipush 64, 2) := by decide +kernel
theorem dX11_init_103 : decode cX11_init 103 = .ok (.newarray .int, 2) := by decide +kernel
theorem dX11_init_105 : decode cX11_init 105 = .ok (.putfield 48, 3) := by decide +kernel
theorem dX11_init_108 : decode cX11_init 108 = .ok (.aload_n 0, 1) := by decide +kernel
theorem dX11_init_109 : decode cX11_init 109 = .ok (.sipush 768, 3) := by decide +kernel
theorem dX11_init_112 : decode cX11_init 112 = .ok (.newarray .int, 2) := by decide +kernel
theorem dX11_init_114 : decode cX11_init 114 = .ok (.putfield 51, 3) := by decide +kernel
theorem dX11_init_117 : decode cX11_init 117 = .ok (.aload_n 0, 1) := by decide +kernel
theorem dX11_init_118 : decode cX11_init 118 = .ok (.bipush 16, 2) := by decide +kernel
theorem dX11_init_120 : decode cX11_init 120 = .ok (.newarray .int, 2) := by decide +kernel
theorem dX11_init_122 : decode cX11_init 122 = .ok (.putfield 54, 3) := by decide +kernel
theorem dX11_init_125 : decode cX11_init 125 = .ok (.aload_n 0, 1) := by decide +kernel
theorem dX11_init_126 : decode cX11_init 126 = .ok (.iconst 4, 1) := by decide +kernel
theorem dX11_init_127 : decode cX11_init 127 = .ok (.newarray .int, 2) := by decide +kernel
theorem dX11_init_129 : decode cX11_init 129 = .ok (.putfield 57, 3) := by decide +kernel
theorem dX11_init_132 : decode cX11_init 132 = .ok (.aload_n 0, 1) := by decide +kernel
theorem dX11_init_133 : decode cX11_init 133 = .ok (.bipush 120, 2) := by decide +kernel
theorem dX11_init_135 : decode cX11_init 135 = .ok (.newarray .int, 2) := by decide +kernel
theorem dX11_init_137 : decode cX11_init 137 = .ok (.putfield 60, 3) := by decide +kernel
theorem dX11_init_140 : decode cX11_init 140 = .ok (.aload_n 0, 1) := by decide +kernel
theorem dX11_init_141 : decode cX11_init 141 = .ok (.bipush 120, 2) := by decide +kernel
theorem dX11_init_143 : decode cX11_init 143 = .ok (.newarray .int, 2) := by decide +kernel
theorem dX11_init_145 : decode cX11_init 145 = .ok (.putfield 63, 3) := by decide +kernel
theorem dX11_init_148 : decode cX11_init 148 = .ok (.aload_n 0, 1) := by decide +kernel
theorem dX11_init_149 : decode cX11_init 149 = .ok (.bipush 120, 2) := by decide +kernel
theorem dX11_init_151 : decode cX11_init 151 = .ok (.newarray .int, 2) := by decide +kernel
theorem dX11_init_153 : decode cX11_init 153 = .ok (.putfield 66, 3) := by decide +kernel
theorem dX11_init_156 : decode cX11_init 156 = .ok (.aload_n 0, 1) := by decide +kernel
theorem dX11_init_157 : decode cX11_init 157 = .ok (.sipush 144, 3) := by decide +kernel
theorem dX11_init_160 : decode cX11_init 160 = .ok (.newarray .long, 2) := by decide +kernel
theorem dX11_init_162 : decode cX11_init 162 = .ok (.putfield 69, 3) := by decide +kernel
theorem dX11_init_165 : decode cX11_init 165 = .ok (.aload_n 0, 1) := by decide +kernel
theorem dX11_init_166 : decode cX11_init 166 = .ok (.sipush 144, 3) := by decide +kernel
theorem dX11_init_169 : decode cX11_init 169 = .ok (.newarray .long, 2) := by decide +kernel
theorem dX11_init_171 : decode cX11_init 171 = .ok (.putfield 73, 3) := by decide +kernel
theorem dX11_init_174 : decode cX11_init 174 = .ok (.aload_n 0, 1) := by decide +kernel
theorem dX11_init_175 : decode cX11_init 175 = .ok (.sipush 256, 3) := by decide +kernel
theorem dX11_init_178 : decode cX11_init 178 = .ok (.newarray .boolean, 2) := by decide +kernel
theorem dX11_init_180 : decode cX11_init 180 = .ok (.putfield 76, 3) := by decide +kernel
theorem dX11_init_183 : decode cX11_init 183 = .ok (.aload_n 0, 1) := by decide +kernel
theorem dX11_init_184 : decode cX11_init 184 = .ok (.bipush 16, 2) := by decide +kernel
theorem dX11_init_186 : decode cX11_init 186 = .ok (.newarray .int, 2) := by decide +kernel
theorem dX11_init_188 : decode cX11_init 188 = .ok (.putfield 79, 3) := by decide +kernel
theorem dX11_init_191 : decode cX11_init 191 = .ok (.iconst 0, 1) := by decide +kernel
theorem dX11_init_192 : decode cX11_init 192 = .ok (.istore_n 1, 1) := by decide +kernel
theorem dX11_init_193 : decode cX11_init 193 = .ok (.iconst 0, 1) := by decide +kernel
theorem dX11_init_194 : decode cX11_init 194 = .ok (.istore_n 2, 1) := by decide +kernel
theorem dX11_init_195 : decode cX11_init 195 = .ok (.iload_n 2, 1) := by decide +kernel
theorem dX11_init_196 : decode cX11_init 196 = .ok (.bipush 64, 2) := by decide +kernel
theorem dX11_init_198 : decode cX11_init 198 = .ok (.if_icmp .ge 78, 3) := by decide +kernel
theorem dX11_init_201 : decode cX11_init 201 = .ok (.bipush 64, 2) := by decide +kernel
theorem dX11_init_203 : decode cX11_init 203 = .ok (.istore_n 3, 1) := by decide +kernel
theorem dX11_init_204 : decode cX11_init 204 = .ok (.iconst 0, 1) := by decide +kernel
theorem dX11_init_205 : decode cX11_init 205 = .ok (.istore 4, 2) := by decide +kernel
theorem dX11_init_207 : decode cX11_init 207 = .ok (.iload 4, 2) := by decide +kernel
theorem dX11_init_209 : decode cX11_init 209 = .ok (.bipush 6, 2) := by decide +kernel
theorem dX11_init_211 : decode cX11_init 211 = .ok (.if_icmp .ge 30, 3) := by decide +kernel
theorem dX11_init_214 : decode cX11_init 214 = .ok (.iload_n 2, 1) := by decide +kernel
theorem dX11_init_215 : decode cX11_init 215 = .ok (.iload 4, 2) := by decide +kernel
theorem dX11_init_217 : decode cX11_init 217 = .ok (.invokestatic 82, 3) := by decide +kernel
theorem dX11_init_220 : decode cX11_init 220 = .ok (.istore 5, 2) := by decide +kernel
theorem dX11_init_222 : decode cX11_init 222 = .ok (.iload 5, 2) := by decide +kernel
theorem dX11_init_224 : decode cX11_init 224 = .ok (.iload_n 3, 1) := by decide +kernel
theorem dX11_init_225 : decode cX11_init 225 = .ok (.if_icmp .ge 8, 3) := by decide +kernel
theorem dX11_init_228 : decode cX11_init 228 = .ok (.iload 5, 2) := by decide +kernel
theorem dX11_init_230 : decode cX11_init 230 = .ok (.goto 4, 3) := by decide +kernel
theorem dX11_init_233 : decode cX11_init 233 = .ok (.iload_n 3, 1) := by decide +kernel
theorem dX11_init_234 : decode cX11_init 234 = .ok (.istore_n 3, 1) := by decide +kernel
theorem dX11_init_235 : decode cX11_init 235 = .ok (.iinc 4 1, 3) := by decide +kernel
theorem dX11_init_238 : decode cX11_init 238 = .ok (.goto (-31), 3) := by decide +kernel
theorem dX11_init_241 : decode cX11_init 241 = .ok (.aload_n 0, 1) := by decide +kernel
theorem dX11_init_242 : decode cX11_init 242 = .ok (.getfield 42, 3) := by decide +kernel
theorem dX11_init_245 : decode cX11_init 245 = .ok (.iload_n 2, 1) := by decide +kernel
theorem dX11_init_246 : decode cX11_init 246 = .ok (.iload_n 3, 1) := by decide +kernel
theorem dX11_init_247 : decode cX11_init 247 = .ok (.iastore, 1) := by decide +kernel
theorem dX11_init_248 : decode cX11_init 248 = .ok (.iload_n 3, 1) := by decide +kernel
theorem dX11_init_249 : decode cX11_init 249 = .ok (.iload_n 2, 1) := by decide +kernel
theorem dX11_init_250 : decode cX11_init 250 = .ok (.if_icmp .ne 20, 3) := by decide +kernel
theorem dX11_init_253 : decode cX11_init 253 = .ok (.aload_n 0, 1) := by decide +kernel
theorem dX11_init_254 : decode cX11_init 254 = .ok (.getfield 45, 3) := by decide +kernel
theorem dX11_init_257 : decode cX11_init 257 = .ok (.iload_n 1, 1) := by decide +kernel
theorem dX11_init_258 : decode cX11_init 258 = .ok (.iload_n 2, 1) := by decide +kernel
theorem dX11_init_259 : decode cX11_init 259 = .ok (.iastore, 1) := by decide +kernel
theorem dX11_init_260 : decode cX11_init 260 = .ok (.aload_n 0, 1) := by decide +kernel
theorem dX11_init_261 : decode cX11_init 261 = .ok (.getfield 48, 3) := by decide +kernel
theorem dX11_init_264 : decode cX11_init 264 = .ok (.iload_n 2, 1) := by decide +kernel
theorem dX11_init_265 : decode cX11_init 265 = .ok (.iload_n 1, 1) := by decide +kernel
theorem dX11_init_266 : decode cX11_init 266 = .ok (.iastore, 1) := by decide +kernel
theorem dX11_init_267 : decode cX11_init 267 = .ok (.iinc 1 1, 3) := by decide +kernel
theorem dX11_init_270 : decode cX11_init 270 = .ok (.iinc 2 1, 3) := by decide +kernel
theorem dX11_init_273 : decode cX11_init 273 = .ok (.goto (-78), 3) := by decide +kernel
theorem dX11_init_276 : decode cX11_init 276 = .ok (.return_, 1) := by decide +kernel
theorem dX11_in_0 : decode cX11_in 0 = .ok (.iload_n 0, 1) := by decide +kernel
theorem dX11_in_1 : decode cX11_in 1 = .ok (.iload_n 1, 1) := by decide +kernel
theorem dX11_in_2 : decode cX11_in 2 = .ok (.if_icmp .lt 12, 3) := by decide +kernel
theorem dX11_in_5 : decode cX11_in 5 = .ok (.iload_n 0, 1) := by decide +kernel
theorem dX11_in_6 : decode cX11_in 6 = .ok (.iload_n 2, 1) := by decide +kernel
theorem dX11_in_7 : decode cX11_in 7 = .ok (.if_icmp .gt 7, 3) := by decide +kernel
theorem dX11_in_10 : decode cX11_in 10 = .ok (.iconst 1, 1) := by decide +kernel
theorem dX11_in_11 : decode cX11_in 11 = .ok (.goto 4, 3) := by decide +kernel
theorem dX11_in_14 : decode cX11_in 14 = .ok (.iconst 0, 1) := by decide +kernel
theorem dX11_in_15 : decode cX11_in 15 = .ok (.ireturn, 1) := by decide +kernel
theorem dX11_refuse_0 : decode cX11_refuse 0 = .ok (.aload_n 0, 1) := by decide +kernel
theorem dX11_refuse_1 : decode cX11_refuse 1 = .ok (.getfield 39, 3) := by decide +kernel
theorem dX11_refuse_4 : decode cX11_refuse 4 = .ok (.iload_n 1, 1) := by decide +kernel
theorem dX11_refuse_5 : decode cX11_refuse 5 = .ok (.ineg, 1) := by decide +kernel
theorem dX11_refuse_6 : decode cX11_refuse 6 = .ok (.dup2, 1) := by decide +kernel
theorem dX11_refuse_7 : decode cX11_refuse 7 = .ok (.iaload, 1) := by decide +kernel
theorem dX11_refuse_8 : decode cX11_refuse 8 = .ok (.iconst 1, 1) := by decide +kernel
theorem dX11_refuse_9 : decode cX11_refuse 9 = .ok (.iadd, 1) := by decide +kernel
theorem dX11_refuse_10 : decode cX11_refuse 10 = .ok (.iastore, 1) := by decide +kernel
theorem dX11_refuse_11 : decode cX11_refuse 11 = .ok (.iload_n 1, 1) := by decide +kernel
theorem dX11_refuse_12 : decode cX11_refuse 12 = .ok (.ireturn, 1) := by decide +kernel
theorem dX11_isPost_0 : decode cX11_isPost 0 = .ok (.iload_n 1, 1) := by decide +kernel
theorem dX11_isPost_1 : decode cX11_isPost 1 = .ok (.iconst 0, 1) := by decide +kernel
theorem dX11_isPost_2 : decode cX11_isPost 2 = .ok (.aload_n 0, 1) := by decide +kernel
theorem dX11_isPost_3 : decode cX11_isPost 3 = .ok (.getfield 7, 3) := by decide +kernel
theorem dX11_isPost_6 : decode cX11_isPost 6 = .ok (.iconst 1, 1) := by decide +kernel
theorem dX11_isPost_7 : decode cX11_isPost 7 = .ok (.isub, 1) := by decide +kernel
theorem dX11_isPost_8 : decode cX11_isPost 8 = .ok (.invokestatic 86, 3) := by decide +kernel
theorem dX11_isPost_11 : decode cX11_isPost 11 = .ok (.ireturn, 1) := by decide +kernel
theorem dX11_isShape_0 : decode cX11_isShape 0 = .ok (.iload_n 0, 1) := by decide +kernel
theorem dX11_isShape_1 : decode cX11_isShape 1 = .ok (.iconst 0, 1) := by decide +kernel
theorem dX11_isShape_2 : decode cX11_isShape 2 = .ok (.bipush 15, 2) := by decide +kernel
theorem dX11_isShape_4 : decode cX11_isShape 4 = .ok (.invokestatic 86, 3) := by decide +kernel
theorem dX11_isShape_7 : decode cX11_isShape 7 = .ok (.ireturn, 1) := by decide +kernel
theorem dX11_atOrder_0 : decode cX11_atOrder 0 = .ok (.iload_n 0, 1) := by decide +kernel
theorem dX11_atOrder_1 : decode cX11_atOrder 1 = .ok (.iconst 2, 1) := by decide +kernel
theorem dX11_atOrder_2 : decode cX11_atOrder 2 = .ok (.idiv, 1) := by decide +kernel
theorem dX11_atOrder_3 : decode cX11_atOrder 3 = .ok (.istore_n 2, 1) := by decide +kernel
theorem dX11_atOrder_4 : decode cX11_atOrder 4 = .ok (.iload_n 0, 1) := by decide +kernel
theorem dX11_atOrder_5 : decode cX11_atOrder 5 = .ok (.iconst 2, 1) := by decide +kernel
theorem dX11_atOrder_6 : decode cX11_atOrder 6 = .ok (.irem, 1) := by decide +kernel
theorem dX11_atOrder_7 : decode cX11_atOrder 7 = .ok (.ifCond .ne 15, 3) := by decide +kernel
theorem dX11_atOrder_10 : decode cX11_atOrder 10 = .ok (.iload_n 2, 1) := by decide +kernel
theorem dX11_atOrder_11 : decode cX11_atOrder 11 = .ok (.ifCond .ne 7, 3) := by decide +kernel
theorem dX11_atOrder_14 : decode cX11_atOrder 14 = .ok (.iconst 1, 1) := by decide +kernel
theorem dX11_atOrder_15 : decode cX11_atOrder 15 = .ok (.goto 17, 3) := by decide +kernel
theorem dX11_atOrder_18 : decode cX11_atOrder 18 = .ok (.iconst 0, 1) := by decide +kernel
theorem dX11_atOrder_19 : decode cX11_atOrder 19 = .ok (.goto 13, 3) := by decide +kernel
theorem dX11_atOrder_22 : decode cX11_atOrder 22 = .ok (.iload_n 2, 1) := by decide +kernel
theorem dX11_atOrder_23 : decode cX11_atOrder 23 = .ok (.iconst 2, 1) := by decide +kernel
theorem dX11_atOrder_24 : decode cX11_atOrder 24 = .ok (.if_icmp .ne 7, 3) := by decide +kernel
theorem dX11_atOrder_27 : decode cX11_atOrder 27 = .ok (.iconst 1, 1) := by decide +kernel
theorem dX11_atOrder_28 : decode cX11_atOrder 28 = .ok (.goto 4, 3) := by decide +kernel
theorem dX11_atOrder_31 : decode cX11_atOrder 31 = .ok (.iconst 2, 1) := by decide +kernel
theorem dX11_atOrder_32 : decode cX11_atOrder 32 = .ok (.istore_n 3, 1) := by decide +kernel
theorem dX11_atOrder_33 : decode cX11_atOrder 33 = .ok (.iload_n 1, 1) := by decide +kernel
theorem dX11_atOrder_34 : decode cX11_atOrder 34 = .ok (.ifCond .ne 7, 3) := by decide +kernel
theorem dX11_atOrder_37 : decode cX11_atOrder 37 = .ok (.iload_n 2, 1) := by decide +kernel
theorem dX11_atOrder_38 : decode cX11_atOrder 38 = .ok (.goto 17, 3) := by decide +kernel
theorem dX11_atOrder_41 : decode cX11_atOrder 41 = .ok (.iload_n 1, 1) := by decide +kernel
theorem dX11_atOrder_42 : decode cX11_atOrder 42 = .ok (.iconst 1, 1) := by decide +kernel
theorem dX11_atOrder_43 : decode cX11_atOrder 43 = .ok (.if_icmp .ne 7, 3) := by decide +kernel
theorem dX11_atOrder_46 : decode cX11_atOrder 46 = .ok (.iload_n 3, 1) := by decide +kernel
theorem dX11_atOrder_47 : decode cX11_atOrder 47 = .ok (.goto 8, 3) := by decide +kernel
theorem dX11_atOrder_50 : decode cX11_atOrder 50 = .ok (.iconst 3, 1) := by decide +kernel
theorem dX11_atOrder_51 : decode cX11_atOrder 51 = .ok (.iload_n 2, 1) := by decide +kernel
theorem dX11_atOrder_52 : decode cX11_atOrder 52 = .ok (.isub, 1) := by decide +kernel
theorem dX11_atOrder_53 : decode cX11_atOrder 53 = .ok (.iload_n 3, 1) := by decide +kernel
theorem dX11_atOrder_54 : decode cX11_atOrder 54 = .ok (.isub, 1) := by decide +kernel
theorem dX11_atOrder_55 : decode cX11_atOrder 55 = .ok (.ireturn, 1) := by decide +kernel
theorem dX11_bit_0 : decode cX11_bit 0 = .ok (.iload_n 0, 1) := by decide +kernel
theorem dX11_bit_1 : decode cX11_bit 1 = .ok (.ifCond .ne 9, 3) := by decide +kernel
theorem dX11_bit_4 : decode cX11_bit 4 = .ok (.iload_n 1, 1) := by decide +kernel
theorem dX11_bit_5 : decode cX11_bit 5 = .ok (.iconst 1, 1) := by decide +kernel
theorem dX11_bit_6 : decode cX11_bit 6 = .ok (.isub, 1) := by decide +kernel
theorem dX11_bit_7 : decode cX11_bit 7 = .ok (.goto 23, 3) := by decide +kernel
theorem dX11_bit_10 : decode cX11_bit 10 = .ok (.iload_n 0, 1) := by decide +kernel
theorem dX11_bit_11 : decode cX11_bit 11 = .ok (.iconst 1, 1) := by decide +kernel
theorem dX11_bit_12 : decode cX11_bit 12 = .ok (.if_icmp .ne 15, 3) := by decide +kernel
theorem dX11_bit_15 : decode cX11_bit 15 = .ok (.iload_n 1, 1) := by decide +kernel
theorem dX11_bit_16 : decode cX11_bit 16 = .ok (.ifCond .ne 7, 3) := by decide +kernel
theorem dX11_bit_19 : decode cX11_bit 19 = .ok (.iconst 2, 1) := by decide +kernel
theorem dX11_bit_20 : decode cX11_bit 20 = .ok (.goto 10, 3) := by decide +kernel
theorem dX11_bit_23 : decode cX11_bit 23 = .ok (.iconst 3, 1) := by decide +kernel
theorem dX11_bit_24 : decode cX11_bit 24 = .ok (.goto 6, 3) := by decide +kernel
theorem dX11_bit_27 : decode cX11_bit 27 = .ok (.iconst 4, 1) := by decide +kernel
theorem dX11_bit_28 : decode cX11_bit 28 = .ok (.iload_n 1, 1) := by decide +kernel
theorem dX11_bit_29 : decode cX11_bit 29 = .ok (.iadd, 1) := by decide +kernel
theorem dX11_bit_30 : decode cX11_bit 30 = .ok (.ireturn, 1) := by decide +kernel
theorem dX11_inOrder_0 : decode cX11_inOrder 0 = .ok (.iconst 0, 1) := by decide +kernel
theorem dX11_inOrder_1 : decode cX11_inOrder 1 = .ok (.istore_n 2, 1) := by decide +kernel
theorem dX11_inOrder_2 : decode cX11_inOrder 2 = .ok (.iconst 0, 1) := by decide +kernel
theorem dX11_inOrder_3 : decode cX11_inOrder 3 = .ok (.istore_n 3, 1) := by decide +kernel
theorem dX11_inOrder_4 : decode cX11_inOrder 4 = .ok (.iload_n 3, 1) := by decide +kernel
theorem dX11_inOrder_5 : decode cX11_inOrder 5 = .ok (.iconst 3, 1) := by decide +kernel
theorem dX11_inOrder_6 : decode cX11_inOrder 6 = .ok (.if_icmp .ge 63, 3) := by decide +kernel
theorem dX11_inOrder_9 : decode cX11_inOrder 9 = .ok (.iconst 0, 1) := by decide +kernel
theorem dX11_inOrder_10 : decode cX11_inOrder 10 = .ok (.istore 4, 2) := by decide +kernel
theorem dX11_inOrder_12 : decode cX11_inOrder 12 = .ok (.iload 4, 2) := by decide +kernel
theorem dX11_inOrder_14 : decode cX11_inOrder 14 = .ok (.iconst 3, 1) := by decide +kernel
theorem dX11_inOrder_15 : decode cX11_inOrder 15 = .ok (.if_icmp .ge 48, 3) := by decide +kernel
theorem dX11_inOrder_18 : decode cX11_inOrder 18 = .ok (.iload_n 3, 1) := by decide +kernel
theorem dX11_inOrder_19 : decode cX11_inOrder 19 = .ok (.iload 4, 2) := by decide +kernel
theorem dX11_inOrder_21 : decode cX11_inOrder 21 = .ok (.if_icmp .eq 36, 3) := by decide +kernel
theorem dX11_inOrder_24 : decode cX11_inOrder 24 = .ok (.iload_n 0, 1) := by decide +kernel
theorem dX11_inOrder_25 : decode cX11_inOrder 25 = .ok (.iload_n 1, 1) := by decide +kernel
theorem dX11_inOrder_26 : decode cX11_inOrder 26 = .ok (.iload_n 3, 1) := by decide +kernel
theorem dX11_inOrder_27 : decode cX11_inOrder 27 = .ok (.invokestatic 90, 3) := by decide +kernel
theorem dX11_inOrder_30 : decode cX11_inOrder 30 = .ok (.iload_n 1, 1) := by decide +kernel
theorem dX11_inOrder_31 : decode cX11_inOrder 31 = .ok (.iload 4, 2) := by decide +kernel
theorem dX11_inOrder_33 : decode cX11_inOrder 33 = .ok (.invokestatic 90, 3) := by decide +kernel
theorem dX11_inOrder_36 : decode cX11_inOrder 36 = .ok (.invokestatic 93, 3) := by decide +kernel
theorem dX11_inOrder_39 : decode cX11_inOrder 39 = .ok (.ishr, 1) := by decide +kernel
theorem dX11_inOrder_40 : decode cX11_inOrder 40 = .ok (.iconst 1, 1) := by decide +kernel
theorem dX11_inOrder_41 : decode cX11_inOrder 41 = .ok (.iand, 1) := by decide +kernel
theorem dX11_inOrder_42 : decode cX11_inOrder 42 = .ok (.iconst 1, 1) := by decide +kernel
theorem dX11_inOrder_43 : decode cX11_inOrder 43 = .ok (.if_icmp .ne 14, 3) := by decide +kernel
theorem dX11_inOrder_46 : decode cX11_inOrder 46 = .ok (.iload_n 2, 1) := by decide +kernel
theorem dX11_inOrder_47 : decode cX11_inOrder 47 = .ok (.iconst 1, 1) := by decide +kernel
theorem dX11_inOrder_48 : decode cX11_inOrder 48 = .ok (.iload_n 3, 1) := by decide +kernel
theorem dX11_inOrder_49 : decode cX11_inOrder 49 = .ok (.iload 4, 2) := by decide +kernel
theorem dX11_inOrder_51 : decode cX11_inOrder 51 = .ok (.invokestatic 93, 3) := by decide +kernel
theorem dX11_inOrder_54 : decode cX11_inOrder 54 = .ok (.ishl, 1) := by decide +kernel
theorem dX11_inOrder_55 : decode cX11_inOrder 55 = .ok (.ior, 1) := by decide +kernel
theorem dX11_inOrder_56 : decode cX11_inOrder 56 = .ok (.istore_n 2, 1) := by decide +kernel
theorem dX11_inOrder_57 : decode cX11_inOrder 57 = .ok (.iinc 4 1, 3) := by decide +kernel
theorem dX11_inOrder_60 : decode cX11_inOrder 60 = .ok (.goto (-48), 3) := by decide +kernel
theorem dX11_inOrder_63 : decode cX11_inOrder 63 = .ok (.iinc 3 1, 3) := by decide +kernel
theorem dX11_inOrder_66 : decode cX11_inOrder 66 = .ok (.goto (-62), 3) := by decide +kernel
theorem dX11_inOrder_69 : decode cX11_inOrder 69 = .ok (.iload_n 2, 1) := by decide +kernel
theorem dX11_inOrder_70 : decode cX11_inOrder 70 = .ok (.ireturn, 1) := by decide +kernel
theorem dX11_has_0 : decode cX11_has 0 = .ok (.aload_n 0, 1) := by decide +kernel
theorem dX11_has_1 : decode cX11_has 1 = .ok (.getfield 13, 3) := by decide +kernel
theorem dX11_has_4 : decode cX11_has 4 = .ok (.bipush 16, 2) := by decide +kernel
theorem dX11_has_6 : decode cX11_has 6 = .ok (.iload_n 1, 1) := by decide +kernel
theorem dX11_has_7 : decode cX11_has 7 = .ok (.imul, 1) := by decide +kernel
theorem dX11_has_8 : decode cX11_has 8 = .ok (.iload_n 2, 1) := by decide +kernel
theorem dX11_has_9 : decode cX11_has 9 = .ok (.iadd, 1) := by decide +kernel
theorem dX11_has_10 : decode cX11_has 10 = .ok (.baload, 1) := by decide +kernel
theorem dX11_has_11 : decode cX11_has 11 = .ok (.ireturn, 1) := by decide +kernel
theorem dX11_codeOf_0 : decode cX11_codeOf 0 = .ok (.aload_n 0, 1) := by decide +kernel
theorem dX11_codeOf_1 : decode cX11_codeOf 1 = .ok (.iload_n 1, 1) := by decide +kernel
theorem dX11_codeOf_2 : decode cX11_codeOf 2 = .ok (.iload_n 2, 1) := by decide +kernel
theorem dX11_codeOf_3 : decode cX11_codeOf 3 = .ok (.invokevirtual 96, 3) := by decide +kernel
theorem dX11_codeOf_6 : decode cX11_codeOf 6 = .ok (.ifCond .eq 7, 3) := by decide +kernel
theorem dX11_codeOf_9 : decode cX11_codeOf 9 = .ok (.iconst 1, 1) := by decide +kernel
theorem dX11_codeOf_10 : decode cX11_codeOf 10 = .ok (.goto 4, 3) := by decide +kernel
theorem dX11_codeOf_13 : decode cX11_codeOf 13 = .ok (.iconst 0, 1) := by decide +kernel
theorem dX11_codeOf_14 : decode cX11_codeOf 14 = .ok (.aload_n 0, 1) := by decide +kernel
theorem dX11_codeOf_15 : decode cX11_codeOf 15 = .ok (.iload_n 1, 1) := by decide +kernel
theorem dX11_codeOf_16 : decode cX11_codeOf 16 = .ok (.iload_n 3, 1) := by decide +kernel
theorem dX11_codeOf_17 : decode cX11_codeOf 17 = .ok (.invokevirtual 96, 3) := by decide +kernel
theorem dX11_codeOf_20 : decode cX11_codeOf 20 = .ok (.ifCond .eq 7, 3) := by decide +kernel
theorem dX11_codeOf_23 : decode cX11_codeOf 23 = .ok (.iconst 2, 1) := by decide +kernel
theorem dX11_codeOf_24 : decode cX11_codeOf 24 = .ok (.goto 4, 3) := by decide +kernel
theorem dX11_codeOf_27 : decode cX11_codeOf 27 = .ok (.iconst 0, 1) := by decide +kernel
theorem dX11_codeOf_28 : decode cX11_codeOf 28 = .ok (.iadd, 1) := by decide +kernel
theorem dX11_codeOf_29 : decode cX11_codeOf 29 = .ok (.aload_n 0, 1) := by decide +kernel
theorem dX11_codeOf_30 : decode cX11_codeOf 30 = .ok (.iload_n 2, 1) := by decide +kernel
theorem dX11_codeOf_31 : decode cX11_codeOf 31 = .ok (.iload_n 1, 1) := by decide +kernel
theorem dX11_codeOf_32 : decode cX11_codeOf 32 = .ok (.invokevirtual 96, 3) := by decide +kernel
theorem dX11_codeOf_35 : decode cX11_codeOf 35 = .ok (.ifCond .eq 7, 3) := by decide +kernel
theorem dX11_codeOf_38 : decode cX11_codeOf 38 = .ok (.iconst 4, 1) := by decide +kernel
theorem dX11_codeOf_39 : decode cX11_codeOf 39 = .ok (.goto 4, 3) := by decide +kernel
theorem dX11_codeOf_42 : decode cX11_codeOf 42 = .ok (.iconst 0, 1) := by decide +kernel
theorem dX11_codeOf_43 : decode cX11_codeOf 43 = .ok (.iadd, 1) := by decide +kernel
theorem dX11_codeOf_44 : decode cX11_codeOf 44 = .ok (.aload_n 0, 1) := by decide +kernel
theorem dX11_codeOf_45 : decode cX11_codeOf 45 = .ok (.iload_n 2, 1) := by decide +kernel
theorem dX11_codeOf_46 : decode cX11_codeOf 46 = .ok (.iload_n 3, 1) := by decide +kernel
theorem dX11_codeOf_47 : decode cX11_codeOf 47 = .ok (.invokevirtual 96, 3) := by decide +kernel
theorem dX11_codeOf_50 : decode cX11_codeOf 50 = .ok (.ifCond .eq 8, 3) := by decide +kernel
theorem dX11_codeOf_53 : decode cX11_codeOf 53 = .ok (.bipush 8, 2) := by decide +kernel
theorem dX11_codeOf_55 : decode cX11_codeOf 55 = .ok (.goto 4, 3) := by decide +kernel
theorem dX11_codeOf_58 : decode cX11_codeOf 58 = .ok (.iconst 0, 1) := by decide +kernel
theorem dX11_codeOf_59 : decode cX11_codeOf 59 = .ok (.iadd, 1) := by decide +kernel
theorem dX11_codeOf_60 : decode cX11_codeOf 60 = .ok (.aload_n 0, 1) := by decide +kernel
theorem dX11_codeOf_61 : decode cX11_codeOf 61 = .ok (.iload_n 3, 1) := by decide +kernel
theorem dX11_codeOf_62 : decode cX11_codeOf 62 = .ok (.iload_n 1, 1) := by decide +kernel
theorem dX11_codeOf_63 : decode cX11_codeOf 63 = .ok (.invokevirtual 96, 3) := by decide +kernel
theorem dX11_codeOf_66 : decode cX11_codeOf 66 = .ok (.ifCond .eq 8, 3) := by decide +kernel
theorem dX11_codeOf_69 : decode cX11_codeOf 69 = .ok (.bipush 16, 2) := by decide +kernel
theorem dX11_codeOf_71 : decode cX11_codeOf 71 = .ok (.goto 4, 3) := by decide +kernel
theorem dX11_codeOf_74 : decode cX11_codeOf 74 = .ok (.iconst 0, 1) := by decide +kernel
theorem dX11_codeOf_75 : decode cX11_codeOf 75 = .ok (.iadd, 1) := by decide +kernel
theorem dX11_codeOf_76 : decode cX11_codeOf 76 = .ok (.aload_n 0, 1) := by decide +kernel
theorem dX11_codeOf_77 : decode cX11_codeOf 77 = .ok (.iload_n 3, 1) := by decide +kernel
theorem dX11_codeOf_78 : decode cX11_codeOf 78 = .ok (.iload_n 2, 1) := by decide +kernel
theorem dX11_codeOf_79 : decode cX11_codeOf 79 = .ok (.invokevirtual 96, 3) := by decide +kernel
theorem dX11_codeOf_82 : decode cX11_codeOf 82 = .ok (.ifCond .eq 8, 3) := by decide +kernel
theorem dX11_codeOf_85 : decode cX11_codeOf 85 = .ok (.bipush 32, 2) := by decide +kernel
theorem dX11_codeOf_87 : decode cX11_codeOf 87 = .ok (.goto 4, 3) := by decide +kernel
theorem dX11_codeOf_90 : decode cX11_codeOf 90 = .ok (.iconst 0, 1) := by decide +kernel
theorem dX11_codeOf_91 : decode cX11_codeOf 91 = .ok (.iadd, 1) := by decide +kernel
theorem dX11_codeOf_92 : decode cX11_codeOf 92 = .ok (.ireturn, 1) := by decide +kernel
theorem dX11_shapeOfThree_0 : decode cX11_shapeOfThree 0 = .ok (.aload_n 0, 1) := by decide +kernel
theorem dX11_shapeOfThree_1 : decode cX11_shapeOfThree 1 = .ok (.getfield 48, 3) := by decide +kernel
theorem dX11_shapeOfThree_4 : decode cX11_shapeOfThree 4 = .ok (.aload_n 0, 1) := by decide +kernel
theorem dX11_shapeOfThree_5 : decode cX11_shapeOfThree 5 = .ok (.getfield 42, 3) := by decide +kernel
theorem dX11_shapeOfThree_8 : decode cX11_shapeOfThree 8 = .ok (.aload_n 0, 1) := by decide +kernel
theorem dX11_shapeOfThree_9 : decode cX11_shapeOfThree 9 = .ok (.iload_n 1, 1) := by decide +kernel
theorem dX11_shapeOfThree_10 : decode cX11_shapeOfThree 10 = .ok (.iload_n 2, 1) := by decide +kernel
theorem dX11_shapeOfThree_11 : decode cX11_shapeOfThree 11 = .ok (.iload_n 3, 1) := by decide +kernel
theorem dX11_shapeOfThree_12 : decode cX11_shapeOfThree 12 = .ok (.invokevirtual 100, 3) := by decide +kernel
theorem dX11_shapeOfThree_15 : decode cX11_shapeOfThree 15 = .ok (.iaload, 1) := by decide +kernel
theorem dX11_shapeOfThree_16 : decode cX11_shapeOfThree 16 = .ok (.iaload, 1) := by decide +kernel
theorem dX11_shapeOfThree_17 : decode cX11_shapeOfThree 17 = .ok (.ireturn, 1) := by decide +kernel
theorem dX11_placeIn_0 : decode cX11_placeIn 0 = .ok (.iconst 3, 1) := by decide +kernel
theorem dX11_placeIn_1 : decode cX11_placeIn 1 = .ok (.istore_n 3, 1) := by decide +kernel
theorem dX11_placeIn_2 : decode cX11_placeIn 2 = .ok (.iconst 0, 1) := by decide +kernel
theorem dX11_placeIn_3 : decode cX11_placeIn 3 = .ok (.istore 4, 2) := by decide +kernel
theorem dX11_placeIn_5 : decode cX11_placeIn 5 = .ok (.iload 4, 2) := by decide +kernel
theorem dX11_placeIn_7 : decode cX11_placeIn 7 = .ok (.bipush 6, 2) := by decide +kernel
theorem dX11_placeIn_9 : decode cX11_placeIn 9 = .ok (.if_icmp .ge 59, 3) := by decide +kernel
theorem dX11_placeIn_12 : decode cX11_placeIn 12 = .ok (.iconst 0, 1) := by decide +kernel
theorem dX11_placeIn_13 : decode cX11_placeIn 13 = .ok (.istore 5, 2) := by decide +kernel
theorem dX11_placeIn_15 : decode cX11_placeIn 15 = .ok (.iload 5, 2) := by decide +kernel
theorem dX11_placeIn_17 : decode cX11_placeIn 17 = .ok (.iconst 3, 1) := by decide +kernel
theorem dX11_placeIn_18 : decode cX11_placeIn 18 = .ok (.if_icmp .ge 44, 3) := by decide +kernel
theorem dX11_placeIn_21 : decode cX11_placeIn 21 = .ok (.iload_n 1, 1) := by decide +kernel
theorem dX11_placeIn_22 : decode cX11_placeIn 22 = .ok (.iload 4, 2) := by decide +kernel
theorem dX11_placeIn_24 : decode cX11_placeIn 24 = .ok (.invokestatic 82, 3) := by decide +kernel
theorem dX11_placeIn_27 : decode cX11_placeIn 27 = .ok (.aload_n 0, 1) := by decide +kernel
theorem dX11_placeIn_28 : decode cX11_placeIn 28 = .ok (.getfield 42, 3) := by decide +kernel
theorem dX11_placeIn_31 : decode cX11_placeIn 31 = .ok (.iload_n 1, 1) := by decide +kernel
theorem dX11_placeIn_32 : decode cX11_placeIn 32 = .ok (.iaload, 1) := by decide +kernel
theorem dX11_placeIn_33 : decode cX11_placeIn 33 = .ok (.if_icmp .ne 23, 3) := by decide +kernel
theorem dX11_placeIn_36 : decode cX11_placeIn 36 = .ok (.iload 4, 2) := by decide +kernel
theorem dX11_placeIn_38 : decode cX11_placeIn 38 = .ok (.iload 5, 2) := by decide +kernel
theorem dX11_placeIn_40 : decode cX11_placeIn 40 = .ok (.invokestatic 90, 3) := by decide +kernel
theorem dX11_placeIn_43 : decode cX11_placeIn 43 = .ok (.iload_n 2, 1) := by decide +kernel
theorem dX11_placeIn_44 : decode cX11_placeIn 44 = .ok (.if_icmp .ne 12, 3) := by decide +kernel
theorem dX11_placeIn_47 : decode cX11_placeIn 47 = .ok (.iload 5, 2) := by decide +kernel
theorem dX11_placeIn_49 : decode cX11_placeIn 49 = .ok (.iload_n 3, 1) := by decide +kernel
theorem dX11_placeIn_50 : decode cX11_placeIn 50 = .ok (.if_icmp .ge 6, 3) := by decide +kernel
theorem dX11_placeIn_53 : decode cX11_placeIn 53 = .ok (.iload 5, 2) := by decide +kernel
theorem dX11_placeIn_55 : decode cX11_placeIn 55 = .ok (.istore_n 3, 1) := by decide +kernel
theorem dX11_placeIn_56 : decode cX11_placeIn 56 = .ok (.iinc 5 1, 3) := by decide +kernel
theorem dX11_placeIn_59 : decode cX11_placeIn 59 = .ok (.goto (-44), 3) := by decide +kernel
theorem dX11_placeIn_62 : decode cX11_placeIn 62 = .ok (.iinc 4 1, 3) := by decide +kernel
theorem dX11_placeIn_65 : decode cX11_placeIn 65 = .ok (.goto (-60), 3) := by decide +kernel
theorem dX11_placeIn_68 : decode cX11_placeIn 68 = .ok (.iload_n 3, 1) := by decide +kernel
theorem dX11_placeIn_69 : decode cX11_placeIn 69 = .ok (.ireturn, 1) := by decide +kernel
theorem dX11_ones_0 : decode cX11_ones 0 = .ok (.iconst 0, 1) := by decide +kernel
theorem dX11_ones_1 : decode cX11_ones 1 = .ok (.istore_n 1, 1) := by decide +kernel
theorem dX11_ones_2 : decode cX11_ones 2 = .ok (.iload_n 0, 1) := by decide +kernel
theorem dX11_ones_3 : decode cX11_ones 3 = .ok (.istore_n 2, 1) := by decide +kernel
theorem dX11_ones_4 : decode cX11_ones 4 = .ok (.iload_n 2, 1) := by decide +kernel
theorem dX11_ones_5 : decode cX11_ones 5 = .ok (.ifCond .le 16, 3) := by decide +kernel
theorem dX11_ones_8 : decode cX11_ones 8 = .ok (.iload_n 1, 1) := by decide +kernel
theorem dX11_ones_9 : decode cX11_ones 9 = .ok (.iload_n 2, 1) := by decide +kernel
theorem dX11_ones_10 : decode cX11_ones 10 = .ok (.iconst 2, 1) := by decide +kernel
theorem dX11_ones_11 : decode cX11_ones 11 = .ok (.irem, 1) := by decide +kernel
theorem dX11_ones_12 : decode cX11_ones 12 = .ok (.iadd, 1) := by decide +kernel
theorem dX11_ones_13 : decode cX11_ones 13 = .ok (.istore_n 1, 1) := by decide +kernel
theorem dX11_ones_14 : decode cX11_ones 14 = .ok (.iload_n 2, 1) := by decide +kernel
theorem dX11_ones_15 : decode cX11_ones 15 = .ok (.iconst 2, 1) := by decide +kernel
theorem dX11_ones_16 : decode cX11_ones 16 = .ok (.idiv, 1) := by decide +kernel
theorem dX11_ones_17 : decode cX11_ones 17 = .ok (.istore_n 2, 1) := by decide +kernel
theorem dX11_ones_18 : decode cX11_ones 18 = .ok (.goto (-14), 3) := by decide +kernel
theorem dX11_ones_21 : decode cX11_ones 21 = .ok (.iload_n 1, 1) := by decide +kernel
theorem dX11_ones_22 : decode cX11_ones 22 = .ok (.ireturn, 1) := by decide +kernel
theorem dX11_posts_0 : decode cX11_posts 0 = .ok (.iload_n 1, 1) := by decide +kernel
theorem dX11_posts_1 : decode cX11_posts 1 = .ok (.iconst 3, 1) := by decide +kernel
theorem dX11_posts_2 : decode cX11_posts 2 = .ok (.if_icmp .ge 10, 3) := by decide +kernel
theorem dX11_posts_5 : decode cX11_posts 5 = .ok (.aload_n 0, 1) := by decide +kernel
theorem dX11_posts_6 : decode cX11_posts 6 = .ok (.bipush (-4), 2) := by decide +kernel
theorem dX11_posts_8 : decode cX11_posts 8 = .ok (.invokevirtual 104, 3) := by decide +kernel
theorem dX11_posts_11 : decode cX11_posts 11 = .ok (.ireturn, 1) := by decide +kernel
theorem dX11_posts_12 : decode cX11_posts 12 = .ok (.iload_n 1, 1) := by decide +kernel
theorem dX11_posts_13 : decode cX11_posts 13 = .ok (.bipush 16, 2) := by decide +kernel
theorem dX11_posts_15 : decode cX11_posts 15 = .ok (.if_icmp .le 10, 3) := by decide +kernel
theorem dX11_posts_18 : decode cX11_posts 18 = .ok (.aload_n 0, 1) := by decide +kernel
theorem dX11_posts_19 : decode cX11_posts 19 = .ok (.bipush (-6), 2) := by decide +kernel
theorem dX11_posts_21 : decode cX11_posts 21 = .ok (.invokevirtual 104, 3) := by decide +kernel
theorem dX11_posts_24 : decode cX11_posts 24 = .ok (.ireturn, 1) := by decide +kernel
theorem dX11_posts_25 : decode cX11_posts 25 = .ok (.aload_n 0, 1) := by decide +kernel
theorem dX11_posts_26 : decode cX11_posts 26 = .ok (.getfield 7, 3) := by decide +kernel
theorem dX11_posts_29 : decode cX11_posts 29 = .ok (.istore_n 2, 1) := by decide +kernel
theorem dX11_posts_30 : decode cX11_posts 30 = .ok (.aload_n 0, 1) := by decide +kernel
theorem dX11_posts_31 : decode cX11_posts 31 = .ok (.iload_n 1, 1) := by decide +kernel
theorem dX11_posts_32 : decode cX11_posts 32 = .ok (.putfield 7, 3) := by decide +kernel
theorem dX11_posts_35 : decode cX11_posts 35 = .ok (.iconst 0, 1) := by decide +kernel
theorem dX11_posts_36 : decode cX11_posts 36 = .ok (.istore_n 3, 1) := by decide +kernel
theorem dX11_posts_37 : decode cX11_posts 37 = .ok (.iload_n 3, 1) := by decide +kernel
theorem dX11_posts_38 : decode cX11_posts 38 = .ok (.sipush 256, 3) := by decide +kernel
theorem dX11_posts_41 : decode cX11_posts 41 = .ok (.if_icmp .ge 30, 3) := by decide +kernel
theorem dX11_posts_44 : decode cX11_posts 44 = .ok (.aload_n 0, 1) := by decide +kernel
theorem dX11_posts_45 : decode cX11_posts 45 = .ok (.getfield 13, 3) := by decide +kernel
theorem dX11_posts_48 : decode cX11_posts 48 = .ok (.iload_n 3, 1) := by decide +kernel
theorem dX11_posts_49 : decode cX11_posts 49 = .ok (.iconst 0, 1) := by decide +kernel
theorem dX11_posts_50 : decode cX11_posts 50 = .ok (.bastore, 1) := by decide +kernel
theorem dX11_posts_51 : decode cX11_posts 51 = .ok (.aload_n 0, 1) := by decide +kernel
theorem dX11_posts_52 : decode cX11_posts 52 = .ok (.getfield 17, 3) := by decide +kernel
theorem dX11_posts_55 : decode cX11_posts 55 = .ok (.iload_n 3, 1) := by decide +kernel
theorem dX11_posts_56 : decode cX11_posts 56 = .ok (.iconst 0, 1) := by decide +kernel
theorem dX11_posts_57 : decode cX11_posts 57 = .ok (.iastore, 1) := by decide +kernel
theorem dX11_posts_58 : decode cX11_posts 58 = .ok (.aload_n 0, 1) := by decide +kernel
theorem dX11_posts_59 : decode cX11_posts 59 = .ok (.getfield 21, 3) := by decide +kernel
theorem dX11_posts_62 : decode cX11_posts 62 = .ok (.iload_n 3, 1) := by decide +kernel
theorem dX11_posts_63 : decode cX11_posts 63 = .ok (.iconst 0, 1) := by decide +kernel
theorem dX11_posts_64 : decode cX11_posts 64 = .ok (.iastore, 1) := by decide +kernel
theorem dX11_posts_65 : decode cX11_posts 65 = .ok (.iinc 3 1, 3) := by decide +kernel
theorem dX11_posts_68 : decode cX11_posts 68 = .ok (.goto (-31), 3) := by decide +kernel
theorem dX11_posts_71 : decode cX11_posts 71 = .ok (.iload_n 2, 1) := by decide +kernel
theorem dX11_posts_72 : decode cX11_posts 72 = .ok (.ireturn, 1) := by decide +kernel
theorem dX11_isTwo_0 : decode cX11_isTwo 0 = .ok (.aload_n 0, 1) := by decide +kernel
theorem dX11_isTwo_1 : decode cX11_isTwo 1 = .ok (.iload_n 1, 1) := by decide +kernel
theorem dX11_isTwo_2 : decode cX11_isTwo 2 = .ok (.invokevirtual 108, 3) := by decide +kernel
theorem dX11_isTwo_5 : decode cX11_isTwo 5 = .ok (.ifCond .eq 20, 3) := by decide +kernel
theorem dX11_isTwo_8 : decode cX11_isTwo 8 = .ok (.aload_n 0, 1) := by decide +kernel
theorem dX11_isTwo_9 : decode cX11_isTwo 9 = .ok (.iload_n 2, 1) := by decide +kernel
theorem dX11_isTwo_10 : decode cX11_isTwo 10 = .ok (.invokevirtual 108, 3) := by decide +kernel
theorem dX11_isTwo_13 : decode cX11_isTwo 13 = .ok (.ifCond .eq 12, 3) := by decide +kernel
theorem dX11_isTwo_16 : decode cX11_isTwo 16 = .ok (.iload_n 1, 1) := by decide +kernel
theorem dX11_isTwo_17 : decode cX11_isTwo 17 = .ok (.iload_n 2, 1) := by decide +kernel
theorem dX11_isTwo_18 : decode cX11_isTwo 18 = .ok (.if_icmp .eq 7, 3) := by decide +kernel
theorem dX11_isTwo_21 : decode cX11_isTwo 21 = .ok (.iconst 1, 1) := by decide +kernel
theorem dX11_isTwo_22 : decode cX11_isTwo 22 = .ok (.goto 4, 3) := by decide +kernel
theorem dX11_isTwo_25 : decode cX11_isTwo 25 = .ok (.iconst 0, 1) := by decide +kernel
theorem dX11_isTwo_26 : decode cX11_isTwo 26 = .ok (.ireturn, 1) := by decide +kernel
theorem dX11_link_0 : decode cX11_link 0 = .ok (.aload_n 0, 1) := by decide +kernel
theorem dX11_link_1 : decode cX11_link 1 = .ok (.iload_n 1, 1) := by decide +kernel
theorem dX11_link_2 : decode cX11_link 2 = .ok (.iload_n 2, 1) := by decide +kernel
theorem dX11_link_3 : decode cX11_link 3 = .ok (.invokevirtual 112, 3) := by decide +kernel
theorem dX11_link_6 : decode cX11_link 6 = .ok (.ifCond .ne 9, 3) := by decide +kernel
theorem dX11_link_9 : decode cX11_link 9 = .ok (.aload_n 0, 1) := by decide +kernel
theorem dX11_link_10 : decode cX11_link 10 = .ok (.iconst (-1), 1) := by decide +kernel
theorem dX11_link_11 : decode cX11_link 11 = .ok (.invokevirtual 104, 3) := by decide +kernel
theorem dX11_link_14 : decode cX11_link 14 = .ok (.ireturn, 1) := by decide +kernel
theorem dX11_link_15 : decode cX11_link 15 = .ok (.iload_n 3, 1) := by decide +kernel
theorem dX11_link_16 : decode cX11_link 16 = .ok (.ifCond .lt 8, 3) := by decide +kernel
theorem dX11_link_19 : decode cX11_link 19 = .ok (.iload 4, 2) := by decide +kernel
theorem dX11_link_21 : decode cX11_link 21 = .ok (.ifCond .ge 10, 3) := by decide +kernel
theorem dX11_link_24 : decode cX11_link 24 = .ok (.aload_n 0, 1) := by decide +kernel
theorem dX11_link_25 : decode cX11_link 25 = .ok (.bipush (-4), 2) := by decide +kernel
theorem dX11_link_27 : decode cX11_link 27 = .ok (.invokevirtual 104, 3) := by decide +kernel
theorem dX11_link_30 : decode cX11_link 30 = .ok (.ireturn, 1) := by decide +kernel
theorem dX11_link_31 : decode cX11_link 31 = .ok (.iload_n 3, 1) := by decide +kernel
theorem dX11_link_32 : decode cX11_link 32 = .ok (.iconst 1, 1) := by decide +kernel
theorem dX11_link_33 : decode cX11_link 33 = .ok (.if_icmp .gt 11, 3) := by decide +kernel
theorem dX11_link_36 : decode cX11_link 36 = .ok (.iload 4, 2) := by decide +kernel
theorem dX11_link_38 : decode cX11_link 38 = .ok (.sipush 1000, 3) := by decide +kernel
theorem dX11_link_41 : decode cX11_link 41 = .ok (.if_icmp .le 10, 3) := by decide +kernel
theorem dX11_link_44 : decode cX11_link 44 = .ok (.aload_n 0, 1) := by decide +kernel
theorem dX11_link_45 : decode cX11_link 45 = .ok (.bipush (-6), 2) := by decide +kernel
theorem dX11_link_47 : decode cX11_link 47 = .ok (.invokevirtual 104, 3) := by decide +kernel
theorem dX11_link_50 : decode cX11_link 50 = .ok (.ireturn, 1) := by decide +kernel
theorem dX11_link_51 : decode cX11_link 51 = .ok (.aload_n 0, 1) := by decide +kernel
theorem dX11_link_52 : decode cX11_link 52 = .ok (.iload_n 1, 1) := by decide +kernel
theorem dX11_link_53 : decode cX11_link 53 = .ok (.iload_n 2, 1) := by decide +kernel
theorem dX11_link_54 : decode cX11_link 54 = .ok (.invokevirtual 96, 3) := by decide +kernel
theorem dX11_link_57 : decode cX11_link 57 = .ok (.istore 5, 2) := by decide +kernel
theorem dX11_link_59 : decode cX11_link 59 = .ok (.aload_n 0, 1) := by decide +kernel
theorem dX11_link_60 : decode cX11_link 60 = .ok (.getfield 13, 3) := by decide +kernel
theorem dX11_link_63 : decode cX11_link 63 = .ok (.bipush 16, 2) := by decide +kernel
theorem dX11_link_65 : decode cX11_link 65 = .ok (.iload_n 1, 1) := by decide +kernel
theorem dX11_link_66 : decode cX11_link 66 = .ok (.imul, 1) := by decide +kernel
theorem dX11_link_67 : decode cX11_link 67 = .ok (.iload_n 2, 1) := by decide +kernel
theorem dX11_link_68 : decode cX11_link 68 = .ok (.iadd, 1) := by decide +kernel
theorem dX11_link_69 : decode cX11_link 69 = .ok (.iconst 1, 1) := by decide +kernel
theorem dX11_link_70 : decode cX11_link 70 = .ok (.bastore, 1) := by decide +kernel
theorem dX11_link_71 : decode cX11_link 71 = .ok (.aload_n 0, 1) := by decide +kernel
theorem dX11_link_72 : decode cX11_link 72 = .ok (.getfield 17, 3) := by decide +kernel
theorem dX11_link_75 : decode cX11_link 75 = .ok (.bipush 16, 2) := by decide +kernel
theorem dX11_link_77 : decode cX11_link 77 = .ok (.iload_n 1, 1) := by decide +kernel
theorem dX11_link_78 : decode cX11_link 78 = .ok (.imul, 1) := by decide +kernel
theorem dX11_link_79 : decode cX11_link 79 = .ok (.iload_n 2, 1) := by decide +kernel
theorem dX11_link_80 : decode cX11_link 80 = .ok (.iadd, 1) := by decide +kernel
theorem dX11_link_81 : decode cX11_link 81 = .ok (.iload_n 3, 1) := by decide +kernel
theorem dX11_link_82 : decode cX11_link 82 = .ok (.iastore, 1) := by decide +kernel
theorem dX11_link_83 : decode cX11_link 83 = .ok (.aload_n 0, 1) := by decide +kernel
theorem dX11_link_84 : decode cX11_link 84 = .ok (.getfield 21, 3) := by decide +kernel
theorem dX11_link_87 : decode cX11_link 87 = .ok (.bipush 16, 2) := by decide +kernel
theorem dX11_link_89 : decode cX11_link 89 = .ok (.iload_n 1, 1) := by decide +kernel
theorem dX11_link_90 : decode cX11_link 90 = .ok (.imul, 1) := by decide +kernel
theorem dX11_link_91 : decode cX11_link 91 = .ok (.iload_n 2, 1) := by decide +kernel
theorem dX11_link_92 : decode cX11_link 92 = .ok (.iadd, 1) := by decide +kernel
theorem dX11_link_93 : decode cX11_link 93 = .ok (.iload 4, 2) := by decide +kernel
theorem dX11_link_95 : decode cX11_link 95 = .ok (.iastore, 1) := by decide +kernel
theorem dX11_link_96 : decode cX11_link 96 = .ok (.iload 5, 2) := by decide +kernel
theorem dX11_link_98 : decode cX11_link 98 = .ok (.ifCond .eq 7, 3) := by decide +kernel
theorem dX11_link_101 : decode cX11_link 101 = .ok (.iconst 0, 1) := by decide +kernel
theorem dX11_link_102 : decode cX11_link 102 = .ok (.goto 4, 3) := by decide +kernel
theorem dX11_link_105 : decode cX11_link 105 = .ok (.iconst 1, 1) := by decide +kernel
theorem dX11_link_106 : decode cX11_link 106 = .ok (.ireturn, 1) := by decide +kernel
theorem dX11_cut_0 : decode cX11_cut 0 = .ok (.aload_n 0, 1) := by decide +kernel
theorem dX11_cut_1 : decode cX11_cut 1 = .ok (.iload_n 1, 1) := by decide +kernel
theorem dX11_cut_2 : decode cX11_cut 2 = .ok (.iload_n 2, 1) := by decide +kernel
theorem dX11_cut_3 : decode cX11_cut 3 = .ok (.invokevirtual 112, 3) := by decide +kernel
theorem dX11_cut_6 : decode cX11_cut 6 = .ok (.ifCond .ne 9, 3) := by decide +kernel
theorem dX11_cut_9 : decode cX11_cut 9 = .ok (.aload_n 0, 1) := by decide +kernel
theorem dX11_cut_10 : decode cX11_cut 10 = .ok (.iconst (-1), 1) := by decide +kernel
theorem dX11_cut_11 : decode cX11_cut 11 = .ok (.invokevirtual 104, 3) := by decide +kernel
theorem dX11_cut_14 : decode cX11_cut 14 = .ok (.ireturn, 1) := by decide +kernel
theorem dX11_cut_15 : decode cX11_cut 15 = .ok (.aload_n 0, 1) := by decide +kernel
theorem dX11_cut_16 : decode cX11_cut 16 = .ok (.iload_n 1, 1) := by decide +kernel
theorem dX11_cut_17 : decode cX11_cut 17 = .ok (.iload_n 2, 1) := by decide +kernel
theorem dX11_cut_18 : decode cX11_cut 18 = .ok (.invokevirtual 96, 3) := by decide +kernel
theorem dX11_cut_21 : decode cX11_cut 21 = .ok (.ifCond .ne 10, 3) := by decide +kernel
theorem dX11_cut_24 : decode cX11_cut 24 = .ok (.aload_n 0, 1) := by decide +kernel
theorem dX11_cut_25 : decode cX11_cut 25 = .ok (.bipush (-3), 2) := by decide +kernel
theorem dX11_cut_27 : decode cX11_cut 27 = .ok (.invokevirtual 104, 3) := by decide +kernel
theorem dX11_cut_30 : decode cX11_cut 30 = .ok (.ireturn, 1) := by decide +kernel
theorem dX11_cut_31 : decode cX11_cut 31 = .ok (.aload_n 0, 1) := by decide +kernel
theorem dX11_cut_32 : decode cX11_cut 32 = .ok (.getfield 13, 3) := by decide +kernel
theorem dX11_cut_35 : decode cX11_cut 35 = .ok (.bipush 16, 2) := by decide +kernel
theorem dX11_cut_37 : decode cX11_cut 37 = .ok (.iload_n 1, 1) := by decide +kernel
theorem dX11_cut_38 : decode cX11_cut 38 = .ok (.imul, 1) := by decide +kernel
theorem dX11_cut_39 : decode cX11_cut 39 = .ok (.iload_n 2, 1) := by decide +kernel
theorem dX11_cut_40 : decode cX11_cut 40 = .ok (.iadd, 1) := by decide +kernel
theorem dX11_cut_41 : decode cX11_cut 41 = .ok (.iconst 0, 1) := by decide +kernel
theorem dX11_cut_42 : decode cX11_cut 42 = .ok (.bastore, 1) := by decide +kernel
theorem dX11_cut_43 : decode cX11_cut 43 = .ok (.aload_n 0, 1) := by decide +kernel
theorem dX11_cut_44 : decode cX11_cut 44 = .ok (.getfield 17, 3) := by decide +kernel
theorem dX11_cut_47 : decode cX11_cut 47 = .ok (.bipush 16, 2) := by decide +kernel
theorem dX11_cut_49 : decode cX11_cut 49 = .ok (.iload_n 1, 1) := by decide +kernel
theorem dX11_cut_50 : decode cX11_cut 50 = .ok (.imul, 1) := by decide +kernel
theorem dX11_cut_51 : decode cX11_cut 51 = .ok (.iload_n 2, 1) := by decide +kernel
theorem dX11_cut_52 : decode cX11_cut 52 = .ok (.iadd, 1) := by decide +kernel
theorem dX11_cut_53 : decode cX11_cut 53 = .ok (.iconst 0, 1) := by decide +kernel
theorem dX11_cut_54 : decode cX11_cut 54 = .ok (.iastore, 1) := by decide +kernel
theorem dX11_cut_55 : decode cX11_cut 55 = .ok (.aload_n 0, 1) := by decide +kernel
theorem dX11_cut_56 : decode cX11_cut 56 = .ok (.getfield 21, 3) := by decide +kernel
theorem dX11_cut_59 : decode cX11_cut 59 = .ok (.bipush 16, 2) := by decide +kernel
theorem dX11_cut_61 : decode cX11_cut 61 = .ok (.iload_n 1, 1) := by decide +kernel
theorem dX11_cut_62 : decode cX11_cut 62 = .ok (.imul, 1) := by decide +kernel
theorem dX11_cut_63 : decode cX11_cut 63 = .ok (.iload_n 2, 1) := by decide +kernel
theorem dX11_cut_64 : decode cX11_cut 64 = .ok (.iadd, 1) := by decide +kernel
theorem dX11_cut_65 : decode cX11_cut 65 = .ok (.iconst 0, 1) := by decide +kernel
