theorem dX11_cut_66 : decode cX11_cut 66 = .ok (.iastore, 1) := by decide +kernel
theorem dX11_cut_67 : decode cX11_cut 67 = .ok (.iconst 1, 1) := by decide +kernel
theorem dX11_cut_68 : decode cX11_cut 68 = .ok (.ireturn, 1) := by decide +kernel
theorem dX11_linkOf_0 : decode cX11_linkOf 0 = .ok (.aload_n 0, 1) := by decide +kernel
theorem dX11_linkOf_1 : decode cX11_linkOf 1 = .ok (.iload_n 1, 1) := by decide +kernel
theorem dX11_linkOf_2 : decode cX11_linkOf 2 = .ok (.iload_n 2, 1) := by decide +kernel
theorem dX11_linkOf_3 : decode cX11_linkOf 3 = .ok (.invokevirtual 112, 3) := by decide +kernel
theorem dX11_linkOf_6 : decode cX11_linkOf 6 = .ok (.ifCond .ne 9, 3) := by decide +kernel
theorem dX11_linkOf_9 : decode cX11_linkOf 9 = .ok (.aload_n 0, 1) := by decide +kernel
theorem dX11_linkOf_10 : decode cX11_linkOf 10 = .ok (.iconst (-1), 1) := by decide +kernel
theorem dX11_linkOf_11 : decode cX11_linkOf 11 = .ok (.invokevirtual 104, 3) := by decide +kernel
theorem dX11_linkOf_14 : decode cX11_linkOf 14 = .ok (.ireturn, 1) := by decide +kernel
theorem dX11_linkOf_15 : decode cX11_linkOf 15 = .ok (.iload_n 3, 1) := by decide +kernel
theorem dX11_linkOf_16 : decode cX11_linkOf 16 = .ok (.iconst 0, 1) := by decide +kernel
theorem dX11_linkOf_17 : decode cX11_linkOf 17 = .ok (.iconst 2, 1) := by decide +kernel
theorem dX11_linkOf_18 : decode cX11_linkOf 18 = .ok (.invokestatic 86, 3) := by decide +kernel
theorem dX11_linkOf_21 : decode cX11_linkOf 21 = .ok (.ifCond .ne 10, 3) := by decide +kernel
theorem dX11_linkOf_24 : decode cX11_linkOf 24 = .ok (.aload_n 0, 1) := by decide +kernel
theorem dX11_linkOf_25 : decode cX11_linkOf 25 = .ok (.bipush (-2), 2) := by decide +kernel
theorem dX11_linkOf_27 : decode cX11_linkOf 27 = .ok (.invokevirtual 104, 3) := by decide +kernel
theorem dX11_linkOf_30 : decode cX11_linkOf 30 = .ok (.ireturn, 1) := by decide +kernel
theorem dX11_linkOf_31 : decode cX11_linkOf 31 = .ok (.iload_n 3, 1) := by decide +kernel
theorem dX11_linkOf_32 : decode cX11_linkOf 32 = .ok (.ifCond .ne 20, 3) := by decide +kernel
theorem dX11_linkOf_35 : decode cX11_linkOf 35 = .ok (.aload_n 0, 1) := by decide +kernel
theorem dX11_linkOf_36 : decode cX11_linkOf 36 = .ok (.iload_n 1, 1) := by decide +kernel
theorem dX11_linkOf_37 : decode cX11_linkOf 37 = .ok (.iload_n 2, 1) := by decide +kernel
theorem dX11_linkOf_38 : decode cX11_linkOf 38 = .ok (.invokevirtual 96, 3) := by decide +kernel
theorem dX11_linkOf_41 : decode cX11_linkOf 41 = .ok (.ifCond .eq 7, 3) := by decide +kernel
theorem dX11_linkOf_44 : decode cX11_linkOf 44 = .ok (.iconst 1, 1) := by decide +kernel
theorem dX11_linkOf_45 : decode cX11_linkOf 45 = .ok (.goto 37, 3) := by decide +kernel
theorem dX11_linkOf_48 : decode cX11_linkOf 48 = .ok (.iconst 0, 1) := by decide +kernel
theorem dX11_linkOf_49 : decode cX11_linkOf 49 = .ok (.goto 33, 3) := by decide +kernel
theorem dX11_linkOf_52 : decode cX11_linkOf 52 = .ok (.iload_n 3, 1) := by decide +kernel
theorem dX11_linkOf_53 : decode cX11_linkOf 53 = .ok (.iconst 1, 1) := by decide +kernel
theorem dX11_linkOf_54 : decode cX11_linkOf 54 = .ok (.if_icmp .ne 17, 3) := by decide +kernel
theorem dX11_linkOf_57 : decode cX11_linkOf 57 = .ok (.aload_n 0, 1) := by decide +kernel
theorem dX11_linkOf_58 : decode cX11_linkOf 58 = .ok (.getfield 17, 3) := by decide +kernel
theorem dX11_linkOf_61 : decode cX11_linkOf 61 = .ok (.bipush 16, 2) := by decide +kernel
theorem dX11_linkOf_63 : decode cX11_linkOf 63 = .ok (.iload_n 1, 1) := by decide +kernel
theorem dX11_linkOf_64 : decode cX11_linkOf 64 = .ok (.imul, 1) := by decide +kernel
theorem dX11_linkOf_65 : decode cX11_linkOf 65 = .ok (.iload_n 2, 1) := by decide +kernel
theorem dX11_linkOf_66 : decode cX11_linkOf 66 = .ok (.iadd, 1) := by decide +kernel
theorem dX11_linkOf_67 : decode cX11_linkOf 67 = .ok (.iaload, 1) := by decide +kernel
theorem dX11_linkOf_68 : decode cX11_linkOf 68 = .ok (.goto 14, 3) := by decide +kernel
theorem dX11_linkOf_71 : decode cX11_linkOf 71 = .ok (.aload_n 0, 1) := by decide +kernel
theorem dX11_linkOf_72 : decode cX11_linkOf 72 = .ok (.getfield 21, 3) := by decide +kernel
theorem dX11_linkOf_75 : decode cX11_linkOf 75 = .ok (.bipush 16, 2) := by decide +kernel
theorem dX11_linkOf_77 : decode cX11_linkOf 77 = .ok (.iload_n 1, 1) := by decide +kernel
theorem dX11_linkOf_78 : decode cX11_linkOf 78 = .ok (.imul, 1) := by decide +kernel
theorem dX11_linkOf_79 : decode cX11_linkOf 79 = .ok (.iload_n 2, 1) := by decide +kernel
theorem dX11_linkOf_80 : decode cX11_linkOf 80 = .ok (.iadd, 1) := by decide +kernel
theorem dX11_linkOf_81 : decode cX11_linkOf 81 = .ok (.iaload, 1) := by decide +kernel
theorem dX11_linkOf_82 : decode cX11_linkOf 82 = .ok (.ireturn, 1) := by decide +kernel
theorem dX11_links_0 : decode cX11_links 0 = .ok (.iconst 0, 1) := by decide +kernel
theorem dX11_links_1 : decode cX11_links 1 = .ok (.istore_n 1, 1) := by decide +kernel
theorem dX11_links_2 : decode cX11_links 2 = .ok (.iconst 0, 1) := by decide +kernel
theorem dX11_links_3 : decode cX11_links 3 = .ok (.istore_n 2, 1) := by decide +kernel
theorem dX11_links_4 : decode cX11_links 4 = .ok (.iload_n 2, 1) := by decide +kernel
theorem dX11_links_5 : decode cX11_links 5 = .ok (.sipush 256, 3) := by decide +kernel
theorem dX11_links_8 : decode cX11_links 8 = .ok (.if_icmp .ge 26, 3) := by decide +kernel
theorem dX11_links_11 : decode cX11_links 11 = .ok (.iload_n 1, 1) := by decide +kernel
theorem dX11_links_12 : decode cX11_links 12 = .ok (.aload_n 0, 1) := by decide +kernel
theorem dX11_links_13 : decode cX11_links 13 = .ok (.getfield 13, 3) := by decide +kernel
theorem dX11_links_16 : decode cX11_links 16 = .ok (.iload_n 2, 1) := by decide +kernel
theorem dX11_links_17 : decode cX11_links 17 = .ok (.baload, 1) := by decide +kernel
theorem dX11_links_18 : decode cX11_links 18 = .ok (.ifCond .eq 7, 3) := by decide +kernel
theorem dX11_links_21 : decode cX11_links 21 = .ok (.iconst 1, 1) := by decide +kernel
theorem dX11_links_22 : decode cX11_links 22 = .ok (.goto 4, 3) := by decide +kernel
theorem dX11_links_25 : decode cX11_links 25 = .ok (.iconst 0, 1) := by decide +kernel
theorem dX11_links_26 : decode cX11_links 26 = .ok (.iadd, 1) := by decide +kernel
theorem dX11_links_27 : decode cX11_links 27 = .ok (.istore_n 1, 1) := by decide +kernel
theorem dX11_links_28 : decode cX11_links 28 = .ok (.iinc 2 1, 3) := by decide +kernel
theorem dX11_links_31 : decode cX11_links 31 = .ok (.goto (-27), 3) := by decide +kernel
theorem dX11_links_34 : decode cX11_links 34 = .ok (.iload_n 1, 1) := by decide +kernel
theorem dX11_links_35 : decode cX11_links 35 = .ok (.ireturn, 1) := by decide +kernel
theorem dX11_linkAt_0 : decode cX11_linkAt 0 = .ok (.iload_n 1, 1) := by decide +kernel
theorem dX11_linkAt_1 : decode cX11_linkAt 1 = .ok (.istore_n 2, 1) := by decide +kernel
theorem dX11_linkAt_2 : decode cX11_linkAt 2 = .ok (.iconst 0, 1) := by decide +kernel
theorem dX11_linkAt_3 : decode cX11_linkAt 3 = .ok (.istore_n 3, 1) := by decide +kernel
theorem dX11_linkAt_4 : decode cX11_linkAt 4 = .ok (.iload_n 3, 1) := by decide +kernel
theorem dX11_linkAt_5 : decode cX11_linkAt 5 = .ok (.sipush 256, 3) := by decide +kernel
theorem dX11_linkAt_8 : decode cX11_linkAt 8 = .ok (.if_icmp .ge 31, 3) := by decide +kernel
theorem dX11_linkAt_11 : decode cX11_linkAt 11 = .ok (.iload_n 1, 1) := by decide +kernel
theorem dX11_linkAt_12 : decode cX11_linkAt 12 = .ok (.ifCond .lt 27, 3) := by decide +kernel
theorem dX11_linkAt_15 : decode cX11_linkAt 15 = .ok (.aload_n 0, 1) := by decide +kernel
theorem dX11_linkAt_16 : decode cX11_linkAt 16 = .ok (.getfield 13, 3) := by decide +kernel
theorem dX11_linkAt_19 : decode cX11_linkAt 19 = .ok (.iload_n 3, 1) := by decide +kernel
theorem dX11_linkAt_20 : decode cX11_linkAt 20 = .ok (.baload, 1) := by decide +kernel
theorem dX11_linkAt_21 : decode cX11_linkAt 21 = .ok (.ifCond .eq 12, 3) := by decide +kernel
theorem dX11_linkAt_24 : decode cX11_linkAt 24 = .ok (.iload_n 2, 1) := by decide +kernel
theorem dX11_linkAt_25 : decode cX11_linkAt 25 = .ok (.ifCond .ne 5, 3) := by decide +kernel
theorem dX11_linkAt_28 : decode cX11_linkAt 28 = .ok (.iload_n 3, 1) := by decide +kernel
theorem dX11_linkAt_29 : decode cX11_linkAt 29 = .ok (.ireturn, 1) := by decide +kernel
theorem dX11_linkAt_30 : decode cX11_linkAt 30 = .ok (.iinc 2 (-1), 3) := by decide +kernel
theorem dX11_linkAt_33 : decode cX11_linkAt 33 = .ok (.iinc 3 1, 3) := by decide +kernel
theorem dX11_linkAt_36 : decode cX11_linkAt 36 = .ok (.goto (-32), 3) := by decide +kernel
theorem dX11_linkAt_39 : decode cX11_linkAt 39 = .ok (.iconst (-1), 1) := by decide +kernel
theorem dX11_linkAt_40 : decode cX11_linkAt 40 = .ok (.ireturn, 1) := by decide +kernel
theorem dX11_at_0 : decode cX11_at 0 = .ok (.aload_n 0, 1) := by decide +kernel
theorem dX11_at_1 : decode cX11_at 1 = .ok (.iload_n 1, 1) := by decide +kernel
theorem dX11_at_2 : decode cX11_at 2 = .ok (.invokevirtual 115, 3) := by decide +kernel
theorem dX11_at_5 : decode cX11_at 5 = .ok (.istore_n 3, 1) := by decide +kernel
theorem dX11_at_6 : decode cX11_at 6 = .ok (.iload_n 3, 1) := by decide +kernel
theorem dX11_at_7 : decode cX11_at 7 = .ok (.ifCond .ge 9, 3) := by decide +kernel
theorem dX11_at_10 : decode cX11_at 10 = .ok (.aload_n 0, 1) := by decide +kernel
theorem dX11_at_11 : decode cX11_at 11 = .ok (.iconst (-1), 1) := by decide +kernel
theorem dX11_at_12 : decode cX11_at 12 = .ok (.invokevirtual 104, 3) := by decide +kernel
theorem dX11_at_15 : decode cX11_at 15 = .ok (.ireturn, 1) := by decide +kernel
theorem dX11_at_16 : decode cX11_at 16 = .ok (.iload_n 2, 1) := by decide +kernel
theorem dX11_at_17 : decode cX11_at 17 = .ok (.iconst 0, 1) := by decide +kernel
theorem dX11_at_18 : decode cX11_at 18 = .ok (.iconst 1, 1) := by decide +kernel
theorem dX11_at_19 : decode cX11_at 19 = .ok (.invokestatic 86, 3) := by decide +kernel
theorem dX11_at_22 : decode cX11_at 22 = .ok (.ifCond .ne 10, 3) := by decide +kernel
theorem dX11_at_25 : decode cX11_at 25 = .ok (.aload_n 0, 1) := by decide +kernel
theorem dX11_at_26 : decode cX11_at 26 = .ok (.bipush (-2), 2) := by decide +kernel
theorem dX11_at_28 : decode cX11_at 28 = .ok (.invokevirtual 104, 3) := by decide +kernel
theorem dX11_at_31 : decode cX11_at 31 = .ok (.ireturn, 1) := by decide +kernel
theorem dX11_at_32 : decode cX11_at 32 = .ok (.iload_n 2, 1) := by decide +kernel
theorem dX11_at_33 : decode cX11_at 33 = .ok (.ifCond .ne 10, 3) := by decide +kernel
theorem dX11_at_36 : decode cX11_at 36 = .ok (.iload_n 3, 1) := by decide +kernel
theorem dX11_at_37 : decode cX11_at 37 = .ok (.bipush 16, 2) := by decide +kernel
theorem dX11_at_39 : decode cX11_at 39 = .ok (.idiv, 1) := by decide +kernel
theorem dX11_at_40 : decode cX11_at 40 = .ok (.goto 7, 3) := by decide +kernel
theorem dX11_at_43 : decode cX11_at 43 = .ok (.iload_n 3, 1) := by decide +kernel
theorem dX11_at_44 : decode cX11_at 44 = .ok (.bipush 16, 2) := by decide +kernel
theorem dX11_at_46 : decode cX11_at 46 = .ok (.irem, 1) := by decide +kernel
theorem dX11_at_47 : decode cX11_at 47 = .ok (.ireturn, 1) := by decide +kernel
theorem dX11_areThree_0 : decode cX11_areThree 0 = .ok (.aload_n 0, 1) := by decide +kernel
theorem dX11_areThree_1 : decode cX11_areThree 1 = .ok (.iload_n 1, 1) := by decide +kernel
theorem dX11_areThree_2 : decode cX11_areThree 2 = .ok (.iload_n 2, 1) := by decide +kernel
theorem dX11_areThree_3 : decode cX11_areThree 3 = .ok (.invokevirtual 112, 3) := by decide +kernel
theorem dX11_areThree_6 : decode cX11_areThree 6 = .ok (.ifCond .eq 25, 3) := by decide +kernel
theorem dX11_areThree_9 : decode cX11_areThree 9 = .ok (.aload_n 0, 1) := by decide +kernel
theorem dX11_areThree_10 : decode cX11_areThree 10 = .ok (.iload_n 1, 1) := by decide +kernel
theorem dX11_areThree_11 : decode cX11_areThree 11 = .ok (.iload_n 3, 1) := by decide +kernel
theorem dX11_areThree_12 : decode cX11_areThree 12 = .ok (.invokevirtual 112, 3) := by decide +kernel
theorem dX11_areThree_15 : decode cX11_areThree 15 = .ok (.ifCond .eq 16, 3) := by decide +kernel
theorem dX11_areThree_18 : decode cX11_areThree 18 = .ok (.aload_n 0, 1) := by decide +kernel
theorem dX11_areThree_19 : decode cX11_areThree 19 = .ok (.iload_n 2, 1) := by decide +kernel
theorem dX11_areThree_20 : decode cX11_areThree 20 = .ok (.iload_n 3, 1) := by decide +kernel
theorem dX11_areThree_21 : decode cX11_areThree 21 = .ok (.invokevirtual 112, 3) := by decide +kernel
theorem dX11_areThree_24 : decode cX11_areThree 24 = .ok (.ifCond .eq 7, 3) := by decide +kernel
theorem dX11_areThree_27 : decode cX11_areThree 27 = .ok (.iconst 1, 1) := by decide +kernel
theorem dX11_areThree_28 : decode cX11_areThree 28 = .ok (.goto 4, 3) := by decide +kernel
theorem dX11_areThree_31 : decode cX11_areThree 31 = .ok (.iconst 0, 1) := by decide +kernel
theorem dX11_areThree_32 : decode cX11_areThree 32 = .ok (.ireturn, 1) := by decide +kernel
theorem dX11_shape_0 : decode cX11_shape 0 = .ok (.aload_n 0, 1) := by decide +kernel
theorem dX11_shape_1 : decode cX11_shape 1 = .ok (.iload_n 1, 1) := by decide +kernel
theorem dX11_shape_2 : decode cX11_shape 2 = .ok (.iload_n 2, 1) := by decide +kernel
theorem dX11_shape_3 : decode cX11_shape 3 = .ok (.iload_n 3, 1) := by decide +kernel
theorem dX11_shape_4 : decode cX11_shape 4 = .ok (.invokevirtual 118, 3) := by decide +kernel
theorem dX11_shape_7 : decode cX11_shape 7 = .ok (.ifCond .eq 13, 3) := by decide +kernel
theorem dX11_shape_10 : decode cX11_shape 10 = .ok (.aload_n 0, 1) := by decide +kernel
theorem dX11_shape_11 : decode cX11_shape 11 = .ok (.iload_n 1, 1) := by decide +kernel
theorem dX11_shape_12 : decode cX11_shape 12 = .ok (.iload_n 2, 1) := by decide +kernel
theorem dX11_shape_13 : decode cX11_shape 13 = .ok (.iload_n 3, 1) := by decide +kernel
theorem dX11_shape_14 : decode cX11_shape 14 = .ok (.invokevirtual 121, 3) := by decide +kernel
theorem dX11_shape_17 : decode cX11_shape 17 = .ok (.goto 8, 3) := by decide +kernel
theorem dX11_shape_20 : decode cX11_shape 20 = .ok (.aload_n 0, 1) := by decide +kernel
theorem dX11_shape_21 : decode cX11_shape 21 = .ok (.iconst (-1), 1) := by decide +kernel
theorem dX11_shape_22 : decode cX11_shape 22 = .ok (.invokevirtual 104, 3) := by decide +kernel
theorem dX11_shape_25 : decode cX11_shape 25 = .ok (.ireturn, 1) := by decide +kernel
theorem dX11_shapeOf_0 : decode cX11_shapeOf 0 = .ok (.iload_n 1, 1) := by decide +kernel
theorem dX11_shapeOf_1 : decode cX11_shapeOf 1 = .ok (.invokestatic 124, 3) := by decide +kernel
theorem dX11_shapeOf_4 : decode cX11_shapeOf 4 = .ok (.ifCond .ne 9, 3) := by decide +kernel
theorem dX11_shapeOf_7 : decode cX11_shapeOf 7 = .ok (.aload_n 0, 1) := by decide +kernel
theorem dX11_shapeOf_8 : decode cX11_shapeOf 8 = .ok (.iconst (-1), 1) := by decide +kernel
theorem dX11_shapeOf_9 : decode cX11_shapeOf 9 = .ok (.invokevirtual 104, 3) := by decide +kernel
theorem dX11_shapeOf_12 : decode cX11_shapeOf 12 = .ok (.ireturn, 1) := by decide +kernel
theorem dX11_shapeOf_13 : decode cX11_shapeOf 13 = .ok (.iload_n 2, 1) := by decide +kernel
theorem dX11_shapeOf_14 : decode cX11_shapeOf 14 = .ok (.iconst 0, 1) := by decide +kernel
theorem dX11_shapeOf_15 : decode cX11_shapeOf 15 = .ok (.iconst 3, 1) := by decide +kernel
theorem dX11_shapeOf_16 : decode cX11_shapeOf 16 = .ok (.invokestatic 86, 3) := by decide +kernel
theorem dX11_shapeOf_19 : decode cX11_shapeOf 19 = .ok (.ifCond .ne 10, 3) := by decide +kernel
theorem dX11_shapeOf_22 : decode cX11_shapeOf 22 = .ok (.aload_n 0, 1) := by decide +kernel
theorem dX11_shapeOf_23 : decode cX11_shapeOf 23 = .ok (.bipush (-2), 2) := by decide +kernel
theorem dX11_shapeOf_25 : decode cX11_shapeOf 25 = .ok (.invokevirtual 104, 3) := by decide +kernel
theorem dX11_shapeOf_28 : decode cX11_shapeOf 28 = .ok (.ireturn, 1) := by decide +kernel
theorem dX11_shapeOf_29 : decode cX11_shapeOf 29 = .ok (.aload_n 0, 1) := by decide +kernel
theorem dX11_shapeOf_30 : decode cX11_shapeOf 30 = .ok (.getfield 45, 3) := by decide +kernel
theorem dX11_shapeOf_33 : decode cX11_shapeOf 33 = .ok (.iload_n 1, 1) := by decide +kernel
theorem dX11_shapeOf_34 : decode cX11_shapeOf 34 = .ok (.iaload, 1) := by decide +kernel
theorem dX11_shapeOf_35 : decode cX11_shapeOf 35 = .ok (.istore_n 3, 1) := by decide +kernel
theorem dX11_shapeOf_36 : decode cX11_shapeOf 36 = .ok (.iload_n 2, 1) := by decide +kernel
theorem dX11_shapeOf_37 : decode cX11_shapeOf 37 = .ok (.ifCond .ne 5, 3) := by decide +kernel
theorem dX11_shapeOf_40 : decode cX11_shapeOf 40 = .ok (.iload_n 3, 1) := by decide +kernel
theorem dX11_shapeOf_41 : decode cX11_shapeOf 41 = .ok (.ireturn, 1) := by decide +kernel
theorem dX11_shapeOf_42 : decode cX11_shapeOf 42 = .ok (.iload_n 2, 1) := by decide +kernel
theorem dX11_shapeOf_43 : decode cX11_shapeOf 43 = .ok (.iconst 2, 1) := by decide +kernel
theorem dX11_shapeOf_44 : decode cX11_shapeOf 44 = .ok (.if_icmp .ne 8, 3) := by decide +kernel
theorem dX11_shapeOf_47 : decode cX11_shapeOf 47 = .ok (.iload_n 3, 1) := by decide +kernel
theorem dX11_shapeOf_48 : decode cX11_shapeOf 48 = .ok (.invokestatic 127, 3) := by decide +kernel
theorem dX11_shapeOf_51 : decode cX11_shapeOf 51 = .ok (.ireturn, 1) := by decide +kernel
theorem dX11_shapeOf_52 : decode cX11_shapeOf 52 = .ok (.iconst 0, 1) := by decide +kernel
theorem dX11_shapeOf_53 : decode cX11_shapeOf 53 = .ok (.istore 4, 2) := by decide +kernel
theorem dX11_shapeOf_55 : decode cX11_shapeOf 55 = .ok (.iconst 0, 1) := by decide +kernel
theorem dX11_shapeOf_56 : decode cX11_shapeOf 56 = .ok (.istore 5, 2) := by decide +kernel
theorem dX11_shapeOf_58 : decode cX11_shapeOf 58 = .ok (.iload 5, 2) := by decide +kernel
theorem dX11_shapeOf_60 : decode cX11_shapeOf 60 = .ok (.bipush 64, 2) := by decide +kernel
theorem dX11_shapeOf_62 : decode cX11_shapeOf 62 = .ok (.if_icmp .ge 35, 3) := by decide +kernel
theorem dX11_shapeOf_65 : decode cX11_shapeOf 65 = .ok (.iload_n 2, 1) := by decide +kernel
theorem dX11_shapeOf_66 : decode cX11_shapeOf 66 = .ok (.iconst 1, 1) := by decide +kernel
theorem dX11_shapeOf_67 : decode cX11_shapeOf 67 = .ok (.if_icmp .ne 30, 3) := by decide +kernel
theorem dX11_shapeOf_70 : decode cX11_shapeOf 70 = .ok (.iload 4, 2) := by decide +kernel
theorem dX11_shapeOf_72 : decode cX11_shapeOf 72 = .ok (.aload_n 0, 1) := by decide +kernel
theorem dX11_shapeOf_73 : decode cX11_shapeOf 73 = .ok (.getfield 42, 3) := by decide +kernel
theorem dX11_shapeOf_76 : decode cX11_shapeOf 76 = .ok (.iload 5, 2) := by decide +kernel
theorem dX11_shapeOf_78 : decode cX11_shapeOf 78 = .ok (.iaload, 1) := by decide +kernel
theorem dX11_shapeOf_79 : decode cX11_shapeOf 79 = .ok (.iload_n 3, 1) := by decide +kernel
theorem dX11_shapeOf_80 : decode cX11_shapeOf 80 = .ok (.if_icmp .ne 7, 3) := by decide +kernel
theorem dX11_shapeOf_83 : decode cX11_shapeOf 83 = .ok (.iconst 1, 1) := by decide +kernel
theorem dX11_shapeOf_84 : decode cX11_shapeOf 84 = .ok (.goto 4, 3) := by decide +kernel
theorem dX11_shapeOf_87 : decode cX11_shapeOf 87 = .ok (.iconst 0, 1) := by decide +kernel
theorem dX11_shapeOf_88 : decode cX11_shapeOf 88 = .ok (.iadd, 1) := by decide +kernel
theorem dX11_shapeOf_89 : decode cX11_shapeOf 89 = .ok (.istore 4, 2) := by decide +kernel
theorem dX11_shapeOf_91 : decode cX11_shapeOf 91 = .ok (.iinc 5 1, 3) := by decide +kernel
theorem dX11_shapeOf_94 : decode cX11_shapeOf 94 = .ok (.goto (-36), 3) := by decide +kernel
theorem dX11_shapeOf_97 : decode cX11_shapeOf 97 = .ok (.iconst 0, 1) := by decide +kernel
theorem dX11_shapeOf_98 : decode cX11_shapeOf 98 = .ok (.istore 5, 2) := by decide +kernel
theorem dX11_shapeOf_100 : decode cX11_shapeOf 100 = .ok (.iload 5, 2) := by decide +kernel
theorem dX11_shapeOf_102 : decode cX11_shapeOf 102 = .ok (.iconst 3, 1) := by decide +kernel
theorem dX11_shapeOf_103 : decode cX11_shapeOf 103 = .ok (.if_icmp .ge 71, 3) := by decide +kernel
theorem dX11_shapeOf_106 : decode cX11_shapeOf 106 = .ok (.iload_n 2, 1) := by decide +kernel
theorem dX11_shapeOf_107 : decode cX11_shapeOf 107 = .ok (.iconst 3, 1) := by decide +kernel
theorem dX11_shapeOf_108 : decode cX11_shapeOf 108 = .ok (.if_icmp .ne 66, 3) := by decide +kernel
theorem dX11_shapeOf_111 : decode cX11_shapeOf 111 = .ok (.iconst 0, 1) := by decide +kernel
theorem dX11_shapeOf_112 : decode cX11_shapeOf 112 = .ok (.istore 6, 2) := by decide +kernel
theorem dX11_shapeOf_114 : decode cX11_shapeOf 114 = .ok (.iconst 0, 1) := by decide +kernel
theorem dX11_shapeOf_115 : decode cX11_shapeOf 115 = .ok (.istore 7, 2) := by decide +kernel
theorem dX11_shapeOf_117 : decode cX11_shapeOf 117 = .ok (.iload 7, 2) := by decide +kernel
theorem dX11_shapeOf_119 : decode cX11_shapeOf 119 = .ok (.iconst 3, 1) := by decide +kernel
theorem dX11_shapeOf_120 : decode cX11_shapeOf 120 = .ok (.if_icmp .ge 33, 3) := by decide +kernel
theorem dX11_shapeOf_123 : decode cX11_shapeOf 123 = .ok (.iload 6, 2) := by decide +kernel
theorem dX11_shapeOf_125 : decode cX11_shapeOf 125 = .ok (.ifCond .ne 15, 3) := by decide +kernel
theorem dX11_shapeOf_128 : decode cX11_shapeOf 128 = .ok (.aload_n 0, 1) := by decide +kernel
theorem dX11_shapeOf_129 : decode cX11_shapeOf 129 = .ok (.iload_n 3, 1) := by decide +kernel
theorem dX11_shapeOf_130 : decode cX11_shapeOf 130 = .ok (.iload 7, 2) := by decide +kernel
theorem dX11_shapeOf_132 : decode cX11_shapeOf 132 = .ok (.invokevirtual 130, 3) := by decide +kernel
theorem dX11_shapeOf_135 : decode cX11_shapeOf 135 = .ok (.iload 5, 2) := by decide +kernel
theorem dX11_shapeOf_137 : decode cX11_shapeOf 137 = .ok (.if_icmp .ne 7, 3) := by decide +kernel
theorem dX11_shapeOf_140 : decode cX11_shapeOf 140 = .ok (.iconst 1, 1) := by decide +kernel
theorem dX11_shapeOf_141 : decode cX11_shapeOf 141 = .ok (.goto 4, 3) := by decide +kernel
theorem dX11_shapeOf_144 : decode cX11_shapeOf 144 = .ok (.iconst 0, 1) := by decide +kernel
theorem dX11_shapeOf_145 : decode cX11_shapeOf 145 = .ok (.istore 6, 2) := by decide +kernel
theorem dX11_shapeOf_147 : decode cX11_shapeOf 147 = .ok (.iinc 7 1, 3) := by decide +kernel
theorem dX11_shapeOf_150 : decode cX11_shapeOf 150 = .ok (.goto (-33), 3) := by decide +kernel
theorem dX11_shapeOf_153 : decode cX11_shapeOf 153 = .ok (.iload 4, 2) := by decide +kernel
theorem dX11_shapeOf_155 : decode cX11_shapeOf 155 = .ok (.iload 6, 2) := by decide +kernel
theorem dX11_shapeOf_157 : decode cX11_shapeOf 157 = .ok (.ifCond .eq 7, 3) := by decide +kernel
theorem dX11_shapeOf_160 : decode cX11_shapeOf 160 = .ok (.iconst 1, 1) := by decide +kernel
theorem dX11_shapeOf_161 : decode cX11_shapeOf 161 = .ok (.goto 4, 3) := by decide +kernel
theorem dX11_shapeOf_164 : decode cX11_shapeOf 164 = .ok (.iconst 0, 1) := by decide +kernel
theorem dX11_shapeOf_165 : decode cX11_shapeOf 165 = .ok (.iadd, 1) := by decide +kernel
theorem dX11_shapeOf_166 : decode cX11_shapeOf 166 = .ok (.istore 4, 2) := by decide +kernel
theorem dX11_shapeOf_168 : decode cX11_shapeOf 168 = .ok (.iinc 5 1, 3) := by decide +kernel
theorem dX11_shapeOf_171 : decode cX11_shapeOf 171 = .ok (.goto (-71), 3) := by decide +kernel
theorem dX11_shapeOf_174 : decode cX11_shapeOf 174 = .ok (.iload 4, 2) := by decide +kernel
theorem dX11_shapeOf_176 : decode cX11_shapeOf 176 = .ok (.ireturn, 1) := by decide +kernel
theorem dX11_place_0 : decode cX11_place 0 = .ok (.aload_n 0, 1) := by decide +kernel
theorem dX11_place_1 : decode cX11_place 1 = .ok (.iload_n 1, 1) := by decide +kernel
theorem dX11_place_2 : decode cX11_place 2 = .ok (.iload_n 2, 1) := by decide +kernel
theorem dX11_place_3 : decode cX11_place 3 = .ok (.iload_n 3, 1) := by decide +kernel
theorem dX11_place_4 : decode cX11_place 4 = .ok (.invokevirtual 118, 3) := by decide +kernel
theorem dX11_place_7 : decode cX11_place 7 = .ok (.ifCond .eq 18, 3) := by decide +kernel
theorem dX11_place_10 : decode cX11_place 10 = .ok (.aload_n 0, 1) := by decide +kernel
theorem dX11_place_11 : decode cX11_place 11 = .ok (.aload_n 0, 1) := by decide +kernel
theorem dX11_place_12 : decode cX11_place 12 = .ok (.iload_n 1, 1) := by decide +kernel
theorem dX11_place_13 : decode cX11_place 13 = .ok (.iload_n 2, 1) := by decide +kernel
theorem dX11_place_14 : decode cX11_place 14 = .ok (.iload_n 3, 1) := by decide +kernel
theorem dX11_place_15 : decode cX11_place 15 = .ok (.invokevirtual 100, 3) := by decide +kernel
theorem dX11_place_18 : decode cX11_place 18 = .ok (.iconst 0, 1) := by decide +kernel
theorem dX11_place_19 : decode cX11_place 19 = .ok (.invokevirtual 130, 3) := by decide +kernel
theorem dX11_place_22 : decode cX11_place 22 = .ok (.goto 8, 3) := by decide +kernel
theorem dX11_place_25 : decode cX11_place 25 = .ok (.aload_n 0, 1) := by decide +kernel
theorem dX11_place_26 : decode cX11_place 26 = .ok (.iconst (-1), 1) := by decide +kernel
theorem dX11_place_27 : decode cX11_place 27 = .ok (.invokevirtual 104, 3) := by decide +kernel
theorem dX11_place_30 : decode cX11_place 30 = .ok (.ireturn, 1) := by decide +kernel
theorem dX11_countShape_0 : decode cX11_countShape 0 = .ok (.iconst 0, 1) := by decide +kernel
theorem dX11_countShape_1 : decode cX11_countShape 1 = .ok (.istore_n 2, 1) := by decide +kernel
theorem dX11_countShape_2 : decode cX11_countShape 2 = .ok (.iconst 0, 1) := by decide +kernel
theorem dX11_countShape_3 : decode cX11_countShape 3 = .ok (.istore_n 3, 1) := by decide +kernel
theorem dX11_countShape_4 : decode cX11_countShape 4 = .ok (.iload_n 3, 1) := by decide +kernel
theorem dX11_countShape_5 : decode cX11_countShape 5 = .ok (.aload_n 0, 1) := by decide +kernel
theorem dX11_countShape_6 : decode cX11_countShape 6 = .ok (.getfield 7, 3) := by decide +kernel
theorem dX11_countShape_9 : decode cX11_countShape 9 = .ok (.if_icmp .ge 71, 3) := by decide +kernel
theorem dX11_countShape_12 : decode cX11_countShape 12 = .ok (.iload_n 3, 1) := by decide +kernel
theorem dX11_countShape_13 : decode cX11_countShape 13 = .ok (.iconst 1, 1) := by decide +kernel
theorem dX11_countShape_14 : decode cX11_countShape 14 = .ok (.iadd, 1) := by decide +kernel
theorem dX11_countShape_15 : decode cX11_countShape 15 = .ok (.istore 4, 2) := by decide +kernel
theorem dX11_countShape_17 : decode cX11_countShape 17 = .ok (.iload 4, 2) := by decide +kernel
theorem dX11_countShape_19 : decode cX11_countShape 19 = .ok (.aload_n 0, 1) := by decide +kernel
theorem dX11_countShape_20 : decode cX11_countShape 20 = .ok (.getfield 7, 3) := by decide +kernel
theorem dX11_countShape_23 : decode cX11_countShape 23 = .ok (.if_icmp .ge 51, 3) := by decide +kernel
theorem dX11_countShape_26 : decode cX11_countShape 26 = .ok (.iload 4, 2) := by decide +kernel
theorem dX11_countShape_28 : decode cX11_countShape 28 = .ok (.iconst 1, 1) := by decide +kernel
theorem dX11_countShape_29 : decode cX11_countShape 29 = .ok (.iadd, 1) := by decide +kernel
theorem dX11_countShape_30 : decode cX11_countShape 30 = .ok (.istore 5, 2) := by decide +kernel
theorem dX11_countShape_32 : decode cX11_countShape 32 = .ok (.iload 5, 2) := by decide +kernel
theorem dX11_countShape_34 : decode cX11_countShape 34 = .ok (.aload_n 0, 1) := by decide +kernel
theorem dX11_countShape_35 : decode cX11_countShape 35 = .ok (.getfield 7, 3) := by decide +kernel
theorem dX11_countShape_38 : decode cX11_countShape 38 = .ok (.if_icmp .ge 30, 3) := by decide +kernel
theorem dX11_countShape_41 : decode cX11_countShape 41 = .ok (.iload_n 2, 1) := by decide +kernel
theorem dX11_countShape_42 : decode cX11_countShape 42 = .ok (.aload_n 0, 1) := by decide +kernel
theorem dX11_countShape_43 : decode cX11_countShape 43 = .ok (.iload_n 3, 1) := by decide +kernel
theorem dX11_countShape_44 : decode cX11_countShape 44 = .ok (.iload 4, 2) := by decide +kernel
theorem dX11_countShape_46 : decode cX11_countShape 46 = .ok (.iload 5, 2) := by decide +kernel
theorem dX11_countShape_48 : decode cX11_countShape 48 = .ok (.invokevirtual 121, 3) := by decide +kernel
theorem dX11_countShape_51 : decode cX11_countShape 51 = .ok (.iload_n 1, 1) := by decide +kernel
theorem dX11_countShape_52 : decode cX11_countShape 52 = .ok (.if_icmp .ne 7, 3) := by decide +kernel
theorem dX11_countShape_55 : decode cX11_countShape 55 = .ok (.iconst 1, 1) := by decide +kernel
theorem dX11_countShape_56 : decode cX11_countShape 56 = .ok (.goto 4, 3) := by decide +kernel
theorem dX11_countShape_59 : decode cX11_countShape 59 = .ok (.iconst 0, 1) := by decide +kernel
theorem dX11_countShape_60 : decode cX11_countShape 60 = .ok (.iadd, 1) := by decide +kernel
theorem dX11_countShape_61 : decode cX11_countShape 61 = .ok (.istore_n 2, 1) := by decide +kernel
theorem dX11_countShape_62 : decode cX11_countShape 62 = .ok (.iinc 5 1, 3) := by decide +kernel
theorem dX11_countShape_65 : decode cX11_countShape 65 = .ok (.goto (-33), 3) := by decide +kernel
theorem dX11_countShape_68 : decode cX11_countShape 68 = .ok (.iinc 4 1, 3) := by decide +kernel
theorem dX11_countShape_71 : decode cX11_countShape 71 = .ok (.goto (-54), 3) := by decide +kernel
theorem dX11_countShape_74 : decode cX11_countShape 74 = .ok (.iinc 3 1, 3) := by decide +kernel
theorem dX11_countShape_77 : decode cX11_countShape 77 = .ok (.goto (-73), 3) := by decide +kernel
theorem dX11_countShape_80 : decode cX11_countShape 80 = .ok (.iload_n 2, 1) := by decide +kernel
theorem dX11_countShape_81 : decode cX11_countShape 81 = .ok (.ireturn, 1) := by decide +kernel
theorem dX11_count_0 : decode cX11_count 0 = .ok (.iload_n 1, 1) := by decide +kernel
theorem dX11_count_1 : decode cX11_count 1 = .ok (.invokestatic 124, 3) := by decide +kernel
theorem dX11_count_4 : decode cX11_count 4 = .ok (.ifCond .eq 11, 3) := by decide +kernel
theorem dX11_count_7 : decode cX11_count 7 = .ok (.aload_n 0, 1) := by decide +kernel
theorem dX11_count_8 : decode cX11_count 8 = .ok (.iload_n 1, 1) := by decide +kernel
theorem dX11_count_9 : decode cX11_count 9 = .ok (.invokevirtual 133, 3) := by decide +kernel
theorem dX11_count_12 : decode cX11_count 12 = .ok (.goto 8, 3) := by decide +kernel
theorem dX11_count_15 : decode cX11_count 15 = .ok (.aload_n 0, 1) := by decide +kernel
theorem dX11_count_16 : decode cX11_count 16 = .ok (.iconst (-1), 1) := by decide +kernel
theorem dX11_count_17 : decode cX11_count 17 = .ok (.invokevirtual 104, 3) := by decide +kernel
theorem dX11_count_20 : decode cX11_count 20 = .ok (.ireturn, 1) := by decide +kernel
theorem dX11_findCounts_0 : decode cX11_findCounts 0 = .ok (.iconst 0, 1) := by decide +kernel
theorem dX11_findCounts_1 : decode cX11_findCounts 1 = .ok (.istore_n 1, 1) := by decide +kernel
theorem dX11_findCounts_2 : decode cX11_findCounts 2 = .ok (.iload_n 1, 1) := by decide +kernel
theorem dX11_findCounts_3 : decode cX11_findCounts 3 = .ok (.sipush 768, 3) := by decide +kernel
theorem dX11_findCounts_6 : decode cX11_findCounts 6 = .ok (.if_icmp .ge 16, 3) := by decide +kernel
theorem dX11_findCounts_9 : decode cX11_findCounts 9 = .ok (.aload_n 0, 1) := by decide +kernel
theorem dX11_findCounts_10 : decode cX11_findCounts 10 = .ok (.getfield 51, 3) := by decide +kernel
theorem dX11_findCounts_13 : decode cX11_findCounts 13 = .ok (.iload_n 1, 1) := by decide +kernel
theorem dX11_findCounts_14 : decode cX11_findCounts 14 = .ok (.iconst 0, 1) := by decide +kernel
theorem dX11_findCounts_15 : decode cX11_findCounts 15 = .ok (.iastore, 1) := by decide +kernel
theorem dX11_findCounts_16 : decode cX11_findCounts 16 = .ok (.iinc 1 1, 3) := by decide +kernel
theorem dX11_findCounts_19 : decode cX11_findCounts 19 = .ok (.goto (-17), 3) := by decide +kernel
theorem dX11_findCounts_22 : decode cX11_findCounts 22 = .ok (.iconst 0, 1) := by decide +kernel
theorem dX11_findCounts_23 : decode cX11_findCounts 23 = .ok (.istore_n 1, 1) := by decide +kernel
theorem dX11_findCounts_24 : decode cX11_findCounts 24 = .ok (.iload_n 1, 1) := by decide +kernel
theorem dX11_findCounts_25 : decode cX11_findCounts 25 = .ok (.aload_n 0, 1) := by decide +kernel
theorem dX11_findCounts_26 : decode cX11_findCounts 26 = .ok (.getfield 7, 3) := by decide +kernel
theorem dX11_findCounts_29 : decode cX11_findCounts 29 = .ok (.if_icmp .ge 98, 3) := by decide +kernel
theorem dX11_findCounts_32 : decode cX11_findCounts 32 = .ok (.iconst 0, 1) := by decide +kernel
theorem dX11_findCounts_33 : decode cX11_findCounts 33 = .ok (.istore_n 2, 1) := by decide +kernel
theorem dX11_findCounts_34 : decode cX11_findCounts 34 = .ok (.iload_n 2, 1) := by decide +kernel
theorem dX11_findCounts_35 : decode cX11_findCounts 35 = .ok (.aload_n 0, 1) := by decide +kernel
theorem dX11_findCounts_36 : decode cX11_findCounts 36 = .ok (.getfield 7, 3) := by decide +kernel
theorem dX11_findCounts_39 : decode cX11_findCounts 39 = .ok (.if_icmp .ge 82, 3) := by decide +kernel
theorem dX11_findCounts_42 : decode cX11_findCounts 42 = .ok (.iload_n 2, 1) := by decide +kernel
theorem dX11_findCounts_43 : decode cX11_findCounts 43 = .ok (.iconst 1, 1) := by decide +kernel
theorem dX11_findCounts_44 : decode cX11_findCounts 44 = .ok (.iadd, 1) := by decide +kernel
theorem dX11_findCounts_45 : decode cX11_findCounts 45 = .ok (.istore_n 3, 1) := by decide +kernel
theorem dX11_findCounts_46 : decode cX11_findCounts 46 = .ok (.iload_n 3, 1) := by decide +kernel
theorem dX11_findCounts_47 : decode cX11_findCounts 47 = .ok (.aload_n 0, 1) := by decide +kernel
theorem dX11_findCounts_48 : decode cX11_findCounts 48 = .ok (.getfield 7, 3) := by decide +kernel
theorem dX11_findCounts_51 : decode cX11_findCounts 51 = .ok (.if_icmp .ge 64, 3) := by decide +kernel
theorem dX11_findCounts_54 : decode cX11_findCounts 54 = .ok (.iload_n 1, 1) := by decide +kernel
theorem dX11_findCounts_55 : decode cX11_findCounts 55 = .ok (.iload_n 2, 1) := by decide +kernel
theorem dX11_findCounts_56 : decode cX11_findCounts 56 = .ok (.if_icmp .eq 53, 3) := by decide +kernel
theorem dX11_findCounts_59 : decode cX11_findCounts 59 = .ok (.iload_n 1, 1) := by decide +kernel
theorem dX11_findCounts_60 : decode cX11_findCounts 60 = .ok (.iload_n 3, 1) := by decide +kernel
theorem dX11_findCounts_61 : decode cX11_findCounts 61 = .ok (.if_icmp .eq 48, 3) := by decide +kernel
theorem dX11_findCounts_64 : decode cX11_findCounts 64 = .ok (.aload_n 0, 1) := by decide +kernel
theorem dX11_findCounts_65 : decode cX11_findCounts 65 = .ok (.iload_n 1, 1) := by decide +kernel
theorem dX11_findCounts_66 : decode cX11_findCounts 66 = .ok (.iload_n 2, 1) := by decide +kernel
theorem dX11_findCounts_67 : decode cX11_findCounts 67 = .ok (.iload_n 3, 1) := by decide +kernel
theorem dX11_findCounts_68 : decode cX11_findCounts 68 = .ok (.invokevirtual 100, 3) := by decide +kernel
theorem dX11_findCounts_71 : decode cX11_findCounts 71 = .ok (.istore 4, 2) := by decide +kernel
theorem dX11_findCounts_73 : decode cX11_findCounts 73 = .ok (.aload_n 0, 1) := by decide +kernel
theorem dX11_findCounts_74 : decode cX11_findCounts 74 = .ok (.getfield 51, 3) := by decide +kernel
theorem dX11_findCounts_77 : decode cX11_findCounts 77 = .ok (.bipush 48, 2) := by decide +kernel
theorem dX11_findCounts_79 : decode cX11_findCounts 79 = .ok (.iload_n 1, 1) := by decide +kernel
theorem dX11_findCounts_80 : decode cX11_findCounts 80 = .ok (.imul, 1) := by decide +kernel
theorem dX11_findCounts_81 : decode cX11_findCounts 81 = .ok (.iconst 3, 1) := by decide +kernel
theorem dX11_findCounts_82 : decode cX11_findCounts 82 = .ok (.aload_n 0, 1) := by decide +kernel
theorem dX11_findCounts_83 : decode cX11_findCounts 83 = .ok (.getfield 48, 3) := by decide +kernel
theorem dX11_findCounts_86 : decode cX11_findCounts 86 = .ok (.aload_n 0, 1) := by decide +kernel
theorem dX11_findCounts_87 : decode cX11_findCounts 87 = .ok (.getfield 42, 3) := by decide +kernel
theorem dX11_findCounts_90 : decode cX11_findCounts 90 = .ok (.iload 4, 2) := by decide +kernel
theorem dX11_findCounts_92 : decode cX11_findCounts 92 = .ok (.iaload, 1) := by decide +kernel
theorem dX11_findCounts_93 : decode cX11_findCounts 93 = .ok (.iaload, 1) := by decide +kernel
theorem dX11_findCounts_94 : decode cX11_findCounts 94 = .ok (.imul, 1) := by decide +kernel
theorem dX11_findCounts_95 : decode cX11_findCounts 95 = .ok (.iadd, 1) := by decide +kernel
theorem dX11_findCounts_96 : decode cX11_findCounts 96 = .ok (.aload_n 0, 1) := by decide +kernel
theorem dX11_findCounts_97 : decode cX11_findCounts 97 = .ok (.iload 4, 2) := by decide +kernel
theorem dX11_findCounts_99 : decode cX11_findCounts 99 = .ok (.iconst 0, 1) := by decide +kernel
theorem dX11_findCounts_100 : decode cX11_findCounts 100 = .ok (.invokevirtual 130, 3) := by decide +kernel
theorem dX11_findCounts_103 : decode cX11_findCounts 103 = .ok (.iadd, 1) := by decide +kernel
theorem dX11_findCounts_104 : decode cX11_findCounts 104 = .ok (.dup2, 1) := by decide +kernel
theorem dX11_findCounts_105 : decode cX11_findCounts 105 = .ok (.iaload, 1) := by decide +kernel
theorem dX11_findCounts_106 : decode cX11_findCounts 106 = .ok (.iconst 1, 1) := by decide +kernel
theorem dX11_findCounts_107 : decode cX11_findCounts 107 = .ok (.iadd, 1) := by decide +kernel
theorem dX11_findCounts_108 : decode cX11_findCounts 108 = .ok (.iastore, 1) := by decide +kernel
theorem dX11_findCounts_109 : decode cX11_findCounts 109 = .ok (.iinc 3 1, 3) := by decide +kernel
theorem dX11_findCounts_112 : decode cX11_findCounts 112 = .ok (.goto (-66), 3) := by decide +kernel
theorem dX11_findCounts_115 : decode cX11_findCounts 115 = .ok (.iinc 2 1, 3) := by decide +kernel
theorem dX11_findCounts_118 : decode cX11_findCounts 118 = .ok (.goto (-84), 3) := by decide +kernel
theorem dX11_findCounts_121 : decode cX11_findCounts 121 = .ok (.iinc 1 1, 3) := by decide +kernel
theorem dX11_findCounts_124 : decode cX11_findCounts 124 = .ok (.goto (-100), 3) := by decide +kernel
theorem dX11_findCounts_127 : decode cX11_findCounts 127 = .ok (.return_, 1) := by decide +kernel
theorem dX11_countOf_0 : decode cX11_countOf 0 = .ok (.aload_n 0, 1) := by decide +kernel
theorem dX11_countOf_1 : decode cX11_countOf 1 = .ok (.iload_n 1, 1) := by decide +kernel
theorem dX11_countOf_2 : decode cX11_countOf 2 = .ok (.invokevirtual 108, 3) := by decide +kernel
theorem dX11_countOf_5 : decode cX11_countOf 5 = .ok (.ifCond .eq 10, 3) := by decide +kernel
theorem dX11_countOf_8 : decode cX11_countOf 8 = .ok (.iload_n 2, 1) := by decide +kernel
theorem dX11_countOf_9 : decode cX11_countOf 9 = .ok (.invokestatic 124, 3) := by decide +kernel
theorem dX11_countOf_12 : decode cX11_countOf 12 = .ok (.ifCond .ne 9, 3) := by decide +kernel
theorem dX11_countOf_15 : decode cX11_countOf 15 = .ok (.aload_n 0, 1) := by decide +kernel
theorem dX11_countOf_16 : decode cX11_countOf 16 = .ok (.iconst (-1), 1) := by decide +kernel
theorem dX11_countOf_17 : decode cX11_countOf 17 = .ok (.invokevirtual 104, 3) := by decide +kernel
theorem dX11_countOf_20 : decode cX11_countOf 20 = .ok (.ireturn, 1) := by decide +kernel
theorem dX11_countOf_21 : decode cX11_countOf 21 = .ok (.iload_n 3, 1) := by decide +kernel
theorem dX11_countOf_22 : decode cX11_countOf 22 = .ok (.iconst 0, 1) := by decide +kernel
theorem dX11_countOf_23 : decode cX11_countOf 23 = .ok (.iconst 2, 1) := by decide +kernel
theorem dX11_countOf_24 : decode cX11_countOf 24 = .ok (.invokestatic 86, 3) := by decide +kernel
theorem dX11_countOf_27 : decode cX11_countOf 27 = .ok (.ifCond .ne 10, 3) := by decide +kernel
theorem dX11_countOf_30 : decode cX11_countOf 30 = .ok (.aload_n 0, 1) := by decide +kernel
theorem dX11_countOf_31 : decode cX11_countOf 31 = .ok (.bipush (-2), 2) := by decide +kernel
theorem dX11_countOf_33 : decode cX11_countOf 33 = .ok (.invokevirtual 104, 3) := by decide +kernel
theorem dX11_countOf_36 : decode cX11_countOf 36 = .ok (.ireturn, 1) := by decide +kernel
theorem dX11_countOf_37 : decode cX11_countOf 37 = .ok (.aload_n 0, 1) := by decide +kernel
theorem dX11_countOf_38 : decode cX11_countOf 38 = .ok (.invokevirtual 136, 3) := by decide +kernel
theorem dX11_countOf_41 : decode cX11_countOf 41 = .ok (.aload_n 0, 1) := by decide +kernel
theorem dX11_countOf_42 : decode cX11_countOf 42 = .ok (.getfield 51, 3) := by decide +kernel
theorem dX11_countOf_45 : decode cX11_countOf 45 = .ok (.bipush 48, 2) := by decide +kernel
theorem dX11_countOf_47 : decode cX11_countOf 47 = .ok (.iload_n 1, 1) := by decide +kernel
theorem dX11_countOf_48 : decode cX11_countOf 48 = .ok (.imul, 1) := by decide +kernel
theorem dX11_countOf_49 : decode cX11_countOf 49 = .ok (.iconst 3, 1) := by decide +kernel
theorem dX11_countOf_50 : decode cX11_countOf 50 = .ok (.iload_n 2, 1) := by decide +kernel
theorem dX11_countOf_51 : decode cX11_countOf 51 = .ok (.imul, 1) := by decide +kernel
theorem dX11_countOf_52 : decode cX11_countOf 52 = .ok (.iadd, 1) := by decide +kernel
theorem dX11_countOf_53 : decode cX11_countOf 53 = .ok (.iload_n 3, 1) := by decide +kernel
theorem dX11_countOf_54 : decode cX11_countOf 54 = .ok (.iadd, 1) := by decide +kernel
theorem dX11_countOf_55 : decode cX11_countOf 55 = .ok (.iaload, 1) := by decide +kernel
theorem dX11_countOf_56 : decode cX11_countOf 56 = .ok (.ireturn, 1) := by decide +kernel
theorem dX11_findRoles_0 : decode cX11_findRoles 0 = .ok (.aload_n 0, 1) := by decide +kernel
theorem dX11_findRoles_1 : decode cX11_findRoles 1 = .ok (.invokevirtual 136, 3) := by decide +kernel
theorem dX11_findRoles_4 : decode cX11_findRoles 4 = .ok (.iconst 0, 1) := by decide +kernel
theorem dX11_findRoles_5 : decode cX11_findRoles 5 = .ok (.istore_n 1, 1) := by decide +kernel
theorem dX11_findRoles_6 : decode cX11_findRoles 6 = .ok (.iconst 0, 1) := by decide +kernel
theorem dX11_findRoles_7 : decode cX11_findRoles 7 = .ok (.istore_n 2, 1) := by decide +kernel
theorem dX11_findRoles_8 : decode cX11_findRoles 8 = .ok (.iload_n 2, 1) := by decide +kernel
theorem dX11_findRoles_9 : decode cX11_findRoles 9 = .ok (.aload_n 0, 1) := by decide +kernel
theorem dX11_findRoles_10 : decode cX11_findRoles 10 = .ok (.getfield 7, 3) := by decide +kernel
theorem dX11_findRoles_13 : decode cX11_findRoles 13 = .ok (.if_icmp .ge 136, 3) := by decide +kernel
theorem dX11_findRoles_16 : decode cX11_findRoles 16 = .ok (.aload_n 0, 1) := by decide +kernel
theorem dX11_findRoles_17 : decode cX11_findRoles 17 = .ok (.getfield 54, 3) := by decide +kernel
theorem dX11_findRoles_20 : decode cX11_findRoles 20 = .ok (.iload_n 2, 1) := by decide +kernel
theorem dX11_findRoles_21 : decode cX11_findRoles 21 = .ok (.iconst (-1), 1) := by decide +kernel
theorem dX11_findRoles_22 : decode cX11_findRoles 22 = .ok (.iastore, 1) := by decide +kernel
theorem dX11_findRoles_23 : decode cX11_findRoles 23 = .ok (.iconst 0, 1) := by decide +kernel
theorem dX11_findRoles_24 : decode cX11_findRoles 24 = .ok (.istore_n 3, 1) := by decide +kernel
theorem dX11_findRoles_25 : decode cX11_findRoles 25 = .ok (.iload_n 3, 1) := by decide +kernel
theorem dX11_findRoles_26 : decode cX11_findRoles 26 = .ok (.iload_n 2, 1) := by decide +kernel
theorem dX11_findRoles_27 : decode cX11_findRoles 27 = .ok (.if_icmp .ge 97, 3) := by decide +kernel
theorem dX11_findRoles_30 : decode cX11_findRoles 30 = .ok (.aload_n 0, 1) := by decide +kernel
theorem dX11_findRoles_31 : decode cX11_findRoles 31 = .ok (.getfield 54, 3) := by decide +kernel
theorem dX11_findRoles_34 : decode cX11_findRoles 34 = .ok (.iload_n 2, 1) := by decide +kernel
theorem dX11_findRoles_35 : decode cX11_findRoles 35 = .ok (.iaload, 1) := by decide +kernel
theorem dX11_findRoles_36 : decode cX11_findRoles 36 = .ok (.ifCond .ge 88, 3) := by decide +kernel
theorem dX11_findRoles_39 : decode cX11_findRoles 39 = .ok (.iconst 1, 1) := by decide +kernel
theorem dX11_findRoles_40 : decode cX11_findRoles 40 = .ok (.istore 4, 2) := by decide +kernel
theorem dX11_findRoles_42 : decode cX11_findRoles 42 = .ok (.iconst 0, 1) := by decide +kernel
theorem dX11_findRoles_43 : decode cX11_findRoles 43 = .ok (.istore 5, 2) := by decide +kernel
theorem dX11_findRoles_45 : decode cX11_findRoles 45 = .ok (.iload 5, 2) := by decide +kernel
theorem dX11_findRoles_47 : decode cX11_findRoles 47 = .ok (.bipush 48, 2) := by decide +kernel
theorem dX11_findRoles_49 : decode cX11_findRoles 49 = .ok (.if_icmp .ge 48, 3) := by decide +kernel
theorem dX11_findRoles_52 : decode cX11_findRoles 52 = .ok (.iload 4, 2) := by decide +kernel
theorem dX11_findRoles_54 : decode cX11_findRoles 54 = .ok (.ifCond .eq 34, 3) := by decide +kernel
theorem dX11_findRoles_57 : decode cX11_findRoles 57 = .ok (.aload_n 0, 1) := by decide +kernel
theorem dX11_findRoles_58 : decode cX11_findRoles 58 = .ok (.getfield 51, 3) := by decide +kernel
theorem dX11_findRoles_61 : decode cX11_findRoles 61 = .ok (.bipush 48, 2) := by decide +kernel
theorem dX11_findRoles_63 : decode cX11_findRoles 63 = .ok (.iload_n 2, 1) := by decide +kernel
theorem dX11_findRoles_64 : decode cX11_findRoles 64 = .ok (.imul, 1) := by decide +kernel
theorem dX11_findRoles_65 : decode cX11_findRoles 65 = .ok (.iload 5, 2) := by decide +kernel
theorem dX11_findRoles_67 : decode cX11_findRoles 67 = .ok (.iadd, 1) := by decide +kernel
theorem dX11_findRoles_68 : decode cX11_findRoles 68 = .ok (.iaload, 1) := by decide +kernel
theorem dX11_findRoles_69 : decode cX11_findRoles 69 = .ok (.aload_n 0, 1) := by decide +kernel
theorem dX11_findRoles_70 : decode cX11_findRoles 70 = .ok (.getfield 51, 3) := by decide +kernel
theorem dX11_findRoles_73 : decode cX11_findRoles 73 = .ok (.bipush 48, 2) := by decide +kernel
theorem dX11_findRoles_75 : decode cX11_findRoles 75 = .ok (.iload_n 3, 1) := by decide +kernel
theorem dX11_findRoles_76 : decode cX11_findRoles 76 = .ok (.imul, 1) := by decide +kernel
theorem dX11_findRoles_77 : decode cX11_findRoles 77 = .ok (.iload 5, 2) := by decide +kernel
theorem dX11_findRoles_79 : decode cX11_findRoles 79 = .ok (.iadd, 1) := by decide +kernel
theorem dX11_findRoles_80 : decode cX11_findRoles 80 = .ok (.iaload, 1) := by decide +kernel
theorem dX11_findRoles_81 : decode cX11_findRoles 81 = .ok (.if_icmp .ne 7, 3) := by decide +kernel
theorem dX11_findRoles_84 : decode cX11_findRoles 84 = .ok (.iconst 1, 1) := by decide +kernel
theorem dX11_findRoles_85 : decode cX11_findRoles 85 = .ok (.goto 4, 3) := by decide +kernel
theorem dX11_findRoles_88 : decode cX11_findRoles 88 = .ok (.iconst 0, 1) := by decide +kernel
theorem dX11_findRoles_89 : decode cX11_findRoles 89 = .ok (.istore 4, 2) := by decide +kernel
theorem dX11_findRoles_91 : decode cX11_findRoles 91 = .ok (.iinc 5 1, 3) := by decide +kernel
theorem dX11_findRoles_94 : decode cX11_findRoles 94 = .ok (.goto (-49), 3) := by decide +kernel
theorem dX11_findRoles_97 : decode cX11_findRoles 97 = .ok (.aload_n 0, 1) := by decide +kernel
theorem dX11_findRoles_98 : decode cX11_findRoles 98 = .ok (.getfield 54, 3) := by decide +kernel
theorem dX11_findRoles_101 : decode cX11_findRoles 101 = .ok (.iload_n 2, 1) := by decide +kernel
theorem dX11_findRoles_102 : decode cX11_findRoles 102 = .ok (.iload 4, 2) := by decide +kernel
theorem dX11_findRoles_104 : decode cX11_findRoles 104 = .ok (.ifCond .eq 12, 3) := by decide +kernel
theorem dX11_findRoles_107 : decode cX11_findRoles 107 = .ok (.aload_n 0, 1) := by decide +kernel
theorem dX11_findRoles_108 : decode cX11_findRoles 108 = .ok (.getfield 54, 3) := by decide +kernel
theorem dX11_findRoles_111 : decode cX11_findRoles 111 = .ok (.iload_n 3, 1) := by decide +kernel
theorem dX11_findRoles_112 : decode cX11_findRoles 112 = .ok (.iaload, 1) := by decide +kernel
theorem dX11_findRoles_113 : decode cX11_findRoles 113 = .ok (.goto 4, 3) := by decide +kernel
theorem dX11_findRoles_116 : decode cX11_findRoles 116 = .ok (.iconst (-1), 1) := by decide +kernel
theorem dX11_findRoles_117 : decode cX11_findRoles 117 = .ok (.iastore, 1) := by decide +kernel
theorem dX11_findRoles_118 : decode cX11_findRoles 118 = .ok (.iinc 3 1, 3) := by decide +kernel
theorem dX11_findRoles_121 : decode cX11_findRoles 121 = .ok (.goto (-96), 3) := by decide +kernel
theorem dX11_findRoles_124 : decode cX11_findRoles 124 = .ok (.aload_n 0, 1) := by decide +kernel
theorem dX11_findRoles_125 : decode cX11_findRoles 125 = .ok (.getfield 54, 3) := by decide +kernel
theorem dX11_findRoles_128 : decode cX11_findRoles 128 = .ok (.iload_n 2, 1) := by decide +kernel
theorem dX11_findRoles_129 : decode cX11_findRoles 129 = .ok (.iaload, 1) := by decide +kernel
theorem dX11_findRoles_130 : decode cX11_findRoles 130 = .ok (.ifCond .ge 13, 3) := by decide +kernel
theorem dX11_findRoles_133 : decode cX11_findRoles 133 = .ok (.aload_n 0, 1) := by decide +kernel
theorem dX11_findRoles_134 : decode cX11_findRoles 134 = .ok (.getfield 54, 3) := by decide +kernel
theorem dX11_findRoles_137 : decode cX11_findRoles 137 = .ok (.iload_n 2, 1) := by decide +kernel
theorem dX11_findRoles_138 : decode cX11_findRoles 138 = .ok (.iload_n 1, 1) := by decide +kernel
theorem dX11_findRoles_139 : decode cX11_findRoles 139 = .ok (.iastore, 1) := by decide +kernel
theorem dX11_findRoles_140 : decode cX11_findRoles 140 = .ok (.iinc 1 1, 3) := by decide +kernel
theorem dX11_findRoles_143 : decode cX11_findRoles 143 = .ok (.iinc 2 1, 3) := by decide +kernel
theorem dX11_findRoles_146 : decode cX11_findRoles 146 = .ok (.goto (-138), 3) := by decide +kernel
theorem dX11_findRoles_149 : decode cX11_findRoles 149 = .ok (.iload_n 1, 1) := by decide +kernel
theorem dX11_findRoles_150 : decode cX11_findRoles 150 = .ok (.ireturn, 1) := by decide +kernel
theorem dX11_role_0 : decode cX11_role 0 = .ok (.aload_n 0, 1) := by decide +kernel
theorem dX11_role_1 : decode cX11_role 1 = .ok (.iload_n 1, 1) := by decide +kernel
theorem dX11_role_2 : decode cX11_role 2 = .ok (.invokevirtual 108, 3) := by decide +kernel
theorem dX11_role_5 : decode cX11_role 5 = .ok (.ifCond .ne 9, 3) := by decide +kernel
theorem dX11_role_8 : decode cX11_role 8 = .ok (.aload_n 0, 1) := by decide +kernel
theorem dX11_role_9 : decode cX11_role 9 = .ok (.iconst (-1), 1) := by decide +kernel
theorem dX11_role_10 : decode cX11_role 10 = .ok (.invokevirtual 104, 3) := by decide +kernel
theorem dX11_role_13 : decode cX11_role 13 = .ok (.ireturn, 1) := by decide +kernel
theorem dX11_role_14 : decode cX11_role 14 = .ok (.aload_n 0, 1) := by decide +kernel
theorem dX11_role_15 : decode cX11_role 15 = .ok (.invokevirtual 139, 3) := by decide +kernel
theorem dX11_role_18 : decode cX11_role 18 = .ok (.istore_n 2, 1) := by decide +kernel
theorem dX11_role_19 : decode cX11_role 19 = .ok (.aload_n 0, 1) := by decide +kernel
theorem dX11_role_20 : decode cX11_role 20 = .ok (.getfield 54, 3) := by decide +kernel
theorem dX11_role_23 : decode cX11_role 23 = .ok (.iload_n 1, 1) := by decide +kernel
theorem dX11_role_24 : decode cX11_role 24 = .ok (.iaload, 1) := by decide +kernel
theorem dX11_role_25 : decode cX11_role 25 = .ok (.ireturn, 1) := by decide +kernel
theorem dX11_roles_0 : decode cX11_roles 0 = .ok (.aload_n 0, 1) := by decide +kernel
theorem dX11_roles_1 : decode cX11_roles 1 = .ok (.invokevirtual 139, 3) := by decide +kernel
theorem dX11_roles_4 : decode cX11_roles 4 = .ok (.ireturn, 1) := by decide +kernel
theorem dX11_isBeside_0 : decode cX11_isBeside 0 = .ok (.aload_n 0, 1) := by decide +kernel
theorem dX11_isBeside_1 : decode cX11_isBeside 1 = .ok (.iload_n 1, 1) := by decide +kernel
theorem dX11_isBeside_2 : decode cX11_isBeside 2 = .ok (.iload_n 2, 1) := by decide +kernel
theorem dX11_isBeside_3 : decode cX11_isBeside 3 = .ok (.invokevirtual 96, 3) := by decide +kernel
theorem dX11_isBeside_6 : decode cX11_isBeside 6 = .ok (.ifCond .ne 12, 3) := by decide +kernel
theorem dX11_isBeside_9 : decode cX11_isBeside 9 = .ok (.aload_n 0, 1) := by decide +kernel
theorem dX11_isBeside_10 : decode cX11_isBeside 10 = .ok (.iload_n 2, 1) := by decide +kernel
theorem dX11_isBeside_11 : decode cX11_isBeside 11 = .ok (.iload_n 1, 1) := by decide +kernel
theorem dX11_isBeside_12 : decode cX11_isBeside 12 = .ok (.invokevirtual 96, 3) := by decide +kernel
theorem dX11_isBeside_15 : decode cX11_isBeside 15 = .ok (.ifCond .eq 7, 3) := by decide +kernel
theorem dX11_isBeside_18 : decode cX11_isBeside 18 = .ok (.iconst 1, 1) := by decide +kernel
theorem dX11_isBeside_19 : decode cX11_isBeside 19 = .ok (.goto 4, 3) := by decide +kernel
theorem dX11_isBeside_22 : decode cX11_isBeside 22 = .ok (.iconst 0, 1) := by decide +kernel
theorem dX11_isBeside_23 : decode cX11_isBeside 23 = .ok (.ireturn, 1) := by decide +kernel
theorem dX11_kindOfFour_0 : decode cX11_kindOfFour 0 = .ok (.iconst 0, 1) := by decide +kernel
theorem dX11_kindOfFour_1 : decode cX11_kindOfFour 1 = .ok (.istore_n 1, 1) := by decide +kernel
theorem dX11_kindOfFour_2 : decode cX11_kindOfFour 2 = .ok (.iconst 0, 1) := by decide +kernel
theorem dX11_kindOfFour_3 : decode cX11_kindOfFour 3 = .ok (.istore_n 2, 1) := by decide +kernel
theorem dX11_kindOfFour_4 : decode cX11_kindOfFour 4 = .ok (.iconst 3, 1) := by decide +kernel
theorem dX11_kindOfFour_5 : decode cX11_kindOfFour 5 = .ok (.istore_n 3, 1) := by decide +kernel
theorem dX11_kindOfFour_6 : decode cX11_kindOfFour 6 = .ok (.iconst 0, 1) := by decide +kernel
theorem dX11_kindOfFour_7 : decode cX11_kindOfFour 7 = .ok (.istore 4, 2) := by decide +kernel
theorem dX11_kindOfFour_9 : decode cX11_kindOfFour 9 = .ok (.iload 4, 2) := by decide +kernel
theorem dX11_kindOfFour_11 : decode cX11_kindOfFour 11 = .ok (.iconst 4, 1) := by decide +kernel
theorem dX11_kindOfFour_12 : decode cX11_kindOfFour 12 = .ok (.if_icmp .ge 96, 3) := by decide +kernel
theorem dX11_kindOfFour_15 : decode cX11_kindOfFour 15 = .ok (.iconst 0, 1) := by decide +kernel
theorem dX11_kindOfFour_16 : decode cX11_kindOfFour 16 = .ok (.istore 5, 2) := by decide +kernel
theorem dX11_kindOfFour_18 : decode cX11_kindOfFour 18 = .ok (.iconst 0, 1) := by decide +kernel
theorem dX11_kindOfFour_19 : decode cX11_kindOfFour 19 = .ok (.istore 6, 2) := by decide +kernel
theorem dX11_kindOfFour_21 : decode cX11_kindOfFour 21 = .ok (.iload 6, 2) := by decide +kernel
theorem dX11_kindOfFour_23 : decode cX11_kindOfFour 23 = .ok (.iconst 4, 1) := by decide +kernel
theorem dX11_kindOfFour_24 : decode cX11_kindOfFour 24 = .ok (.if_icmp .ge 47, 3) := by decide +kernel
theorem dX11_kindOfFour_27 : decode cX11_kindOfFour 27 = .ok (.iload 5, 2) := by decide +kernel
theorem dX11_kindOfFour_29 : decode cX11_kindOfFour 29 = .ok (.iload 4, 2) := by decide +kernel
theorem dX11_kindOfFour_31 : decode cX11_kindOfFour 31 = .ok (.iload 6, 2) := by decide +kernel
theorem dX11_kindOfFour_33 : decode cX11_kindOfFour 33 = .ok (.if_icmp .eq 28, 3) := by decide +kernel
theorem dX11_kindOfFour_36 : decode cX11_kindOfFour 36 = .ok (.aload_n 0, 1) := by decide +kernel
theorem dX11_kindOfFour_37 : decode cX11_kindOfFour 37 = .ok (.aload_n 0, 1) := by decide +kernel
theorem dX11_kindOfFour_38 : decode cX11_kindOfFour 38 = .ok (.getfield 57, 3) := by decide +kernel
theorem dX11_kindOfFour_41 : decode cX11_kindOfFour 41 = .ok (.iload 4, 2) := by decide +kernel
theorem dX11_kindOfFour_43 : decode cX11_kindOfFour 43 = .ok (.iaload, 1) := by decide +kernel
theorem dX11_kindOfFour_44 : decode cX11_kindOfFour 44 = .ok (.aload_n 0, 1) := by decide +kernel
theorem dX11_kindOfFour_45 : decode cX11_kindOfFour 45 = .ok (.getfield 57, 3) := by decide +kernel
theorem dX11_kindOfFour_48 : decode cX11_kindOfFour 48 = .ok (.iload 6, 2) := by decide +kernel
theorem dX11_kindOfFour_50 : decode cX11_kindOfFour 50 = .ok (.iaload, 1) := by decide +kernel
theorem dX11_kindOfFour_51 : decode cX11_kindOfFour 51 = .ok (.invokevirtual 143, 3) := by decide +kernel
theorem dX11_kindOfFour_54 : decode cX11_kindOfFour 54 = .ok (.ifCond .eq 7, 3) := by decide +kernel
theorem dX11_kindOfFour_57 : decode cX11_kindOfFour 57 = .ok (.iconst 1, 1) := by decide +kernel
theorem dX11_kindOfFour_58 : decode cX11_kindOfFour 58 = .ok (.goto 4, 3) := by decide +kernel
theorem dX11_kindOfFour_61 : decode cX11_kindOfFour 61 = .ok (.iconst 0, 1) := by decide +kernel
theorem dX11_kindOfFour_62 : decode cX11_kindOfFour 62 = .ok (.iadd, 1) := by decide +kernel
theorem dX11_kindOfFour_63 : decode cX11_kindOfFour 63 = .ok (.istore 5, 2) := by decide +kernel
theorem dX11_kindOfFour_65 : decode cX11_kindOfFour 65 = .ok (.iinc 6 1, 3) := by decide +kernel
theorem dX11_kindOfFour_68 : decode cX11_kindOfFour 68 = .ok (.goto (-47), 3) := by decide +kernel
theorem dX11_kindOfFour_71 : decode cX11_kindOfFour 71 = .ok (.iload_n 1, 1) := by decide +kernel
theorem dX11_kindOfFour_72 : decode cX11_kindOfFour 72 = .ok (.iload 5, 2) := by decide +kernel
theorem dX11_kindOfFour_74 : decode cX11_kindOfFour 74 = .ok (.iadd, 1) := by decide +kernel
theorem dX11_kindOfFour_75 : decode cX11_kindOfFour 75 = .ok (.istore_n 1, 1) := by decide +kernel
theorem dX11_kindOfFour_76 : decode cX11_kindOfFour 76 = .ok (.iload 5, 2) := by decide +kernel
theorem dX11_kindOfFour_78 : decode cX11_kindOfFour 78 = .ok (.iload_n 2, 1) := by decide +kernel
theorem dX11_kindOfFour_79 : decode cX11_kindOfFour 79 = .ok (.if_icmp .le 8, 3) := by decide +kernel
theorem dX11_kindOfFour_82 : decode cX11_kindOfFour 82 = .ok (.iload 5, 2) := by decide +kernel
theorem dX11_kindOfFour_84 : decode cX11_kindOfFour 84 = .ok (.goto 4, 3) := by decide +kernel
theorem dX11_kindOfFour_87 : decode cX11_kindOfFour 87 = .ok (.iload_n 2, 1) := by decide +kernel
theorem dX11_kindOfFour_88 : decode cX11_kindOfFour 88 = .ok (.istore_n 2, 1) := by decide +kernel
theorem dX11_kindOfFour_89 : decode cX11_kindOfFour 89 = .ok (.iload 5, 2) := by decide +kernel
theorem dX11_kindOfFour_91 : decode cX11_kindOfFour 91 = .ok (.iload_n 3, 1) := by decide +kernel
theorem dX11_kindOfFour_92 : decode cX11_kindOfFour 92 = .ok (.if_icmp .ge 8, 3) := by decide +kernel
theorem dX11_kindOfFour_95 : decode cX11_kindOfFour 95 = .ok (.iload 5, 2) := by decide +kernel
theorem dX11_kindOfFour_97 : decode cX11_kindOfFour 97 = .ok (.goto 4, 3) := by decide +kernel
theorem dX11_kindOfFour_100 : decode cX11_kindOfFour 100 = .ok (.iload_n 3, 1) := by decide +kernel
theorem dX11_kindOfFour_101 : decode cX11_kindOfFour 101 = .ok (.istore_n 3, 1) := by decide +kernel
theorem dX11_kindOfFour_102 : decode cX11_kindOfFour 102 = .ok (.iinc 4 1, 3) := by decide +kernel
theorem dX11_kindOfFour_105 : decode cX11_kindOfFour 105 = .ok (.goto (-96), 3) := by decide +kernel
theorem dX11_kindOfFour_108 : decode cX11_kindOfFour 108 = .ok (.iload_n 3, 1) := by decide +kernel
theorem dX11_kindOfFour_109 : decode cX11_kindOfFour 109 = .ok (.ifCond .eq 9, 3) := by decide +kernel
theorem dX11_kindOfFour_112 : decode cX11_kindOfFour 112 = .ok (.iload_n 1, 1) := by decide +kernel
theorem dX11_kindOfFour_113 : decode cX11_kindOfFour 113 = .ok (.bipush 6, 2) := by decide +kernel
theorem dX11_kindOfFour_115 : decode cX11_kindOfFour 115 = .ok (.if_icmp .ge 5, 3) := by decide +kernel
theorem dX11_kindOfFour_118 : decode cX11_kindOfFour 118 = .ok (.iconst (-1), 1) := by decide +kernel
theorem dX11_kindOfFour_119 : decode cX11_kindOfFour 119 = .ok (.ireturn, 1) := by decide +kernel
theorem dX11_kindOfFour_120 : decode cX11_kindOfFour 120 = .ok (.iload_n 1, 1) := by decide +kernel
theorem dX11_kindOfFour_121 : decode cX11_kindOfFour 121 = .ok (.bipush 6, 2) := by decide +kernel
theorem dX11_kindOfFour_123 : decode cX11_kindOfFour 123 = .ok (.if_icmp .ne 16, 3) := by decide +kernel
theorem dX11_kindOfFour_126 : decode cX11_kindOfFour 126 = .ok (.iload_n 2, 1) := by decide +kernel
theorem dX11_kindOfFour_127 : decode cX11_kindOfFour 127 = .ok (.iconst 3, 1) := by decide +kernel
theorem dX11_kindOfFour_128 : decode cX11_kindOfFour 128 = .ok (.if_icmp .ne 7, 3) := by decide +kernel
theorem dX11_kindOfFour_131 : decode cX11_kindOfFour 131 = .ok (.iconst 1, 1) := by decide +kernel
theorem dX11_kindOfFour_132 : decode cX11_kindOfFour 132 = .ok (.goto 37, 3) := by decide +kernel
theorem dX11_kindOfFour_135 : decode cX11_kindOfFour 135 = .ok (.iconst 0, 1) := by decide +kernel
theorem dX11_kindOfFour_136 : decode cX11_kindOfFour 136 = .ok (.goto 33, 3) := by decide +kernel
theorem dX11_kindOfFour_139 : decode cX11_kindOfFour 139 = .ok (.iload_n 1, 1) := by decide +kernel
theorem dX11_kindOfFour_140 : decode cX11_kindOfFour 140 = .ok (.bipush 8, 2) := by decide +kernel
theorem dX11_kindOfFour_142 : decode cX11_kindOfFour 142 = .ok (.if_icmp .ne 16, 3) := by decide +kernel
theorem dX11_kindOfFour_145 : decode cX11_kindOfFour 145 = .ok (.iload_n 2, 1) := by decide +kernel
theorem dX11_kindOfFour_146 : decode cX11_kindOfFour 146 = .ok (.iconst 3, 1) := by decide +kernel
theorem dX11_kindOfFour_147 : decode cX11_kindOfFour 147 = .ok (.if_icmp .ne 7, 3) := by decide +kernel
theorem dX11_kindOfFour_150 : decode cX11_kindOfFour 150 = .ok (.iconst 3, 1) := by decide +kernel
theorem dX11_kindOfFour_151 : decode cX11_kindOfFour 151 = .ok (.goto 18, 3) := by decide +kernel
theorem dX11_kindOfFour_154 : decode cX11_kindOfFour 154 = .ok (.iconst 2, 1) := by decide +kernel
theorem dX11_kindOfFour_155 : decode cX11_kindOfFour 155 = .ok (.goto 14, 3) := by decide +kernel
theorem dX11_kindOfFour_158 : decode cX11_kindOfFour 158 = .ok (.iload_n 1, 1) := by decide +kernel
theorem dX11_kindOfFour_159 : decode cX11_kindOfFour 159 = .ok (.bipush 10, 2) := by decide +kernel
theorem dX11_kindOfFour_161 : decode cX11_kindOfFour 161 = .ok (.if_icmp .ne 7, 3) := by decide +kernel
theorem dX11_kindOfFour_164 : decode cX11_kindOfFour 164 = .ok (.iconst 4, 1) := by decide +kernel
theorem dX11_kindOfFour_165 : decode cX11_kindOfFour 165 = .ok (.goto 4, 3) := by decide +kernel
theorem dX11_kindOfFour_168 : decode cX11_kindOfFour 168 = .ok (.iconst 5, 1) := by decide +kernel
theorem dX11_kindOfFour_169 : decode cX11_kindOfFour 169 = .ok (.ireturn, 1) := by decide +kernel
theorem dX11_fours_0 : decode cX11_fours 0 = .ok (.iload_n 1, 1) := by decide +kernel
theorem dX11_fours_1 : decode cX11_fours 1 = .ok (.iconst 0, 1) := by decide +kernel
theorem dX11_fours_2 : decode cX11_fours 2 = .ok (.iconst 5, 1) := by decide +kernel
theorem dX11_fours_3 : decode cX11_fours 3 = .ok (.invokestatic 86, 3) := by decide +kernel
theorem dX11_fours_6 : decode cX11_fours 6 = .ok (.ifCond .ne 10, 3) := by decide +kernel
theorem dX11_fours_9 : decode cX11_fours 9 = .ok (.aload_n 0, 1) := by decide +kernel
theorem dX11_fours_10 : decode cX11_fours 10 = .ok (.bipush (-2), 2) := by decide +kernel
theorem dX11_fours_12 : decode cX11_fours 12 = .ok (.invokevirtual 104, 3) := by decide +kernel
theorem dX11_fours_15 : decode cX11_fours 15 = .ok (.ireturn, 1) := by decide +kernel
theorem dX11_fours_16 : decode cX11_fours 16 = .ok (.iconst 0, 1) := by decide +kernel
theorem dX11_fours_17 : decode cX11_fours 17 = .ok (.istore_n 2, 1) := by decide +kernel
theorem dX11_fours_18 : decode cX11_fours 18 = .ok (.iconst 0, 1) := by decide +kernel
theorem dX11_fours_19 : decode cX11_fours 19 = .ok (.istore_n 3, 1) := by decide +kernel
theorem dX11_fours_20 : decode cX11_fours 20 = .ok (.iload_n 3, 1) := by decide +kernel
theorem dX11_fours_21 : decode cX11_fours 21 = .ok (.iconst 1, 1) := by decide +kernel
theorem dX11_fours_22 : decode cX11_fours 22 = .ok (.aload_n 0, 1) := by decide +kernel
theorem dX11_fours_23 : decode cX11_fours 23 = .ok (.getfield 7, 3) := by decide +kernel
theorem dX11_fours_26 : decode cX11_fours 26 = .ok (.ishl, 1) := by decide +kernel
theorem dX11_fours_27 : decode cX11_fours 27 = .ok (.if_icmp .ge 76, 3) := by decide +kernel
theorem dX11_fours_30 : decode cX11_fours 30 = .ok (.iload_n 3, 1) := by decide +kernel
theorem dX11_fours_31 : decode cX11_fours 31 = .ok (.invokestatic 127, 3) := by decide +kernel
theorem dX11_fours_34 : decode cX11_fours 34 = .ok (.iconst 4, 1) := by decide +kernel
theorem dX11_fours_35 : decode cX11_fours 35 = .ok (.if_icmp .ne 62, 3) := by decide +kernel
theorem dX11_fours_38 : decode cX11_fours 38 = .ok (.iconst 0, 1) := by decide +kernel
theorem dX11_fours_39 : decode cX11_fours 39 = .ok (.istore 4, 2) := by decide +kernel
theorem dX11_fours_41 : decode cX11_fours 41 = .ok (.iconst 0, 1) := by decide +kernel
theorem dX11_fours_42 : decode cX11_fours 42 = .ok (.istore 5, 2) := by decide +kernel
theorem dX11_fours_44 : decode cX11_fours 44 = .ok (.iload 5, 2) := by decide +kernel
theorem dX11_fours_46 : decode cX11_fours 46 = .ok (.aload_n 0, 1) := by decide +kernel
theorem dX11_fours_47 : decode cX11_fours 47 = .ok (.getfield 7, 3) := by decide +kernel
theorem dX11_fours_50 : decode cX11_fours 50 = .ok (.if_icmp .ge 31, 3) := by decide +kernel
theorem dX11_fours_53 : decode cX11_fours 53 = .ok (.iload_n 3, 1) := by decide +kernel
theorem dX11_fours_54 : decode cX11_fours 54 = .ok (.iload 5, 2) := by decide +kernel
theorem dX11_fours_56 : decode cX11_fours 56 = .ok (.ishr, 1) := by decide +kernel
theorem dX11_fours_57 : decode cX11_fours 57 = .ok (.iconst 1, 1) := by decide +kernel
theorem dX11_fours_58 : decode cX11_fours 58 = .ok (.iand, 1) := by decide +kernel
theorem dX11_fours_59 : decode cX11_fours 59 = .ok (.iconst 1, 1) := by decide +kernel
theorem dX11_fours_60 : decode cX11_fours 60 = .ok (.if_icmp .ne 15, 3) := by decide +kernel
theorem dX11_fours_63 : decode cX11_fours 63 = .ok (.aload_n 0, 1) := by decide +kernel
theorem dX11_fours_64 : decode cX11_fours 64 = .ok (.getfield 57, 3) := by decide +kernel
theorem dX11_fours_67 : decode cX11_fours 67 = .ok (.iload 4, 2) := by decide +kernel
theorem dX11_fours_69 : decode cX11_fours 69 = .ok (.iload 5, 2) := by decide +kernel
theorem dX11_fours_71 : decode cX11_fours 71 = .ok (.iastore, 1) := by decide +kernel
theorem dX11_fours_72 : decode cX11_fours 72 = .ok (.iinc 4 1, 3) := by decide +kernel
theorem dX11_fours_75 : decode cX11_fours 75 = .ok (.iinc 5 1, 3) := by decide +kernel
theorem dX11_fours_78 : decode cX11_fours 78 = .ok (.goto (-34), 3) := by decide +kernel
theorem dX11_fours_81 : decode cX11_fours 81 = .ok (.iload_n 2, 1) := by decide +kernel
theorem dX11_fours_82 : decode cX11_fours 82 = .ok (.aload_n 0, 1) := by decide +kernel
theorem dX11_fours_83 : decode cX11_fours 83 = .ok (.invokevirtual 146, 3) := by decide +kernel
theorem dX11_fours_86 : decode cX11_fours 86 = .ok (.iload_n 1, 1) := by decide +kernel
theorem dX11_fours_87 : decode cX11_fours 87 = .ok (.if_icmp .ne 7, 3) := by decide +kernel
theorem dX11_fours_90 : decode cX11_fours 90 = .ok (.iconst 1, 1) := by decide +kernel
theorem dX11_fours_91 : decode cX11_fours 91 = .ok (.goto 4, 3) := by decide +kernel
theorem dX11_fours_94 : decode cX11_fours 94 = .ok (.iconst 0, 1) := by decide +kernel
theorem dX11_fours_95 : decode cX11_fours 95 = .ok (.iadd, 1) := by decide +kernel
theorem dX11_fours_96 : decode cX11_fours 96 = .ok (.istore_n 2, 1) := by decide +kernel
theorem dX11_fours_97 : decode cX11_fours 97 = .ok (.iinc 3 1, 3) := by decide +kernel
theorem dX11_fours_100 : decode cX11_fours 100 = .ok (.goto (-80), 3) := by decide +kernel
theorem dX11_fours_103 : decode cX11_fours 103 = .ok (.iload_n 2, 1) := by decide +kernel
theorem dX11_fours_104 : decode cX11_fours 104 = .ok (.ireturn, 1) := by decide +kernel
theorem dX11_seed_0 : decode cX11_seed 0 = .ok (.aload_n 0, 1) := by decide +kernel
theorem dX11_seed_1 : decode cX11_seed 1 = .ok (.getfield 24, 3) := by decide +kernel
theorem dX11_seed_4 : decode cX11_seed 4 = .ok (.istore_n 2, 1) := by decide +kernel
theorem dX11_seed_5 : decode cX11_seed 5 = .ok (.aload_n 0, 1) := by decide +kernel
theorem dX11_seed_6 : decode cX11_seed 6 = .ok (.iload_n 1, 1) := by decide +kernel
theorem dX11_seed_7 : decode cX11_seed 7 = .ok (.putfield 24, 3) := by decide +kernel
theorem dX11_seed_10 : decode cX11_seed 10 = .ok (.iload_n 2, 1) := by decide +kernel
theorem dX11_seed_11 : decode cX11_seed 11 = .ok (.ireturn, 1) := by decide +kernel
theorem dX11_drawBelow_0 : decode cX11_drawBelow 0 = .ok (.aload_n 0, 1) := by decide +kernel
theorem dX11_drawBelow_1 : decode cX11_drawBelow 1 = .ok (.aload_n 0, 1) := by decide +kernel
theorem dX11_drawBelow_2 : decode cX11_drawBelow 2 = .ok (.getfield 24, 3) := by decide +kernel
theorem dX11_drawBelow_5 : decode cX11_drawBelow 5 = .ok (.ldc 149, 2) := by decide +kernel
theorem dX11_drawBelow_7 : decode cX11_drawBelow 7 = .ok (.imul, 1) := by decide +kernel
theorem dX11_drawBelow_8 : decode cX11_drawBelow 8 = .ok (.sipush 12345, 3) := by decide +kernel
theorem dX11_drawBelow_11 : decode cX11_drawBelow 11 = .ok (.iadd, 1) := by decide +kernel
theorem dX11_drawBelow_12 : decode cX11_drawBelow 12 = .ok (.putfield 24, 3) := by decide +kernel
theorem dX11_drawBelow_15 : decode cX11_drawBelow 15 = .ok (.aload_n 0, 1) := by decide +kernel
theorem dX11_drawBelow_16 : decode cX11_drawBelow 16 = .ok (.getfield 24, 3) := by decide +kernel
theorem dX11_drawBelow_19 : decode cX11_drawBelow 19 = .ok (.bipush 16, 2) := by decide +kernel
theorem dX11_drawBelow_21 : decode cX11_drawBelow 21 = .ok (.iushr, 1) := by decide +kernel
theorem dX11_drawBelow_22 : decode cX11_drawBelow 22 = .ok (.iload_n 1, 1) := by decide +kernel
theorem dX11_drawBelow_23 : decode cX11_drawBelow 23 = .ok (.irem, 1) := by decide +kernel
theorem dX11_drawBelow_24 : decode cX11_drawBelow 24 = .ok (.ireturn, 1) := by decide +kernel
theorem dX11_putLink_0 : decode cX11_putLink 0 = .ok (.aload_n 0, 1) := by decide +kernel
theorem dX11_putLink_1 : decode cX11_putLink 1 = .ok (.getfield 13, 3) := by decide +kernel
theorem dX11_putLink_4 : decode cX11_putLink 4 = .ok (.iload_n 1, 1) := by decide +kernel
theorem dX11_putLink_5 : decode cX11_putLink 5 = .ok (.iload_n 2, 1) := by decide +kernel
theorem dX11_putLink_6 : decode cX11_putLink 6 = .ok (.bastore, 1) := by decide +kernel
theorem dX11_putLink_7 : decode cX11_putLink 7 = .ok (.aload_n 0, 1) := by decide +kernel
theorem dX11_putLink_8 : decode cX11_putLink 8 = .ok (.getfield 17, 3) := by decide +kernel
theorem dX11_putLink_11 : decode cX11_putLink 11 = .ok (.iload_n 1, 1) := by decide +kernel
theorem dX11_putLink_12 : decode cX11_putLink 12 = .ok (.iload_n 3, 1) := by decide +kernel
theorem dX11_putLink_13 : decode cX11_putLink 13 = .ok (.iastore, 1) := by decide +kernel
theorem dX11_putLink_14 : decode cX11_putLink 14 = .ok (.aload_n 0, 1) := by decide +kernel
theorem dX11_putLink_15 : decode cX11_putLink 15 = .ok (.getfield 21, 3) := by decide +kernel
theorem dX11_putLink_18 : decode cX11_putLink 18 = .ok (.iload_n 1, 1) := by decide +kernel
theorem dX11_putLink_19 : decode cX11_putLink 19 = .ok (.iload 4, 2) := by decide +kernel
theorem dX11_putLink_21 : decode cX11_putLink 21 = .ok (.iastore, 1) := by decide +kernel
theorem dX11_putLink_22 : decode cX11_putLink 22 = .ok (.return_, 1) := by decide +kernel
theorem dX11_maySwap_0 : decode cX11_maySwap 0 = .ok (.iload_n 1, 1) := by decide +kernel
theorem dX11_maySwap_1 : decode cX11_maySwap 1 = .ok (.bipush 16, 2) := by decide +kernel
theorem dX11_maySwap_3 : decode cX11_maySwap 3 = .ok (.idiv, 1) := by decide +kernel
theorem dX11_maySwap_4 : decode cX11_maySwap 4 = .ok (.istore_n 3, 1) := by decide +kernel
theorem dX11_maySwap_5 : decode cX11_maySwap 5 = .ok (.iload_n 1, 1) := by decide +kernel
theorem dX11_maySwap_6 : decode cX11_maySwap 6 = .ok (.bipush 16, 2) := by decide +kernel
theorem dX11_maySwap_8 : decode cX11_maySwap 8 = .ok (.irem, 1) := by decide +kernel
theorem dX11_maySwap_9 : decode cX11_maySwap 9 = .ok (.istore 4, 2) := by decide +kernel
theorem dX11_maySwap_11 : decode cX11_maySwap 11 = .ok (.iload_n 2, 1) := by decide +kernel
theorem dX11_maySwap_12 : decode cX11_maySwap 12 = .ok (.bipush 16, 2) := by decide +kernel
theorem dX11_maySwap_14 : decode cX11_maySwap 14 = .ok (.idiv, 1) := by decide +kernel
theorem dX11_maySwap_15 : decode cX11_maySwap 15 = .ok (.istore 5, 2) := by decide +kernel
theorem dX11_maySwap_17 : decode cX11_maySwap 17 = .ok (.iload_n 2, 1) := by decide +kernel
theorem dX11_maySwap_18 : decode cX11_maySwap 18 = .ok (.bipush 16, 2) := by decide +kernel
theorem dX11_maySwap_20 : decode cX11_maySwap 20 = .ok (.irem, 1) := by decide +kernel
theorem dX11_maySwap_21 : decode cX11_maySwap 21 = .ok (.istore 6, 2) := by decide +kernel
theorem dX11_maySwap_23 : decode cX11_maySwap 23 = .ok (.iload_n 3, 1) := by decide +kernel
theorem dX11_maySwap_24 : decode cX11_maySwap 24 = .ok (.iload 5, 2) := by decide +kernel
theorem dX11_maySwap_26 : decode cX11_maySwap 26 = .ok (.if_icmp .eq 48, 3) := by decide +kernel
theorem dX11_maySwap_29 : decode cX11_maySwap 29 = .ok (.iload 4, 2) := by decide +kernel
theorem dX11_maySwap_31 : decode cX11_maySwap 31 = .ok (.iload 6, 2) := by decide +kernel
theorem dX11_maySwap_33 : decode cX11_maySwap 33 = .ok (.if_icmp .eq 41, 3) := by decide +kernel
theorem dX11_maySwap_36 : decode cX11_maySwap 36 = .ok (.iload_n 3, 1) := by decide +kernel
theorem dX11_maySwap_37 : decode cX11_maySwap 37 = .ok (.iload 6, 2) := by decide +kernel
theorem dX11_maySwap_39 : decode cX11_maySwap 39 = .ok (.if_icmp .eq 35, 3) := by decide +kernel
theorem dX11_maySwap_42 : decode cX11_maySwap 42 = .ok (.iload 5, 2) := by decide +kernel
theorem dX11_maySwap_44 : decode cX11_maySwap 44 = .ok (.iload 4, 2) := by decide +kernel
theorem dX11_maySwap_46 : decode cX11_maySwap 46 = .ok (.if_icmp .eq 28, 3) := by decide +kernel
theorem dX11_maySwap_49 : decode cX11_maySwap 49 = .ok (.aload_n 0, 1) := by decide +kernel
theorem dX11_maySwap_50 : decode cX11_maySwap 50 = .ok (.iload_n 3, 1) := by decide +kernel
theorem dX11_maySwap_51 : decode cX11_maySwap 51 = .ok (.iload 6, 2) := by decide +kernel
theorem dX11_maySwap_53 : decode cX11_maySwap 53 = .ok (.invokevirtual 96, 3) := by decide +kernel
theorem dX11_maySwap_56 : decode cX11_maySwap 56 = .ok (.ifCond .ne 18, 3) := by decide +kernel
theorem dX11_maySwap_59 : decode cX11_maySwap 59 = .ok (.aload_n 0, 1) := by decide +kernel
theorem dX11_maySwap_60 : decode cX11_maySwap 60 = .ok (.iload 5, 2) := by decide +kernel
theorem dX11_maySwap_62 : decode cX11_maySwap 62 = .ok (.iload 4, 2) := by decide +kernel
theorem dX11_maySwap_64 : decode cX11_maySwap 64 = .ok (.invokevirtual 96, 3) := by decide +kernel
theorem dX11_maySwap_67 : decode cX11_maySwap 67 = .ok (.ifCond .ne 7, 3) := by decide +kernel
theorem dX11_maySwap_70 : decode cX11_maySwap 70 = .ok (.iconst 1, 1) := by decide +kernel
theorem dX11_maySwap_71 : decode cX11_maySwap 71 = .ok (.goto 4, 3) := by decide +kernel
theorem dX11_maySwap_74 : decode cX11_maySwap 74 = .ok (.iconst 0, 1) := by decide +kernel
theorem dX11_maySwap_75 : decode cX11_maySwap 75 = .ok (.ireturn, 1) := by decide +kernel
theorem dX11_doSwap_0 : decode cX11_doSwap 0 = .ok (.bipush 16, 2) := by decide +kernel
theorem dX11_doSwap_2 : decode cX11_doSwap 2 = .ok (.iload_n 1, 1) := by decide +kernel
theorem dX11_doSwap_3 : decode cX11_doSwap 3 = .ok (.bipush 16, 2) := by decide +kernel
theorem dX11_doSwap_5 : decode cX11_doSwap 5 = .ok (.idiv, 1) := by decide +kernel
theorem dX11_doSwap_6 : decode cX11_doSwap 6 = .ok (.imul, 1) := by decide +kernel
theorem dX11_doSwap_7 : decode cX11_doSwap 7 = .ok (.iload_n 2, 1) := by decide +kernel
theorem dX11_doSwap_8 : decode cX11_doSwap 8 = .ok (.bipush 16, 2) := by decide +kernel
theorem dX11_doSwap_10 : decode cX11_doSwap 10 = .ok (.irem, 1) := by decide +kernel
theorem dX11_doSwap_11 : decode cX11_doSwap 11 = .ok (.iadd, 1) := by decide +kernel
theorem dX11_doSwap_12 : decode cX11_doSwap 12 = .ok (.istore_n 3, 1) := by decide +kernel
theorem dX11_doSwap_13 : decode cX11_doSwap 13 = .ok (.bipush 16, 2) := by decide +kernel
theorem dX11_doSwap_15 : decode cX11_doSwap 15 = .ok (.iload_n 2, 1) := by decide +kernel
theorem dX11_doSwap_16 : decode cX11_doSwap 16 = .ok (.bipush 16, 2) := by decide +kernel
theorem dX11_doSwap_18 : decode cX11_doSwap 18 = .ok (.idiv, 1) := by decide +kernel
theorem dX11_doSwap_19 : decode cX11_doSwap 19 = .ok (.imul, 1) := by decide +kernel
theorem dX11_doSwap_20 : decode cX11_doSwap 20 = .ok (.iload_n 1, 1) := by decide +kernel
theorem dX11_doSwap_21 : decode cX11_doSwap 21 = .ok (.bipush 16, 2) := by decide +kernel
theorem dX11_doSwap_23 : decode cX11_doSwap 23 = .ok (.irem, 1) := by decide +kernel
theorem dX11_doSwap_24 : decode cX11_doSwap 24 = .ok (.iadd, 1) := by decide +kernel
theorem dX11_doSwap_25 : decode cX11_doSwap 25 = .ok (.istore 4, 2) := by decide +kernel
theorem dX11_doSwap_27 : decode cX11_doSwap 27 = .ok (.aload_n 0, 1) := by decide +kernel
theorem dX11_doSwap_28 : decode cX11_doSwap 28 = .ok (.iload_n 3, 1) := by decide +kernel
theorem dX11_doSwap_29 : decode cX11_doSwap 29 = .ok (.iconst 1, 1) := by decide +kernel
theorem dX11_doSwap_30 : decode cX11_doSwap 30 = .ok (.aload_n 0, 1) := by decide +kernel
theorem dX11_doSwap_31 : decode cX11_doSwap 31 = .ok (.getfield 17, 3) := by decide +kernel
theorem dX11_doSwap_34 : decode cX11_doSwap 34 = .ok (.iload_n 1, 1) := by decide +kernel
theorem dX11_doSwap_35 : decode cX11_doSwap 35 = .ok (.iaload, 1) := by decide +kernel
theorem dX11_doSwap_36 : decode cX11_doSwap 36 = .ok (.aload_n 0, 1) := by decide +kernel
theorem dX11_doSwap_37 : decode cX11_doSwap 37 = .ok (.getfield 21, 3) := by decide +kernel
theorem dX11_doSwap_40 : decode cX11_doSwap 40 = .ok (.iload_n 1, 1) := by decide +kernel
theorem dX11_doSwap_41 : decode cX11_doSwap 41 = .ok (.iaload, 1) := by decide +kernel
theorem dX11_doSwap_42 : decode cX11_doSwap 42 = .ok (.invokevirtual 150, 3) := by decide +kernel
theorem dX11_doSwap_45 : decode cX11_doSwap 45 = .ok (.aload_n 0, 1) := by decide +kernel
theorem dX11_doSwap_46 : decode cX11_doSwap 46 = .ok (.iload 4, 2) := by decide +kernel
theorem dX11_doSwap_48 : decode cX11_doSwap 48 = .ok (.iconst 1, 1) := by decide +kernel
theorem dX11_doSwap_49 : decode cX11_doSwap 49 = .ok (.aload_n 0, 1) := by decide +kernel
theorem dX11_doSwap_50 : decode cX11_doSwap 50 = .ok (.getfield 17, 3) := by decide +kernel
theorem dX11_doSwap_53 : decode cX11_doSwap 53 = .ok (.iload_n 2, 1) := by decide +kernel
theorem dX11_doSwap_54 : decode cX11_doSwap 54 = .ok (.iaload, 1) := by decide +kernel
theorem dX11_doSwap_55 : decode cX11_doSwap 55 = .ok (.aload_n 0, 1) := by decide +kernel
theorem dX11_doSwap_56 : decode cX11_doSwap 56 = .ok (.getfield 21, 3) := by decide +kernel
theorem dX11_doSwap_59 : decode cX11_doSwap 59 = .ok (.iload_n 2, 1) := by decide +kernel
theorem dX11_doSwap_60 : decode cX11_doSwap 60 = .ok (.iaload, 1) := by decide +kernel
theorem dX11_doSwap_61 : decode cX11_doSwap 61 = .ok (.invokevirtual 150, 3) := by decide +kernel
theorem dX11_doSwap_64 : decode cX11_doSwap 64 = .ok (.aload_n 0, 1) := by decide +kernel
theorem dX11_doSwap_65 : decode cX11_doSwap 65 = .ok (.iload_n 1, 1) := by decide +kernel
theorem dX11_doSwap_66 : decode cX11_doSwap 66 = .ok (.iconst 0, 1) := by decide +kernel
theorem dX11_doSwap_67 : decode cX11_doSwap 67 = .ok (.iconst 0, 1) := by decide +kernel
theorem dX11_doSwap_68 : decode cX11_doSwap 68 = .ok (.iconst 0, 1) := by decide +kernel
theorem dX11_doSwap_69 : decode cX11_doSwap 69 = .ok (.invokevirtual 150, 3) := by decide +kernel
theorem dX11_doSwap_72 : decode cX11_doSwap 72 = .ok (.aload_n 0, 1) := by decide +kernel
theorem dX11_doSwap_73 : decode cX11_doSwap 73 = .ok (.iload_n 2, 1) := by decide +kernel
theorem dX11_doSwap_74 : decode cX11_doSwap 74 = .ok (.iconst 0, 1) := by decide +kernel
theorem dX11_doSwap_75 : decode cX11_doSwap 75 = .ok (.iconst 0, 1) := by decide +kernel
theorem dX11_doSwap_76 : decode cX11_doSwap 76 = .ok (.iconst 0, 1) := by decide +kernel
theorem dX11_doSwap_77 : decode cX11_doSwap 77 = .ok (.invokevirtual 150, 3) := by decide +kernel
theorem dX11_doSwap_80 : decode cX11_doSwap 80 = .ok (.return_, 1) := by decide +kernel
theorem dX11_swap_0 : decode cX11_swap 0 = .ok (.aload_n 0, 1) := by decide +kernel
theorem dX11_swap_1 : decode cX11_swap 1 = .ok (.iload_n 1, 1) := by decide +kernel
theorem dX11_swap_2 : decode cX11_swap 2 = .ok (.invokevirtual 115, 3) := by decide +kernel
theorem dX11_swap_5 : decode cX11_swap 5 = .ok (.istore_n 3, 1) := by decide +kernel
theorem dX11_swap_6 : decode cX11_swap 6 = .ok (.aload_n 0, 1) := by decide +kernel
theorem dX11_swap_7 : decode cX11_swap 7 = .ok (.iload_n 2, 1) := by decide +kernel
theorem dX11_swap_8 : decode cX11_swap 8 = .ok (.invokevirtual 115, 3) := by decide +kernel
theorem dX11_swap_11 : decode cX11_swap 11 = .ok (.istore 4, 2) := by decide +kernel
theorem dX11_swap_13 : decode cX11_swap 13 = .ok (.iload_n 3, 1) := by decide +kernel
theorem dX11_swap_14 : decode cX11_swap 14 = .ok (.ifCond .lt 14, 3) := by decide +kernel
theorem dX11_swap_17 : decode cX11_swap 17 = .ok (.iload 4, 2) := by decide +kernel
theorem dX11_swap_19 : decode cX11_swap 19 = .ok (.ifCond .lt 9, 3) := by decide +kernel
theorem dX11_swap_22 : decode cX11_swap 22 = .ok (.iload_n 3, 1) := by decide +kernel
theorem dX11_swap_23 : decode cX11_swap 23 = .ok (.iload 4, 2) := by decide +kernel
theorem dX11_swap_25 : decode cX11_swap 25 = .ok (.if_icmp .ne 9, 3) := by decide +kernel
theorem dX11_swap_28 : decode cX11_swap 28 = .ok (.aload_n 0, 1) := by decide +kernel
theorem dX11_swap_29 : decode cX11_swap 29 = .ok (.iconst (-1), 1) := by decide +kernel
theorem dX11_swap_30 : decode cX11_swap 30 = .ok (.invokevirtual 104, 3) := by decide +kernel
theorem dX11_swap_33 : decode cX11_swap 33 = .ok (.ireturn, 1) := by decide +kernel
theorem dX11_swap_34 : decode cX11_swap 34 = .ok (.aload_n 0, 1) := by decide +kernel
theorem dX11_swap_35 : decode cX11_swap 35 = .ok (.iload_n 3, 1) := by decide +kernel
theorem dX11_swap_36 : decode cX11_swap 36 = .ok (.iload 4, 2) := by decide +kernel
theorem dX11_swap_38 : decode cX11_swap 38 = .ok (.invokevirtual 154, 3) := by decide +kernel
theorem dX11_swap_41 : decode cX11_swap 41 = .ok (.ifCond .ne 10, 3) := by decide +kernel
theorem dX11_swap_44 : decode cX11_swap 44 = .ok (.aload_n 0, 1) := by decide +kernel
theorem dX11_swap_45 : decode cX11_swap 45 = .ok (.bipush (-3), 2) := by decide +kernel
theorem dX11_swap_47 : decode cX11_swap 47 = .ok (.invokevirtual 104, 3) := by decide +kernel
theorem dX11_swap_50 : decode cX11_swap 50 = .ok (.ireturn, 1) := by decide +kernel
theorem dX11_swap_51 : decode cX11_swap 51 = .ok (.aload_n 0, 1) := by decide +kernel
theorem dX11_swap_52 : decode cX11_swap 52 = .ok (.iload_n 3, 1) := by decide +kernel
theorem dX11_swap_53 : decode cX11_swap 53 = .ok (.iload 4, 2) := by decide +kernel
theorem dX11_swap_55 : decode cX11_swap 55 = .ok (.invokevirtual 157, 3) := by decide +kernel
theorem dX11_swap_58 : decode cX11_swap 58 = .ok (.iconst 1, 1) := by decide +kernel
theorem dX11_swap_59 : decode cX11_swap 59 = .ok (.ireturn, 1) := by decide +kernel
theorem dX11_mix_0 : decode cX11_mix 0 = .ok (.iload_n 1, 1) := by decide +kernel
theorem dX11_mix_1 : decode cX11_mix 1 = .ok (.ifCond .ge 10, 3) := by decide +kernel
theorem dX11_mix_4 : decode cX11_mix 4 = .ok (.aload_n 0, 1) := by decide +kernel
theorem dX11_mix_5 : decode cX11_mix 5 = .ok (.bipush (-4), 2) := by decide +kernel
theorem dX11_mix_7 : decode cX11_mix 7 = .ok (.invokevirtual 104, 3) := by decide +kernel
theorem dX11_mix_10 : decode cX11_mix 10 = .ok (.ireturn, 1) := by decide +kernel
theorem dX11_mix_11 : decode cX11_mix 11 = .ok (.iload_n 1, 1) := by decide +kernel
theorem dX11_mix_12 : decode cX11_mix 12 = .ok (.sipush 500, 3) := by decide +kernel
theorem dX11_mix_15 : decode cX11_mix 15 = .ok (.if_icmp .le 10, 3) := by decide +kernel
theorem dX11_mix_18 : decode cX11_mix 18 = .ok (.aload_n 0, 1) := by decide +kernel
theorem dX11_mix_19 : decode cX11_mix 19 = .ok (.bipush (-6), 2) := by decide +kernel
theorem dX11_mix_21 : decode cX11_mix 21 = .ok (.invokevirtual 104, 3) := by decide +kernel
theorem dX11_mix_24 : decode cX11_mix 24 = .ok (.ireturn, 1) := by decide +kernel
theorem dX11_mix_25 : decode cX11_mix 25 = .ok (.aload_n 0, 1) := by decide +kernel
theorem dX11_mix_26 : decode cX11_mix 26 = .ok (.invokevirtual 161, 3) := by decide +kernel
theorem dX11_mix_29 : decode cX11_mix 29 = .ok (.istore_n 2, 1) := by decide +kernel
theorem dX11_mix_30 : decode cX11_mix 30 = .ok (.iload_n 2, 1) := by decide +kernel
theorem dX11_mix_31 : decode cX11_mix 31 = .ok (.iconst 2, 1) := by decide +kernel
theorem dX11_mix_32 : decode cX11_mix 32 = .ok (.if_icmp .ge 10, 3) := by decide +kernel
theorem dX11_mix_35 : decode cX11_mix 35 = .ok (.aload_n 0, 1) := by decide +kernel
theorem dX11_mix_36 : decode cX11_mix 36 = .ok (.bipush (-3), 2) := by decide +kernel
theorem dX11_mix_38 : decode cX11_mix 38 = .ok (.invokevirtual 104, 3) := by decide +kernel
theorem dX11_mix_41 : decode cX11_mix 41 = .ok (.ireturn, 1) := by decide +kernel
theorem dX11_mix_42 : decode cX11_mix 42 = .ok (.iconst 0, 1) := by decide +kernel
theorem dX11_mix_43 : decode cX11_mix 43 = .ok (.istore_n 3, 1) := by decide +kernel
theorem dX11_mix_44 : decode cX11_mix 44 = .ok (.iconst 0, 1) := by decide +kernel
theorem dX11_mix_45 : decode cX11_mix 45 = .ok (.istore 4, 2) := by decide +kernel
theorem dX11_mix_47 : decode cX11_mix 47 = .ok (.iload 4, 2) := by decide +kernel
theorem dX11_mix_49 : decode cX11_mix 49 = .ok (.iload_n 1, 1) := by decide +kernel
theorem dX11_mix_50 : decode cX11_mix 50 = .ok (.if_icmp .ge 60, 3) := by decide +kernel
theorem dX11_mix_53 : decode cX11_mix 53 = .ok (.aload_n 0, 1) := by decide +kernel
theorem dX11_mix_54 : decode cX11_mix 54 = .ok (.aload_n 0, 1) := by decide +kernel
theorem dX11_mix_55 : decode cX11_mix 55 = .ok (.iload_n 2, 1) := by decide +kernel
theorem dX11_mix_56 : decode cX11_mix 56 = .ok (.invokevirtual 164, 3) := by decide +kernel
theorem dX11_mix_59 : decode cX11_mix 59 = .ok (.invokevirtual 115, 3) := by decide +kernel
theorem dX11_mix_62 : decode cX11_mix 62 = .ok (.istore 5, 2) := by decide +kernel
theorem dX11_mix_64 : decode cX11_mix 64 = .ok (.aload_n 0, 1) := by decide +kernel
theorem dX11_mix_65 : decode cX11_mix 65 = .ok (.aload_n 0, 1) := by decide +kernel
theorem dX11_mix_66 : decode cX11_mix 66 = .ok (.iload_n 2, 1) := by decide +kernel
theorem dX11_mix_67 : decode cX11_mix 67 = .ok (.invokevirtual 164, 3) := by decide +kernel
theorem dX11_mix_70 : decode cX11_mix 70 = .ok (.invokevirtual 115, 3) := by decide +kernel
theorem dX11_mix_73 : decode cX11_mix 73 = .ok (.istore 6, 2) := by decide +kernel
theorem dX11_mix_75 : decode cX11_mix 75 = .ok (.iload 5, 2) := by decide +kernel
theorem dX11_mix_77 : decode cX11_mix 77 = .ok (.iload 6, 2) := by decide +kernel
theorem dX11_mix_79 : decode cX11_mix 79 = .ok (.if_icmp .eq 25, 3) := by decide +kernel
theorem dX11_mix_82 : decode cX11_mix 82 = .ok (.aload_n 0, 1) := by decide +kernel
theorem dX11_mix_83 : decode cX11_mix 83 = .ok (.iload 5, 2) := by decide +kernel
theorem dX11_mix_85 : decode cX11_mix 85 = .ok (.iload 6, 2) := by decide +kernel
theorem dX11_mix_87 : decode cX11_mix 87 = .ok (.invokevirtual 154, 3) := by decide +kernel
theorem dX11_mix_90 : decode cX11_mix 90 = .ok (.ifCond .eq 14, 3) := by decide +kernel
theorem dX11_mix_93 : decode cX11_mix 93 = .ok (.aload_n 0, 1) := by decide +kernel
theorem dX11_mix_94 : decode cX11_mix 94 = .ok (.iload 5, 2) := by decide +kernel
theorem dX11_mix_96 : decode cX11_mix 96 = .ok (.iload 6, 2) := by decide +kernel
theorem dX11_mix_98 : decode cX11_mix 98 = .ok (.invokevirtual 157, 3) := by decide +kernel
theorem dX11_mix_101 : decode cX11_mix 101 = .ok (.iinc 3 1, 3) := by decide +kernel
theorem dX11_mix_104 : decode cX11_mix 104 = .ok (.iinc 4 1, 3) := by decide +kernel
theorem dX11_mix_107 : decode cX11_mix 107 = .ok (.goto (-60), 3) := by decide +kernel
theorem dX11_mix_110 : decode cX11_mix 110 = .ok (.iload_n 3, 1) := by decide +kernel
theorem dX11_mix_111 : decode cX11_mix 111 = .ok (.ireturn, 1) := by decide +kernel
theorem dX11_divisor_0 : decode cX11_divisor 0 = .ok (.lload_n 0, 1) := by decide +kernel
theorem dX11_divisor_1 : decode cX11_divisor 1 = .ok (.lstore 4, 2) := by decide +kernel
theorem dX11_divisor_3 : decode cX11_divisor 3 = .ok (.lload_n 2, 1) := by decide +kernel
theorem dX11_divisor_4 : decode cX11_divisor 4 = .ok (.lstore 6, 2) := by decide +kernel
theorem dX11_divisor_6 : decode cX11_divisor 6 = .ok (.lload 6, 2) := by decide +kernel
theorem dX11_divisor_8 : decode cX11_divisor 8 = .ok (.lconst 0, 1) := by decide +kernel
theorem dX11_divisor_9 : decode cX11_divisor 9 = .ok (.lcmp, 1) := by decide +kernel
theorem dX11_divisor_10 : decode cX11_divisor 10 = .ok (.ifCond .eq 21, 3) := by decide +kernel
theorem dX11_divisor_13 : decode cX11_divisor 13 = .ok (.lload 4, 2) := by decide +kernel
theorem dX11_divisor_15 : decode cX11_divisor 15 = .ok (.lload 6, 2) := by decide +kernel
theorem dX11_divisor_17 : decode cX11_divisor 17 = .ok (.lrem, 1) := by decide +kernel
theorem dX11_divisor_18 : decode cX11_divisor 18 = .ok (.lstore 8, 2) := by decide +kernel
theorem dX11_divisor_20 : decode cX11_divisor 20 = .ok (.lload 6, 2) := by decide +kernel
theorem dX11_divisor_22 : decode cX11_divisor 22 = .ok (.lstore 4, 2) := by decide +kernel
theorem dX11_divisor_24 : decode cX11_divisor 24 = .ok (.lload 8, 2) := by decide +kernel
theorem dX11_divisor_26 : decode cX11_divisor 26 = .ok (.lstore 6, 2) := by decide +kernel
theorem dX11_divisor_28 : decode cX11_divisor 28 = .ok (.goto (-22), 3) := by decide +kernel
theorem dX11_divisor_31 : decode cX11_divisor 31 = .ok (.lload 4, 2) := by decide +kernel
theorem dX11_divisor_33 : decode cX11_divisor 33 = .ok (.lreturn, 1) := by decide +kernel
theorem dX11_fall_0 : decode cX11_fall 0 = .ok (.lconst 1, 1) := by decide +kernel
theorem dX11_fall_1 : decode cX11_fall 1 = .ok (.lstore_n 2, 1) := by decide +kernel
theorem dX11_fall_2 : decode cX11_fall 2 = .ok (.iconst 0, 1) := by decide +kernel
theorem dX11_fall_3 : decode cX11_fall 3 = .ok (.istore 4, 2) := by decide +kernel
theorem dX11_fall_5 : decode cX11_fall 5 = .ok (.iload 4, 2) := by decide +kernel
theorem dX11_fall_7 : decode cX11_fall 7 = .ok (.iload_n 1, 1) := by decide +kernel
theorem dX11_fall_8 : decode cX11_fall 8 = .ok (.if_icmp .ge 28, 3) := by decide +kernel
theorem dX11_fall_11 : decode cX11_fall 11 = .ok (.lload_n 2, 1) := by decide +kernel
theorem dX11_fall_12 : decode cX11_fall 12 = .ok (.iload_n 0, 1) := by decide +kernel
theorem dX11_fall_13 : decode cX11_fall 13 = .ok (.iload 4, 2) := by decide +kernel
theorem dX11_fall_15 : decode cX11_fall 15 = .ok (.isub, 1) := by decide +kernel
theorem dX11_fall_16 : decode cX11_fall 16 = .ok (.ifCond .le 11, 3) := by decide +kernel
theorem dX11_fall_19 : decode cX11_fall 19 = .ok (.iload_n 0, 1) := by decide +kernel
theorem dX11_fall_20 : decode cX11_fall 20 = .ok (.iload 4, 2) := by decide +kernel
theorem dX11_fall_22 : decode cX11_fall 22 = .ok (.isub, 1) := by decide +kernel
theorem dX11_fall_23 : decode cX11_fall 23 = .ok (.i2l, 1) := by decide +kernel
theorem dX11_fall_24 : decode cX11_fall 24 = .ok (.goto 4, 3) := by decide +kernel
theorem dX11_fall_27 : decode cX11_fall 27 = .ok (.lconst 0, 1) := by decide +kernel
theorem dX11_fall_28 : decode cX11_fall 28 = .ok (.lmul, 1) := by decide +kernel
theorem dX11_fall_29 : decode cX11_fall 29 = .ok (.lstore_n 2, 1) := by decide +kernel
theorem dX11_fall_30 : decode cX11_fall 30 = .ok (.iinc 4 1, 3) := by decide +kernel
theorem dX11_fall_33 : decode cX11_fall 33 = .ok (.goto (-28), 3) := by decide +kernel
theorem dX11_fall_36 : decode cX11_fall 36 = .ok (.lload_n 2, 1) := by decide +kernel
theorem dX11_fall_37 : decode cX11_fall 37 = .ok (.lreturn, 1) := by decide +kernel
theorem dX11_threes_0 : decode cX11_threes 0 = .ok (.iload_n 0, 1) := by decide +kernel
theorem dX11_threes_1 : decode cX11_threes 1 = .ok (.iload_n 0, 1) := by decide +kernel
theorem dX11_threes_2 : decode cX11_threes 2 = .ok (.iconst 1, 1) := by decide +kernel
theorem dX11_threes_3 : decode cX11_threes 3 = .ok (.isub, 1) := by decide +kernel
theorem dX11_threes_4 : decode cX11_threes 4 = .ok (.imul, 1) := by decide +kernel
theorem dX11_threes_5 : decode cX11_threes 5 = .ok (.iload_n 0, 1) := by decide +kernel
theorem dX11_threes_6 : decode cX11_threes 6 = .ok (.iconst 2, 1) := by decide +kernel
theorem dX11_threes_7 : decode cX11_threes 7 = .ok (.isub, 1) := by decide +kernel
theorem dX11_threes_8 : decode cX11_threes 8 = .ok (.imul, 1) := by decide +kernel
theorem dX11_threes_9 : decode cX11_threes 9 = .ok (.bipush 6, 2) := by decide +kernel
theorem dX11_threes_11 : decode cX11_threes 11 = .ok (.idiv, 1) := by decide +kernel
theorem dX11_threes_12 : decode cX11_threes 12 = .ok (.ireturn, 1) := by decide +kernel
theorem dX11_findMean_0 : decode cX11_findMean 0 = .ok (.aload_n 0, 1) := by decide +kernel
theorem dX11_findMean_1 : decode cX11_findMean 1 = .ok (.getfield 7, 3) := by decide +kernel
theorem dX11_findMean_4 : decode cX11_findMean 4 = .ok (.aload_n 0, 1) := by decide +kernel
theorem dX11_findMean_5 : decode cX11_findMean 5 = .ok (.getfield 7, 3) := by decide +kernel
theorem dX11_findMean_8 : decode cX11_findMean 8 = .ok (.iconst 1, 1) := by decide +kernel
theorem dX11_findMean_9 : decode cX11_findMean 9 = .ok (.isub, 1) := by decide +kernel
theorem dX11_findMean_10 : decode cX11_findMean 10 = .ok (.imul, 1) := by decide +kernel
theorem dX11_findMean_11 : decode cX11_findMean 11 = .ok (.istore_n 2, 1) := by decide +kernel
theorem dX11_findMean_12 : decode cX11_findMean 12 = .ok (.aload_n 0, 1) := by decide +kernel
theorem dX11_findMean_13 : decode cX11_findMean 13 = .ok (.invokevirtual 161, 3) := by decide +kernel
theorem dX11_findMean_16 : decode cX11_findMean 16 = .ok (.istore_n 3, 1) := by decide +kernel
theorem dX11_findMean_17 : decode cX11_findMean 17 = .ok (.aload_n 0, 1) := by decide +kernel
theorem dX11_findMean_18 : decode cX11_findMean 18 = .ok (.getfield 45, 3) := by decide +kernel
theorem dX11_findMean_21 : decode cX11_findMean 21 = .ok (.iload_n 1, 1) := by decide +kernel
theorem dX11_findMean_22 : decode cX11_findMean 22 = .ok (.iaload, 1) := by decide +kernel
theorem dX11_findMean_23 : decode cX11_findMean 23 = .ok (.invokestatic 127, 3) := by decide +kernel
theorem dX11_findMean_26 : decode cX11_findMean 26 = .ok (.istore 4, 2) := by decide +kernel
theorem dX11_findMean_28 : decode cX11_findMean 28 = .ok (.iconst 0, 1) := by decide +kernel
theorem dX11_findMean_29 : decode cX11_findMean 29 = .ok (.istore 5, 2) := by decide +kernel
theorem dX11_findMean_31 : decode cX11_findMean 31 = .ok (.iconst 0, 1) := by decide +kernel
theorem dX11_findMean_32 : decode cX11_findMean 32 = .ok (.istore 6, 2) := by decide +kernel
theorem dX11_findMean_34 : decode cX11_findMean 34 = .ok (.iload 6, 2) := by decide +kernel
theorem dX11_findMean_36 : decode cX11_findMean 36 = .ok (.bipush 64, 2) := by decide +kernel
theorem dX11_findMean_38 : decode cX11_findMean 38 = .ok (.if_icmp .ge 35, 3) := by decide +kernel
theorem dX11_findMean_41 : decode cX11_findMean 41 = .ok (.iload 5, 2) := by decide +kernel
theorem dX11_findMean_43 : decode cX11_findMean 43 = .ok (.aload_n 0, 1) := by decide +kernel
theorem dX11_findMean_44 : decode cX11_findMean 44 = .ok (.getfield 42, 3) := by decide +kernel
theorem dX11_findMean_47 : decode cX11_findMean 47 = .ok (.iload 6, 2) := by decide +kernel
theorem dX11_findMean_49 : decode cX11_findMean 49 = .ok (.iaload, 1) := by decide +kernel
theorem dX11_findMean_50 : decode cX11_findMean 50 = .ok (.aload_n 0, 1) := by decide +kernel
theorem dX11_findMean_51 : decode cX11_findMean 51 = .ok (.getfield 45, 3) := by decide +kernel
theorem dX11_findMean_54 : decode cX11_findMean 54 = .ok (.iload_n 1, 1) := by decide +kernel
theorem dX11_findMean_55 : decode cX11_findMean 55 = .ok (.iaload, 1) := by decide +kernel
theorem dX11_findMean_56 : decode cX11_findMean 56 = .ok (.if_icmp .ne 7, 3) := by decide +kernel
theorem dX11_findMean_59 : decode cX11_findMean 59 = .ok (.iconst 1, 1) := by decide +kernel
theorem dX11_findMean_60 : decode cX11_findMean 60 = .ok (.goto 4, 3) := by decide +kernel
theorem dX11_findMean_63 : decode cX11_findMean 63 = .ok (.iconst 0, 1) := by decide +kernel
theorem dX11_findMean_64 : decode cX11_findMean 64 = .ok (.iadd, 1) := by decide +kernel
theorem dX11_findMean_65 : decode cX11_findMean 65 = .ok (.istore 5, 2) := by decide +kernel
theorem dX11_findMean_67 : decode cX11_findMean 67 = .ok (.iinc 6 1, 3) := by decide +kernel
theorem dX11_findMean_70 : decode cX11_findMean 70 = .ok (.goto (-36), 3) := by decide +kernel
theorem dX11_findMean_73 : decode cX11_findMean 73 = .ok (.aload_n 0, 1) := by decide +kernel
theorem dX11_findMean_74 : decode cX11_findMean 74 = .ok (.aload_n 0, 1) := by decide +kernel
theorem dX11_findMean_75 : decode cX11_findMean 75 = .ok (.getfield 7, 3) := by decide +kernel
theorem dX11_findMean_78 : decode cX11_findMean 78 = .ok (.invokestatic 167, 3) := by decide +kernel
theorem dX11_findMean_81 : decode cX11_findMean 81 = .ok (.iload 5, 2) := by decide +kernel
theorem dX11_findMean_83 : decode cX11_findMean 83 = .ok (.imul, 1) := by decide +kernel
theorem dX11_findMean_84 : decode cX11_findMean 84 = .ok (.i2l, 1) := by decide +kernel
theorem dX11_findMean_85 : decode cX11_findMean 85 = .ok (.iload_n 3, 1) := by decide +kernel
theorem dX11_findMean_86 : decode cX11_findMean 86 = .ok (.iload 4, 2) := by decide +kernel
theorem dX11_findMean_88 : decode cX11_findMean 88 = .ok (.invokestatic 170, 3) := by decide +kernel
theorem dX11_findMean_91 : decode cX11_findMean 91 = .ok (.lmul, 1) := by decide +kernel
theorem dX11_findMean_92 : decode cX11_findMean 92 = .ok (.iload_n 2, 1) := by decide +kernel
theorem dX11_findMean_93 : decode cX11_findMean 93 = .ok (.iload_n 3, 1) := by decide +kernel
theorem dX11_findMean_94 : decode cX11_findMean 94 = .ok (.isub, 1) := by decide +kernel
theorem dX11_findMean_95 : decode cX11_findMean 95 = .ok (.bipush 6, 2) := by decide +kernel
theorem dX11_findMean_97 : decode cX11_findMean 97 = .ok (.iload 4, 2) := by decide +kernel
theorem dX11_findMean_99 : decode cX11_findMean 99 = .ok (.isub, 1) := by decide +kernel
theorem dX11_findMean_100 : decode cX11_findMean 100 = .ok (.invokestatic 170, 3) := by decide +kernel
theorem dX11_findMean_103 : decode cX11_findMean 103 = .ok (.lmul, 1) := by decide +kernel
theorem dX11_findMean_104 : decode cX11_findMean 104 = .ok (.putfield 174, 3) := by decide +kernel
theorem dX11_findMean_107 : decode cX11_findMean 107 = .ok (.aload_n 0, 1) := by decide +kernel
theorem dX11_findMean_108 : decode cX11_findMean 108 = .ok (.iload_n 2, 1) := by decide +kernel
theorem dX11_findMean_109 : decode cX11_findMean 109 = .ok (.bipush 6, 2) := by decide +kernel
theorem dX11_findMean_111 : decode cX11_findMean 111 = .ok (.invokestatic 170, 3) := by decide +kernel
theorem dX11_findMean_114 : decode cX11_findMean 114 = .ok (.putfield 178, 3) := by decide +kernel
theorem dX11_findMean_117 : decode cX11_findMean 117 = .ok (.aload_n 0, 1) := by decide +kernel
theorem dX11_findMean_118 : decode cX11_findMean 118 = .ok (.getfield 174, 3) := by decide +kernel
theorem dX11_findMean_121 : decode cX11_findMean 121 = .ok (.aload_n 0, 1) := by decide +kernel
theorem dX11_findMean_122 : decode cX11_findMean 122 = .ok (.getfield 178, 3) := by decide +kernel
theorem dX11_findMean_125 : decode cX11_findMean 125 = .ok (.invokestatic 181, 3) := by decide +kernel
theorem dX11_findMean_128 : decode cX11_findMean 128 = .ok (.lstore 6, 2) := by decide +kernel
theorem dX11_findMean_130 : decode cX11_findMean 130 = .ok (.aload_n 0, 1) := by decide +kernel
theorem dX11_findMean_131 : decode cX11_findMean 131 = .ok (.dup, 1) := by decide +kernel
theorem dX11_findMean_132 : decode cX11_findMean 132 = .ok (.getfield 174, 3) := by decide +kernel
theorem dX11_findMean_135 : decode cX11_findMean 135 = .ok (.lload 6, 2) := by decide +kernel
theorem dX11_findMean_137 : decode cX11_findMean 137 = .ok (.ldiv, 1) := by decide +kernel
theorem dX11_findMean_138 : decode cX11_findMean 138 = .ok (.putfield 174, 3) := by decide +kernel
theorem dX11_findMean_141 : decode cX11_findMean 141 = .ok (.aload_n 0, 1) := by decide +kernel
theorem dX11_findMean_142 : decode cX11_findMean 142 = .ok (.dup, 1) := by decide +kernel
theorem dX11_findMean_143 : decode cX11_findMean 143 = .ok (.getfield 178, 3) := by decide +kernel
theorem dX11_findMean_146 : decode cX11_findMean 146 = .ok (.lload 6, 2) := by decide +kernel
theorem dX11_findMean_148 : decode cX11_findMean 148 = .ok (.ldiv, 1) := by decide +kernel
theorem dX11_findMean_149 : decode cX11_findMean 149 = .ok (.putfield 178, 3) := by decide +kernel
theorem dX11_findMean_152 : decode cX11_findMean 152 = .ok (.return_, 1) := by decide +kernel
theorem dX11_mean_0 : decode cX11_mean 0 = .ok (.iload_n 1, 1) := by decide +kernel
theorem dX11_mean_1 : decode cX11_mean 1 = .ok (.invokestatic 124, 3) := by decide +kernel
theorem dX11_mean_4 : decode cX11_mean 4 = .ok (.ifCond .ne 10, 3) := by decide +kernel
theorem dX11_mean_7 : decode cX11_mean 7 = .ok (.aload_n 0, 1) := by decide +kernel
theorem dX11_mean_8 : decode cX11_mean 8 = .ok (.iconst (-1), 1) := by decide +kernel
theorem dX11_mean_9 : decode cX11_mean 9 = .ok (.invokevirtual 104, 3) := by decide +kernel
theorem dX11_mean_12 : decode cX11_mean 12 = .ok (.i2l, 1) := by decide +kernel
theorem dX11_mean_13 : decode cX11_mean 13 = .ok (.lreturn, 1) := by decide +kernel
theorem dX11_mean_14 : decode cX11_mean 14 = .ok (.iload_n 2, 1) := by decide +kernel
theorem dX11_mean_15 : decode cX11_mean 15 = .ok (.iconst 0, 1) := by decide +kernel
theorem dX11_mean_16 : decode cX11_mean 16 = .ok (.iconst 1, 1) := by decide +kernel
theorem dX11_mean_17 : decode cX11_mean 17 = .ok (.invokestatic 86, 3) := by decide +kernel
theorem dX11_mean_20 : decode cX11_mean 20 = .ok (.ifCond .ne 11, 3) := by decide +kernel
theorem dX11_mean_23 : decode cX11_mean 23 = .ok (.aload_n 0, 1) := by decide +kernel
theorem dX11_mean_24 : decode cX11_mean 24 = .ok (.bipush (-2), 2) := by decide +kernel
theorem dX11_mean_26 : decode cX11_mean 26 = .ok (.invokevirtual 104, 3) := by decide +kernel
theorem dX11_mean_29 : decode cX11_mean 29 = .ok (.i2l, 1) := by decide +kernel
theorem dX11_mean_30 : decode cX11_mean 30 = .ok (.lreturn, 1) := by decide +kernel
theorem dX11_mean_31 : decode cX11_mean 31 = .ok (.aload_n 0, 1) := by decide +kernel
theorem dX11_mean_32 : decode cX11_mean 32 = .ok (.iload_n 1, 1) := by decide +kernel
theorem dX11_mean_33 : decode cX11_mean 33 = .ok (.invokevirtual 185, 3) := by decide +kernel
theorem dX11_mean_36 : decode cX11_mean 36 = .ok (.iload_n 2, 1) := by decide +kernel
theorem dX11_mean_37 : decode cX11_mean 37 = .ok (.ifCond .ne 10, 3) := by decide +kernel
theorem dX11_mean_40 : decode cX11_mean 40 = .ok (.aload_n 0, 1) := by decide +kernel
theorem dX11_mean_41 : decode cX11_mean 41 = .ok (.getfield 174, 3) := by decide +kernel
theorem dX11_mean_44 : decode cX11_mean 44 = .ok (.goto 7, 3) := by decide +kernel
theorem dX11_mean_47 : decode cX11_mean 47 = .ok (.aload_n 0, 1) := by decide +kernel
theorem dX11_mean_48 : decode cX11_mean 48 = .ok (.getfield 178, 3) := by decide +kernel
theorem dX11_mean_51 : decode cX11_mean 51 = .ok (.lreturn, 1) := by decide +kernel
theorem dX11_more_0 : decode cX11_more 0 = .ok (.iload_n 1, 1) := by decide +kernel
theorem dX11_more_1 : decode cX11_more 1 = .ok (.invokestatic 124, 3) := by decide +kernel
theorem dX11_more_4 : decode cX11_more 4 = .ok (.ifCond .ne 16, 3) := by decide +kernel
theorem dX11_more_7 : decode cX11_more 7 = .ok (.aload_n 0, 1) := by decide +kernel
theorem dX11_more_8 : decode cX11_more 8 = .ok (.getfield 39, 3) := by decide +kernel
theorem dX11_more_11 : decode cX11_more 11 = .ok (.iconst 1, 1) := by decide +kernel
theorem dX11_more_12 : decode cX11_more 12 = .ok (.dup2, 1) := by decide +kernel
theorem dX11_more_13 : decode cX11_more 13 = .ok (.iaload, 1) := by decide +kernel
theorem dX11_more_14 : decode cX11_more 14 = .ok (.iconst 1, 1) := by decide +kernel
theorem dX11_more_15 : decode cX11_more 15 = .ok (.iadd, 1) := by decide +kernel
theorem dX11_more_16 : decode cX11_more 16 = .ok (.iastore, 1) := by decide +kernel
theorem dX11_more_17 : decode cX11_more 17 = .ok (.ldc 189, 2) := by decide +kernel
theorem dX11_more_19 : decode cX11_more 19 = .ok (.ireturn, 1) := by decide +kernel
theorem dX11_more_20 : decode cX11_more 20 = .ok (.aload_n 0, 1) := by decide +kernel
theorem dX11_more_21 : decode cX11_more 21 = .ok (.iload_n 1, 1) := by decide +kernel
theorem dX11_more_22 : decode cX11_more 22 = .ok (.invokevirtual 185, 3) := by decide +kernel
theorem dX11_more_25 : decode cX11_more 25 = .ok (.aload_n 0, 1) := by decide +kernel
theorem dX11_more_26 : decode cX11_more 26 = .ok (.iload_n 1, 1) := by decide +kernel
theorem dX11_more_27 : decode cX11_more 27 = .ok (.invokevirtual 133, 3) := by decide +kernel
theorem dX11_more_30 : decode cX11_more 30 = .ok (.i2l, 1) := by decide +kernel
theorem dX11_more_31 : decode cX11_more 31 = .ok (.aload_n 0, 1) := by decide +kernel
theorem dX11_more_32 : decode cX11_more 32 = .ok (.getfield 178, 3) := by decide +kernel
theorem dX11_more_35 : decode cX11_more 35 = .ok (.lmul, 1) := by decide +kernel
theorem dX11_more_36 : decode cX11_more 36 = .ok (.lstore_n 2, 1) := by decide +kernel
theorem dX11_more_37 : decode cX11_more 37 = .ok (.lload_n 2, 1) := by decide +kernel
theorem dX11_more_38 : decode cX11_more 38 = .ok (.aload_n 0, 1) := by decide +kernel
theorem dX11_more_39 : decode cX11_more 39 = .ok (.getfield 174, 3) := by decide +kernel
theorem dX11_more_42 : decode cX11_more 42 = .ok (.lcmp, 1) := by decide +kernel
theorem dX11_more_43 : decode cX11_more 43 = .ok (.ifCond .le 7, 3) := by decide +kernel
theorem dX11_more_46 : decode cX11_more 46 = .ok (.iconst 1, 1) := by decide +kernel
theorem dX11_more_47 : decode cX11_more 47 = .ok (.goto 17, 3) := by decide +kernel
theorem dX11_more_50 : decode cX11_more 50 = .ok (.lload_n 2, 1) := by decide +kernel
theorem dX11_more_51 : decode cX11_more 51 = .ok (.aload_n 0, 1) := by decide +kernel
theorem dX11_more_52 : decode cX11_more 52 = .ok (.getfield 174, 3) := by decide +kernel
theorem dX11_more_55 : decode cX11_more 55 = .ok (.lcmp, 1) := by decide +kernel
theorem dX11_more_56 : decode cX11_more 56 = .ok (.ifCond .ge 7, 3) := by decide +kernel
theorem dX11_more_59 : decode cX11_more 59 = .ok (.iconst (-1), 1) := by decide +kernel
theorem dX11_more_60 : decode cX11_more 60 = .ok (.goto 4, 3) := by decide +kernel
theorem dX11_more_63 : decode cX11_more 63 = .ok (.iconst 0, 1) := by decide +kernel
theorem dX11_more_64 : decode cX11_more 64 = .ok (.ireturn, 1) := by decide +kernel
theorem dX11_chains_0 : decode cX11_chains 0 = .ok (.iload_n 2, 1) := by decide +kernel
theorem dX11_chains_1 : decode cX11_chains 1 = .ok (.iconst 0, 1) := by decide +kernel
theorem dX11_chains_2 : decode cX11_chains 2 = .ok (.iconst 1, 1) := by decide +kernel
theorem dX11_chains_3 : decode cX11_chains 3 = .ok (.invokestatic 86, 3) := by decide +kernel
theorem dX11_chains_6 : decode cX11_chains 6 = .ok (.ifCond .ne 10, 3) := by decide +kernel
theorem dX11_chains_9 : decode cX11_chains 9 = .ok (.aload_n 0, 1) := by decide +kernel
theorem dX11_chains_10 : decode cX11_chains 10 = .ok (.bipush (-2), 2) := by decide +kernel
theorem dX11_chains_12 : decode cX11_chains 12 = .ok (.invokevirtual 104, 3) := by decide +kernel
theorem dX11_chains_15 : decode cX11_chains 15 = .ok (.ireturn, 1) := by decide +kernel
theorem dX11_chains_16 : decode cX11_chains 16 = .ok (.iload_n 1, 1) := by decide +kernel
theorem dX11_chains_17 : decode cX11_chains 17 = .ok (.ifCond .ge 10, 3) := by decide +kernel
theorem dX11_chains_20 : decode cX11_chains 20 = .ok (.aload_n 0, 1) := by decide +kernel
theorem dX11_chains_21 : decode cX11_chains 21 = .ok (.bipush (-4), 2) := by decide +kernel
theorem dX11_chains_23 : decode cX11_chains 23 = .ok (.invokevirtual 104, 3) := by decide +kernel
theorem dX11_chains_26 : decode cX11_chains 26 = .ok (.ireturn, 1) := by decide +kernel
theorem dX11_chains_27 : decode cX11_chains 27 = .ok (.iload_n 1, 1) := by decide +kernel
theorem dX11_chains_28 : decode cX11_chains 28 = .ok (.sipush 1000, 3) := by decide +kernel
theorem dX11_chains_31 : decode cX11_chains 31 = .ok (.if_icmp .le 10, 3) := by decide +kernel
theorem dX11_chains_34 : decode cX11_chains 34 = .ok (.aload_n 0, 1) := by decide +kernel
theorem dX11_chains_35 : decode cX11_chains 35 = .ok (.bipush (-6), 2) := by decide +kernel
theorem dX11_chains_37 : decode cX11_chains 37 = .ok (.invokevirtual 104, 3) := by decide +kernel
theorem dX11_chains_40 : decode cX11_chains 40 = .ok (.ireturn, 1) := by decide +kernel
theorem dX11_chains_41 : decode cX11_chains 41 = .ok (.iconst 0, 1) := by decide +kernel
theorem dX11_chains_42 : decode cX11_chains 42 = .ok (.istore_n 3, 1) := by decide +kernel
theorem dX11_chains_43 : decode cX11_chains 43 = .ok (.iconst 0, 1) := by decide +kernel
theorem dX11_chains_44 : decode cX11_chains 44 = .ok (.istore 4, 2) := by decide +kernel
theorem dX11_chains_46 : decode cX11_chains 46 = .ok (.iload 4, 2) := by decide +kernel
theorem dX11_chains_48 : decode cX11_chains 48 = .ok (.sipush 256, 3) := by decide +kernel
theorem dX11_chains_51 : decode cX11_chains 51 = .ok (.if_icmp .ge 123, 3) := by decide +kernel
theorem dX11_chains_54 : decode cX11_chains 54 = .ok (.iconst 0, 1) := by decide +kernel
theorem dX11_chains_55 : decode cX11_chains 55 = .ok (.istore 5, 2) := by decide +kernel
theorem dX11_chains_57 : decode cX11_chains 57 = .ok (.iload 5, 2) := by decide +kernel
theorem dX11_chains_59 : decode cX11_chains 59 = .ok (.aload_n 0, 1) := by decide +kernel
theorem dX11_chains_60 : decode cX11_chains 60 = .ok (.getfield 7, 3) := by decide +kernel
theorem dX11_chains_63 : decode cX11_chains 63 = .ok (.if_icmp .ge 105, 3) := by decide +kernel
theorem dX11_chains_66 : decode cX11_chains 66 = .ok (.aload_n 0, 1) := by decide +kernel
theorem dX11_chains_67 : decode cX11_chains 67 = .ok (.getfield 13, 3) := by decide +kernel
theorem dX11_chains_70 : decode cX11_chains 70 = .ok (.iload 4, 2) := by decide +kernel
theorem dX11_chains_72 : decode cX11_chains 72 = .ok (.baload, 1) := by decide +kernel
theorem dX11_chains_73 : decode cX11_chains 73 = .ok (.ifCond .eq 95, 3) := by decide +kernel
theorem dX11_chains_76 : decode cX11_chains 76 = .ok (.bipush 16, 2) := by decide +kernel
theorem dX11_chains_78 : decode cX11_chains 78 = .ok (.iload 4, 2) := by decide +kernel
theorem dX11_chains_80 : decode cX11_chains 80 = .ok (.bipush 16, 2) := by decide +kernel
