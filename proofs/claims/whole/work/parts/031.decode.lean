theorem dX5_placeOf_0 : decode cX5_placeOf 0 = .ok (.aload_n 0, 1) := by decide +kernel
theorem dX5_placeOf_1 : decode cX5_placeOf 1 = .ok (.getfield 24, 3) := by decide +kernel
theorem dX5_placeOf_4 : decode cX5_placeOf 4 = .ok (.iload_n 1, 1) := by decide +kernel
theorem dX5_placeOf_5 : decode cX5_placeOf 5 = .ok (.iconst 3, 1) := by decide +kernel
theorem dX5_placeOf_6 : decode cX5_placeOf 6 = .ok (.imul, 1) := by decide +kernel
theorem dX5_placeOf_7 : decode cX5_placeOf 7 = .ok (.iload_n 2, 1) := by decide +kernel
theorem dX5_placeOf_8 : decode cX5_placeOf 8 = .ok (.iadd, 1) := by decide +kernel
theorem dX5_placeOf_9 : decode cX5_placeOf 9 = .ok (.iaload, 1) := by decide +kernel
theorem dX5_placeOf_10 : decode cX5_placeOf 10 = .ok (.ireturn, 1) := by decide +kernel
theorem dX5_leastOf_0 : decode cX5_leastOf 0 = .ok (.iload_n 0, 1) := by decide +kernel
theorem dX5_leastOf_1 : decode cX5_leastOf 1 = .ok (.istore_n 1, 1) := by decide +kernel
theorem dX5_leastOf_2 : decode cX5_leastOf 2 = .ok (.iconst 0, 1) := by decide +kernel
theorem dX5_leastOf_3 : decode cX5_leastOf 3 = .ok (.istore_n 2, 1) := by decide +kernel
theorem dX5_leastOf_4 : decode cX5_leastOf 4 = .ok (.iload_n 2, 1) := by decide +kernel
theorem dX5_leastOf_5 : decode cX5_leastOf 5 = .ok (.getstatic 43, 3) := by decide +kernel
theorem dX5_leastOf_8 : decode cX5_leastOf 8 = .ok (.arraylength, 1) := by decide +kernel
theorem dX5_leastOf_9 : decode cX5_leastOf 9 = .ok (.if_icmp .ge 19, 3) := by decide +kernel
theorem dX5_leastOf_12 : decode cX5_leastOf 12 = .ok (.iload_n 1, 1) := by decide +kernel
theorem dX5_leastOf_13 : decode cX5_leastOf 13 = .ok (.iload_n 0, 1) := by decide +kernel
theorem dX5_leastOf_14 : decode cX5_leastOf 14 = .ok (.iload_n 2, 1) := by decide +kernel
theorem dX5_leastOf_15 : decode cX5_leastOf 15 = .ok (.invokestatic 46, 3) := by decide +kernel
theorem dX5_leastOf_18 : decode cX5_leastOf 18 = .ok (.invokestatic 50, 3) := by decide +kernel
theorem dX5_leastOf_21 : decode cX5_leastOf 21 = .ok (.istore_n 1, 1) := by decide +kernel
theorem dX5_leastOf_22 : decode cX5_leastOf 22 = .ok (.iinc 2 3, 3) := by decide +kernel
theorem dX5_leastOf_25 : decode cX5_leastOf 25 = .ok (.goto (-21), 3) := by decide +kernel
theorem dX5_leastOf_28 : decode cX5_leastOf 28 = .ok (.iload_n 1, 1) := by decide +kernel
theorem dX5_leastOf_29 : decode cX5_leastOf 29 = .ok (.ireturn, 1) := by decide +kernel
theorem dX5_setPlaces_0 : decode cX5_setPlaces 0 = .ok (.iconst 0, 1) := by decide +kernel
theorem dX5_setPlaces_1 : decode cX5_setPlaces 1 = .ok (.istore_n 3, 1) := by decide +kernel
theorem dX5_setPlaces_2 : decode cX5_setPlaces 2 = .ok (.iload_n 3, 1) := by decide +kernel
theorem dX5_setPlaces_3 : decode cX5_setPlaces 3 = .ok (.iconst 3, 1) := by decide +kernel
theorem dX5_setPlaces_4 : decode cX5_setPlaces 4 = .ok (.if_icmp .ge 20, 3) := by decide +kernel
theorem dX5_setPlaces_7 : decode cX5_setPlaces 7 = .ok (.aload_n 0, 1) := by decide +kernel
theorem dX5_setPlaces_8 : decode cX5_setPlaces 8 = .ok (.getfield 24, 3) := by decide +kernel
theorem dX5_setPlaces_11 : decode cX5_setPlaces 11 = .ok (.iload_n 1, 1) := by decide +kernel
theorem dX5_setPlaces_12 : decode cX5_setPlaces 12 = .ok (.iconst 3, 1) := by decide +kernel
theorem dX5_setPlaces_13 : decode cX5_setPlaces 13 = .ok (.imul, 1) := by decide +kernel
theorem dX5_setPlaces_14 : decode cX5_setPlaces 14 = .ok (.iload_n 3, 1) := by decide +kernel
theorem dX5_setPlaces_15 : decode cX5_setPlaces 15 = .ok (.iadd, 1) := by decide +kernel
theorem dX5_setPlaces_16 : decode cX5_setPlaces 16 = .ok (.iconst 2, 1) := by decide +kernel
theorem dX5_setPlaces_17 : decode cX5_setPlaces 17 = .ok (.iastore, 1) := by decide +kernel
theorem dX5_setPlaces_18 : decode cX5_setPlaces 18 = .ok (.iinc 3 1, 3) := by decide +kernel
theorem dX5_setPlaces_21 : decode cX5_setPlaces 21 = .ok (.goto (-19), 3) := by decide +kernel
theorem dX5_setPlaces_24 : decode cX5_setPlaces 24 = .ok (.iconst 0, 1) := by decide +kernel
theorem dX5_setPlaces_25 : decode cX5_setPlaces 25 = .ok (.istore_n 3, 1) := by decide +kernel
theorem dX5_setPlaces_26 : decode cX5_setPlaces 26 = .ok (.iload_n 3, 1) := by decide +kernel
theorem dX5_setPlaces_27 : decode cX5_setPlaces 27 = .ok (.getstatic 43, 3) := by decide +kernel
theorem dX5_setPlaces_30 : decode cX5_setPlaces 30 = .ok (.arraylength, 1) := by decide +kernel
theorem dX5_setPlaces_31 : decode cX5_setPlaces 31 = .ok (.if_icmp .ge 66, 3) := by decide +kernel
theorem dX5_setPlaces_34 : decode cX5_setPlaces 34 = .ok (.iload_n 1, 1) := by decide +kernel
theorem dX5_setPlaces_35 : decode cX5_setPlaces 35 = .ok (.iload_n 3, 1) := by decide +kernel
theorem dX5_setPlaces_36 : decode cX5_setPlaces 36 = .ok (.invokestatic 46, 3) := by decide +kernel
theorem dX5_setPlaces_39 : decode cX5_setPlaces 39 = .ok (.iload_n 2, 1) := by decide +kernel
theorem dX5_setPlaces_40 : decode cX5_setPlaces 40 = .ok (.if_icmp .ne 51, 3) := by decide +kernel
theorem dX5_setPlaces_43 : decode cX5_setPlaces 43 = .ok (.iconst 0, 1) := by decide +kernel
theorem dX5_setPlaces_44 : decode cX5_setPlaces 44 = .ok (.istore 4, 2) := by decide +kernel
theorem dX5_setPlaces_46 : decode cX5_setPlaces 46 = .ok (.iload 4, 2) := by decide +kernel
theorem dX5_setPlaces_48 : decode cX5_setPlaces 48 = .ok (.iconst 3, 1) := by decide +kernel
theorem dX5_setPlaces_49 : decode cX5_setPlaces 49 = .ok (.if_icmp .ge 42, 3) := by decide +kernel
theorem dX5_setPlaces_52 : decode cX5_setPlaces 52 = .ok (.iload_n 1, 1) := by decide +kernel
theorem dX5_setPlaces_53 : decode cX5_setPlaces 53 = .ok (.iconst 3, 1) := by decide +kernel
theorem dX5_setPlaces_54 : decode cX5_setPlaces 54 = .ok (.imul, 1) := by decide +kernel
theorem dX5_setPlaces_55 : decode cX5_setPlaces 55 = .ok (.getstatic 43, 3) := by decide +kernel
theorem dX5_setPlaces_58 : decode cX5_setPlaces 58 = .ok (.iload_n 3, 1) := by decide +kernel
theorem dX5_setPlaces_59 : decode cX5_setPlaces 59 = .ok (.iload 4, 2) := by decide +kernel
theorem dX5_setPlaces_61 : decode cX5_setPlaces 61 = .ok (.iadd, 1) := by decide +kernel
theorem dX5_setPlaces_62 : decode cX5_setPlaces 62 = .ok (.iaload, 1) := by decide +kernel
theorem dX5_setPlaces_63 : decode cX5_setPlaces 63 = .ok (.iadd, 1) := by decide +kernel
theorem dX5_setPlaces_64 : decode cX5_setPlaces 64 = .ok (.istore 5, 2) := by decide +kernel
theorem dX5_setPlaces_66 : decode cX5_setPlaces 66 = .ok (.aload_n 0, 1) := by decide +kernel
theorem dX5_setPlaces_67 : decode cX5_setPlaces 67 = .ok (.getfield 24, 3) := by decide +kernel
theorem dX5_setPlaces_70 : decode cX5_setPlaces 70 = .ok (.iload 5, 2) := by decide +kernel
theorem dX5_setPlaces_72 : decode cX5_setPlaces 72 = .ok (.aload_n 0, 1) := by decide +kernel
theorem dX5_setPlaces_73 : decode cX5_setPlaces 73 = .ok (.getfield 24, 3) := by decide +kernel
theorem dX5_setPlaces_76 : decode cX5_setPlaces 76 = .ok (.iload 5, 2) := by decide +kernel
theorem dX5_setPlaces_78 : decode cX5_setPlaces 78 = .ok (.iaload, 1) := by decide +kernel
theorem dX5_setPlaces_79 : decode cX5_setPlaces 79 = .ok (.iload 4, 2) := by decide +kernel
theorem dX5_setPlaces_81 : decode cX5_setPlaces 81 = .ok (.invokestatic 50, 3) := by decide +kernel
theorem dX5_setPlaces_84 : decode cX5_setPlaces 84 = .ok (.iastore, 1) := by decide +kernel
theorem dX5_setPlaces_85 : decode cX5_setPlaces 85 = .ok (.iinc 4 1, 3) := by decide +kernel
theorem dX5_setPlaces_88 : decode cX5_setPlaces 88 = .ok (.goto (-42), 3) := by decide +kernel
theorem dX5_setPlaces_91 : decode cX5_setPlaces 91 = .ok (.iinc 3 3, 3) := by decide +kernel
theorem dX5_setPlaces_94 : decode cX5_setPlaces 94 = .ok (.goto (-68), 3) := by decide +kernel
theorem dX5_setPlaces_97 : decode cX5_setPlaces 97 = .ok (.return_, 1) := by decide +kernel
theorem dX5_placesIn_0 : decode cX5_placesIn 0 = .ok (.iconst 0, 1) := by decide +kernel
theorem dX5_placesIn_1 : decode cX5_placesIn 1 = .ok (.istore_n 2, 1) := by decide +kernel
theorem dX5_placesIn_2 : decode cX5_placesIn 2 = .ok (.iconst 0, 1) := by decide +kernel
theorem dX5_placesIn_3 : decode cX5_placesIn 3 = .ok (.istore_n 3, 1) := by decide +kernel
theorem dX5_placesIn_4 : decode cX5_placesIn 4 = .ok (.iload_n 3, 1) := by decide +kernel
theorem dX5_placesIn_5 : decode cX5_placesIn 5 = .ok (.iconst 3, 1) := by decide +kernel
theorem dX5_placesIn_6 : decode cX5_placesIn 6 = .ok (.if_icmp .ge 22, 3) := by decide +kernel
theorem dX5_placesIn_9 : decode cX5_placesIn 9 = .ok (.aload_n 0, 1) := by decide +kernel
theorem dX5_placesIn_10 : decode cX5_placesIn 10 = .ok (.iload_n 1, 1) := by decide +kernel
theorem dX5_placesIn_11 : decode cX5_placesIn 11 = .ok (.iload_n 3, 1) := by decide +kernel
theorem dX5_placesIn_12 : decode cX5_placesIn 12 = .ok (.invokevirtual 55, 3) := by decide +kernel
theorem dX5_placesIn_15 : decode cX5_placesIn 15 = .ok (.iload_n 3, 1) := by decide +kernel
theorem dX5_placesIn_16 : decode cX5_placesIn 16 = .ok (.if_icmp .ne 6, 3) := by decide +kernel
theorem dX5_placesIn_19 : decode cX5_placesIn 19 = .ok (.iinc 2 1, 3) := by decide +kernel
theorem dX5_placesIn_22 : decode cX5_placesIn 22 = .ok (.iinc 3 1, 3) := by decide +kernel
theorem dX5_placesIn_25 : decode cX5_placesIn 25 = .ok (.goto (-21), 3) := by decide +kernel
theorem dX5_placesIn_28 : decode cX5_placesIn 28 = .ok (.iload_n 2, 1) := by decide +kernel
theorem dX5_placesIn_29 : decode cX5_placesIn 29 = .ok (.ireturn, 1) := by decide +kernel
theorem dX5_reordered_0 : decode cX5_reordered 0 = .ok (.iconst 0, 1) := by decide +kernel
theorem dX5_reordered_1 : decode cX5_reordered 1 = .ok (.istore_n 2, 1) := by decide +kernel
theorem dX5_reordered_2 : decode cX5_reordered 2 = .ok (.iconst 0, 1) := by decide +kernel
theorem dX5_reordered_3 : decode cX5_reordered 3 = .ok (.istore_n 3, 1) := by decide +kernel
theorem dX5_reordered_4 : decode cX5_reordered 4 = .ok (.iload_n 3, 1) := by decide +kernel
theorem dX5_reordered_5 : decode cX5_reordered 5 = .ok (.iconst 3, 1) := by decide +kernel
theorem dX5_reordered_6 : decode cX5_reordered 6 = .ok (.if_icmp .ge 67, 3) := by decide +kernel
theorem dX5_reordered_9 : decode cX5_reordered 9 = .ok (.iconst 0, 1) := by decide +kernel
theorem dX5_reordered_10 : decode cX5_reordered 10 = .ok (.istore 4, 2) := by decide +kernel
theorem dX5_reordered_12 : decode cX5_reordered 12 = .ok (.iload 4, 2) := by decide +kernel
theorem dX5_reordered_14 : decode cX5_reordered 14 = .ok (.iconst 3, 1) := by decide +kernel
theorem dX5_reordered_15 : decode cX5_reordered 15 = .ok (.if_icmp .ge 52, 3) := by decide +kernel
theorem dX5_reordered_18 : decode cX5_reordered 18 = .ok (.iload_n 3, 1) := by decide +kernel
theorem dX5_reordered_19 : decode cX5_reordered 19 = .ok (.iload 4, 2) := by decide +kernel
theorem dX5_reordered_21 : decode cX5_reordered 21 = .ok (.if_icmp .eq 40, 3) := by decide +kernel
theorem dX5_reordered_24 : decode cX5_reordered 24 = .ok (.iload_n 0, 1) := by decide +kernel
theorem dX5_reordered_25 : decode cX5_reordered 25 = .ok (.getstatic 43, 3) := by decide +kernel
theorem dX5_reordered_28 : decode cX5_reordered 28 = .ok (.iload_n 1, 1) := by decide +kernel
theorem dX5_reordered_29 : decode cX5_reordered 29 = .ok (.iload_n 3, 1) := by decide +kernel
theorem dX5_reordered_30 : decode cX5_reordered 30 = .ok (.iadd, 1) := by decide +kernel
theorem dX5_reordered_31 : decode cX5_reordered 31 = .ok (.iaload, 1) := by decide +kernel
theorem dX5_reordered_32 : decode cX5_reordered 32 = .ok (.getstatic 43, 3) := by decide +kernel
theorem dX5_reordered_35 : decode cX5_reordered 35 = .ok (.iload_n 1, 1) := by decide +kernel
theorem dX5_reordered_36 : decode cX5_reordered 36 = .ok (.iload 4, 2) := by decide +kernel
theorem dX5_reordered_38 : decode cX5_reordered 38 = .ok (.iadd, 1) := by decide +kernel
theorem dX5_reordered_39 : decode cX5_reordered 39 = .ok (.iaload, 1) := by decide +kernel
theorem dX5_reordered_40 : decode cX5_reordered 40 = .ok (.invokestatic 58, 3) := by decide +kernel
theorem dX5_reordered_43 : decode cX5_reordered 43 = .ok (.ishr, 1) := by decide +kernel
theorem dX5_reordered_44 : decode cX5_reordered 44 = .ok (.iconst 1, 1) := by decide +kernel
theorem dX5_reordered_45 : decode cX5_reordered 45 = .ok (.iand, 1) := by decide +kernel
theorem dX5_reordered_46 : decode cX5_reordered 46 = .ok (.iconst 1, 1) := by decide +kernel
theorem dX5_reordered_47 : decode cX5_reordered 47 = .ok (.if_icmp .ne 14, 3) := by decide +kernel
theorem dX5_reordered_50 : decode cX5_reordered 50 = .ok (.iload_n 2, 1) := by decide +kernel
theorem dX5_reordered_51 : decode cX5_reordered 51 = .ok (.iconst 1, 1) := by decide +kernel
theorem dX5_reordered_52 : decode cX5_reordered 52 = .ok (.iload_n 3, 1) := by decide +kernel
theorem dX5_reordered_53 : decode cX5_reordered 53 = .ok (.iload 4, 2) := by decide +kernel
theorem dX5_reordered_55 : decode cX5_reordered 55 = .ok (.invokestatic 58, 3) := by decide +kernel
theorem dX5_reordered_58 : decode cX5_reordered 58 = .ok (.ishl, 1) := by decide +kernel
theorem dX5_reordered_59 : decode cX5_reordered 59 = .ok (.ior, 1) := by decide +kernel
theorem dX5_reordered_60 : decode cX5_reordered 60 = .ok (.istore_n 2, 1) := by decide +kernel
theorem dX5_reordered_61 : decode cX5_reordered 61 = .ok (.iinc 4 1, 3) := by decide +kernel
theorem dX5_reordered_64 : decode cX5_reordered 64 = .ok (.goto (-52), 3) := by decide +kernel
theorem dX5_reordered_67 : decode cX5_reordered 67 = .ok (.iinc 3 1, 3) := by decide +kernel
theorem dX5_reordered_70 : decode cX5_reordered 70 = .ok (.goto (-66), 3) := by decide +kernel
theorem dX5_reordered_73 : decode cX5_reordered 73 = .ok (.iload_n 2, 1) := by decide +kernel
theorem dX5_reordered_74 : decode cX5_reordered 74 = .ok (.ireturn, 1) := by decide +kernel
theorem dX5_codeBit_0 : decode cX5_codeBit 0 = .ok (.iload_n 0, 1) := by decide +kernel
theorem dX5_codeBit_1 : decode cX5_codeBit 1 = .ok (.iconst 2, 1) := by decide +kernel
theorem dX5_codeBit_2 : decode cX5_codeBit 2 = .ok (.imul, 1) := by decide +kernel
theorem dX5_codeBit_3 : decode cX5_codeBit 3 = .ok (.iload_n 1, 1) := by decide +kernel
theorem dX5_codeBit_4 : decode cX5_codeBit 4 = .ok (.iload_n 0, 1) := by decide +kernel
theorem dX5_codeBit_5 : decode cX5_codeBit 5 = .ok (.if_icmp .le 9, 3) := by decide +kernel
theorem dX5_codeBit_8 : decode cX5_codeBit 8 = .ok (.iload_n 1, 1) := by decide +kernel
theorem dX5_codeBit_9 : decode cX5_codeBit 9 = .ok (.iconst 1, 1) := by decide +kernel
theorem dX5_codeBit_10 : decode cX5_codeBit 10 = .ok (.isub, 1) := by decide +kernel
theorem dX5_codeBit_11 : decode cX5_codeBit 11 = .ok (.goto 4, 3) := by decide +kernel
theorem dX5_codeBit_14 : decode cX5_codeBit 14 = .ok (.iload_n 1, 1) := by decide +kernel
theorem dX5_codeBit_15 : decode cX5_codeBit 15 = .ok (.iadd, 1) := by decide +kernel
theorem dX5_codeBit_16 : decode cX5_codeBit 16 = .ok (.ireturn, 1) := by decide +kernel
theorem dX6_init_0 : decode cX6_init 0 = .ok (.aload_n 0, 1) := by decide +kernel
theorem dX6_init_1 : decode cX6_init 1 = .ok (.invokespecial 3, 3) := by decide +kernel
theorem dX6_init_4 : decode cX6_init 4 = .ok (.aload_n 0, 1) := by decide +kernel
theorem dX6_init_5 : decode cX6_init 5 = .ok (.bipush 16, 2) := by decide +kernel
theorem dX6_init_7 : decode cX6_init 7 = .ok (.newarray .int, 2) := by decide +kernel
theorem dX6_init_9 : decode cX6_init 9 = .ok (.putfield 9, 3) := by decide +kernel
theorem dX6_init_12 : decode cX6_init 12 = .ok (.aload_n 0, 1) := by decide +kernel
theorem dX6_init_13 : decode cX6_init 13 = .ok (.bipush 16, 2) := by decide +kernel
theorem dX6_init_15 : decode cX6_init 15 = .ok (.newarray .int, 2) := by decide +kernel
theorem dX6_init_17 : decode cX6_init 17 = .ok (.putfield 15, 3) := by decide +kernel
theorem dX6_init_20 : decode cX6_init 20 = .ok (.aload_n 0, 1) := by decide +kernel
theorem dX6_init_21 : decode cX6_init 21 = .ok (.iconst 0, 1) := by decide +kernel
theorem dX6_init_22 : decode cX6_init 22 = .ok (.putfield 18, 3) := by decide +kernel
theorem dX6_init_25 : decode cX6_init 25 = .ok (.aload_n 0, 1) := by decide +kernel
theorem dX6_init_26 : decode cX6_init 26 = .ok (.iconst 0, 1) := by decide +kernel
theorem dX6_init_27 : decode cX6_init 27 = .ok (.putfield 22, 3) := by decide +kernel
theorem dX6_init_30 : decode cX6_init 30 = .ok (.return_, 1) := by decide +kernel
theorem dX6_tryAll_0 : decode cX6_tryAll 0 = .ok (.aload_n 0, 1) := by decide +kernel
theorem dX6_tryAll_1 : decode cX6_tryAll 1 = .ok (.aload_n 1, 1) := by decide +kernel
theorem dX6_tryAll_2 : decode cX6_tryAll 2 = .ok (.invokevirtual 25, 3) := by decide +kernel
theorem dX6_tryAll_5 : decode cX6_tryAll 5 = .ok (.istore_n 2, 1) := by decide +kernel
theorem dX6_tryAll_6 : decode cX6_tryAll 6 = .ok (.iconst 0, 1) := by decide +kernel
theorem dX6_tryAll_7 : decode cX6_tryAll 7 = .ok (.istore_n 3, 1) := by decide +kernel
theorem dX6_tryAll_8 : decode cX6_tryAll 8 = .ok (.aload_n 0, 1) := by decide +kernel
theorem dX6_tryAll_9 : decode cX6_tryAll 9 = .ok (.iload_n 2, 1) := by decide +kernel
theorem dX6_tryAll_10 : decode cX6_tryAll 10 = .ok (.putfield 18, 3) := by decide +kernel
theorem dX6_tryAll_13 : decode cX6_tryAll 13 = .ok (.aload_n 0, 1) := by decide +kernel
theorem dX6_tryAll_14 : decode cX6_tryAll 14 = .ok (.iload_n 3, 1) := by decide +kernel
theorem dX6_tryAll_15 : decode cX6_tryAll 15 = .ok (.putfield 22, 3) := by decide +kernel
theorem dX6_tryAll_18 : decode cX6_tryAll 18 = .ok (.iconst 1, 1) := by decide +kernel
theorem dX6_tryAll_19 : decode cX6_tryAll 19 = .ok (.aload_n 1, 1) := by decide +kernel
theorem dX6_tryAll_20 : decode cX6_tryAll 20 = .ok (.getfield 29, 3) := by decide +kernel
theorem dX6_tryAll_23 : decode cX6_tryAll 23 = .ok (.iconst 1, 1) := by decide +kernel
theorem dX6_tryAll_24 : decode cX6_tryAll 24 = .ok (.isub, 1) := by decide +kernel
theorem dX6_tryAll_25 : decode cX6_tryAll 25 = .ok (.ishl, 1) := by decide +kernel
theorem dX6_tryAll_26 : decode cX6_tryAll 26 = .ok (.istore 4, 2) := by decide +kernel
theorem dX6_tryAll_28 : decode cX6_tryAll 28 = .ok (.iconst 1, 1) := by decide +kernel
theorem dX6_tryAll_29 : decode cX6_tryAll 29 = .ok (.istore 5, 2) := by decide +kernel
theorem dX6_tryAll_31 : decode cX6_tryAll 31 = .ok (.iload 5, 2) := by decide +kernel
theorem dX6_tryAll_33 : decode cX6_tryAll 33 = .ok (.iload 4, 2) := by decide +kernel
theorem dX6_tryAll_35 : decode cX6_tryAll 35 = .ok (.if_icmp .ge 69, 3) := by decide +kernel
theorem dX6_tryAll_38 : decode cX6_tryAll 38 = .ok (.iconst 1, 1) := by decide +kernel
theorem dX6_tryAll_39 : decode cX6_tryAll 39 = .ok (.iload 5, 2) := by decide +kernel
theorem dX6_tryAll_41 : decode cX6_tryAll 41 = .ok (.invokestatic 34, 3) := by decide +kernel
theorem dX6_tryAll_44 : decode cX6_tryAll 44 = .ok (.iadd, 1) := by decide +kernel
theorem dX6_tryAll_45 : decode cX6_tryAll 45 = .ok (.istore 6, 2) := by decide +kernel
theorem dX6_tryAll_47 : decode cX6_tryAll 47 = .ok (.iload_n 2, 1) := by decide +kernel
theorem dX6_tryAll_48 : decode cX6_tryAll 48 = .ok (.aload_n 0, 1) := by decide +kernel
theorem dX6_tryAll_49 : decode cX6_tryAll 49 = .ok (.iload 6, 2) := by decide +kernel
theorem dX6_tryAll_51 : decode cX6_tryAll 51 = .ok (.iload_n 3, 1) := by decide +kernel
theorem dX6_tryAll_52 : decode cX6_tryAll 52 = .ok (.invokevirtual 38, 3) := by decide +kernel
theorem dX6_tryAll_55 : decode cX6_tryAll 55 = .ok (.iadd, 1) := by decide +kernel
theorem dX6_tryAll_56 : decode cX6_tryAll 56 = .ok (.istore_n 2, 1) := by decide +kernel
theorem dX6_tryAll_57 : decode cX6_tryAll 57 = .ok (.iload_n 3, 1) := by decide +kernel
theorem dX6_tryAll_58 : decode cX6_tryAll 58 = .ok (.iconst 1, 1) := by decide +kernel
theorem dX6_tryAll_59 : decode cX6_tryAll 59 = .ok (.iload 6, 2) := by decide +kernel
theorem dX6_tryAll_61 : decode cX6_tryAll 61 = .ok (.ishl, 1) := by decide +kernel
theorem dX6_tryAll_62 : decode cX6_tryAll 62 = .ok (.ixor, 1) := by decide +kernel
theorem dX6_tryAll_63 : decode cX6_tryAll 63 = .ok (.istore_n 3, 1) := by decide +kernel
theorem dX6_tryAll_64 : decode cX6_tryAll 64 = .ok (.iload_n 2, 1) := by decide +kernel
theorem dX6_tryAll_65 : decode cX6_tryAll 65 = .ok (.aload_n 0, 1) := by decide +kernel
theorem dX6_tryAll_66 : decode cX6_tryAll 66 = .ok (.getfield 18, 3) := by decide +kernel
theorem dX6_tryAll_69 : decode cX6_tryAll 69 = .ok (.if_icmp .lt 19, 3) := by decide +kernel
theorem dX6_tryAll_72 : decode cX6_tryAll 72 = .ok (.iload_n 2, 1) := by decide +kernel
theorem dX6_tryAll_73 : decode cX6_tryAll 73 = .ok (.aload_n 0, 1) := by decide +kernel
theorem dX6_tryAll_74 : decode cX6_tryAll 74 = .ok (.getfield 18, 3) := by decide +kernel
theorem dX6_tryAll_77 : decode cX6_tryAll 77 = .ok (.if_icmp .ne 21, 3) := by decide +kernel
theorem dX6_tryAll_80 : decode cX6_tryAll 80 = .ok (.iload_n 3, 1) := by decide +kernel
theorem dX6_tryAll_81 : decode cX6_tryAll 81 = .ok (.aload_n 0, 1) := by decide +kernel
theorem dX6_tryAll_82 : decode cX6_tryAll 82 = .ok (.getfield 22, 3) := by decide +kernel
theorem dX6_tryAll_85 : decode cX6_tryAll 85 = .ok (.if_icmp .ge 13, 3) := by decide +kernel
theorem dX6_tryAll_88 : decode cX6_tryAll 88 = .ok (.aload_n 0, 1) := by decide +kernel
theorem dX6_tryAll_89 : decode cX6_tryAll 89 = .ok (.iload_n 2, 1) := by decide +kernel
theorem dX6_tryAll_90 : decode cX6_tryAll 90 = .ok (.putfield 18, 3) := by decide +kernel
theorem dX6_tryAll_93 : decode cX6_tryAll 93 = .ok (.aload_n 0, 1) := by decide +kernel
theorem dX6_tryAll_94 : decode cX6_tryAll 94 = .ok (.iload_n 3, 1) := by decide +kernel
theorem dX6_tryAll_95 : decode cX6_tryAll 95 = .ok (.putfield 22, 3) := by decide +kernel
theorem dX6_tryAll_98 : decode cX6_tryAll 98 = .ok (.iinc 5 1, 3) := by decide +kernel
theorem dX6_tryAll_101 : decode cX6_tryAll 101 = .ok (.goto (-70), 3) := by decide +kernel
theorem dX6_tryAll_104 : decode cX6_tryAll 104 = .ok (.return_, 1) := by decide +kernel
theorem dX6_readTwos_0 : decode cX6_readTwos 0 = .ok (.iconst 0, 1) := by decide +kernel
theorem dX6_readTwos_1 : decode cX6_readTwos 1 = .ok (.istore_n 2, 1) := by decide +kernel
theorem dX6_readTwos_2 : decode cX6_readTwos 2 = .ok (.iconst 0, 1) := by decide +kernel
theorem dX6_readTwos_3 : decode cX6_readTwos 3 = .ok (.istore_n 3, 1) := by decide +kernel
theorem dX6_readTwos_4 : decode cX6_readTwos 4 = .ok (.iload_n 3, 1) := by decide +kernel
theorem dX6_readTwos_5 : decode cX6_readTwos 5 = .ok (.aload_n 1, 1) := by decide +kernel
theorem dX6_readTwos_6 : decode cX6_readTwos 6 = .ok (.getfield 29, 3) := by decide +kernel
theorem dX6_readTwos_9 : decode cX6_readTwos 9 = .ok (.if_icmp .ge 43, 3) := by decide +kernel
theorem dX6_readTwos_12 : decode cX6_readTwos 12 = .ok (.aload_n 0, 1) := by decide +kernel
theorem dX6_readTwos_13 : decode cX6_readTwos 13 = .ok (.getfield 9, 3) := by decide +kernel
theorem dX6_readTwos_16 : decode cX6_readTwos 16 = .ok (.iload_n 3, 1) := by decide +kernel
theorem dX6_readTwos_17 : decode cX6_readTwos 17 = .ok (.aload_n 1, 1) := by decide +kernel
theorem dX6_readTwos_18 : decode cX6_readTwos 18 = .ok (.iload_n 3, 1) := by decide +kernel
theorem dX6_readTwos_19 : decode cX6_readTwos 19 = .ok (.invokevirtual 42, 3) := by decide +kernel
theorem dX6_readTwos_22 : decode cX6_readTwos 22 = .ok (.iastore, 1) := by decide +kernel
theorem dX6_readTwos_23 : decode cX6_readTwos 23 = .ok (.aload_n 0, 1) := by decide +kernel
theorem dX6_readTwos_24 : decode cX6_readTwos 24 = .ok (.getfield 15, 3) := by decide +kernel
theorem dX6_readTwos_27 : decode cX6_readTwos 27 = .ok (.iload_n 3, 1) := by decide +kernel
theorem dX6_readTwos_28 : decode cX6_readTwos 28 = .ok (.aload_n 1, 1) := by decide +kernel
theorem dX6_readTwos_29 : decode cX6_readTwos 29 = .ok (.iload_n 3, 1) := by decide +kernel
theorem dX6_readTwos_30 : decode cX6_readTwos 30 = .ok (.invokevirtual 44, 3) := by decide +kernel
theorem dX6_readTwos_33 : decode cX6_readTwos 33 = .ok (.iastore, 1) := by decide +kernel
theorem dX6_readTwos_34 : decode cX6_readTwos 34 = .ok (.iload_n 2, 1) := by decide +kernel
theorem dX6_readTwos_35 : decode cX6_readTwos 35 = .ok (.aload_n 0, 1) := by decide +kernel
theorem dX6_readTwos_36 : decode cX6_readTwos 36 = .ok (.getfield 15, 3) := by decide +kernel
theorem dX6_readTwos_39 : decode cX6_readTwos 39 = .ok (.iload_n 3, 1) := by decide +kernel
theorem dX6_readTwos_40 : decode cX6_readTwos 40 = .ok (.iaload, 1) := by decide +kernel
theorem dX6_readTwos_41 : decode cX6_readTwos 41 = .ok (.invokestatic 46, 3) := by decide +kernel
theorem dX6_readTwos_44 : decode cX6_readTwos 44 = .ok (.iadd, 1) := by decide +kernel
theorem dX6_readTwos_45 : decode cX6_readTwos 45 = .ok (.istore_n 2, 1) := by decide +kernel
theorem dX6_readTwos_46 : decode cX6_readTwos 46 = .ok (.iinc 3 1, 3) := by decide +kernel
theorem dX6_readTwos_49 : decode cX6_readTwos 49 = .ok (.goto (-45), 3) := by decide +kernel
theorem dX6_readTwos_52 : decode cX6_readTwos 52 = .ok (.iload_n 2, 1) := by decide +kernel
theorem dX6_readTwos_53 : decode cX6_readTwos 53 = .ok (.iconst 2, 1) := by decide +kernel
theorem dX6_readTwos_54 : decode cX6_readTwos 54 = .ok (.idiv, 1) := by decide +kernel
theorem dX6_readTwos_55 : decode cX6_readTwos 55 = .ok (.ireturn, 1) := by decide +kernel
theorem dX6_lowestBit_0 : decode cX6_lowestBit 0 = .ok (.iload_n 0, 1) := by decide +kernel
theorem dX6_lowestBit_1 : decode cX6_lowestBit 1 = .ok (.iload_n 0, 1) := by decide +kernel
theorem dX6_lowestBit_2 : decode cX6_lowestBit 2 = .ok (.ineg, 1) := by decide +kernel
theorem dX6_lowestBit_3 : decode cX6_lowestBit 3 = .ok (.iand, 1) := by decide +kernel
theorem dX6_lowestBit_4 : decode cX6_lowestBit 4 = .ok (.iconst 1, 1) := by decide +kernel
theorem dX6_lowestBit_5 : decode cX6_lowestBit 5 = .ok (.isub, 1) := by decide +kernel
theorem dX6_lowestBit_6 : decode cX6_lowestBit 6 = .ok (.invokestatic 46, 3) := by decide +kernel
theorem dX6_lowestBit_9 : decode cX6_lowestBit 9 = .ok (.ireturn, 1) := by decide +kernel
theorem dX6_changeIfMoved_0 : decode cX6_changeIfMoved 0 = .ok (.iload_n 2, 1) := by decide +kernel
theorem dX6_changeIfMoved_1 : decode cX6_changeIfMoved 1 = .ok (.iload_n 1, 1) := by decide +kernel
theorem dX6_changeIfMoved_2 : decode cX6_changeIfMoved 2 = .ok (.ishr, 1) := by decide +kernel
theorem dX6_changeIfMoved_3 : decode cX6_changeIfMoved 3 = .ok (.iconst 1, 1) := by decide +kernel
theorem dX6_changeIfMoved_4 : decode cX6_changeIfMoved 4 = .ok (.iand, 1) := by decide +kernel
theorem dX6_changeIfMoved_5 : decode cX6_changeIfMoved 5 = .ok (.ifCond .ne 7, 3) := by decide +kernel
theorem dX6_changeIfMoved_8 : decode cX6_changeIfMoved 8 = .ok (.iload_n 2, 1) := by decide +kernel
theorem dX6_changeIfMoved_9 : decode cX6_changeIfMoved 9 = .ok (.goto 6, 3) := by decide +kernel
theorem dX6_changeIfMoved_12 : decode cX6_changeIfMoved 12 = .ok (.iload_n 2, 1) := by decide +kernel
theorem dX6_changeIfMoved_13 : decode cX6_changeIfMoved 13 = .ok (.iconst (-1), 1) := by decide +kernel
theorem dX6_changeIfMoved_14 : decode cX6_changeIfMoved 14 = .ok (.ixor, 1) := by decide +kernel
theorem dX6_changeIfMoved_15 : decode cX6_changeIfMoved 15 = .ok (.istore_n 3, 1) := by decide +kernel
theorem dX6_changeIfMoved_16 : decode cX6_changeIfMoved 16 = .ok (.aload_n 0, 1) := by decide +kernel
theorem dX6_changeIfMoved_17 : decode cX6_changeIfMoved 17 = .ok (.getfield 9, 3) := by decide +kernel
theorem dX6_changeIfMoved_20 : decode cX6_changeIfMoved 20 = .ok (.iload_n 1, 1) := by decide +kernel
theorem dX6_changeIfMoved_21 : decode cX6_changeIfMoved 21 = .ok (.iaload, 1) := by decide +kernel
theorem dX6_changeIfMoved_22 : decode cX6_changeIfMoved 22 = .ok (.iload_n 3, 1) := by decide +kernel
theorem dX6_changeIfMoved_23 : decode cX6_changeIfMoved 23 = .ok (.iand, 1) := by decide +kernel
theorem dX6_changeIfMoved_24 : decode cX6_changeIfMoved 24 = .ok (.aload_n 0, 1) := by decide +kernel
theorem dX6_changeIfMoved_25 : decode cX6_changeIfMoved 25 = .ok (.getfield 15, 3) := by decide +kernel
theorem dX6_changeIfMoved_28 : decode cX6_changeIfMoved 28 = .ok (.iload_n 1, 1) := by decide +kernel
theorem dX6_changeIfMoved_29 : decode cX6_changeIfMoved 29 = .ok (.iaload, 1) := by decide +kernel
theorem dX6_changeIfMoved_30 : decode cX6_changeIfMoved 30 = .ok (.ixor, 1) := by decide +kernel
theorem dX6_changeIfMoved_31 : decode cX6_changeIfMoved 31 = .ok (.invokestatic 46, 3) := by decide +kernel
theorem dX6_changeIfMoved_34 : decode cX6_changeIfMoved 34 = .ok (.istore 4, 2) := by decide +kernel
theorem dX6_changeIfMoved_36 : decode cX6_changeIfMoved 36 = .ok (.aload_n 0, 1) := by decide +kernel
theorem dX6_changeIfMoved_37 : decode cX6_changeIfMoved 37 = .ok (.getfield 9, 3) := by decide +kernel
theorem dX6_changeIfMoved_40 : decode cX6_changeIfMoved 40 = .ok (.iload_n 1, 1) := by decide +kernel
theorem dX6_changeIfMoved_41 : decode cX6_changeIfMoved 41 = .ok (.iaload, 1) := by decide +kernel
theorem dX6_changeIfMoved_42 : decode cX6_changeIfMoved 42 = .ok (.invokestatic 46, 3) := by decide +kernel
theorem dX6_changeIfMoved_45 : decode cX6_changeIfMoved 45 = .ok (.iconst 2, 1) := by decide +kernel
theorem dX6_changeIfMoved_46 : decode cX6_changeIfMoved 46 = .ok (.iload 4, 2) := by decide +kernel
theorem dX6_changeIfMoved_48 : decode cX6_changeIfMoved 48 = .ok (.imul, 1) := by decide +kernel
theorem dX6_changeIfMoved_49 : decode cX6_changeIfMoved 49 = .ok (.isub, 1) := by decide +kernel
theorem dX6_changeIfMoved_50 : decode cX6_changeIfMoved 50 = .ok (.ireturn, 1) := by decide +kernel
theorem dX7_closedThrees_0 : decode cX7_closedThrees 0 = .ok (.iconst 0, 1) := by decide +kernel
theorem dX7_closedThrees_1 : decode cX7_closedThrees 1 = .ok (.istore_n 2, 1) := by decide +kernel
theorem dX7_closedThrees_2 : decode cX7_closedThrees 2 = .ok (.iconst 0, 1) := by decide +kernel
theorem dX7_closedThrees_3 : decode cX7_closedThrees 3 = .ok (.istore_n 3, 1) := by decide +kernel
theorem dX7_closedThrees_4 : decode cX7_closedThrees 4 = .ok (.iload_n 3, 1) := by decide +kernel
theorem dX7_closedThrees_5 : decode cX7_closedThrees 5 = .ok (.aload_n 0, 1) := by decide +kernel
theorem dX7_closedThrees_6 : decode cX7_closedThrees 6 = .ok (.getfield 7, 3) := by decide +kernel
theorem dX7_closedThrees_9 : decode cX7_closedThrees 9 = .ok (.if_icmp .ge 78, 3) := by decide +kernel
theorem dX7_closedThrees_12 : decode cX7_closedThrees 12 = .ok (.iload_n 3, 1) := by decide +kernel
theorem dX7_closedThrees_13 : decode cX7_closedThrees 13 = .ok (.iconst 1, 1) := by decide +kernel
theorem dX7_closedThrees_14 : decode cX7_closedThrees 14 = .ok (.iadd, 1) := by decide +kernel
theorem dX7_closedThrees_15 : decode cX7_closedThrees 15 = .ok (.istore 4, 2) := by decide +kernel
theorem dX7_closedThrees_17 : decode cX7_closedThrees 17 = .ok (.iload 4, 2) := by decide +kernel
theorem dX7_closedThrees_19 : decode cX7_closedThrees 19 = .ok (.aload_n 0, 1) := by decide +kernel
theorem dX7_closedThrees_20 : decode cX7_closedThrees 20 = .ok (.getfield 7, 3) := by decide +kernel
theorem dX7_closedThrees_23 : decode cX7_closedThrees 23 = .ok (.if_icmp .ge 58, 3) := by decide +kernel
theorem dX7_closedThrees_26 : decode cX7_closedThrees 26 = .ok (.iload 4, 2) := by decide +kernel
theorem dX7_closedThrees_28 : decode cX7_closedThrees 28 = .ok (.iconst 1, 1) := by decide +kernel
theorem dX7_closedThrees_29 : decode cX7_closedThrees 29 = .ok (.iadd, 1) := by decide +kernel
theorem dX7_closedThrees_30 : decode cX7_closedThrees 30 = .ok (.istore 5, 2) := by decide +kernel
theorem dX7_closedThrees_32 : decode cX7_closedThrees 32 = .ok (.iload 5, 2) := by decide +kernel
theorem dX7_closedThrees_34 : decode cX7_closedThrees 34 = .ok (.aload_n 0, 1) := by decide +kernel
theorem dX7_closedThrees_35 : decode cX7_closedThrees 35 = .ok (.getfield 7, 3) := by decide +kernel
theorem dX7_closedThrees_38 : decode cX7_closedThrees 38 = .ok (.if_icmp .ge 37, 3) := by decide +kernel
theorem dX7_closedThrees_41 : decode cX7_closedThrees 41 = .ok (.aload_n 0, 1) := by decide +kernel
theorem dX7_closedThrees_42 : decode cX7_closedThrees 42 = .ok (.iload_n 3, 1) := by decide +kernel
theorem dX7_closedThrees_43 : decode cX7_closedThrees 43 = .ok (.iload 4, 2) := by decide +kernel
theorem dX7_closedThrees_45 : decode cX7_closedThrees 45 = .ok (.iload 5, 2) := by decide +kernel
theorem dX7_closedThrees_47 : decode cX7_closedThrees 47 = .ok (.invokestatic 13, 3) := by decide +kernel
theorem dX7_closedThrees_50 : decode cX7_closedThrees 50 = .ok (.ifCond .eq 19, 3) := by decide +kernel
theorem dX7_closedThrees_53 : decode cX7_closedThrees 53 = .ok (.aload_n 0, 1) := by decide +kernel
theorem dX7_closedThrees_54 : decode cX7_closedThrees 54 = .ok (.iload_n 3, 1) := by decide +kernel
theorem dX7_closedThrees_55 : decode cX7_closedThrees 55 = .ok (.iload 4, 2) := by decide +kernel
theorem dX7_closedThrees_57 : decode cX7_closedThrees 57 = .ok (.iload 5, 2) := by decide +kernel
theorem dX7_closedThrees_59 : decode cX7_closedThrees 59 = .ok (.invokestatic 19, 3) := by decide +kernel
theorem dX7_closedThrees_62 : decode cX7_closedThrees 62 = .ok (.iload_n 1, 1) := by decide +kernel
theorem dX7_closedThrees_63 : decode cX7_closedThrees 63 = .ok (.if_icmp .ne 6, 3) := by decide +kernel
theorem dX7_closedThrees_66 : decode cX7_closedThrees 66 = .ok (.iinc 2 1, 3) := by decide +kernel
theorem dX7_closedThrees_69 : decode cX7_closedThrees 69 = .ok (.iinc 5 1, 3) := by decide +kernel
theorem dX7_closedThrees_72 : decode cX7_closedThrees 72 = .ok (.goto (-40), 3) := by decide +kernel
theorem dX7_closedThrees_75 : decode cX7_closedThrees 75 = .ok (.iinc 4 1, 3) := by decide +kernel
theorem dX7_closedThrees_78 : decode cX7_closedThrees 78 = .ok (.goto (-61), 3) := by decide +kernel
theorem dX7_closedThrees_81 : decode cX7_closedThrees 81 = .ok (.iinc 3 1, 3) := by decide +kernel
theorem dX7_closedThrees_84 : decode cX7_closedThrees 84 = .ok (.goto (-80), 3) := by decide +kernel
theorem dX7_closedThrees_87 : decode cX7_closedThrees 87 = .ok (.iload_n 2, 1) := by decide +kernel
theorem dX7_closedThrees_88 : decode cX7_closedThrees 88 = .ok (.ireturn, 1) := by decide +kernel
theorem dX7_isClosed_0 : decode cX7_isClosed 0 = .ok (.aload_n 0, 1) := by decide +kernel
theorem dX7_isClosed_1 : decode cX7_isClosed 1 = .ok (.iload_n 1, 1) := by decide +kernel
theorem dX7_isClosed_2 : decode cX7_isClosed 2 = .ok (.iload_n 2, 1) := by decide +kernel
theorem dX7_isClosed_3 : decode cX7_isClosed 3 = .ok (.invokevirtual 22, 3) := by decide +kernel
theorem dX7_isClosed_6 : decode cX7_isClosed 6 = .ok (.aload_n 0, 1) := by decide +kernel
theorem dX7_isClosed_7 : decode cX7_isClosed 7 = .ok (.iload_n 1, 1) := by decide +kernel
theorem dX7_isClosed_8 : decode cX7_isClosed 8 = .ok (.iload_n 3, 1) := by decide +kernel
theorem dX7_isClosed_9 : decode cX7_isClosed 9 = .ok (.invokevirtual 22, 3) := by decide +kernel
theorem dX7_isClosed_12 : decode cX7_isClosed 12 = .ok (.iand, 1) := by decide +kernel
theorem dX7_isClosed_13 : decode cX7_isClosed 13 = .ok (.aload_n 0, 1) := by decide +kernel
theorem dX7_isClosed_14 : decode cX7_isClosed 14 = .ok (.iload_n 2, 1) := by decide +kernel
theorem dX7_isClosed_15 : decode cX7_isClosed 15 = .ok (.iload_n 3, 1) := by decide +kernel
theorem dX7_isClosed_16 : decode cX7_isClosed 16 = .ok (.invokevirtual 22, 3) := by decide +kernel
theorem dX7_isClosed_19 : decode cX7_isClosed 19 = .ok (.iand, 1) := by decide +kernel
theorem dX7_isClosed_20 : decode cX7_isClosed 20 = .ok (.iconst 1, 1) := by decide +kernel
theorem dX7_isClosed_21 : decode cX7_isClosed 21 = .ok (.if_icmp .ne 7, 3) := by decide +kernel
theorem dX7_isClosed_24 : decode cX7_isClosed 24 = .ok (.iconst 1, 1) := by decide +kernel
theorem dX7_isClosed_25 : decode cX7_isClosed 25 = .ok (.goto 4, 3) := by decide +kernel
theorem dX7_isClosed_28 : decode cX7_isClosed 28 = .ok (.iconst 0, 1) := by decide +kernel
theorem dX7_isClosed_29 : decode cX7_isClosed 29 = .ok (.ireturn, 1) := by decide +kernel
theorem dX7_quarrels_0 : decode cX7_quarrels 0 = .ok (.aload_n 0, 1) := by decide +kernel
theorem dX7_quarrels_1 : decode cX7_quarrels 1 = .ok (.iload_n 1, 1) := by decide +kernel
theorem dX7_quarrels_2 : decode cX7_quarrels 2 = .ok (.iload_n 2, 1) := by decide +kernel
theorem dX7_quarrels_3 : decode cX7_quarrels 3 = .ok (.invokevirtual 26, 3) := by decide +kernel
theorem dX7_quarrels_6 : decode cX7_quarrels 6 = .ok (.aload_n 0, 1) := by decide +kernel
theorem dX7_quarrels_7 : decode cX7_quarrels 7 = .ok (.iload_n 1, 1) := by decide +kernel
theorem dX7_quarrels_8 : decode cX7_quarrels 8 = .ok (.iload_n 3, 1) := by decide +kernel
theorem dX7_quarrels_9 : decode cX7_quarrels 9 = .ok (.invokevirtual 26, 3) := by decide +kernel
theorem dX7_quarrels_12 : decode cX7_quarrels 12 = .ok (.iadd, 1) := by decide +kernel
theorem dX7_quarrels_13 : decode cX7_quarrels 13 = .ok (.aload_n 0, 1) := by decide +kernel
theorem dX7_quarrels_14 : decode cX7_quarrels 14 = .ok (.iload_n 2, 1) := by decide +kernel
theorem dX7_quarrels_15 : decode cX7_quarrels 15 = .ok (.iload_n 3, 1) := by decide +kernel
theorem dX7_quarrels_16 : decode cX7_quarrels 16 = .ok (.invokevirtual 26, 3) := by decide +kernel
theorem dX7_quarrels_19 : decode cX7_quarrels 19 = .ok (.iadd, 1) := by decide +kernel
theorem dX7_quarrels_20 : decode cX7_quarrels 20 = .ok (.istore 4, 2) := by decide +kernel
theorem dX7_quarrels_22 : decode cX7_quarrels 22 = .ok (.iload 4, 2) := by decide +kernel
theorem dX7_quarrels_24 : decode cX7_quarrels 24 = .ok (.iconst 1, 1) := by decide +kernel
theorem dX7_quarrels_25 : decode cX7_quarrels 25 = .ok (.if_icmp .eq 9, 3) := by decide +kernel
theorem dX7_quarrels_28 : decode cX7_quarrels 28 = .ok (.iload 4, 2) := by decide +kernel
theorem dX7_quarrels_30 : decode cX7_quarrels 30 = .ok (.iconst 3, 1) := by decide +kernel
theorem dX7_quarrels_31 : decode cX7_quarrels 31 = .ok (.if_icmp .ne 7, 3) := by decide +kernel
theorem dX7_quarrels_34 : decode cX7_quarrels 34 = .ok (.iconst 1, 1) := by decide +kernel
theorem dX7_quarrels_35 : decode cX7_quarrels 35 = .ok (.goto 4, 3) := by decide +kernel
theorem dX7_quarrels_38 : decode cX7_quarrels 38 = .ok (.iconst 0, 1) := by decide +kernel
theorem dX7_quarrels_39 : decode cX7_quarrels 39 = .ok (.ireturn, 1) := by decide +kernel
theorem dX8_backChains_0 : decode cX8_backChains 0 = .ok (.iconst 0, 1) := by decide +kernel
theorem dX8_backChains_1 : decode cX8_backChains 1 = .ok (.istore_n 2, 1) := by decide +kernel
theorem dX8_backChains_2 : decode cX8_backChains 2 = .ok (.iconst 0, 1) := by decide +kernel
theorem dX8_backChains_3 : decode cX8_backChains 3 = .ok (.istore_n 3, 1) := by decide +kernel
theorem dX8_backChains_4 : decode cX8_backChains 4 = .ok (.iload_n 3, 1) := by decide +kernel
theorem dX8_backChains_5 : decode cX8_backChains 5 = .ok (.aload_n 0, 1) := by decide +kernel
theorem dX8_backChains_6 : decode cX8_backChains 6 = .ok (.getfield 7, 3) := by decide +kernel
theorem dX8_backChains_9 : decode cX8_backChains 9 = .ok (.if_icmp .ge 42, 3) := by decide +kernel
theorem dX8_backChains_12 : decode cX8_backChains 12 = .ok (.iconst 0, 1) := by decide +kernel
theorem dX8_backChains_13 : decode cX8_backChains 13 = .ok (.istore 4, 2) := by decide +kernel
theorem dX8_backChains_15 : decode cX8_backChains 15 = .ok (.iload 4, 2) := by decide +kernel
theorem dX8_backChains_17 : decode cX8_backChains 17 = .ok (.aload_n 0, 1) := by decide +kernel
theorem dX8_backChains_18 : decode cX8_backChains 18 = .ok (.getfield 7, 3) := by decide +kernel
theorem dX8_backChains_21 : decode cX8_backChains 21 = .ok (.if_icmp .ge 24, 3) := by decide +kernel
theorem dX8_backChains_24 : decode cX8_backChains 24 = .ok (.aload_n 0, 1) := by decide +kernel
theorem dX8_backChains_25 : decode cX8_backChains 25 = .ok (.iload_n 3, 1) := by decide +kernel
theorem dX8_backChains_26 : decode cX8_backChains 26 = .ok (.iload 4, 2) := by decide +kernel
theorem dX8_backChains_28 : decode cX8_backChains 28 = .ok (.iload_n 3, 1) := by decide +kernel
theorem dX8_backChains_29 : decode cX8_backChains 29 = .ok (.iload_n 1, 1) := by decide +kernel
theorem dX8_backChains_30 : decode cX8_backChains 30 = .ok (.invokestatic 13, 3) := by decide +kernel
theorem dX8_backChains_33 : decode cX8_backChains 33 = .ok (.ifCond .eq 6, 3) := by decide +kernel
theorem dX8_backChains_36 : decode cX8_backChains 36 = .ok (.iinc 2 1, 3) := by decide +kernel
theorem dX8_backChains_39 : decode cX8_backChains 39 = .ok (.iinc 4 1, 3) := by decide +kernel
theorem dX8_backChains_42 : decode cX8_backChains 42 = .ok (.goto (-27), 3) := by decide +kernel
theorem dX8_backChains_45 : decode cX8_backChains 45 = .ok (.iinc 3 1, 3) := by decide +kernel
theorem dX8_backChains_48 : decode cX8_backChains 48 = .ok (.goto (-44), 3) := by decide +kernel
theorem dX8_backChains_51 : decode cX8_backChains 51 = .ok (.iload_n 2, 1) := by decide +kernel
theorem dX8_backChains_52 : decode cX8_backChains 52 = .ok (.ireturn, 1) := by decide +kernel
theorem dX8_onChains_0 : decode cX8_onChains 0 = .ok (.iconst 0, 1) := by decide +kernel
theorem dX8_onChains_1 : decode cX8_onChains 1 = .ok (.istore_n 2, 1) := by decide +kernel
theorem dX8_onChains_2 : decode cX8_onChains 2 = .ok (.iconst 0, 1) := by decide +kernel
theorem dX8_onChains_3 : decode cX8_onChains 3 = .ok (.istore_n 3, 1) := by decide +kernel
theorem dX8_onChains_4 : decode cX8_onChains 4 = .ok (.iload_n 3, 1) := by decide +kernel
theorem dX8_onChains_5 : decode cX8_onChains 5 = .ok (.aload_n 0, 1) := by decide +kernel
theorem dX8_onChains_6 : decode cX8_onChains 6 = .ok (.getfield 7, 3) := by decide +kernel
theorem dX8_onChains_9 : decode cX8_onChains 9 = .ok (.if_icmp .ge 67, 3) := by decide +kernel
theorem dX8_onChains_12 : decode cX8_onChains 12 = .ok (.iconst 0, 1) := by decide +kernel
theorem dX8_onChains_13 : decode cX8_onChains 13 = .ok (.istore 4, 2) := by decide +kernel
theorem dX8_onChains_15 : decode cX8_onChains 15 = .ok (.iload 4, 2) := by decide +kernel
theorem dX8_onChains_17 : decode cX8_onChains 17 = .ok (.aload_n 0, 1) := by decide +kernel
theorem dX8_onChains_18 : decode cX8_onChains 18 = .ok (.getfield 7, 3) := by decide +kernel
theorem dX8_onChains_21 : decode cX8_onChains 21 = .ok (.if_icmp .ge 49, 3) := by decide +kernel
theorem dX8_onChains_24 : decode cX8_onChains 24 = .ok (.iconst 0, 1) := by decide +kernel
theorem dX8_onChains_25 : decode cX8_onChains 25 = .ok (.istore 5, 2) := by decide +kernel
theorem dX8_onChains_27 : decode cX8_onChains 27 = .ok (.iload 5, 2) := by decide +kernel
theorem dX8_onChains_29 : decode cX8_onChains 29 = .ok (.aload_n 0, 1) := by decide +kernel
theorem dX8_onChains_30 : decode cX8_onChains 30 = .ok (.getfield 7, 3) := by decide +kernel
theorem dX8_onChains_33 : decode cX8_onChains 33 = .ok (.if_icmp .ge 31, 3) := by decide +kernel
theorem dX8_onChains_36 : decode cX8_onChains 36 = .ok (.iload 5, 2) := by decide +kernel
theorem dX8_onChains_38 : decode cX8_onChains 38 = .ok (.iload_n 3, 1) := by decide +kernel
theorem dX8_onChains_39 : decode cX8_onChains 39 = .ok (.if_icmp .eq 19, 3) := by decide +kernel
theorem dX8_onChains_42 : decode cX8_onChains 42 = .ok (.aload_n 0, 1) := by decide +kernel
theorem dX8_onChains_43 : decode cX8_onChains 43 = .ok (.iload_n 3, 1) := by decide +kernel
theorem dX8_onChains_44 : decode cX8_onChains 44 = .ok (.iload 4, 2) := by decide +kernel
theorem dX8_onChains_46 : decode cX8_onChains 46 = .ok (.iload 5, 2) := by decide +kernel
theorem dX8_onChains_48 : decode cX8_onChains 48 = .ok (.iload_n 1, 1) := by decide +kernel
theorem dX8_onChains_49 : decode cX8_onChains 49 = .ok (.invokestatic 13, 3) := by decide +kernel
theorem dX8_onChains_52 : decode cX8_onChains 52 = .ok (.ifCond .eq 6, 3) := by decide +kernel
theorem dX8_onChains_55 : decode cX8_onChains 55 = .ok (.iinc 2 1, 3) := by decide +kernel
theorem dX8_onChains_58 : decode cX8_onChains 58 = .ok (.iinc 5 1, 3) := by decide +kernel
theorem dX8_onChains_61 : decode cX8_onChains 61 = .ok (.goto (-34), 3) := by decide +kernel
theorem dX8_onChains_64 : decode cX8_onChains 64 = .ok (.iinc 4 1, 3) := by decide +kernel
theorem dX8_onChains_67 : decode cX8_onChains 67 = .ok (.goto (-52), 3) := by decide +kernel
theorem dX8_onChains_70 : decode cX8_onChains 70 = .ok (.iinc 3 1, 3) := by decide +kernel
theorem dX8_onChains_73 : decode cX8_onChains 73 = .ok (.goto (-69), 3) := by decide +kernel
theorem dX8_onChains_76 : decode cX8_onChains 76 = .ok (.iload_n 2, 1) := by decide +kernel
theorem dX8_onChains_77 : decode cX8_onChains 77 = .ok (.ireturn, 1) := by decide +kernel
theorem dX8_isChain_0 : decode cX8_isChain 0 = .ok (.aload_n 0, 1) := by decide +kernel
theorem dX8_isChain_1 : decode cX8_isChain 1 = .ok (.iload_n 1, 1) := by decide +kernel
theorem dX8_isChain_2 : decode cX8_isChain 2 = .ok (.iload_n 2, 1) := by decide +kernel
theorem dX8_isChain_3 : decode cX8_isChain 3 = .ok (.invokevirtual 19, 3) := by decide +kernel
theorem dX8_isChain_6 : decode cX8_isChain 6 = .ok (.ifCond .eq 12, 3) := by decide +kernel
theorem dX8_isChain_9 : decode cX8_isChain 9 = .ok (.aload_n 0, 1) := by decide +kernel
theorem dX8_isChain_10 : decode cX8_isChain 10 = .ok (.iload_n 2, 1) := by decide +kernel
theorem dX8_isChain_11 : decode cX8_isChain 11 = .ok (.iload_n 3, 1) := by decide +kernel
theorem dX8_isChain_12 : decode cX8_isChain 12 = .ok (.invokevirtual 19, 3) := by decide +kernel
theorem dX8_isChain_15 : decode cX8_isChain 15 = .ok (.ifCond .ne 5, 3) := by decide +kernel
theorem dX8_isChain_18 : decode cX8_isChain 18 = .ok (.iconst 0, 1) := by decide +kernel
theorem dX8_isChain_19 : decode cX8_isChain 19 = .ok (.ireturn, 1) := by decide +kernel
theorem dX8_isChain_20 : decode cX8_isChain 20 = .ok (.aload_n 0, 1) := by decide +kernel
theorem dX8_isChain_21 : decode cX8_isChain 21 = .ok (.iload_n 2, 1) := by decide +kernel
theorem dX8_isChain_22 : decode cX8_isChain 22 = .ok (.iload_n 3, 1) := by decide +kernel
theorem dX8_isChain_23 : decode cX8_isChain 23 = .ok (.invokevirtual 23, 3) := by decide +kernel
theorem dX8_isChain_26 : decode cX8_isChain 26 = .ok (.aload_n 0, 1) := by decide +kernel
theorem dX8_isChain_27 : decode cX8_isChain 27 = .ok (.iload_n 1, 1) := by decide +kernel
theorem dX8_isChain_28 : decode cX8_isChain 28 = .ok (.iload_n 2, 1) := by decide +kernel
theorem dX8_isChain_29 : decode cX8_isChain 29 = .ok (.invokevirtual 23, 3) := by decide +kernel
theorem dX8_isChain_32 : decode cX8_isChain 32 = .ok (.isub, 1) := by decide +kernel
theorem dX8_isChain_33 : decode cX8_isChain 33 = .ok (.istore 5, 2) := by decide +kernel
theorem dX8_isChain_35 : decode cX8_isChain 35 = .ok (.iload 5, 2) := by decide +kernel
theorem dX8_isChain_37 : decode cX8_isChain 37 = .ok (.ifCond .le 14, 3) := by decide +kernel
theorem dX8_isChain_40 : decode cX8_isChain 40 = .ok (.iload 5, 2) := by decide +kernel
theorem dX8_isChain_42 : decode cX8_isChain 42 = .ok (.iload 4, 2) := by decide +kernel
theorem dX8_isChain_44 : decode cX8_isChain 44 = .ok (.if_icmp .gt 7, 3) := by decide +kernel
theorem dX8_isChain_47 : decode cX8_isChain 47 = .ok (.iconst 1, 1) := by decide +kernel
theorem dX8_isChain_48 : decode cX8_isChain 48 = .ok (.goto 4, 3) := by decide +kernel
theorem dX8_isChain_51 : decode cX8_isChain 51 = .ok (.iconst 0, 1) := by decide +kernel
theorem dX8_isChain_52 : decode cX8_isChain 52 = .ok (.ireturn, 1) := by decide +kernel
theorem dX8_longestBurst_0 : decode cX8_longestBurst 0 = .ok (.iconst 0, 1) := by decide +kernel
theorem dX8_longestBurst_1 : decode cX8_longestBurst 1 = .ok (.istore_n 3, 1) := by decide +kernel
theorem dX8_longestBurst_2 : decode cX8_longestBurst 2 = .ok (.iconst 0, 1) := by decide +kernel
theorem dX8_longestBurst_3 : decode cX8_longestBurst 3 = .ok (.istore 4, 2) := by decide +kernel
theorem dX8_longestBurst_5 : decode cX8_longestBurst 5 = .ok (.iload 4, 2) := by decide +kernel
theorem dX8_longestBurst_7 : decode cX8_longestBurst 7 = .ok (.aload_n 0, 1) := by decide +kernel
theorem dX8_longestBurst_8 : decode cX8_longestBurst 8 = .ok (.getfield 7, 3) := by decide +kernel
theorem dX8_longestBurst_11 : decode cX8_longestBurst 11 = .ok (.if_icmp .ge 37, 3) := by decide +kernel
theorem dX8_longestBurst_14 : decode cX8_longestBurst 14 = .ok (.aload_n 0, 1) := by decide +kernel
theorem dX8_longestBurst_15 : decode cX8_longestBurst 15 = .ok (.iload_n 1, 1) := by decide +kernel
theorem dX8_longestBurst_16 : decode cX8_longestBurst 16 = .ok (.iload 4, 2) := by decide +kernel
theorem dX8_longestBurst_18 : decode cX8_longestBurst 18 = .ok (.invokevirtual 19, 3) := by decide +kernel
theorem dX8_longestBurst_21 : decode cX8_longestBurst 21 = .ok (.ifCond .eq 21, 3) := by decide +kernel
theorem dX8_longestBurst_24 : decode cX8_longestBurst 24 = .ok (.iload_n 3, 1) := by decide +kernel
theorem dX8_longestBurst_25 : decode cX8_longestBurst 25 = .ok (.aload_n 0, 1) := by decide +kernel
theorem dX8_longestBurst_26 : decode cX8_longestBurst 26 = .ok (.iload_n 1, 1) := by decide +kernel
theorem dX8_longestBurst_27 : decode cX8_longestBurst 27 = .ok (.aload_n 0, 1) := by decide +kernel
theorem dX8_longestBurst_28 : decode cX8_longestBurst 28 = .ok (.iload_n 1, 1) := by decide +kernel
theorem dX8_longestBurst_29 : decode cX8_longestBurst 29 = .ok (.iload 4, 2) := by decide +kernel
theorem dX8_longestBurst_31 : decode cX8_longestBurst 31 = .ok (.invokevirtual 23, 3) := by decide +kernel
theorem dX8_longestBurst_34 : decode cX8_longestBurst 34 = .ok (.iload_n 2, 1) := by decide +kernel
theorem dX8_longestBurst_35 : decode cX8_longestBurst 35 = .ok (.invokestatic 27, 3) := by decide +kernel
theorem dX8_longestBurst_38 : decode cX8_longestBurst 38 = .ok (.invokestatic 31, 3) := by decide +kernel
theorem dX8_longestBurst_41 : decode cX8_longestBurst 41 = .ok (.istore_n 3, 1) := by decide +kernel
theorem dX8_longestBurst_42 : decode cX8_longestBurst 42 = .ok (.iinc 4 1, 3) := by decide +kernel
theorem dX8_longestBurst_45 : decode cX8_longestBurst 45 = .ok (.goto (-40), 3) := by decide +kernel
theorem dX8_longestBurst_48 : decode cX8_longestBurst 48 = .ok (.iload_n 3, 1) := by decide +kernel
theorem dX8_longestBurst_49 : decode cX8_longestBurst 49 = .ok (.ireturn, 1) := by decide +kernel
theorem dX8_linksFrom_0 : decode cX8_linksFrom 0 = .ok (.iconst 0, 1) := by decide +kernel
theorem dX8_linksFrom_1 : decode cX8_linksFrom 1 = .ok (.istore 4, 2) := by decide +kernel
theorem dX8_linksFrom_3 : decode cX8_linksFrom 3 = .ok (.iconst 0, 1) := by decide +kernel
theorem dX8_linksFrom_4 : decode cX8_linksFrom 4 = .ok (.istore 5, 2) := by decide +kernel
theorem dX8_linksFrom_6 : decode cX8_linksFrom 6 = .ok (.iload 5, 2) := by decide +kernel
theorem dX8_linksFrom_8 : decode cX8_linksFrom 8 = .ok (.aload_n 0, 1) := by decide +kernel
theorem dX8_linksFrom_9 : decode cX8_linksFrom 9 = .ok (.getfield 7, 3) := by decide +kernel
theorem dX8_linksFrom_12 : decode cX8_linksFrom 12 = .ok (.if_icmp .ge 44, 3) := by decide +kernel
theorem dX8_linksFrom_15 : decode cX8_linksFrom 15 = .ok (.aload_n 0, 1) := by decide +kernel
theorem dX8_linksFrom_16 : decode cX8_linksFrom 16 = .ok (.iload_n 1, 1) := by decide +kernel
theorem dX8_linksFrom_17 : decode cX8_linksFrom 17 = .ok (.iload 5, 2) := by decide +kernel
theorem dX8_linksFrom_19 : decode cX8_linksFrom 19 = .ok (.invokevirtual 23, 3) := by decide +kernel
theorem dX8_linksFrom_22 : decode cX8_linksFrom 22 = .ok (.iload_n 2, 1) := by decide +kernel
theorem dX8_linksFrom_23 : decode cX8_linksFrom 23 = .ok (.isub, 1) := by decide +kernel
theorem dX8_linksFrom_24 : decode cX8_linksFrom 24 = .ok (.istore 6, 2) := by decide +kernel
theorem dX8_linksFrom_26 : decode cX8_linksFrom 26 = .ok (.aload_n 0, 1) := by decide +kernel
theorem dX8_linksFrom_27 : decode cX8_linksFrom 27 = .ok (.iload_n 1, 1) := by decide +kernel
theorem dX8_linksFrom_28 : decode cX8_linksFrom 28 = .ok (.iload 5, 2) := by decide +kernel
theorem dX8_linksFrom_30 : decode cX8_linksFrom 30 = .ok (.invokevirtual 19, 3) := by decide +kernel
theorem dX8_linksFrom_33 : decode cX8_linksFrom 33 = .ok (.ifCond .eq 17, 3) := by decide +kernel
theorem dX8_linksFrom_36 : decode cX8_linksFrom 36 = .ok (.iload 6, 2) := by decide +kernel
theorem dX8_linksFrom_38 : decode cX8_linksFrom 38 = .ok (.ifCond .lt 12, 3) := by decide +kernel
theorem dX8_linksFrom_41 : decode cX8_linksFrom 41 = .ok (.iload 6, 2) := by decide +kernel
theorem dX8_linksFrom_43 : decode cX8_linksFrom 43 = .ok (.iload_n 3, 1) := by decide +kernel
theorem dX8_linksFrom_44 : decode cX8_linksFrom 44 = .ok (.if_icmp .gt 6, 3) := by decide +kernel
theorem dX8_linksFrom_47 : decode cX8_linksFrom 47 = .ok (.iinc 4 1, 3) := by decide +kernel
theorem dX8_linksFrom_50 : decode cX8_linksFrom 50 = .ok (.iinc 5 1, 3) := by decide +kernel
theorem dX8_linksFrom_53 : decode cX8_linksFrom 53 = .ok (.goto (-47), 3) := by decide +kernel
theorem dX8_linksFrom_56 : decode cX8_linksFrom 56 = .ok (.iload 4, 2) := by decide +kernel
theorem dX8_linksFrom_58 : decode cX8_linksFrom 58 = .ok (.ireturn, 1) := by decide +kernel
theorem dX9_init_0 : decode cX9_init 0 = .ok (.aload_n 0, 1) := by decide +kernel
theorem dX9_init_1 : decode cX9_init 1 = .ok (.invokespecial 3, 3) := by decide +kernel
theorem dX9_init_4 : decode cX9_init 4 = .ok (.aload_n 0, 1) := by decide +kernel
theorem dX9_init_5 : decode cX9_init 5 = .ok (.sipush 128, 3) := by decide +kernel
theorem dX9_init_8 : decode cX9_init 8 = .ok (.newarray .long, 2) := by decide +kernel
theorem dX9_init_10 : decode cX9_init 10 = .ok (.putfield 11, 3) := by decide +kernel
theorem dX9_init_13 : decode cX9_init 13 = .ok (.aload_n 0, 1) := by decide +kernel
theorem dX9_init_14 : decode cX9_init 14 = .ok (.sipush 128, 3) := by decide +kernel
theorem dX9_init_17 : decode cX9_init 17 = .ok (.newarray .long, 2) := by decide +kernel
theorem dX9_init_19 : decode cX9_init 19 = .ok (.putfield 15, 3) := by decide +kernel
theorem dX9_init_22 : decode cX9_init 22 = .ok (.return_, 1) := by decide +kernel
theorem dX9_countFrom_0 : decode cX9_countFrom 0 = .ok (.iconst 0, 1) := by decide +kernel
theorem dX9_countFrom_1 : decode cX9_countFrom 1 = .ok (.istore 4, 2) := by decide +kernel
theorem dX9_countFrom_3 : decode cX9_countFrom 3 = .ok (.iload 4, 2) := by decide +kernel
theorem dX9_countFrom_5 : decode cX9_countFrom 5 = .ok (.sipush 128, 3) := by decide +kernel
theorem dX9_countFrom_8 : decode cX9_countFrom 8 = .ok (.if_icmp .ge 17, 3) := by decide +kernel
theorem dX9_countFrom_11 : decode cX9_countFrom 11 = .ok (.aload_n 0, 1) := by decide +kernel
theorem dX9_countFrom_12 : decode cX9_countFrom 12 = .ok (.getfield 11, 3) := by decide +kernel
theorem dX9_countFrom_15 : decode cX9_countFrom 15 = .ok (.iload 4, 2) := by decide +kernel
theorem dX9_countFrom_17 : decode cX9_countFrom 17 = .ok (.lconst 0, 1) := by decide +kernel
theorem dX9_countFrom_18 : decode cX9_countFrom 18 = .ok (.lastore, 1) := by decide +kernel
theorem dX9_countFrom_19 : decode cX9_countFrom 19 = .ok (.iinc 4 1, 3) := by decide +kernel
theorem dX9_countFrom_22 : decode cX9_countFrom 22 = .ok (.goto (-19), 3) := by decide +kernel
theorem dX9_countFrom_25 : decode cX9_countFrom 25 = .ok (.aload_n 0, 1) := by decide +kernel
theorem dX9_countFrom_26 : decode cX9_countFrom 26 = .ok (.getfield 11, 3) := by decide +kernel
theorem dX9_countFrom_29 : decode cX9_countFrom 29 = .ok (.iload_n 2, 1) := by decide +kernel
theorem dX9_countFrom_30 : decode cX9_countFrom 30 = .ok (.bipush 8, 2) := by decide +kernel
theorem dX9_countFrom_32 : decode cX9_countFrom 32 = .ok (.imul, 1) := by decide +kernel
theorem dX9_countFrom_33 : decode cX9_countFrom 33 = .ok (.lconst 1, 1) := by decide +kernel
theorem dX9_countFrom_34 : decode cX9_countFrom 34 = .ok (.lastore, 1) := by decide +kernel
theorem dX9_countFrom_35 : decode cX9_countFrom 35 = .ok (.iconst 0, 1) := by decide +kernel
theorem dX9_countFrom_36 : decode cX9_countFrom 36 = .ok (.istore 4, 2) := by decide +kernel
theorem dX9_countFrom_38 : decode cX9_countFrom 38 = .ok (.iload 4, 2) := by decide +kernel
theorem dX9_countFrom_40 : decode cX9_countFrom 40 = .ok (.iload_n 3, 1) := by decide +kernel
theorem dX9_countFrom_41 : decode cX9_countFrom 41 = .ok (.if_icmp .ge 34, 3) := by decide +kernel
theorem dX9_countFrom_44 : decode cX9_countFrom 44 = .ok (.aload_n 0, 1) := by decide +kernel
theorem dX9_countFrom_45 : decode cX9_countFrom 45 = .ok (.getfield 15, 3) := by decide +kernel
theorem dX9_countFrom_48 : decode cX9_countFrom 48 = .ok (.astore 5, 2) := by decide +kernel
theorem dX9_countFrom_50 : decode cX9_countFrom 50 = .ok (.aload_n 0, 1) := by decide +kernel
theorem dX9_countFrom_51 : decode cX9_countFrom 51 = .ok (.aload_n 0, 1) := by decide +kernel
theorem dX9_countFrom_52 : decode cX9_countFrom 52 = .ok (.getfield 11, 3) := by decide +kernel
theorem dX9_countFrom_55 : decode cX9_countFrom 55 = .ok (.putfield 15, 3) := by decide +kernel
theorem dX9_countFrom_58 : decode cX9_countFrom 58 = .ok (.aload_n 0, 1) := by decide +kernel
theorem dX9_countFrom_59 : decode cX9_countFrom 59 = .ok (.aload 5, 2) := by decide +kernel
theorem dX9_countFrom_61 : decode cX9_countFrom 61 = .ok (.putfield 11, 3) := by decide +kernel
theorem dX9_countFrom_64 : decode cX9_countFrom 64 = .ok (.aload_n 0, 1) := by decide +kernel
theorem dX9_countFrom_65 : decode cX9_countFrom 65 = .ok (.aload_n 1, 1) := by decide +kernel
theorem dX9_countFrom_66 : decode cX9_countFrom 66 = .ok (.invokevirtual 18, 3) := by decide +kernel
theorem dX9_countFrom_69 : decode cX9_countFrom 69 = .ok (.iinc 4 1, 3) := by decide +kernel
theorem dX9_countFrom_72 : decode cX9_countFrom 72 = .ok (.goto (-34), 3) := by decide +kernel
theorem dX9_countFrom_75 : decode cX9_countFrom 75 = .ok (.return_, 1) := by decide +kernel
theorem dX9_goOn_0 : decode cX9_goOn 0 = .ok (.iconst 0, 1) := by decide +kernel
theorem dX9_goOn_1 : decode cX9_goOn 1 = .ok (.istore_n 2, 1) := by decide +kernel
theorem dX9_goOn_2 : decode cX9_goOn 2 = .ok (.iload_n 2, 1) := by decide +kernel
theorem dX9_goOn_3 : decode cX9_goOn 3 = .ok (.aload_n 1, 1) := by decide +kernel
theorem dX9_goOn_4 : decode cX9_goOn 4 = .ok (.getfield 22, 3) := by decide +kernel
theorem dX9_goOn_7 : decode cX9_goOn 7 = .ok (.if_icmp .ge 76, 3) := by decide +kernel
theorem dX9_goOn_10 : decode cX9_goOn 10 = .ok (.aload_n 1, 1) := by decide +kernel
theorem dX9_goOn_11 : decode cX9_goOn 11 = .ok (.iload_n 2, 1) := by decide +kernel
theorem dX9_goOn_12 : decode cX9_goOn 12 = .ok (.invokevirtual 28, 3) := by decide +kernel
theorem dX9_goOn_15 : decode cX9_goOn 15 = .ok (.istore_n 3, 1) := by decide +kernel
theorem dX9_goOn_16 : decode cX9_goOn 16 = .ok (.lconst 0, 1) := by decide +kernel
theorem dX9_goOn_17 : decode cX9_goOn 17 = .ok (.lstore 4, 2) := by decide +kernel
theorem dX9_goOn_19 : decode cX9_goOn 19 = .ok (.iconst 0, 1) := by decide +kernel
theorem dX9_goOn_20 : decode cX9_goOn 20 = .ok (.istore 6, 2) := by decide +kernel
theorem dX9_goOn_22 : decode cX9_goOn 22 = .ok (.iload 6, 2) := by decide +kernel
theorem dX9_goOn_24 : decode cX9_goOn 24 = .ok (.bipush 8, 2) := by decide +kernel
theorem dX9_goOn_26 : decode cX9_goOn 26 = .ok (.if_icmp .ge 51, 3) := by decide +kernel
theorem dX9_goOn_29 : decode cX9_goOn 29 = .ok (.lload 4, 2) := by decide +kernel
theorem dX9_goOn_31 : decode cX9_goOn 31 = .ok (.aload_n 0, 1) := by decide +kernel
theorem dX9_goOn_32 : decode cX9_goOn 32 = .ok (.aload_n 1, 1) := by decide +kernel
theorem dX9_goOn_33 : decode cX9_goOn 33 = .ok (.getfield 22, 3) := by decide +kernel
theorem dX9_goOn_36 : decode cX9_goOn 36 = .ok (.iload_n 3, 1) := by decide +kernel
theorem dX9_goOn_37 : decode cX9_goOn 37 = .ok (.iload 6, 2) := by decide +kernel
theorem dX9_goOn_39 : decode cX9_goOn 39 = .ok (.invokevirtual 32, 3) := by decide +kernel
theorem dX9_goOn_42 : decode cX9_goOn 42 = .ok (.ladd, 1) := by decide +kernel
theorem dX9_goOn_43 : decode cX9_goOn 43 = .ok (.lstore 7, 2) := by decide +kernel
theorem dX9_goOn_45 : decode cX9_goOn 45 = .ok (.aload_n 0, 1) := by decide +kernel
theorem dX9_goOn_46 : decode cX9_goOn 46 = .ok (.getfield 11, 3) := by decide +kernel
theorem dX9_goOn_49 : decode cX9_goOn 49 = .ok (.iload_n 2, 1) := by decide +kernel
theorem dX9_goOn_50 : decode cX9_goOn 50 = .ok (.bipush 8, 2) := by decide +kernel
theorem dX9_goOn_52 : decode cX9_goOn 52 = .ok (.imul, 1) := by decide +kernel
theorem dX9_goOn_53 : decode cX9_goOn 53 = .ok (.iload 6, 2) := by decide +kernel
theorem dX9_goOn_55 : decode cX9_goOn 55 = .ok (.iadd, 1) := by decide +kernel
theorem dX9_goOn_56 : decode cX9_goOn 56 = .ok (.lload 7, 2) := by decide +kernel
theorem dX9_goOn_58 : decode cX9_goOn 58 = .ok (.ldc2_w 36, 3) := by decide +kernel
theorem dX9_goOn_61 : decode cX9_goOn 61 = .ok (.lrem, 1) := by decide +kernel
theorem dX9_goOn_62 : decode cX9_goOn 62 = .ok (.lastore, 1) := by decide +kernel
theorem dX9_goOn_63 : decode cX9_goOn 63 = .ok (.lload 7, 2) := by decide +kernel
theorem dX9_goOn_65 : decode cX9_goOn 65 = .ok (.ldc2_w 36, 3) := by decide +kernel
theorem dX9_goOn_68 : decode cX9_goOn 68 = .ok (.ldiv, 1) := by decide +kernel
theorem dX9_goOn_69 : decode cX9_goOn 69 = .ok (.lstore 4, 2) := by decide +kernel
theorem dX9_goOn_71 : decode cX9_goOn 71 = .ok (.iinc 6 1, 3) := by decide +kernel
theorem dX9_goOn_74 : decode cX9_goOn 74 = .ok (.goto (-52), 3) := by decide +kernel
theorem dX9_goOn_77 : decode cX9_goOn 77 = .ok (.iinc 2 1, 3) := by decide +kernel
theorem dX9_goOn_80 : decode cX9_goOn 80 = .ok (.goto (-78), 3) := by decide +kernel
theorem dX9_goOn_83 : decode cX9_goOn 83 = .ok (.return_, 1) := by decide +kernel
theorem dX9_sumOf_0 : decode cX9_sumOf 0 = .ok (.lconst 0, 1) := by decide +kernel
theorem dX9_sumOf_1 : decode cX9_sumOf 1 = .ok (.lstore 4, 2) := by decide +kernel
theorem dX9_sumOf_3 : decode cX9_sumOf 3 = .ok (.iconst 0, 1) := by decide +kernel
theorem dX9_sumOf_4 : decode cX9_sumOf 4 = .ok (.istore 6, 2) := by decide +kernel
theorem dX9_sumOf_6 : decode cX9_sumOf 6 = .ok (.iload 6, 2) := by decide +kernel
theorem dX9_sumOf_8 : decode cX9_sumOf 8 = .ok (.iload_n 1, 1) := by decide +kernel
theorem dX9_sumOf_9 : decode cX9_sumOf 9 = .ok (.if_icmp .ge 36, 3) := by decide +kernel
theorem dX9_sumOf_12 : decode cX9_sumOf 12 = .ok (.iload_n 2, 1) := by decide +kernel
theorem dX9_sumOf_13 : decode cX9_sumOf 13 = .ok (.iload 6, 2) := by decide +kernel
theorem dX9_sumOf_15 : decode cX9_sumOf 15 = .ok (.ishr, 1) := by decide +kernel
theorem dX9_sumOf_16 : decode cX9_sumOf 16 = .ok (.iconst 1, 1) := by decide +kernel
theorem dX9_sumOf_17 : decode cX9_sumOf 17 = .ok (.iand, 1) := by decide +kernel
theorem dX9_sumOf_18 : decode cX9_sumOf 18 = .ok (.iconst 1, 1) := by decide +kernel
theorem dX9_sumOf_19 : decode cX9_sumOf 19 = .ok (.if_icmp .ne 20, 3) := by decide +kernel
theorem dX9_sumOf_22 : decode cX9_sumOf 22 = .ok (.lload 4, 2) := by decide +kernel
theorem dX9_sumOf_24 : decode cX9_sumOf 24 = .ok (.aload_n 0, 1) := by decide +kernel
theorem dX9_sumOf_25 : decode cX9_sumOf 25 = .ok (.getfield 15, 3) := by decide +kernel
theorem dX9_sumOf_28 : decode cX9_sumOf 28 = .ok (.iload 6, 2) := by decide +kernel
theorem dX9_sumOf_30 : decode cX9_sumOf 30 = .ok (.bipush 8, 2) := by decide +kernel
theorem dX9_sumOf_32 : decode cX9_sumOf 32 = .ok (.imul, 1) := by decide +kernel
theorem dX9_sumOf_33 : decode cX9_sumOf 33 = .ok (.iload_n 3, 1) := by decide +kernel
theorem dX9_sumOf_34 : decode cX9_sumOf 34 = .ok (.iadd, 1) := by decide +kernel
theorem dX9_sumOf_35 : decode cX9_sumOf 35 = .ok (.laload, 1) := by decide +kernel
theorem dX9_sumOf_36 : decode cX9_sumOf 36 = .ok (.ladd, 1) := by decide +kernel
theorem dX9_sumOf_37 : decode cX9_sumOf 37 = .ok (.lstore 4, 2) := by decide +kernel
theorem dX9_sumOf_39 : decode cX9_sumOf 39 = .ok (.iinc 6 1, 3) := by decide +kernel
theorem dX9_sumOf_42 : decode cX9_sumOf 42 = .ok (.goto (-36), 3) := by decide +kernel
theorem dX9_sumOf_45 : decode cX9_sumOf 45 = .ok (.lload 4, 2) := by decide +kernel
theorem dX9_sumOf_47 : decode cX9_sumOf 47 = .ok (.lreturn, 1) := by decide +kernel
theorem dX9_partsOf_0 : decode cX9_partsOf 0 = .ok (.iconst 1, 1) := by decide +kernel
theorem dX9_partsOf_1 : decode cX9_partsOf 1 = .ok (.istore_n 2, 1) := by decide +kernel
theorem dX9_partsOf_2 : decode cX9_partsOf 2 = .ok (.iconst 1, 1) := by decide +kernel
theorem dX9_partsOf_3 : decode cX9_partsOf 3 = .ok (.istore_n 3, 1) := by decide +kernel
theorem dX9_partsOf_4 : decode cX9_partsOf 4 = .ok (.iload_n 3, 1) := by decide +kernel
theorem dX9_partsOf_5 : decode cX9_partsOf 5 = .ok (.bipush 8, 2) := by decide +kernel
theorem dX9_partsOf_7 : decode cX9_partsOf 7 = .ok (.if_icmp .ge 29, 3) := by decide +kernel
theorem dX9_partsOf_10 : decode cX9_partsOf 10 = .ok (.aload_n 0, 1) := by decide +kernel
theorem dX9_partsOf_11 : decode cX9_partsOf 11 = .ok (.getfield 11, 3) := by decide +kernel
theorem dX9_partsOf_14 : decode cX9_partsOf 14 = .ok (.iload_n 1, 1) := by decide +kernel
theorem dX9_partsOf_15 : decode cX9_partsOf 15 = .ok (.bipush 8, 2) := by decide +kernel
theorem dX9_partsOf_17 : decode cX9_partsOf 17 = .ok (.imul, 1) := by decide +kernel
theorem dX9_partsOf_18 : decode cX9_partsOf 18 = .ok (.iload_n 3, 1) := by decide +kernel
theorem dX9_partsOf_19 : decode cX9_partsOf 19 = .ok (.iadd, 1) := by decide +kernel
theorem dX9_partsOf_20 : decode cX9_partsOf 20 = .ok (.laload, 1) := by decide +kernel
theorem dX9_partsOf_21 : decode cX9_partsOf 21 = .ok (.lconst 0, 1) := by decide +kernel
theorem dX9_partsOf_22 : decode cX9_partsOf 22 = .ok (.lcmp, 1) := by decide +kernel
theorem dX9_partsOf_23 : decode cX9_partsOf 23 = .ok (.ifCond .eq 7, 3) := by decide +kernel
theorem dX9_partsOf_26 : decode cX9_partsOf 26 = .ok (.iload_n 3, 1) := by decide +kernel
theorem dX9_partsOf_27 : decode cX9_partsOf 27 = .ok (.iconst 1, 1) := by decide +kernel
theorem dX9_partsOf_28 : decode cX9_partsOf 28 = .ok (.iadd, 1) := by decide +kernel
theorem dX9_partsOf_29 : decode cX9_partsOf 29 = .ok (.istore_n 2, 1) := by decide +kernel
theorem dX9_partsOf_30 : decode cX9_partsOf 30 = .ok (.iinc 3 1, 3) := by decide +kernel
theorem dX9_partsOf_33 : decode cX9_partsOf 33 = .ok (.goto (-29), 3) := by decide +kernel
theorem dX9_partsOf_36 : decode cX9_partsOf 36 = .ok (.iload_n 2, 1) := by decide +kernel
theorem dX9_partsOf_37 : decode cX9_partsOf 37 = .ok (.ireturn, 1) := by decide +kernel
theorem dX9_partOf_0 : decode cX9_partOf 0 = .ok (.aload_n 0, 1) := by decide +kernel
theorem dX9_partOf_1 : decode cX9_partOf 1 = .ok (.getfield 11, 3) := by decide +kernel
theorem dX9_partOf_4 : decode cX9_partOf 4 = .ok (.iload_n 1, 1) := by decide +kernel
theorem dX9_partOf_5 : decode cX9_partOf 5 = .ok (.bipush 8, 2) := by decide +kernel
theorem dX9_partOf_7 : decode cX9_partOf 7 = .ok (.imul, 1) := by decide +kernel
theorem dX9_partOf_8 : decode cX9_partOf 8 = .ok (.iload_n 2, 1) := by decide +kernel
theorem dX9_partOf_9 : decode cX9_partOf 9 = .ok (.iadd, 1) := by decide +kernel
theorem dX9_partOf_10 : decode cX9_partOf 10 = .ok (.laload, 1) := by decide +kernel
theorem dX9_partOf_11 : decode cX9_partOf 11 = .ok (.l2i, 1) := by decide +kernel
theorem dX9_partOf_12 : decode cX9_partOf 12 = .ok (.ireturn, 1) := by decide +kernel
theorem dX10_init_0 : decode cX10_init 0 = .ok (.aload_n 0, 1) := by decide +kernel
theorem dX10_init_1 : decode cX10_init 1 = .ok (.invokespecial 1, 3) := by decide +kernel
theorem dX10_init_4 : decode cX10_init 4 = .ok (.aload_n 0, 1) := by decide +kernel
theorem dX10_init_5 : decode cX10_init 5 = .ok (.new 7, 3) := by decide +kernel
theorem dX10_init_8 : decode cX10_init 8 = .ok (.dup, 1) := by decide +kernel
theorem dX10_init_9 : decode cX10_init 9 = .ok (.bipush 6, 2) := by decide +kernel
theorem dX10_init_11 : decode cX10_init 11 = .ok (.invokespecial 11, 3) := by decide +kernel
theorem dX10_init_14 : decode cX10_init 14 = .ok (.putfield 14, 3) := by decide +kernel
theorem dX10_init_17 : decode cX10_init 17 = .ok (.aload_n 0, 1) := by decide +kernel
theorem dX10_init_18 : decode cX10_init 18 = .ok (.iconst 4, 1) := by decide +kernel
theorem dX10_init_19 : decode cX10_init 19 = .ok (.anewarray 7, 3) := by decide +kernel
theorem dX10_init_22 : decode cX10_init 22 = .ok (.putfield 18, 3) := by decide +kernel
theorem dX10_init_25 : decode cX10_init 25 = .ok (.aload_n 0, 1) := by decide +kernel
theorem dX10_init_26 : decode cX10_init 26 = .ok (.iconst 4, 1) := by decide +kernel
theorem dX10_init_27 : decode cX10_init 27 = .ok (.newarray .boolean, 2) := by decide +kernel
theorem dX10_init_29 : decode cX10_init 29 = .ok (.putfield 22, 3) := by decide +kernel
theorem dX10_init_32 : decode cX10_init 32 = .ok (.aload_n 0, 1) := by decide +kernel
theorem dX10_init_33 : decode cX10_init 33 = .ok (.bipush 6, 2) := by decide +kernel
theorem dX10_init_35 : decode cX10_init 35 = .ok (.newarray .int, 2) := by decide +kernel
theorem dX10_init_37 : decode cX10_init 37 = .ok (.putfield 26, 3) := by decide +kernel
theorem dX10_init_40 : decode cX10_init 40 = .ok (.aload_n 0, 1) := by decide +kernel
theorem dX10_init_41 : decode cX10_init 41 = .ok (.new 30, 3) := by decide +kernel
theorem dX10_init_44 : decode cX10_init 44 = .ok (.dup, 1) := by decide +kernel
theorem dX10_init_45 : decode cX10_init 45 = .ok (.new 32, 3) := by decide +kernel
theorem dX10_init_48 : decode cX10_init 48 = .ok (.dup, 1) := by decide +kernel
theorem dX10_init_49 : decode cX10_init 49 = .ok (.invokespecial 34, 3) := by decide +kernel
theorem dX10_init_52 : decode cX10_init 52 = .ok (.invokespecial 35, 3) := by decide +kernel
theorem dX10_init_55 : decode cX10_init 55 = .ok (.putfield 38, 3) := by decide +kernel
theorem dX10_init_58 : decode cX10_init 58 = .ok (.aload_n 0, 1) := by decide +kernel
theorem dX10_init_59 : decode cX10_init 59 = .ok (.new 42, 3) := by decide +kernel
theorem dX10_init_62 : decode cX10_init 62 = .ok (.dup, 1) := by decide +kernel
theorem dX10_init_63 : decode cX10_init 63 = .ok (.invokespecial 44, 3) := by decide +kernel
theorem dX10_init_66 : decode cX10_init 66 = .ok (.putfield 45, 3) := by decide +kernel
theorem dX10_init_69 : decode cX10_init 69 = .ok (.aload_n 0, 1) := by decide +kernel
theorem dX10_init_70 : decode cX10_init 70 = .ok (.new 49, 3) := by decide +kernel
theorem dX10_init_73 : decode cX10_init 73 = .ok (.dup, 1) := by decide +kernel
theorem dX10_init_74 : decode cX10_init 74 = .ok (.invokespecial 51, 3) := by decide +kernel
theorem dX10_init_77 : decode cX10_init 77 = .ok (.putfield 52, 3) := by decide +kernel
theorem dX10_init_80 : decode cX10_init 80 = .ok (.aload_n 0, 1) := by decide +kernel
theorem dX10_init_81 : decode cX10_init 81 = .ok (.new 56, 3) := by decide +kernel
theorem dX10_init_84 : decode cX10_init 84 = .ok (.dup, 1) := by decide +kernel
theorem dX10_init_85 : decode cX10_init 85 = .ok (.invokespecial 58, 3) := by decide +kernel
theorem dX10_init_88 : decode cX10_init 88 = .ok (.putfield 59, 3) := by decide +kernel
theorem dX10_init_91 : decode cX10_init 91 = .ok (.aload_n 0, 1) := by decide +kernel
theorem dX10_init_92 : decode cX10_init 92 = .ok (.new 63, 3) := by decide +kernel
theorem dX10_init_95 : decode cX10_init 95 = .ok (.dup, 1) := by decide +kernel
theorem dX10_init_96 : decode cX10_init 96 = .ok (.invokespecial 65, 3) := by decide +kernel
theorem dX10_init_99 : decode cX10_init 99 = .ok (.putfield 66, 3) := by decide +kernel
theorem dX10_init_102 : decode cX10_init 102 = .ok (.iconst 0, 1) := by decide +kernel
theorem dX10_init_103 : decode cX10_init 103 = .ok (.istore_n 1, 1) := by decide +kernel
theorem dX10_init_104 : decode cX10_init 104 = .ok (.iload_n 1, 1) := by decide +kernel
theorem dX10_init_105 : decode cX10_init 105 = .ok (.iconst 4, 1) := by decide +kernel
theorem dX10_init_106 : decode cX10_init 106 = .ok (.if_icmp .ge 24, 3) := by decide +kernel
theorem dX10_init_109 : decode cX10_init 109 = .ok (.aload_n 0, 1) := by decide +kernel
theorem dX10_init_110 : decode cX10_init 110 = .ok (.getfield 18, 3) := by decide +kernel
theorem dX10_init_113 : decode cX10_init 113 = .ok (.iload_n 1, 1) := by decide +kernel
theorem dX10_init_114 : decode cX10_init 114 = .ok (.new 7, 3) := by decide +kernel
theorem dX10_init_117 : decode cX10_init 117 = .ok (.dup, 1) := by decide +kernel
theorem dX10_init_118 : decode cX10_init 118 = .ok (.bipush 6, 2) := by decide +kernel
theorem dX10_init_120 : decode cX10_init 120 = .ok (.invokespecial 11, 3) := by decide +kernel
theorem dX10_init_123 : decode cX10_init 123 = .ok (.aastore, 1) := by decide +kernel
theorem dX10_init_124 : decode cX10_init 124 = .ok (.iinc 1 1, 3) := by decide +kernel
theorem dX10_init_127 : decode cX10_init 127 = .ok (.goto (-23), 3) := by decide +kernel
theorem dX10_init_130 : decode cX10_init 130 = .ok (.return_, 1) := by decide +kernel
theorem dX10_posts_0 : decode cX10_posts 0 = .ok (.iload_n 1, 1) := by decide +kernel
theorem dX10_posts_1 : decode cX10_posts 1 = .ok (.iconst 3, 1) := by decide +kernel
theorem dX10_posts_2 : decode cX10_posts 2 = .ok (.if_icmp .ge 10, 3) := by decide +kernel
theorem dX10_posts_5 : decode cX10_posts 5 = .ok (.aload_n 0, 1) := by decide +kernel
theorem dX10_posts_6 : decode cX10_posts 6 = .ok (.bipush (-4), 2) := by decide +kernel
theorem dX10_posts_8 : decode cX10_posts 8 = .ok (.invokevirtual 70, 3) := by decide +kernel
theorem dX10_posts_11 : decode cX10_posts 11 = .ok (.ireturn, 1) := by decide +kernel
theorem dX10_posts_12 : decode cX10_posts 12 = .ok (.iload_n 1, 1) := by decide +kernel
theorem dX10_posts_13 : decode cX10_posts 13 = .ok (.bipush 16, 2) := by decide +kernel
theorem dX10_posts_15 : decode cX10_posts 15 = .ok (.if_icmp .le 10, 3) := by decide +kernel
theorem dX10_posts_18 : decode cX10_posts 18 = .ok (.aload_n 0, 1) := by decide +kernel
theorem dX10_posts_19 : decode cX10_posts 19 = .ok (.bipush (-6), 2) := by decide +kernel
theorem dX10_posts_21 : decode cX10_posts 21 = .ok (.invokevirtual 70, 3) := by decide +kernel
theorem dX10_posts_24 : decode cX10_posts 24 = .ok (.ireturn, 1) := by decide +kernel
theorem dX10_posts_25 : decode cX10_posts 25 = .ok (.aload_n 0, 1) := by decide +kernel
theorem dX10_posts_26 : decode cX10_posts 26 = .ok (.getfield 14, 3) := by decide +kernel
theorem dX10_posts_29 : decode cX10_posts 29 = .ok (.getfield 74, 3) := by decide +kernel
theorem dX10_posts_32 : decode cX10_posts 32 = .ok (.istore_n 2, 1) := by decide +kernel
theorem dX10_posts_33 : decode cX10_posts 33 = .ok (.aload_n 0, 1) := by decide +kernel
theorem dX10_posts_34 : decode cX10_posts 34 = .ok (.getfield 14, 3) := by decide +kernel
theorem dX10_posts_37 : decode cX10_posts 37 = .ok (.iload_n 1, 1) := by decide +kernel
theorem dX10_posts_38 : decode cX10_posts 38 = .ok (.invokevirtual 78, 3) := by decide +kernel
theorem dX10_posts_41 : decode cX10_posts 41 = .ok (.iload_n 2, 1) := by decide +kernel
theorem dX10_posts_42 : decode cX10_posts 42 = .ok (.ireturn, 1) := by decide +kernel
theorem dX10_link_0 : decode cX10_link 0 = .ok (.aload_n 0, 1) := by decide +kernel
theorem dX10_link_1 : decode cX10_link 1 = .ok (.iload_n 1, 1) := by decide +kernel
theorem dX10_link_2 : decode cX10_link 2 = .ok (.iload_n 2, 1) := by decide +kernel
theorem dX10_link_3 : decode cX10_link 3 = .ok (.invokevirtual 81, 3) := by decide +kernel
theorem dX10_link_6 : decode cX10_link 6 = .ok (.ifCond .ne 9, 3) := by decide +kernel
theorem dX10_link_9 : decode cX10_link 9 = .ok (.aload_n 0, 1) := by decide +kernel
theorem dX10_link_10 : decode cX10_link 10 = .ok (.iconst (-1), 1) := by decide +kernel
theorem dX10_link_11 : decode cX10_link 11 = .ok (.invokevirtual 70, 3) := by decide +kernel
theorem dX10_link_14 : decode cX10_link 14 = .ok (.ireturn, 1) := by decide +kernel
theorem dX10_link_15 : decode cX10_link 15 = .ok (.iload_n 3, 1) := by decide +kernel
theorem dX10_link_16 : decode cX10_link 16 = .ok (.ifCond .lt 8, 3) := by decide +kernel
theorem dX10_link_19 : decode cX10_link 19 = .ok (.iload 4, 2) := by decide +kernel
theorem dX10_link_21 : decode cX10_link 21 = .ok (.ifCond .ge 10, 3) := by decide +kernel
theorem dX10_link_24 : decode cX10_link 24 = .ok (.aload_n 0, 1) := by decide +kernel
theorem dX10_link_25 : decode cX10_link 25 = .ok (.bipush (-4), 2) := by decide +kernel
theorem dX10_link_27 : decode cX10_link 27 = .ok (.invokevirtual 70, 3) := by decide +kernel
theorem dX10_link_30 : decode cX10_link 30 = .ok (.ireturn, 1) := by decide +kernel
theorem dX10_link_31 : decode cX10_link 31 = .ok (.iload_n 3, 1) := by decide +kernel
theorem dX10_link_32 : decode cX10_link 32 = .ok (.iconst 1, 1) := by decide +kernel
theorem dX10_link_33 : decode cX10_link 33 = .ok (.if_icmp .gt 11, 3) := by decide +kernel
theorem dX10_link_36 : decode cX10_link 36 = .ok (.iload 4, 2) := by decide +kernel
theorem dX10_link_38 : decode cX10_link 38 = .ok (.sipush 1000, 3) := by decide +kernel
theorem dX10_link_41 : decode cX10_link 41 = .ok (.if_icmp .le 10, 3) := by decide +kernel
theorem dX10_link_44 : decode cX10_link 44 = .ok (.aload_n 0, 1) := by decide +kernel
theorem dX10_link_45 : decode cX10_link 45 = .ok (.bipush (-6), 2) := by decide +kernel
theorem dX10_link_47 : decode cX10_link 47 = .ok (.invokevirtual 70, 3) := by decide +kernel
theorem dX10_link_50 : decode cX10_link 50 = .ok (.ireturn, 1) := by decide +kernel
theorem dX10_link_51 : decode cX10_link 51 = .ok (.aload_n 0, 1) := by decide +kernel
theorem dX10_link_52 : decode cX10_link 52 = .ok (.getfield 14, 3) := by decide +kernel
theorem dX10_link_55 : decode cX10_link 55 = .ok (.iload_n 1, 1) := by decide +kernel
theorem dX10_link_56 : decode cX10_link 56 = .ok (.iload_n 2, 1) := by decide +kernel
theorem dX10_link_57 : decode cX10_link 57 = .ok (.invokevirtual 85, 3) := by decide +kernel
theorem dX10_link_60 : decode cX10_link 60 = .ok (.ifCond .eq 7, 3) := by decide +kernel
theorem dX10_link_63 : decode cX10_link 63 = .ok (.iconst 0, 1) := by decide +kernel
theorem dX10_link_64 : decode cX10_link 64 = .ok (.goto 4, 3) := by decide +kernel
theorem dX10_link_67 : decode cX10_link 67 = .ok (.iconst 1, 1) := by decide +kernel
theorem dX10_link_68 : decode cX10_link 68 = .ok (.istore 5, 2) := by decide +kernel
theorem dX10_link_70 : decode cX10_link 70 = .ok (.aload_n 0, 1) := by decide +kernel
theorem dX10_link_71 : decode cX10_link 71 = .ok (.getfield 14, 3) := by decide +kernel
theorem dX10_link_74 : decode cX10_link 74 = .ok (.iload_n 1, 1) := by decide +kernel
theorem dX10_link_75 : decode cX10_link 75 = .ok (.iload_n 2, 1) := by decide +kernel
theorem dX10_link_76 : decode cX10_link 76 = .ok (.iload_n 3, 1) := by decide +kernel
theorem dX10_link_77 : decode cX10_link 77 = .ok (.iload 4, 2) := by decide +kernel
theorem dX10_link_79 : decode cX10_link 79 = .ok (.invokevirtual 88, 3) := by decide +kernel
theorem dX10_link_82 : decode cX10_link 82 = .ok (.iload 5, 2) := by decide +kernel
theorem dX10_link_84 : decode cX10_link 84 = .ok (.ireturn, 1) := by decide +kernel
theorem dX10_cut_0 : decode cX10_cut 0 = .ok (.aload_n 0, 1) := by decide +kernel
theorem dX10_cut_1 : decode cX10_cut 1 = .ok (.iload_n 1, 1) := by decide +kernel
theorem dX10_cut_2 : decode cX10_cut 2 = .ok (.iload_n 2, 1) := by decide +kernel
theorem dX10_cut_3 : decode cX10_cut 3 = .ok (.invokevirtual 81, 3) := by decide +kernel
theorem dX10_cut_6 : decode cX10_cut 6 = .ok (.ifCond .ne 9, 3) := by decide +kernel
theorem dX10_cut_9 : decode cX10_cut 9 = .ok (.aload_n 0, 1) := by decide +kernel
theorem dX10_cut_10 : decode cX10_cut 10 = .ok (.iconst (-1), 1) := by decide +kernel
theorem dX10_cut_11 : decode cX10_cut 11 = .ok (.invokevirtual 70, 3) := by decide +kernel
theorem dX10_cut_14 : decode cX10_cut 14 = .ok (.ireturn, 1) := by decide +kernel
theorem dX10_cut_15 : decode cX10_cut 15 = .ok (.aload_n 0, 1) := by decide +kernel
theorem dX10_cut_16 : decode cX10_cut 16 = .ok (.getfield 14, 3) := by decide +kernel
theorem dX10_cut_19 : decode cX10_cut 19 = .ok (.iload_n 1, 1) := by decide +kernel
theorem dX10_cut_20 : decode cX10_cut 20 = .ok (.iload_n 2, 1) := by decide +kernel
theorem dX10_cut_21 : decode cX10_cut 21 = .ok (.invokevirtual 85, 3) := by decide +kernel
theorem dX10_cut_24 : decode cX10_cut 24 = .ok (.ifCond .ne 10, 3) := by decide +kernel
theorem dX10_cut_27 : decode cX10_cut 27 = .ok (.aload_n 0, 1) := by decide +kernel
theorem dX10_cut_28 : decode cX10_cut 28 = .ok (.bipush (-3), 2) := by decide +kernel
theorem dX10_cut_30 : decode cX10_cut 30 = .ok (.invokevirtual 70, 3) := by decide +kernel
theorem dX10_cut_33 : decode cX10_cut 33 = .ok (.ireturn, 1) := by decide +kernel
theorem dX10_cut_34 : decode cX10_cut 34 = .ok (.aload_n 0, 1) := by decide +kernel
theorem dX10_cut_35 : decode cX10_cut 35 = .ok (.getfield 14, 3) := by decide +kernel
theorem dX10_cut_38 : decode cX10_cut 38 = .ok (.iload_n 1, 1) := by decide +kernel
theorem dX10_cut_39 : decode cX10_cut 39 = .ok (.iload_n 2, 1) := by decide +kernel
theorem dX10_cut_40 : decode cX10_cut 40 = .ok (.invokevirtual 92, 3) := by decide +kernel
theorem dX10_cut_43 : decode cX10_cut 43 = .ok (.iconst 1, 1) := by decide +kernel
theorem dX10_cut_44 : decode cX10_cut 44 = .ok (.ireturn, 1) := by decide +kernel
theorem dX10_linkOf_0 : decode cX10_linkOf 0 = .ok (.aload_n 0, 1) := by decide +kernel
theorem dX10_linkOf_1 : decode cX10_linkOf 1 = .ok (.iload_n 1, 1) := by decide +kernel
theorem dX10_linkOf_2 : decode cX10_linkOf 2 = .ok (.iload_n 2, 1) := by decide +kernel
theorem dX10_linkOf_3 : decode cX10_linkOf 3 = .ok (.invokevirtual 81, 3) := by decide +kernel
theorem dX10_linkOf_6 : decode cX10_linkOf 6 = .ok (.ifCond .ne 9, 3) := by decide +kernel
theorem dX10_linkOf_9 : decode cX10_linkOf 9 = .ok (.aload_n 0, 1) := by decide +kernel
theorem dX10_linkOf_10 : decode cX10_linkOf 10 = .ok (.iconst (-1), 1) := by decide +kernel
theorem dX10_linkOf_11 : decode cX10_linkOf 11 = .ok (.invokevirtual 70, 3) := by decide +kernel
theorem dX10_linkOf_14 : decode cX10_linkOf 14 = .ok (.ireturn, 1) := by decide +kernel
theorem dX10_linkOf_15 : decode cX10_linkOf 15 = .ok (.iload_n 3, 1) := by decide +kernel
theorem dX10_linkOf_16 : decode cX10_linkOf 16 = .ok (.tableswitch 58 0 2 #[28, 38, 48], 28) := by decide +kernel
theorem dX10_linkOf_44 : decode cX10_linkOf 44 = .ok (.aload_n 0, 1) := by decide +kernel
theorem dX10_linkOf_45 : decode cX10_linkOf 45 = .ok (.getfield 14, 3) := by decide +kernel
theorem dX10_linkOf_48 : decode cX10_linkOf 48 = .ok (.iload_n 1, 1) := by decide +kernel
theorem dX10_linkOf_49 : decode cX10_linkOf 49 = .ok (.iload_n 2, 1) := by decide +kernel
theorem dX10_linkOf_50 : decode cX10_linkOf 50 = .ok (.invokevirtual 96, 3) := by decide +kernel
theorem dX10_linkOf_53 : decode cX10_linkOf 53 = .ok (.ireturn, 1) := by decide +kernel
theorem dX10_linkOf_54 : decode cX10_linkOf 54 = .ok (.aload_n 0, 1) := by decide +kernel
theorem dX10_linkOf_55 : decode cX10_linkOf 55 = .ok (.getfield 14, 3) := by decide +kernel
theorem dX10_linkOf_58 : decode cX10_linkOf 58 = .ok (.iload_n 1, 1) := by decide +kernel
theorem dX10_linkOf_59 : decode cX10_linkOf 59 = .ok (.iload_n 2, 1) := by decide +kernel
theorem dX10_linkOf_60 : decode cX10_linkOf 60 = .ok (.invokevirtual 100, 3) := by decide +kernel
theorem dX10_linkOf_63 : decode cX10_linkOf 63 = .ok (.ireturn, 1) := by decide +kernel
theorem dX10_linkOf_64 : decode cX10_linkOf 64 = .ok (.aload_n 0, 1) := by decide +kernel
theorem dX10_linkOf_65 : decode cX10_linkOf 65 = .ok (.getfield 14, 3) := by decide +kernel
theorem dX10_linkOf_68 : decode cX10_linkOf 68 = .ok (.iload_n 1, 1) := by decide +kernel
theorem dX10_linkOf_69 : decode cX10_linkOf 69 = .ok (.iload_n 2, 1) := by decide +kernel
theorem dX10_linkOf_70 : decode cX10_linkOf 70 = .ok (.invokevirtual 103, 3) := by decide +kernel
theorem dX10_linkOf_73 : decode cX10_linkOf 73 = .ok (.ireturn, 1) := by decide +kernel
theorem dX10_linkOf_74 : decode cX10_linkOf 74 = .ok (.aload_n 0, 1) := by decide +kernel
theorem dX10_linkOf_75 : decode cX10_linkOf 75 = .ok (.bipush (-2), 2) := by decide +kernel
theorem dX10_linkOf_77 : decode cX10_linkOf 77 = .ok (.invokevirtual 70, 3) := by decide +kernel
theorem dX10_linkOf_80 : decode cX10_linkOf 80 = .ok (.ireturn, 1) := by decide +kernel
theorem dX10_at_0 : decode cX10_at 0 = .ok (.aload_n 0, 1) := by decide +kernel
theorem dX10_at_1 : decode cX10_at 1 = .ok (.iload_n 1, 1) := by decide +kernel
theorem dX10_at_2 : decode cX10_at 2 = .ok (.invokevirtual 106, 3) := by decide +kernel
theorem dX10_at_5 : decode cX10_at 5 = .ok (.ifCond .ne 9, 3) := by decide +kernel
theorem dX10_at_8 : decode cX10_at 8 = .ok (.aload_n 0, 1) := by decide +kernel
theorem dX10_at_9 : decode cX10_at 9 = .ok (.iconst (-1), 1) := by decide +kernel
theorem dX10_at_10 : decode cX10_at 10 = .ok (.invokevirtual 70, 3) := by decide +kernel
theorem dX10_at_13 : decode cX10_at 13 = .ok (.ireturn, 1) := by decide +kernel
theorem dX10_at_14 : decode cX10_at 14 = .ok (.iload_n 2, 1) := by decide +kernel
theorem dX10_at_15 : decode cX10_at 15 = .ok (.ifCond .eq 15, 3) := by decide +kernel
theorem dX10_at_18 : decode cX10_at 18 = .ok (.iload_n 2, 1) := by decide +kernel
theorem dX10_at_19 : decode cX10_at 19 = .ok (.iconst 1, 1) := by decide +kernel
theorem dX10_at_20 : decode cX10_at 20 = .ok (.if_icmp .eq 10, 3) := by decide +kernel
theorem dX10_at_23 : decode cX10_at 23 = .ok (.aload_n 0, 1) := by decide +kernel
theorem dX10_at_24 : decode cX10_at 24 = .ok (.bipush (-2), 2) := by decide +kernel
theorem dX10_at_26 : decode cX10_at 26 = .ok (.invokevirtual 70, 3) := by decide +kernel
theorem dX10_at_29 : decode cX10_at 29 = .ok (.ireturn, 1) := by decide +kernel
theorem dX10_at_30 : decode cX10_at 30 = .ok (.aload_n 0, 1) := by decide +kernel
theorem dX10_at_31 : decode cX10_at 31 = .ok (.getfield 14, 3) := by decide +kernel
theorem dX10_at_34 : decode cX10_at 34 = .ok (.iload_n 1, 1) := by decide +kernel
theorem dX10_at_35 : decode cX10_at 35 = .ok (.invokevirtual 110, 3) := by decide +kernel
theorem dX10_at_38 : decode cX10_at 38 = .ok (.istore_n 3, 1) := by decide +kernel
theorem dX10_at_39 : decode cX10_at 39 = .ok (.iload_n 2, 1) := by decide +kernel
theorem dX10_at_40 : decode cX10_at 40 = .ok (.ifCond .ne 10, 3) := by decide +kernel
theorem dX10_at_43 : decode cX10_at 43 = .ok (.iload_n 3, 1) := by decide +kernel
theorem dX10_at_44 : decode cX10_at 44 = .ok (.invokestatic 113, 3) := by decide +kernel
theorem dX10_at_47 : decode cX10_at 47 = .ok (.goto 7, 3) := by decide +kernel
theorem dX10_at_50 : decode cX10_at 50 = .ok (.iload_n 3, 1) := by decide +kernel
theorem dX10_at_51 : decode cX10_at 51 = .ok (.invokestatic 116, 3) := by decide +kernel
theorem dX10_at_54 : decode cX10_at 54 = .ok (.ireturn, 1) := by decide +kernel
theorem dX10_shape_0 : decode cX10_shape 0 = .ok (.aload_n 0, 1) := by decide +kernel
theorem dX10_shape_1 : decode cX10_shape 1 = .ok (.iload_n 1, 1) := by decide +kernel
theorem dX10_shape_2 : decode cX10_shape 2 = .ok (.iload_n 2, 1) := by decide +kernel
theorem dX10_shape_3 : decode cX10_shape 3 = .ok (.iload_n 3, 1) := by decide +kernel
theorem dX10_shape_4 : decode cX10_shape 4 = .ok (.invokevirtual 119, 3) := by decide +kernel
theorem dX10_shape_7 : decode cX10_shape 7 = .ok (.ifCond .ne 9, 3) := by decide +kernel
theorem dX10_shape_10 : decode cX10_shape 10 = .ok (.aload_n 0, 1) := by decide +kernel
theorem dX10_shape_11 : decode cX10_shape 11 = .ok (.iconst (-1), 1) := by decide +kernel
theorem dX10_shape_12 : decode cX10_shape 12 = .ok (.invokevirtual 70, 3) := by decide +kernel
theorem dX10_shape_15 : decode cX10_shape 15 = .ok (.ireturn, 1) := by decide +kernel
theorem dX10_shape_16 : decode cX10_shape 16 = .ok (.aload_n 0, 1) := by decide +kernel
theorem dX10_shape_17 : decode cX10_shape 17 = .ok (.getfield 38, 3) := by decide +kernel
theorem dX10_shape_20 : decode cX10_shape 20 = .ok (.getfield 123, 3) := by decide +kernel
theorem dX10_shape_23 : decode cX10_shape 23 = .ok (.getfield 127, 3) := by decide +kernel
theorem dX10_shape_26 : decode cX10_shape 26 = .ok (.aload_n 0, 1) := by decide +kernel
theorem dX10_shape_27 : decode cX10_shape 27 = .ok (.getfield 14, 3) := by decide +kernel
theorem dX10_shape_30 : decode cX10_shape 30 = .ok (.iload_n 1, 1) := by decide +kernel
theorem dX10_shape_31 : decode cX10_shape 31 = .ok (.iload_n 2, 1) := by decide +kernel
theorem dX10_shape_32 : decode cX10_shape 32 = .ok (.iload_n 3, 1) := by decide +kernel
theorem dX10_shape_33 : decode cX10_shape 33 = .ok (.invokevirtual 130, 3) := by decide +kernel
theorem dX10_shape_36 : decode cX10_shape 36 = .ok (.iaload, 1) := by decide +kernel
theorem dX10_shape_37 : decode cX10_shape 37 = .ok (.ireturn, 1) := by decide +kernel
theorem dX10_shapeOf_0 : decode cX10_shapeOf 0 = .ok (.iload_n 1, 1) := by decide +kernel
theorem dX10_shapeOf_1 : decode cX10_shapeOf 1 = .ok (.invokestatic 134, 3) := by decide +kernel
theorem dX10_shapeOf_4 : decode cX10_shapeOf 4 = .ok (.ifCond .ne 9, 3) := by decide +kernel
theorem dX10_shapeOf_7 : decode cX10_shapeOf 7 = .ok (.aload_n 0, 1) := by decide +kernel
theorem dX10_shapeOf_8 : decode cX10_shapeOf 8 = .ok (.iconst (-1), 1) := by decide +kernel
theorem dX10_shapeOf_9 : decode cX10_shapeOf 9 = .ok (.invokevirtual 70, 3) := by decide +kernel
theorem dX10_shapeOf_12 : decode cX10_shapeOf 12 = .ok (.ireturn, 1) := by decide +kernel
theorem dX10_shapeOf_13 : decode cX10_shapeOf 13 = .ok (.iload_n 2, 1) := by decide +kernel
theorem dX10_shapeOf_14 : decode cX10_shapeOf 14 = .ok (.tableswitch 81 0 3 #[30, 43, 56, 68], 30) := by decide +kernel
theorem dX10_shapeOf_44 : decode cX10_shapeOf 44 = .ok (.aload_n 0, 1) := by decide +kernel
theorem dX10_shapeOf_45 : decode cX10_shapeOf 45 = .ok (.getfield 38, 3) := by decide +kernel
theorem dX10_shapeOf_48 : decode cX10_shapeOf 48 = .ok (.getfield 123, 3) := by decide +kernel
theorem dX10_shapeOf_51 : decode cX10_shapeOf 51 = .ok (.getfield 137, 3) := by decide +kernel
theorem dX10_shapeOf_54 : decode cX10_shapeOf 54 = .ok (.iload_n 1, 1) := by decide +kernel
theorem dX10_shapeOf_55 : decode cX10_shapeOf 55 = .ok (.iaload, 1) := by decide +kernel
theorem dX10_shapeOf_56 : decode cX10_shapeOf 56 = .ok (.ireturn, 1) := by decide +kernel
theorem dX10_shapeOf_57 : decode cX10_shapeOf 57 = .ok (.aload_n 0, 1) := by decide +kernel
theorem dX10_shapeOf_58 : decode cX10_shapeOf 58 = .ok (.getfield 38, 3) := by decide +kernel
theorem dX10_shapeOf_61 : decode cX10_shapeOf 61 = .ok (.getfield 123, 3) := by decide +kernel
theorem dX10_shapeOf_64 : decode cX10_shapeOf 64 = .ok (.getfield 140, 3) := by decide +kernel
theorem dX10_shapeOf_67 : decode cX10_shapeOf 67 = .ok (.iload_n 1, 1) := by decide +kernel
theorem dX10_shapeOf_68 : decode cX10_shapeOf 68 = .ok (.iaload, 1) := by decide +kernel
theorem dX10_shapeOf_69 : decode cX10_shapeOf 69 = .ok (.ireturn, 1) := by decide +kernel
theorem dX10_shapeOf_70 : decode cX10_shapeOf 70 = .ok (.aload_n 0, 1) := by decide +kernel
theorem dX10_shapeOf_71 : decode cX10_shapeOf 71 = .ok (.getfield 38, 3) := by decide +kernel
theorem dX10_shapeOf_74 : decode cX10_shapeOf 74 = .ok (.getfield 123, 3) := by decide +kernel
theorem dX10_shapeOf_77 : decode cX10_shapeOf 77 = .ok (.iload_n 1, 1) := by decide +kernel
theorem dX10_shapeOf_78 : decode cX10_shapeOf 78 = .ok (.invokevirtual 143, 3) := by decide +kernel
theorem dX10_shapeOf_81 : decode cX10_shapeOf 81 = .ok (.ireturn, 1) := by decide +kernel
theorem dX10_shapeOf_82 : decode cX10_shapeOf 82 = .ok (.aload_n 0, 1) := by decide +kernel
theorem dX10_shapeOf_83 : decode cX10_shapeOf 83 = .ok (.getfield 38, 3) := by decide +kernel
theorem dX10_shapeOf_86 : decode cX10_shapeOf 86 = .ok (.getfield 123, 3) := by decide +kernel
theorem dX10_shapeOf_89 : decode cX10_shapeOf 89 = .ok (.getfield 146, 3) := by decide +kernel
theorem dX10_shapeOf_92 : decode cX10_shapeOf 92 = .ok (.iload_n 1, 1) := by decide +kernel
theorem dX10_shapeOf_93 : decode cX10_shapeOf 93 = .ok (.iaload, 1) := by decide +kernel
theorem dX10_shapeOf_94 : decode cX10_shapeOf 94 = .ok (.ireturn, 1) := by decide +kernel
theorem dX10_shapeOf_95 : decode cX10_shapeOf 95 = .ok (.aload_n 0, 1) := by decide +kernel
theorem dX10_shapeOf_96 : decode cX10_shapeOf 96 = .ok (.bipush (-2), 2) := by decide +kernel
theorem dX10_shapeOf_98 : decode cX10_shapeOf 98 = .ok (.invokevirtual 70, 3) := by decide +kernel
theorem dX10_shapeOf_101 : decode cX10_shapeOf 101 = .ok (.ireturn, 1) := by decide +kernel
theorem dX10_place_0 : decode cX10_place 0 = .ok (.aload_n 0, 1) := by decide +kernel
theorem dX10_place_1 : decode cX10_place 1 = .ok (.iload_n 1, 1) := by decide +kernel
theorem dX10_place_2 : decode cX10_place 2 = .ok (.iload_n 2, 1) := by decide +kernel
theorem dX10_place_3 : decode cX10_place 3 = .ok (.iload_n 3, 1) := by decide +kernel
theorem dX10_place_4 : decode cX10_place 4 = .ok (.invokevirtual 119, 3) := by decide +kernel
theorem dX10_place_7 : decode cX10_place 7 = .ok (.ifCond .ne 9, 3) := by decide +kernel
theorem dX10_place_10 : decode cX10_place 10 = .ok (.aload_n 0, 1) := by decide +kernel
theorem dX10_place_11 : decode cX10_place 11 = .ok (.iconst (-1), 1) := by decide +kernel
theorem dX10_place_12 : decode cX10_place 12 = .ok (.invokevirtual 70, 3) := by decide +kernel
theorem dX10_place_15 : decode cX10_place 15 = .ok (.ireturn, 1) := by decide +kernel
theorem dX10_place_16 : decode cX10_place 16 = .ok (.aload_n 0, 1) := by decide +kernel
theorem dX10_place_17 : decode cX10_place 17 = .ok (.getfield 38, 3) := by decide +kernel
theorem dX10_place_20 : decode cX10_place 20 = .ok (.getfield 123, 3) := by decide +kernel
theorem dX10_place_23 : decode cX10_place 23 = .ok (.aload_n 0, 1) := by decide +kernel
theorem dX10_place_24 : decode cX10_place 24 = .ok (.getfield 14, 3) := by decide +kernel
theorem dX10_place_27 : decode cX10_place 27 = .ok (.iload_n 1, 1) := by decide +kernel
theorem dX10_place_28 : decode cX10_place 28 = .ok (.iload_n 2, 1) := by decide +kernel
theorem dX10_place_29 : decode cX10_place 29 = .ok (.iload_n 3, 1) := by decide +kernel
theorem dX10_place_30 : decode cX10_place 30 = .ok (.invokevirtual 130, 3) := by decide +kernel
theorem dX10_place_33 : decode cX10_place 33 = .ok (.iconst 0, 1) := by decide +kernel
theorem dX10_place_34 : decode cX10_place 34 = .ok (.invokevirtual 149, 3) := by decide +kernel
theorem dX10_place_37 : decode cX10_place 37 = .ok (.ireturn, 1) := by decide +kernel
theorem dX10_count_0 : decode cX10_count 0 = .ok (.iload_n 1, 1) := by decide +kernel
theorem dX10_count_1 : decode cX10_count 1 = .ok (.invokestatic 134, 3) := by decide +kernel
theorem dX10_count_4 : decode cX10_count 4 = .ok (.ifCond .ne 9, 3) := by decide +kernel
theorem dX10_count_7 : decode cX10_count 7 = .ok (.aload_n 0, 1) := by decide +kernel
theorem dX10_count_8 : decode cX10_count 8 = .ok (.iconst (-1), 1) := by decide +kernel
theorem dX10_count_9 : decode cX10_count 9 = .ok (.invokevirtual 70, 3) := by decide +kernel
theorem dX10_count_12 : decode cX10_count 12 = .ok (.ireturn, 1) := by decide +kernel
theorem dX10_count_13 : decode cX10_count 13 = .ok (.aload_n 0, 1) := by decide +kernel
theorem dX10_count_14 : decode cX10_count 14 = .ok (.getfield 38, 3) := by decide +kernel
theorem dX10_count_17 : decode cX10_count 17 = .ok (.aload_n 0, 1) := by decide +kernel
theorem dX10_count_18 : decode cX10_count 18 = .ok (.getfield 14, 3) := by decide +kernel
theorem dX10_count_21 : decode cX10_count 21 = .ok (.iload_n 1, 1) := by decide +kernel
theorem dX10_count_22 : decode cX10_count 22 = .ok (.aload_n 0, 1) := by decide +kernel
theorem dX10_count_23 : decode cX10_count 23 = .ok (.getfield 14, 3) := by decide +kernel
theorem dX10_count_26 : decode cX10_count 26 = .ok (.invokevirtual 152, 3) := by decide +kernel
theorem dX10_count_29 : decode cX10_count 29 = .ok (.invokevirtual 156, 3) := by decide +kernel
theorem dX10_count_32 : decode cX10_count 32 = .ok (.ireturn, 1) := by decide +kernel
theorem dX10_countOf_0 : decode cX10_countOf 0 = .ok (.aload_n 0, 1) := by decide +kernel
theorem dX10_countOf_1 : decode cX10_countOf 1 = .ok (.iload_n 1, 1) := by decide +kernel
theorem dX10_countOf_2 : decode cX10_countOf 2 = .ok (.invokevirtual 160, 3) := by decide +kernel
theorem dX10_countOf_5 : decode cX10_countOf 5 = .ok (.ifCond .eq 10, 3) := by decide +kernel
theorem dX10_countOf_8 : decode cX10_countOf 8 = .ok (.iload_n 2, 1) := by decide +kernel
theorem dX10_countOf_9 : decode cX10_countOf 9 = .ok (.invokestatic 134, 3) := by decide +kernel
theorem dX10_countOf_12 : decode cX10_countOf 12 = .ok (.ifCond .ne 9, 3) := by decide +kernel
theorem dX10_countOf_15 : decode cX10_countOf 15 = .ok (.aload_n 0, 1) := by decide +kernel
theorem dX10_countOf_16 : decode cX10_countOf 16 = .ok (.iconst (-1), 1) := by decide +kernel
theorem dX10_countOf_17 : decode cX10_countOf 17 = .ok (.invokevirtual 70, 3) := by decide +kernel
theorem dX10_countOf_20 : decode cX10_countOf 20 = .ok (.ireturn, 1) := by decide +kernel
theorem dX10_countOf_21 : decode cX10_countOf 21 = .ok (.iload_n 3, 1) := by decide +kernel
theorem dX10_countOf_22 : decode cX10_countOf 22 = .ok (.ifCond .lt 8, 3) := by decide +kernel
theorem dX10_countOf_25 : decode cX10_countOf 25 = .ok (.iload_n 3, 1) := by decide +kernel
theorem dX10_countOf_26 : decode cX10_countOf 26 = .ok (.iconst 3, 1) := by decide +kernel
theorem dX10_countOf_27 : decode cX10_countOf 27 = .ok (.if_icmp .lt 10, 3) := by decide +kernel
theorem dX10_countOf_30 : decode cX10_countOf 30 = .ok (.aload_n 0, 1) := by decide +kernel
theorem dX10_countOf_31 : decode cX10_countOf 31 = .ok (.bipush (-2), 2) := by decide +kernel
theorem dX10_countOf_33 : decode cX10_countOf 33 = .ok (.invokevirtual 70, 3) := by decide +kernel
theorem dX10_countOf_36 : decode cX10_countOf 36 = .ok (.ireturn, 1) := by decide +kernel
theorem dX10_countOf_37 : decode cX10_countOf 37 = .ok (.aload_n 0, 1) := by decide +kernel
theorem dX10_countOf_38 : decode cX10_countOf 38 = .ok (.getfield 38, 3) := by decide +kernel
theorem dX10_countOf_41 : decode cX10_countOf 41 = .ok (.aload_n 0, 1) := by decide +kernel
theorem dX10_countOf_42 : decode cX10_countOf 42 = .ok (.getfield 14, 3) := by decide +kernel
theorem dX10_countOf_45 : decode cX10_countOf 45 = .ok (.invokevirtual 163, 3) := by decide +kernel
theorem dX10_countOf_48 : decode cX10_countOf 48 = .ok (.aload_n 0, 1) := by decide +kernel
theorem dX10_countOf_49 : decode cX10_countOf 49 = .ok (.getfield 38, 3) := by decide +kernel
theorem dX10_countOf_52 : decode cX10_countOf 52 = .ok (.iload_n 1, 1) := by decide +kernel
theorem dX10_countOf_53 : decode cX10_countOf 53 = .ok (.iload_n 2, 1) := by decide +kernel
theorem dX10_countOf_54 : decode cX10_countOf 54 = .ok (.iload_n 3, 1) := by decide +kernel
theorem dX10_countOf_55 : decode cX10_countOf 55 = .ok (.invokevirtual 167, 3) := by decide +kernel
theorem dX10_countOf_58 : decode cX10_countOf 58 = .ok (.ireturn, 1) := by decide +kernel
theorem dX10_role_0 : decode cX10_role 0 = .ok (.aload_n 0, 1) := by decide +kernel
theorem dX10_role_1 : decode cX10_role 1 = .ok (.iload_n 1, 1) := by decide +kernel
theorem dX10_role_2 : decode cX10_role 2 = .ok (.invokevirtual 160, 3) := by decide +kernel
theorem dX10_role_5 : decode cX10_role 5 = .ok (.ifCond .ne 9, 3) := by decide +kernel
theorem dX10_role_8 : decode cX10_role 8 = .ok (.aload_n 0, 1) := by decide +kernel
theorem dX10_role_9 : decode cX10_role 9 = .ok (.iconst (-1), 1) := by decide +kernel
theorem dX10_role_10 : decode cX10_role 10 = .ok (.invokevirtual 70, 3) := by decide +kernel
theorem dX10_role_13 : decode cX10_role 13 = .ok (.ireturn, 1) := by decide +kernel
theorem dX10_role_14 : decode cX10_role 14 = .ok (.aload_n 0, 1) := by decide +kernel
theorem dX10_role_15 : decode cX10_role 15 = .ok (.getfield 38, 3) := by decide +kernel
theorem dX10_role_18 : decode cX10_role 18 = .ok (.aload_n 0, 1) := by decide +kernel
theorem dX10_role_19 : decode cX10_role 19 = .ok (.getfield 14, 3) := by decide +kernel
theorem dX10_role_22 : decode cX10_role 22 = .ok (.invokevirtual 170, 3) := by decide +kernel
theorem dX10_role_25 : decode cX10_role 25 = .ok (.pop, 1) := by decide +kernel
theorem dX10_role_26 : decode cX10_role 26 = .ok (.aload_n 0, 1) := by decide +kernel
theorem dX10_role_27 : decode cX10_role 27 = .ok (.getfield 38, 3) := by decide +kernel
theorem dX10_role_30 : decode cX10_role 30 = .ok (.getfield 174, 3) := by decide +kernel
theorem dX10_role_33 : decode cX10_role 33 = .ok (.iload_n 1, 1) := by decide +kernel
theorem dX10_role_34 : decode cX10_role 34 = .ok (.iaload, 1) := by decide +kernel
theorem dX10_role_35 : decode cX10_role 35 = .ok (.ireturn, 1) := by decide +kernel
theorem dX10_roles_0 : decode cX10_roles 0 = .ok (.aload_n 0, 1) := by decide +kernel
theorem dX10_roles_1 : decode cX10_roles 1 = .ok (.getfield 38, 3) := by decide +kernel
theorem dX10_roles_4 : decode cX10_roles 4 = .ok (.aload_n 0, 1) := by decide +kernel
theorem dX10_roles_5 : decode cX10_roles 5 = .ok (.getfield 14, 3) := by decide +kernel
theorem dX10_roles_8 : decode cX10_roles 8 = .ok (.invokevirtual 170, 3) := by decide +kernel
theorem dX10_roles_11 : decode cX10_roles 11 = .ok (.ireturn, 1) := by decide +kernel
theorem dX10_fours_0 : decode cX10_fours 0 = .ok (.iload_n 1, 1) := by decide +kernel
theorem dX10_fours_1 : decode cX10_fours 1 = .ok (.ifCond .lt 9, 3) := by decide +kernel
theorem dX10_fours_4 : decode cX10_fours 4 = .ok (.iload_n 1, 1) := by decide +kernel
theorem dX10_fours_5 : decode cX10_fours 5 = .ok (.bipush 6, 2) := by decide +kernel
theorem dX10_fours_7 : decode cX10_fours 7 = .ok (.if_icmp .lt 10, 3) := by decide +kernel
theorem dX10_fours_10 : decode cX10_fours 10 = .ok (.aload_n 0, 1) := by decide +kernel
theorem dX10_fours_11 : decode cX10_fours 11 = .ok (.bipush (-2), 2) := by decide +kernel
theorem dX10_fours_13 : decode cX10_fours 13 = .ok (.invokevirtual 70, 3) := by decide +kernel
theorem dX10_fours_16 : decode cX10_fours 16 = .ok (.ireturn, 1) := by decide +kernel
theorem dX10_fours_17 : decode cX10_fours 17 = .ok (.aload_n 0, 1) := by decide +kernel
theorem dX10_fours_18 : decode cX10_fours 18 = .ok (.getfield 14, 3) := by decide +kernel
theorem dX10_fours_21 : decode cX10_fours 21 = .ok (.iload_n 1, 1) := by decide +kernel
theorem dX10_fours_22 : decode cX10_fours 22 = .ok (.invokestatic 177, 3) := by decide +kernel
theorem dX10_fours_25 : decode cX10_fours 25 = .ok (.ireturn, 1) := by decide +kernel
theorem dX10_seed_0 : decode cX10_seed 0 = .ok (.aload_n 0, 1) := by decide +kernel
theorem dX10_seed_1 : decode cX10_seed 1 = .ok (.getfield 52, 3) := by decide +kernel
theorem dX10_seed_4 : decode cX10_seed 4 = .ok (.getfield 183, 3) := by decide +kernel
theorem dX10_seed_7 : decode cX10_seed 7 = .ok (.istore_n 2, 1) := by decide +kernel
theorem dX10_seed_8 : decode cX10_seed 8 = .ok (.aload_n 0, 1) := by decide +kernel
theorem dX10_seed_9 : decode cX10_seed 9 = .ok (.getfield 52, 3) := by decide +kernel
theorem dX10_seed_12 : decode cX10_seed 12 = .ok (.iload_n 1, 1) := by decide +kernel
theorem dX10_seed_13 : decode cX10_seed 13 = .ok (.putfield 183, 3) := by decide +kernel
theorem dX10_seed_16 : decode cX10_seed 16 = .ok (.iload_n 2, 1) := by decide +kernel
theorem dX10_seed_17 : decode cX10_seed 17 = .ok (.ireturn, 1) := by decide +kernel
theorem dX10_swap_0 : decode cX10_swap 0 = .ok (.aload_n 0, 1) := by decide +kernel
theorem dX10_swap_1 : decode cX10_swap 1 = .ok (.iload_n 1, 1) := by decide +kernel
theorem dX10_swap_2 : decode cX10_swap 2 = .ok (.invokevirtual 106, 3) := by decide +kernel
theorem dX10_swap_5 : decode cX10_swap 5 = .ok (.ifCond .eq 16, 3) := by decide +kernel
theorem dX10_swap_8 : decode cX10_swap 8 = .ok (.aload_n 0, 1) := by decide +kernel
theorem dX10_swap_9 : decode cX10_swap 9 = .ok (.iload_n 2, 1) := by decide +kernel
theorem dX10_swap_10 : decode cX10_swap 10 = .ok (.invokevirtual 106, 3) := by decide +kernel
theorem dX10_swap_13 : decode cX10_swap 13 = .ok (.ifCond .eq 8, 3) := by decide +kernel
theorem dX10_swap_16 : decode cX10_swap 16 = .ok (.iload_n 1, 1) := by decide +kernel
theorem dX10_swap_17 : decode cX10_swap 17 = .ok (.iload_n 2, 1) := by decide +kernel
theorem dX10_swap_18 : decode cX10_swap 18 = .ok (.if_icmp .ne 9, 3) := by decide +kernel
theorem dX10_swap_21 : decode cX10_swap 21 = .ok (.aload_n 0, 1) := by decide +kernel
theorem dX10_swap_22 : decode cX10_swap 22 = .ok (.iconst (-1), 1) := by decide +kernel
theorem dX10_swap_23 : decode cX10_swap 23 = .ok (.invokevirtual 70, 3) := by decide +kernel
theorem dX10_swap_26 : decode cX10_swap 26 = .ok (.ireturn, 1) := by decide +kernel
theorem dX10_swap_27 : decode cX10_swap 27 = .ok (.aload_n 0, 1) := by decide +kernel
theorem dX10_swap_28 : decode cX10_swap 28 = .ok (.getfield 14, 3) := by decide +kernel
theorem dX10_swap_31 : decode cX10_swap 31 = .ok (.aload_n 0, 1) := by decide +kernel
theorem dX10_swap_32 : decode cX10_swap 32 = .ok (.getfield 14, 3) := by decide +kernel
theorem dX10_swap_35 : decode cX10_swap 35 = .ok (.iload_n 1, 1) := by decide +kernel
theorem dX10_swap_36 : decode cX10_swap 36 = .ok (.invokevirtual 110, 3) := by decide +kernel
theorem dX10_swap_39 : decode cX10_swap 39 = .ok (.aload_n 0, 1) := by decide +kernel
theorem dX10_swap_40 : decode cX10_swap 40 = .ok (.getfield 14, 3) := by decide +kernel
theorem dX10_swap_43 : decode cX10_swap 43 = .ok (.iload_n 2, 1) := by decide +kernel
theorem dX10_swap_44 : decode cX10_swap 44 = .ok (.invokevirtual 110, 3) := by decide +kernel
theorem dX10_swap_47 : decode cX10_swap 47 = .ok (.invokevirtual 186, 3) := by decide +kernel
theorem dX10_swap_50 : decode cX10_swap 50 = .ok (.ifCond .ne 10, 3) := by decide +kernel
theorem dX10_swap_53 : decode cX10_swap 53 = .ok (.aload_n 0, 1) := by decide +kernel
theorem dX10_swap_54 : decode cX10_swap 54 = .ok (.bipush (-3), 2) := by decide +kernel
theorem dX10_swap_56 : decode cX10_swap 56 = .ok (.invokevirtual 70, 3) := by decide +kernel
theorem dX10_swap_59 : decode cX10_swap 59 = .ok (.ireturn, 1) := by decide +kernel
theorem dX10_swap_60 : decode cX10_swap 60 = .ok (.iconst 1, 1) := by decide +kernel
theorem dX10_swap_61 : decode cX10_swap 61 = .ok (.ireturn, 1) := by decide +kernel
theorem dX10_mix_0 : decode cX10_mix 0 = .ok (.iload_n 1, 1) := by decide +kernel
theorem dX10_mix_1 : decode cX10_mix 1 = .ok (.ifCond .ge 10, 3) := by decide +kernel
theorem dX10_mix_4 : decode cX10_mix 4 = .ok (.aload_n 0, 1) := by decide +kernel
theorem dX10_mix_5 : decode cX10_mix 5 = .ok (.bipush (-4), 2) := by decide +kernel
theorem dX10_mix_7 : decode cX10_mix 7 = .ok (.invokevirtual 70, 3) := by decide +kernel
theorem dX10_mix_10 : decode cX10_mix 10 = .ok (.ireturn, 1) := by decide +kernel
theorem dX10_mix_11 : decode cX10_mix 11 = .ok (.iload_n 1, 1) := by decide +kernel
theorem dX10_mix_12 : decode cX10_mix 12 = .ok (.sipush 500, 3) := by decide +kernel
theorem dX10_mix_15 : decode cX10_mix 15 = .ok (.if_icmp .le 10, 3) := by decide +kernel
theorem dX10_mix_18 : decode cX10_mix 18 = .ok (.aload_n 0, 1) := by decide +kernel
theorem dX10_mix_19 : decode cX10_mix 19 = .ok (.bipush (-6), 2) := by decide +kernel
theorem dX10_mix_21 : decode cX10_mix 21 = .ok (.invokevirtual 70, 3) := by decide +kernel
theorem dX10_mix_24 : decode cX10_mix 24 = .ok (.ireturn, 1) := by decide +kernel
theorem dX10_mix_25 : decode cX10_mix 25 = .ok (.aload_n 0, 1) := by decide +kernel
theorem dX10_mix_26 : decode cX10_mix 26 = .ok (.getfield 14, 3) := by decide +kernel
theorem dX10_mix_29 : decode cX10_mix 29 = .ok (.invokevirtual 189, 3) := by decide +kernel
theorem dX10_mix_32 : decode cX10_mix 32 = .ok (.iconst 2, 1) := by decide +kernel
theorem dX10_mix_33 : decode cX10_mix 33 = .ok (.if_icmp .ge 10, 3) := by decide +kernel
theorem dX10_mix_36 : decode cX10_mix 36 = .ok (.aload_n 0, 1) := by decide +kernel
theorem dX10_mix_37 : decode cX10_mix 37 = .ok (.bipush (-3), 2) := by decide +kernel
theorem dX10_mix_39 : decode cX10_mix 39 = .ok (.invokevirtual 70, 3) := by decide +kernel
theorem dX10_mix_42 : decode cX10_mix 42 = .ok (.ireturn, 1) := by decide +kernel
theorem dX10_mix_43 : decode cX10_mix 43 = .ok (.aload_n 0, 1) := by decide +kernel
theorem dX10_mix_44 : decode cX10_mix 44 = .ok (.getfield 52, 3) := by decide +kernel
theorem dX10_mix_47 : decode cX10_mix 47 = .ok (.aload_n 0, 1) := by decide +kernel
theorem dX10_mix_48 : decode cX10_mix 48 = .ok (.getfield 14, 3) := by decide +kernel
theorem dX10_mix_51 : decode cX10_mix 51 = .ok (.iload_n 1, 1) := by decide +kernel
theorem dX10_mix_52 : decode cX10_mix 52 = .ok (.invokevirtual 191, 3) := by decide +kernel
theorem dX10_mix_55 : decode cX10_mix 55 = .ok (.ireturn, 1) := by decide +kernel
theorem dX10_mean_0 : decode cX10_mean 0 = .ok (.iload_n 1, 1) := by decide +kernel
theorem dX10_mean_1 : decode cX10_mean 1 = .ok (.invokestatic 134, 3) := by decide +kernel
theorem dX10_mean_4 : decode cX10_mean 4 = .ok (.ifCond .ne 10, 3) := by decide +kernel
