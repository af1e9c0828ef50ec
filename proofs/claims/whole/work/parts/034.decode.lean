theorem dX11_chains_82 : decode cX11_chains 82 = .ok (.irem, 1) := by decide +kernel
theorem dX11_chains_83 : decode cX11_chains 83 = .ok (.imul, 1) := by decide +kernel
theorem dX11_chains_84 : decode cX11_chains 84 = .ok (.iload 5, 2) := by decide +kernel
theorem dX11_chains_86 : decode cX11_chains 86 = .ok (.iadd, 1) := by decide +kernel
theorem dX11_chains_87 : decode cX11_chains 87 = .ok (.istore 6, 2) := by decide +kernel
theorem dX11_chains_89 : decode cX11_chains 89 = .ok (.aload_n 0, 1) := by decide +kernel
theorem dX11_chains_90 : decode cX11_chains 90 = .ok (.getfield 21, 3) := by decide +kernel
theorem dX11_chains_93 : decode cX11_chains 93 = .ok (.iload 6, 2) := by decide +kernel
theorem dX11_chains_95 : decode cX11_chains 95 = .ok (.iaload, 1) := by decide +kernel
theorem dX11_chains_96 : decode cX11_chains 96 = .ok (.aload_n 0, 1) := by decide +kernel
theorem dX11_chains_97 : decode cX11_chains 97 = .ok (.getfield 21, 3) := by decide +kernel
theorem dX11_chains_100 : decode cX11_chains 100 = .ok (.iload 4, 2) := by decide +kernel
theorem dX11_chains_102 : decode cX11_chains 102 = .ok (.iaload, 1) := by decide +kernel
theorem dX11_chains_103 : decode cX11_chains 103 = .ok (.isub, 1) := by decide +kernel
theorem dX11_chains_104 : decode cX11_chains 104 = .ok (.istore 7, 2) := by decide +kernel
theorem dX11_chains_106 : decode cX11_chains 106 = .ok (.iload_n 3, 1) := by decide +kernel
theorem dX11_chains_107 : decode cX11_chains 107 = .ok (.aload_n 0, 1) := by decide +kernel
theorem dX11_chains_108 : decode cX11_chains 108 = .ok (.getfield 13, 3) := by decide +kernel
theorem dX11_chains_111 : decode cX11_chains 111 = .ok (.iload 6, 2) := by decide +kernel
theorem dX11_chains_113 : decode cX11_chains 113 = .ok (.baload, 1) := by decide +kernel
theorem dX11_chains_114 : decode cX11_chains 114 = .ok (.ifCond .eq 45, 3) := by decide +kernel
theorem dX11_chains_117 : decode cX11_chains 117 = .ok (.iload 7, 2) := by decide +kernel
theorem dX11_chains_119 : decode cX11_chains 119 = .ok (.ifCond .le 40, 3) := by decide +kernel
theorem dX11_chains_122 : decode cX11_chains 122 = .ok (.iload 7, 2) := by decide +kernel
theorem dX11_chains_124 : decode cX11_chains 124 = .ok (.iload_n 1, 1) := by decide +kernel
theorem dX11_chains_125 : decode cX11_chains 125 = .ok (.if_icmp .gt 34, 3) := by decide +kernel
theorem dX11_chains_128 : decode cX11_chains 128 = .ok (.iload 5, 2) := by decide +kernel
theorem dX11_chains_130 : decode cX11_chains 130 = .ok (.iload 4, 2) := by decide +kernel
theorem dX11_chains_132 : decode cX11_chains 132 = .ok (.bipush 16, 2) := by decide +kernel
theorem dX11_chains_134 : decode cX11_chains 134 = .ok (.idiv, 1) := by decide +kernel
theorem dX11_chains_135 : decode cX11_chains 135 = .ok (.if_icmp .ne 7, 3) := by decide +kernel
theorem dX11_chains_138 : decode cX11_chains 138 = .ok (.iconst 1, 1) := by decide +kernel
theorem dX11_chains_139 : decode cX11_chains 139 = .ok (.goto 4, 3) := by decide +kernel
theorem dX11_chains_142 : decode cX11_chains 142 = .ok (.iconst 0, 1) := by decide +kernel
theorem dX11_chains_143 : decode cX11_chains 143 = .ok (.iload_n 2, 1) := by decide +kernel
theorem dX11_chains_144 : decode cX11_chains 144 = .ok (.ifCond .ne 7, 3) := by decide +kernel
theorem dX11_chains_147 : decode cX11_chains 147 = .ok (.iconst 1, 1) := by decide +kernel
theorem dX11_chains_148 : decode cX11_chains 148 = .ok (.goto 4, 3) := by decide +kernel
theorem dX11_chains_151 : decode cX11_chains 151 = .ok (.iconst 0, 1) := by decide +kernel
theorem dX11_chains_152 : decode cX11_chains 152 = .ok (.if_icmp .ne 7, 3) := by decide +kernel
theorem dX11_chains_155 : decode cX11_chains 155 = .ok (.iconst 1, 1) := by decide +kernel
theorem dX11_chains_156 : decode cX11_chains 156 = .ok (.goto 4, 3) := by decide +kernel
theorem dX11_chains_159 : decode cX11_chains 159 = .ok (.iconst 0, 1) := by decide +kernel
theorem dX11_chains_160 : decode cX11_chains 160 = .ok (.iadd, 1) := by decide +kernel
theorem dX11_chains_161 : decode cX11_chains 161 = .ok (.istore_n 3, 1) := by decide +kernel
theorem dX11_chains_162 : decode cX11_chains 162 = .ok (.iinc 5 1, 3) := by decide +kernel
theorem dX11_chains_165 : decode cX11_chains 165 = .ok (.goto (-108), 3) := by decide +kernel
theorem dX11_chains_168 : decode cX11_chains 168 = .ok (.iinc 4 1, 3) := by decide +kernel
theorem dX11_chains_171 : decode cX11_chains 171 = .ok (.goto (-125), 3) := by decide +kernel
theorem dX11_chains_174 : decode cX11_chains 174 = .ok (.iload_n 3, 1) := by decide +kernel
theorem dX11_chains_175 : decode cX11_chains 175 = .ok (.ireturn, 1) := by decide +kernel
theorem dX11_burst_0 : decode cX11_burst 0 = .ok (.aload_n 0, 1) := by decide +kernel
theorem dX11_burst_1 : decode cX11_burst 1 = .ok (.iload_n 1, 1) := by decide +kernel
theorem dX11_burst_2 : decode cX11_burst 2 = .ok (.invokevirtual 108, 3) := by decide +kernel
theorem dX11_burst_5 : decode cX11_burst 5 = .ok (.ifCond .ne 9, 3) := by decide +kernel
theorem dX11_burst_8 : decode cX11_burst 8 = .ok (.aload_n 0, 1) := by decide +kernel
theorem dX11_burst_9 : decode cX11_burst 9 = .ok (.iconst (-1), 1) := by decide +kernel
theorem dX11_burst_10 : decode cX11_burst 10 = .ok (.invokevirtual 104, 3) := by decide +kernel
theorem dX11_burst_13 : decode cX11_burst 13 = .ok (.ireturn, 1) := by decide +kernel
theorem dX11_burst_14 : decode cX11_burst 14 = .ok (.iload_n 2, 1) := by decide +kernel
theorem dX11_burst_15 : decode cX11_burst 15 = .ok (.ifCond .ge 10, 3) := by decide +kernel
theorem dX11_burst_18 : decode cX11_burst 18 = .ok (.aload_n 0, 1) := by decide +kernel
theorem dX11_burst_19 : decode cX11_burst 19 = .ok (.bipush (-4), 2) := by decide +kernel
theorem dX11_burst_21 : decode cX11_burst 21 = .ok (.invokevirtual 104, 3) := by decide +kernel
theorem dX11_burst_24 : decode cX11_burst 24 = .ok (.ireturn, 1) := by decide +kernel
theorem dX11_burst_25 : decode cX11_burst 25 = .ok (.iload_n 2, 1) := by decide +kernel
theorem dX11_burst_26 : decode cX11_burst 26 = .ok (.sipush 1000, 3) := by decide +kernel
theorem dX11_burst_29 : decode cX11_burst 29 = .ok (.if_icmp .le 10, 3) := by decide +kernel
theorem dX11_burst_32 : decode cX11_burst 32 = .ok (.aload_n 0, 1) := by decide +kernel
theorem dX11_burst_33 : decode cX11_burst 33 = .ok (.bipush (-6), 2) := by decide +kernel
theorem dX11_burst_35 : decode cX11_burst 35 = .ok (.invokevirtual 104, 3) := by decide +kernel
theorem dX11_burst_38 : decode cX11_burst 38 = .ok (.ireturn, 1) := by decide +kernel
theorem dX11_burst_39 : decode cX11_burst 39 = .ok (.iconst 0, 1) := by decide +kernel
theorem dX11_burst_40 : decode cX11_burst 40 = .ok (.istore_n 3, 1) := by decide +kernel
theorem dX11_burst_41 : decode cX11_burst 41 = .ok (.iconst 0, 1) := by decide +kernel
theorem dX11_burst_42 : decode cX11_burst 42 = .ok (.istore 4, 2) := by decide +kernel
theorem dX11_burst_44 : decode cX11_burst 44 = .ok (.iload 4, 2) := by decide +kernel
theorem dX11_burst_46 : decode cX11_burst 46 = .ok (.aload_n 0, 1) := by decide +kernel
theorem dX11_burst_47 : decode cX11_burst 47 = .ok (.getfield 7, 3) := by decide +kernel
theorem dX11_burst_50 : decode cX11_burst 50 = .ok (.if_icmp .ge 111, 3) := by decide +kernel
theorem dX11_burst_53 : decode cX11_burst 53 = .ok (.iconst 0, 1) := by decide +kernel
theorem dX11_burst_54 : decode cX11_burst 54 = .ok (.istore 5, 2) := by decide +kernel
theorem dX11_burst_56 : decode cX11_burst 56 = .ok (.iconst 0, 1) := by decide +kernel
theorem dX11_burst_57 : decode cX11_burst 57 = .ok (.istore 6, 2) := by decide +kernel
theorem dX11_burst_59 : decode cX11_burst 59 = .ok (.iload 6, 2) := by decide +kernel
theorem dX11_burst_61 : decode cX11_burst 61 = .ok (.aload_n 0, 1) := by decide +kernel
theorem dX11_burst_62 : decode cX11_burst 62 = .ok (.getfield 7, 3) := by decide +kernel
theorem dX11_burst_65 : decode cX11_burst 65 = .ok (.if_icmp .ge 77, 3) := by decide +kernel
theorem dX11_burst_68 : decode cX11_burst 68 = .ok (.aload_n 0, 1) := by decide +kernel
theorem dX11_burst_69 : decode cX11_burst 69 = .ok (.iload_n 1, 1) := by decide +kernel
theorem dX11_burst_70 : decode cX11_burst 70 = .ok (.iload 4, 2) := by decide +kernel
theorem dX11_burst_72 : decode cX11_burst 72 = .ok (.invokevirtual 96, 3) := by decide +kernel
theorem dX11_burst_75 : decode cX11_burst 75 = .ok (.ifCond .eq 67, 3) := by decide +kernel
theorem dX11_burst_78 : decode cX11_burst 78 = .ok (.aload_n 0, 1) := by decide +kernel
theorem dX11_burst_79 : decode cX11_burst 79 = .ok (.getfield 21, 3) := by decide +kernel
theorem dX11_burst_82 : decode cX11_burst 82 = .ok (.bipush 16, 2) := by decide +kernel
theorem dX11_burst_84 : decode cX11_burst 84 = .ok (.iload_n 1, 1) := by decide +kernel
theorem dX11_burst_85 : decode cX11_burst 85 = .ok (.imul, 1) := by decide +kernel
theorem dX11_burst_86 : decode cX11_burst 86 = .ok (.iload 6, 2) := by decide +kernel
theorem dX11_burst_88 : decode cX11_burst 88 = .ok (.iadd, 1) := by decide +kernel
theorem dX11_burst_89 : decode cX11_burst 89 = .ok (.iaload, 1) := by decide +kernel
theorem dX11_burst_90 : decode cX11_burst 90 = .ok (.aload_n 0, 1) := by decide +kernel
theorem dX11_burst_91 : decode cX11_burst 91 = .ok (.getfield 21, 3) := by decide +kernel
theorem dX11_burst_94 : decode cX11_burst 94 = .ok (.bipush 16, 2) := by decide +kernel
theorem dX11_burst_96 : decode cX11_burst 96 = .ok (.iload_n 1, 1) := by decide +kernel
theorem dX11_burst_97 : decode cX11_burst 97 = .ok (.imul, 1) := by decide +kernel
theorem dX11_burst_98 : decode cX11_burst 98 = .ok (.iload 4, 2) := by decide +kernel
theorem dX11_burst_100 : decode cX11_burst 100 = .ok (.iadd, 1) := by decide +kernel
theorem dX11_burst_101 : decode cX11_burst 101 = .ok (.iaload, 1) := by decide +kernel
theorem dX11_burst_102 : decode cX11_burst 102 = .ok (.isub, 1) := by decide +kernel
theorem dX11_burst_103 : decode cX11_burst 103 = .ok (.istore 7, 2) := by decide +kernel
theorem dX11_burst_105 : decode cX11_burst 105 = .ok (.iload 5, 2) := by decide +kernel
theorem dX11_burst_107 : decode cX11_burst 107 = .ok (.aload_n 0, 1) := by decide +kernel
theorem dX11_burst_108 : decode cX11_burst 108 = .ok (.iload_n 1, 1) := by decide +kernel
theorem dX11_burst_109 : decode cX11_burst 109 = .ok (.iload 6, 2) := by decide +kernel
theorem dX11_burst_111 : decode cX11_burst 111 = .ok (.invokevirtual 96, 3) := by decide +kernel
theorem dX11_burst_114 : decode cX11_burst 114 = .ok (.ifCond .eq 18, 3) := by decide +kernel
theorem dX11_burst_117 : decode cX11_burst 117 = .ok (.iload 7, 2) := by decide +kernel
theorem dX11_burst_119 : decode cX11_burst 119 = .ok (.ifCond .lt 13, 3) := by decide +kernel
theorem dX11_burst_122 : decode cX11_burst 122 = .ok (.iload 7, 2) := by decide +kernel
theorem dX11_burst_124 : decode cX11_burst 124 = .ok (.iload_n 2, 1) := by decide +kernel
theorem dX11_burst_125 : decode cX11_burst 125 = .ok (.if_icmp .gt 7, 3) := by decide +kernel
theorem dX11_burst_128 : decode cX11_burst 128 = .ok (.iconst 1, 1) := by decide +kernel
theorem dX11_burst_129 : decode cX11_burst 129 = .ok (.goto 4, 3) := by decide +kernel
theorem dX11_burst_132 : decode cX11_burst 132 = .ok (.iconst 0, 1) := by decide +kernel
theorem dX11_burst_133 : decode cX11_burst 133 = .ok (.iadd, 1) := by decide +kernel
theorem dX11_burst_134 : decode cX11_burst 134 = .ok (.istore 5, 2) := by decide +kernel
theorem dX11_burst_136 : decode cX11_burst 136 = .ok (.iinc 6 1, 3) := by decide +kernel
theorem dX11_burst_139 : decode cX11_burst 139 = .ok (.goto (-80), 3) := by decide +kernel
theorem dX11_burst_142 : decode cX11_burst 142 = .ok (.iload 5, 2) := by decide +kernel
theorem dX11_burst_144 : decode cX11_burst 144 = .ok (.iload_n 3, 1) := by decide +kernel
theorem dX11_burst_145 : decode cX11_burst 145 = .ok (.if_icmp .le 8, 3) := by decide +kernel
theorem dX11_burst_148 : decode cX11_burst 148 = .ok (.iload 5, 2) := by decide +kernel
theorem dX11_burst_150 : decode cX11_burst 150 = .ok (.goto 4, 3) := by decide +kernel
theorem dX11_burst_153 : decode cX11_burst 153 = .ok (.iload_n 3, 1) := by decide +kernel
theorem dX11_burst_154 : decode cX11_burst 154 = .ok (.istore_n 3, 1) := by decide +kernel
theorem dX11_burst_155 : decode cX11_burst 155 = .ok (.iinc 4 1, 3) := by decide +kernel
theorem dX11_burst_158 : decode cX11_burst 158 = .ok (.goto (-114), 3) := by decide +kernel
theorem dX11_burst_161 : decode cX11_burst 161 = .ok (.iload_n 3, 1) := by decide +kernel
theorem dX11_burst_162 : decode cX11_burst 162 = .ok (.ireturn, 1) := by decide +kernel
theorem dX11_isAgainst_0 : decode cX11_isAgainst 0 = .ok (.aload_n 0, 1) := by decide +kernel
theorem dX11_isAgainst_1 : decode cX11_isAgainst 1 = .ok (.iload_n 1, 1) := by decide +kernel
theorem dX11_isAgainst_2 : decode cX11_isAgainst 2 = .ok (.iload_n 2, 1) := by decide +kernel
theorem dX11_isAgainst_3 : decode cX11_isAgainst 3 = .ok (.invokevirtual 96, 3) := by decide +kernel
theorem dX11_isAgainst_6 : decode cX11_isAgainst 6 = .ok (.ifCond .eq 18, 3) := by decide +kernel
theorem dX11_isAgainst_9 : decode cX11_isAgainst 9 = .ok (.aload_n 0, 1) := by decide +kernel
theorem dX11_isAgainst_10 : decode cX11_isAgainst 10 = .ok (.getfield 17, 3) := by decide +kernel
theorem dX11_isAgainst_13 : decode cX11_isAgainst 13 = .ok (.bipush 16, 2) := by decide +kernel
theorem dX11_isAgainst_15 : decode cX11_isAgainst 15 = .ok (.iload_n 1, 1) := by decide +kernel
theorem dX11_isAgainst_16 : decode cX11_isAgainst 16 = .ok (.imul, 1) := by decide +kernel
theorem dX11_isAgainst_17 : decode cX11_isAgainst 17 = .ok (.iload_n 2, 1) := by decide +kernel
theorem dX11_isAgainst_18 : decode cX11_isAgainst 18 = .ok (.iadd, 1) := by decide +kernel
theorem dX11_isAgainst_19 : decode cX11_isAgainst 19 = .ok (.iaload, 1) := by decide +kernel
theorem dX11_isAgainst_20 : decode cX11_isAgainst 20 = .ok (.iconst 1, 1) := by decide +kernel
theorem dX11_isAgainst_21 : decode cX11_isAgainst 21 = .ok (.if_icmp .eq 27, 3) := by decide +kernel
theorem dX11_isAgainst_24 : decode cX11_isAgainst 24 = .ok (.aload_n 0, 1) := by decide +kernel
theorem dX11_isAgainst_25 : decode cX11_isAgainst 25 = .ok (.iload_n 2, 1) := by decide +kernel
theorem dX11_isAgainst_26 : decode cX11_isAgainst 26 = .ok (.iload_n 1, 1) := by decide +kernel
theorem dX11_isAgainst_27 : decode cX11_isAgainst 27 = .ok (.invokevirtual 96, 3) := by decide +kernel
theorem dX11_isAgainst_30 : decode cX11_isAgainst 30 = .ok (.ifCond .eq 22, 3) := by decide +kernel
theorem dX11_isAgainst_33 : decode cX11_isAgainst 33 = .ok (.aload_n 0, 1) := by decide +kernel
theorem dX11_isAgainst_34 : decode cX11_isAgainst 34 = .ok (.getfield 17, 3) := by decide +kernel
theorem dX11_isAgainst_37 : decode cX11_isAgainst 37 = .ok (.bipush 16, 2) := by decide +kernel
theorem dX11_isAgainst_39 : decode cX11_isAgainst 39 = .ok (.iload_n 2, 1) := by decide +kernel
theorem dX11_isAgainst_40 : decode cX11_isAgainst 40 = .ok (.imul, 1) := by decide +kernel
theorem dX11_isAgainst_41 : decode cX11_isAgainst 41 = .ok (.iload_n 1, 1) := by decide +kernel
theorem dX11_isAgainst_42 : decode cX11_isAgainst 42 = .ok (.iadd, 1) := by decide +kernel
theorem dX11_isAgainst_43 : decode cX11_isAgainst 43 = .ok (.iaload, 1) := by decide +kernel
theorem dX11_isAgainst_44 : decode cX11_isAgainst 44 = .ok (.iconst 1, 1) := by decide +kernel
theorem dX11_isAgainst_45 : decode cX11_isAgainst 45 = .ok (.if_icmp .ne 7, 3) := by decide +kernel
theorem dX11_isAgainst_48 : decode cX11_isAgainst 48 = .ok (.iconst 1, 1) := by decide +kernel
theorem dX11_isAgainst_49 : decode cX11_isAgainst 49 = .ok (.goto 4, 3) := by decide +kernel
theorem dX11_isAgainst_52 : decode cX11_isAgainst 52 = .ok (.iconst 0, 1) := by decide +kernel
theorem dX11_isAgainst_53 : decode cX11_isAgainst 53 = .ok (.ireturn, 1) := by decide +kernel
theorem dX11_signs_0 : decode cX11_signs 0 = .ok (.iload_n 1, 1) := by decide +kernel
theorem dX11_signs_1 : decode cX11_signs 1 = .ok (.iconst 0, 1) := by decide +kernel
theorem dX11_signs_2 : decode cX11_signs 2 = .ok (.iconst 1, 1) := by decide +kernel
theorem dX11_signs_3 : decode cX11_signs 3 = .ok (.invokestatic 86, 3) := by decide +kernel
theorem dX11_signs_6 : decode cX11_signs 6 = .ok (.ifCond .ne 10, 3) := by decide +kernel
theorem dX11_signs_9 : decode cX11_signs 9 = .ok (.aload_n 0, 1) := by decide +kernel
theorem dX11_signs_10 : decode cX11_signs 10 = .ok (.bipush (-2), 2) := by decide +kernel
theorem dX11_signs_12 : decode cX11_signs 12 = .ok (.invokevirtual 104, 3) := by decide +kernel
theorem dX11_signs_15 : decode cX11_signs 15 = .ok (.ireturn, 1) := by decide +kernel
theorem dX11_signs_16 : decode cX11_signs 16 = .ok (.iconst 0, 1) := by decide +kernel
theorem dX11_signs_17 : decode cX11_signs 17 = .ok (.istore_n 2, 1) := by decide +kernel
theorem dX11_signs_18 : decode cX11_signs 18 = .ok (.iconst 0, 1) := by decide +kernel
theorem dX11_signs_19 : decode cX11_signs 19 = .ok (.istore_n 3, 1) := by decide +kernel
theorem dX11_signs_20 : decode cX11_signs 20 = .ok (.iload_n 3, 1) := by decide +kernel
theorem dX11_signs_21 : decode cX11_signs 21 = .ok (.aload_n 0, 1) := by decide +kernel
theorem dX11_signs_22 : decode cX11_signs 22 = .ok (.getfield 7, 3) := by decide +kernel
theorem dX11_signs_25 : decode cX11_signs 25 = .ok (.if_icmp .ge 147, 3) := by decide +kernel
theorem dX11_signs_28 : decode cX11_signs 28 = .ok (.iload_n 3, 1) := by decide +kernel
theorem dX11_signs_29 : decode cX11_signs 29 = .ok (.iconst 1, 1) := by decide +kernel
theorem dX11_signs_30 : decode cX11_signs 30 = .ok (.iadd, 1) := by decide +kernel
theorem dX11_signs_31 : decode cX11_signs 31 = .ok (.istore 4, 2) := by decide +kernel
theorem dX11_signs_33 : decode cX11_signs 33 = .ok (.iload 4, 2) := by decide +kernel
theorem dX11_signs_35 : decode cX11_signs 35 = .ok (.aload_n 0, 1) := by decide +kernel
theorem dX11_signs_36 : decode cX11_signs 36 = .ok (.getfield 7, 3) := by decide +kernel
theorem dX11_signs_39 : decode cX11_signs 39 = .ok (.if_icmp .ge 127, 3) := by decide +kernel
theorem dX11_signs_42 : decode cX11_signs 42 = .ok (.iload 4, 2) := by decide +kernel
theorem dX11_signs_44 : decode cX11_signs 44 = .ok (.iconst 1, 1) := by decide +kernel
theorem dX11_signs_45 : decode cX11_signs 45 = .ok (.iadd, 1) := by decide +kernel
theorem dX11_signs_46 : decode cX11_signs 46 = .ok (.istore 5, 2) := by decide +kernel
theorem dX11_signs_48 : decode cX11_signs 48 = .ok (.iload 5, 2) := by decide +kernel
theorem dX11_signs_50 : decode cX11_signs 50 = .ok (.aload_n 0, 1) := by decide +kernel
theorem dX11_signs_51 : decode cX11_signs 51 = .ok (.getfield 7, 3) := by decide +kernel
theorem dX11_signs_54 : decode cX11_signs 54 = .ok (.if_icmp .ge 106, 3) := by decide +kernel
theorem dX11_signs_57 : decode cX11_signs 57 = .ok (.aload_n 0, 1) := by decide +kernel
theorem dX11_signs_58 : decode cX11_signs 58 = .ok (.iload_n 3, 1) := by decide +kernel
theorem dX11_signs_59 : decode cX11_signs 59 = .ok (.iload 4, 2) := by decide +kernel
theorem dX11_signs_61 : decode cX11_signs 61 = .ok (.invokevirtual 143, 3) := by decide +kernel
theorem dX11_signs_64 : decode cX11_signs 64 = .ok (.ifCond .eq 90, 3) := by decide +kernel
theorem dX11_signs_67 : decode cX11_signs 67 = .ok (.aload_n 0, 1) := by decide +kernel
theorem dX11_signs_68 : decode cX11_signs 68 = .ok (.iload_n 3, 1) := by decide +kernel
theorem dX11_signs_69 : decode cX11_signs 69 = .ok (.iload 5, 2) := by decide +kernel
theorem dX11_signs_71 : decode cX11_signs 71 = .ok (.invokevirtual 143, 3) := by decide +kernel
theorem dX11_signs_74 : decode cX11_signs 74 = .ok (.ifCond .eq 80, 3) := by decide +kernel
theorem dX11_signs_77 : decode cX11_signs 77 = .ok (.aload_n 0, 1) := by decide +kernel
theorem dX11_signs_78 : decode cX11_signs 78 = .ok (.iload 4, 2) := by decide +kernel
theorem dX11_signs_80 : decode cX11_signs 80 = .ok (.iload 5, 2) := by decide +kernel
theorem dX11_signs_82 : decode cX11_signs 82 = .ok (.invokevirtual 143, 3) := by decide +kernel
theorem dX11_signs_85 : decode cX11_signs 85 = .ok (.ifCond .eq 69, 3) := by decide +kernel
theorem dX11_signs_88 : decode cX11_signs 88 = .ok (.aload_n 0, 1) := by decide +kernel
theorem dX11_signs_89 : decode cX11_signs 89 = .ok (.iload_n 3, 1) := by decide +kernel
theorem dX11_signs_90 : decode cX11_signs 90 = .ok (.iload 4, 2) := by decide +kernel
theorem dX11_signs_92 : decode cX11_signs 92 = .ok (.invokevirtual 190, 3) := by decide +kernel
theorem dX11_signs_95 : decode cX11_signs 95 = .ok (.ifCond .eq 7, 3) := by decide +kernel
theorem dX11_signs_98 : decode cX11_signs 98 = .ok (.iconst 1, 1) := by decide +kernel
theorem dX11_signs_99 : decode cX11_signs 99 = .ok (.goto 4, 3) := by decide +kernel
theorem dX11_signs_102 : decode cX11_signs 102 = .ok (.iconst 0, 1) := by decide +kernel
theorem dX11_signs_103 : decode cX11_signs 103 = .ok (.aload_n 0, 1) := by decide +kernel
theorem dX11_signs_104 : decode cX11_signs 104 = .ok (.iload_n 3, 1) := by decide +kernel
theorem dX11_signs_105 : decode cX11_signs 105 = .ok (.iload 5, 2) := by decide +kernel
theorem dX11_signs_107 : decode cX11_signs 107 = .ok (.invokevirtual 190, 3) := by decide +kernel
theorem dX11_signs_110 : decode cX11_signs 110 = .ok (.ifCond .eq 7, 3) := by decide +kernel
theorem dX11_signs_113 : decode cX11_signs 113 = .ok (.iconst 1, 1) := by decide +kernel
theorem dX11_signs_114 : decode cX11_signs 114 = .ok (.goto 4, 3) := by decide +kernel
theorem dX11_signs_117 : decode cX11_signs 117 = .ok (.iconst 0, 1) := by decide +kernel
theorem dX11_signs_118 : decode cX11_signs 118 = .ok (.iadd, 1) := by decide +kernel
theorem dX11_signs_119 : decode cX11_signs 119 = .ok (.aload_n 0, 1) := by decide +kernel
theorem dX11_signs_120 : decode cX11_signs 120 = .ok (.iload 4, 2) := by decide +kernel
theorem dX11_signs_122 : decode cX11_signs 122 = .ok (.iload 5, 2) := by decide +kernel
theorem dX11_signs_124 : decode cX11_signs 124 = .ok (.invokevirtual 190, 3) := by decide +kernel
theorem dX11_signs_127 : decode cX11_signs 127 = .ok (.ifCond .eq 7, 3) := by decide +kernel
theorem dX11_signs_130 : decode cX11_signs 130 = .ok (.iconst 1, 1) := by decide +kernel
theorem dX11_signs_131 : decode cX11_signs 131 = .ok (.goto 4, 3) := by decide +kernel
theorem dX11_signs_134 : decode cX11_signs 134 = .ok (.iconst 0, 1) := by decide +kernel
theorem dX11_signs_135 : decode cX11_signs 135 = .ok (.iadd, 1) := by decide +kernel
theorem dX11_signs_136 : decode cX11_signs 136 = .ok (.istore 6, 2) := by decide +kernel
theorem dX11_signs_138 : decode cX11_signs 138 = .ok (.iload_n 2, 1) := by decide +kernel
theorem dX11_signs_139 : decode cX11_signs 139 = .ok (.iload 6, 2) := by decide +kernel
theorem dX11_signs_141 : decode cX11_signs 141 = .ok (.iconst 2, 1) := by decide +kernel
theorem dX11_signs_142 : decode cX11_signs 142 = .ok (.irem, 1) := by decide +kernel
theorem dX11_signs_143 : decode cX11_signs 143 = .ok (.iload_n 1, 1) := by decide +kernel
theorem dX11_signs_144 : decode cX11_signs 144 = .ok (.if_icmp .ne 7, 3) := by decide +kernel
theorem dX11_signs_147 : decode cX11_signs 147 = .ok (.iconst 1, 1) := by decide +kernel
theorem dX11_signs_148 : decode cX11_signs 148 = .ok (.goto 4, 3) := by decide +kernel
theorem dX11_signs_151 : decode cX11_signs 151 = .ok (.iconst 0, 1) := by decide +kernel
theorem dX11_signs_152 : decode cX11_signs 152 = .ok (.iadd, 1) := by decide +kernel
theorem dX11_signs_153 : decode cX11_signs 153 = .ok (.istore_n 2, 1) := by decide +kernel
theorem dX11_signs_154 : decode cX11_signs 154 = .ok (.iinc 5 1, 3) := by decide +kernel
theorem dX11_signs_157 : decode cX11_signs 157 = .ok (.goto (-109), 3) := by decide +kernel
theorem dX11_signs_160 : decode cX11_signs 160 = .ok (.iinc 4 1, 3) := by decide +kernel
theorem dX11_signs_163 : decode cX11_signs 163 = .ok (.goto (-130), 3) := by decide +kernel
theorem dX11_signs_166 : decode cX11_signs 166 = .ok (.iinc 3 1, 3) := by decide +kernel
theorem dX11_signs_169 : decode cX11_signs 169 = .ok (.goto (-149), 3) := by decide +kernel
theorem dX11_signs_172 : decode cX11_signs 172 = .ok (.iload_n 2, 1) := by decide +kernel
theorem dX11_signs_173 : decode cX11_signs 173 = .ok (.ireturn, 1) := by decide +kernel
theorem dX11_sides_0 : decode cX11_sides 0 = .ok (.iload_n 1, 1) := by decide +kernel
theorem dX11_sides_1 : decode cX11_sides 1 = .ok (.iconst 0, 1) := by decide +kernel
theorem dX11_sides_2 : decode cX11_sides 2 = .ok (.iconst 1, 1) := by decide +kernel
theorem dX11_sides_3 : decode cX11_sides 3 = .ok (.invokestatic 86, 3) := by decide +kernel
theorem dX11_sides_6 : decode cX11_sides 6 = .ok (.ifCond .ne 10, 3) := by decide +kernel
theorem dX11_sides_9 : decode cX11_sides 9 = .ok (.aload_n 0, 1) := by decide +kernel
theorem dX11_sides_10 : decode cX11_sides 10 = .ok (.bipush (-2), 2) := by decide +kernel
theorem dX11_sides_12 : decode cX11_sides 12 = .ok (.invokevirtual 104, 3) := by decide +kernel
theorem dX11_sides_15 : decode cX11_sides 15 = .ok (.ireturn, 1) := by decide +kernel
theorem dX11_sides_16 : decode cX11_sides 16 = .ok (.iconst 0, 1) := by decide +kernel
theorem dX11_sides_17 : decode cX11_sides 17 = .ok (.istore_n 2, 1) := by decide +kernel
theorem dX11_sides_18 : decode cX11_sides 18 = .ok (.iconst 0, 1) := by decide +kernel
theorem dX11_sides_19 : decode cX11_sides 19 = .ok (.istore_n 3, 1) := by decide +kernel
theorem dX11_sides_20 : decode cX11_sides 20 = .ok (.iload_n 3, 1) := by decide +kernel
theorem dX11_sides_21 : decode cX11_sides 21 = .ok (.aload_n 0, 1) := by decide +kernel
theorem dX11_sides_22 : decode cX11_sides 22 = .ok (.getfield 7, 3) := by decide +kernel
theorem dX11_sides_25 : decode cX11_sides 25 = .ok (.if_icmp .ge 78, 3) := by decide +kernel
theorem dX11_sides_28 : decode cX11_sides 28 = .ok (.iload_n 3, 1) := by decide +kernel
theorem dX11_sides_29 : decode cX11_sides 29 = .ok (.iconst 1, 1) := by decide +kernel
theorem dX11_sides_30 : decode cX11_sides 30 = .ok (.iadd, 1) := by decide +kernel
theorem dX11_sides_31 : decode cX11_sides 31 = .ok (.istore 4, 2) := by decide +kernel
theorem dX11_sides_33 : decode cX11_sides 33 = .ok (.iload 4, 2) := by decide +kernel
theorem dX11_sides_35 : decode cX11_sides 35 = .ok (.aload_n 0, 1) := by decide +kernel
theorem dX11_sides_36 : decode cX11_sides 36 = .ok (.getfield 7, 3) := by decide +kernel
theorem dX11_sides_39 : decode cX11_sides 39 = .ok (.if_icmp .ge 58, 3) := by decide +kernel
theorem dX11_sides_42 : decode cX11_sides 42 = .ok (.aload_n 0, 1) := by decide +kernel
theorem dX11_sides_43 : decode cX11_sides 43 = .ok (.iload_n 3, 1) := by decide +kernel
theorem dX11_sides_44 : decode cX11_sides 44 = .ok (.iload 4, 2) := by decide +kernel
theorem dX11_sides_46 : decode cX11_sides 46 = .ok (.invokevirtual 143, 3) := by decide +kernel
theorem dX11_sides_49 : decode cX11_sides 49 = .ok (.ifCond .eq 42, 3) := by decide +kernel
theorem dX11_sides_52 : decode cX11_sides 52 = .ok (.aload_n 0, 1) := by decide +kernel
theorem dX11_sides_53 : decode cX11_sides 53 = .ok (.getfield 60, 3) := by decide +kernel
theorem dX11_sides_56 : decode cX11_sides 56 = .ok (.iload_n 2, 1) := by decide +kernel
theorem dX11_sides_57 : decode cX11_sides 57 = .ok (.iload_n 3, 1) := by decide +kernel
theorem dX11_sides_58 : decode cX11_sides 58 = .ok (.iastore, 1) := by decide +kernel
theorem dX11_sides_59 : decode cX11_sides 59 = .ok (.aload_n 0, 1) := by decide +kernel
theorem dX11_sides_60 : decode cX11_sides 60 = .ok (.getfield 63, 3) := by decide +kernel
theorem dX11_sides_63 : decode cX11_sides 63 = .ok (.iload_n 2, 1) := by decide +kernel
theorem dX11_sides_64 : decode cX11_sides 64 = .ok (.iload 4, 2) := by decide +kernel
theorem dX11_sides_66 : decode cX11_sides 66 = .ok (.iastore, 1) := by decide +kernel
theorem dX11_sides_67 : decode cX11_sides 67 = .ok (.aload_n 0, 1) := by decide +kernel
theorem dX11_sides_68 : decode cX11_sides 68 = .ok (.getfield 66, 3) := by decide +kernel
theorem dX11_sides_71 : decode cX11_sides 71 = .ok (.iload_n 2, 1) := by decide +kernel
theorem dX11_sides_72 : decode cX11_sides 72 = .ok (.aload_n 0, 1) := by decide +kernel
theorem dX11_sides_73 : decode cX11_sides 73 = .ok (.iload_n 3, 1) := by decide +kernel
theorem dX11_sides_74 : decode cX11_sides 74 = .ok (.iload 4, 2) := by decide +kernel
theorem dX11_sides_76 : decode cX11_sides 76 = .ok (.invokevirtual 190, 3) := by decide +kernel
theorem dX11_sides_79 : decode cX11_sides 79 = .ok (.ifCond .eq 7, 3) := by decide +kernel
theorem dX11_sides_82 : decode cX11_sides 82 = .ok (.iconst 1, 1) := by decide +kernel
theorem dX11_sides_83 : decode cX11_sides 83 = .ok (.goto 4, 3) := by decide +kernel
theorem dX11_sides_86 : decode cX11_sides 86 = .ok (.iconst 0, 1) := by decide +kernel
theorem dX11_sides_87 : decode cX11_sides 87 = .ok (.iastore, 1) := by decide +kernel
theorem dX11_sides_88 : decode cX11_sides 88 = .ok (.iinc 2 1, 3) := by decide +kernel
theorem dX11_sides_91 : decode cX11_sides 91 = .ok (.iinc 4 1, 3) := by decide +kernel
theorem dX11_sides_94 : decode cX11_sides 94 = .ok (.goto (-61), 3) := by decide +kernel
theorem dX11_sides_97 : decode cX11_sides 97 = .ok (.iinc 3 1, 3) := by decide +kernel
theorem dX11_sides_100 : decode cX11_sides 100 = .ok (.goto (-80), 3) := by decide +kernel
theorem dX11_sides_103 : decode cX11_sides 103 = .ok (.iconst (-1), 1) := by decide +kernel
theorem dX11_sides_104 : decode cX11_sides 104 = .ok (.istore_n 3, 1) := by decide +kernel
theorem dX11_sides_105 : decode cX11_sides 105 = .ok (.iconst 0, 1) := by decide +kernel
theorem dX11_sides_106 : decode cX11_sides 106 = .ok (.istore 4, 2) := by decide +kernel
theorem dX11_sides_108 : decode cX11_sides 108 = .ok (.iconst 0, 1) := by decide +kernel
theorem dX11_sides_109 : decode cX11_sides 109 = .ok (.istore 5, 2) := by decide +kernel
theorem dX11_sides_111 : decode cX11_sides 111 = .ok (.iload 5, 2) := by decide +kernel
theorem dX11_sides_113 : decode cX11_sides 113 = .ok (.iconst 1, 1) := by decide +kernel
theorem dX11_sides_114 : decode cX11_sides 114 = .ok (.aload_n 0, 1) := by decide +kernel
theorem dX11_sides_115 : decode cX11_sides 115 = .ok (.getfield 7, 3) := by decide +kernel
theorem dX11_sides_118 : decode cX11_sides 118 = .ok (.ishl, 1) := by decide +kernel
theorem dX11_sides_119 : decode cX11_sides 119 = .ok (.if_icmp .ge 80, 3) := by decide +kernel
theorem dX11_sides_122 : decode cX11_sides 122 = .ok (.iconst 0, 1) := by decide +kernel
theorem dX11_sides_123 : decode cX11_sides 123 = .ok (.istore 6, 2) := by decide +kernel
theorem dX11_sides_125 : decode cX11_sides 125 = .ok (.iconst 0, 1) := by decide +kernel
theorem dX11_sides_126 : decode cX11_sides 126 = .ok (.istore 7, 2) := by decide +kernel
theorem dX11_sides_128 : decode cX11_sides 128 = .ok (.iload 7, 2) := by decide +kernel
theorem dX11_sides_130 : decode cX11_sides 130 = .ok (.iload_n 2, 1) := by decide +kernel
theorem dX11_sides_131 : decode cX11_sides 131 = .ok (.if_icmp .ge 45, 3) := by decide +kernel
theorem dX11_sides_134 : decode cX11_sides 134 = .ok (.iload 6, 2) := by decide +kernel
theorem dX11_sides_136 : decode cX11_sides 136 = .ok (.iload 5, 2) := by decide +kernel
theorem dX11_sides_138 : decode cX11_sides 138 = .ok (.aload_n 0, 1) := by decide +kernel
theorem dX11_sides_139 : decode cX11_sides 139 = .ok (.getfield 60, 3) := by decide +kernel
theorem dX11_sides_142 : decode cX11_sides 142 = .ok (.iload 7, 2) := by decide +kernel
theorem dX11_sides_144 : decode cX11_sides 144 = .ok (.iaload, 1) := by decide +kernel
theorem dX11_sides_145 : decode cX11_sides 145 = .ok (.ishr, 1) := by decide +kernel
theorem dX11_sides_146 : decode cX11_sides 146 = .ok (.iload 5, 2) := by decide +kernel
theorem dX11_sides_148 : decode cX11_sides 148 = .ok (.aload_n 0, 1) := by decide +kernel
theorem dX11_sides_149 : decode cX11_sides 149 = .ok (.getfield 63, 3) := by decide +kernel
theorem dX11_sides_152 : decode cX11_sides 152 = .ok (.iload 7, 2) := by decide +kernel
theorem dX11_sides_154 : decode cX11_sides 154 = .ok (.iaload, 1) := by decide +kernel
theorem dX11_sides_155 : decode cX11_sides 155 = .ok (.ishr, 1) := by decide +kernel
theorem dX11_sides_156 : decode cX11_sides 156 = .ok (.ixor, 1) := by decide +kernel
theorem dX11_sides_157 : decode cX11_sides 157 = .ok (.aload_n 0, 1) := by decide +kernel
theorem dX11_sides_158 : decode cX11_sides 158 = .ok (.getfield 66, 3) := by decide +kernel
theorem dX11_sides_161 : decode cX11_sides 161 = .ok (.iload 7, 2) := by decide +kernel
theorem dX11_sides_163 : decode cX11_sides 163 = .ok (.iaload, 1) := by decide +kernel
theorem dX11_sides_164 : decode cX11_sides 164 = .ok (.ixor, 1) := by decide +kernel
theorem dX11_sides_165 : decode cX11_sides 165 = .ok (.iconst 1, 1) := by decide +kernel
theorem dX11_sides_166 : decode cX11_sides 166 = .ok (.iand, 1) := by decide +kernel
theorem dX11_sides_167 : decode cX11_sides 167 = .ok (.iadd, 1) := by decide +kernel
theorem dX11_sides_168 : decode cX11_sides 168 = .ok (.istore 6, 2) := by decide +kernel
theorem dX11_sides_170 : decode cX11_sides 170 = .ok (.iinc 7 1, 3) := by decide +kernel
theorem dX11_sides_173 : decode cX11_sides 173 = .ok (.goto (-45), 3) := by decide +kernel
theorem dX11_sides_176 : decode cX11_sides 176 = .ok (.iload_n 3, 1) := by decide +kernel
theorem dX11_sides_177 : decode cX11_sides 177 = .ok (.ifCond .lt 9, 3) := by decide +kernel
theorem dX11_sides_180 : decode cX11_sides 180 = .ok (.iload 6, 2) := by decide +kernel
theorem dX11_sides_182 : decode cX11_sides 182 = .ok (.iload_n 3, 1) := by decide +kernel
theorem dX11_sides_183 : decode cX11_sides 183 = .ok (.if_icmp .ge 10, 3) := by decide +kernel
theorem dX11_sides_186 : decode cX11_sides 186 = .ok (.iload 6, 2) := by decide +kernel
theorem dX11_sides_188 : decode cX11_sides 188 = .ok (.istore_n 3, 1) := by decide +kernel
theorem dX11_sides_189 : decode cX11_sides 189 = .ok (.iload 5, 2) := by decide +kernel
theorem dX11_sides_191 : decode cX11_sides 191 = .ok (.istore 4, 2) := by decide +kernel
theorem dX11_sides_193 : decode cX11_sides 193 = .ok (.iinc 5 2, 3) := by decide +kernel
theorem dX11_sides_196 : decode cX11_sides 196 = .ok (.goto (-85), 3) := by decide +kernel
theorem dX11_sides_199 : decode cX11_sides 199 = .ok (.iload_n 1, 1) := by decide +kernel
theorem dX11_sides_200 : decode cX11_sides 200 = .ok (.ifCond .ne 7, 3) := by decide +kernel
theorem dX11_sides_203 : decode cX11_sides 203 = .ok (.iload_n 3, 1) := by decide +kernel
theorem dX11_sides_204 : decode cX11_sides 204 = .ok (.goto 5, 3) := by decide +kernel
theorem dX11_sides_207 : decode cX11_sides 207 = .ok (.iload 4, 2) := by decide +kernel
theorem dX11_sides_209 : decode cX11_sides 209 = .ok (.ireturn, 1) := by decide +kernel
theorem dX11_addWays_0 : decode cX11_addWays 0 = .ok (.lconst 0, 1) := by decide +kernel
theorem dX11_addWays_1 : decode cX11_addWays 1 = .ok (.lstore_n 3, 1) := by decide +kernel
theorem dX11_addWays_2 : decode cX11_addWays 2 = .ok (.iconst 0, 1) := by decide +kernel
theorem dX11_addWays_3 : decode cX11_addWays 3 = .ok (.istore 5, 2) := by decide +kernel
theorem dX11_addWays_5 : decode cX11_addWays 5 = .ok (.iload 5, 2) := by decide +kernel
theorem dX11_addWays_7 : decode cX11_addWays 7 = .ok (.bipush 9, 2) := by decide +kernel
theorem dX11_addWays_9 : decode cX11_addWays 9 = .ok (.if_icmp .ge 63, 3) := by decide +kernel
theorem dX11_addWays_12 : decode cX11_addWays 12 = .ok (.aload_n 0, 1) := by decide +kernel
theorem dX11_addWays_13 : decode cX11_addWays 13 = .ok (.getfield 73, 3) := by decide +kernel
theorem dX11_addWays_16 : decode cX11_addWays 16 = .ok (.bipush 9, 2) := by decide +kernel
theorem dX11_addWays_18 : decode cX11_addWays 18 = .ok (.iload_n 2, 1) := by decide +kernel
theorem dX11_addWays_19 : decode cX11_addWays 19 = .ok (.imul, 1) := by decide +kernel
theorem dX11_addWays_20 : decode cX11_addWays 20 = .ok (.iload 5, 2) := by decide +kernel
theorem dX11_addWays_22 : decode cX11_addWays 22 = .ok (.iadd, 1) := by decide +kernel
theorem dX11_addWays_23 : decode cX11_addWays 23 = .ok (.laload, 1) := by decide +kernel
theorem dX11_addWays_24 : decode cX11_addWays 24 = .ok (.aload_n 0, 1) := by decide +kernel
theorem dX11_addWays_25 : decode cX11_addWays 25 = .ok (.getfield 69, 3) := by decide +kernel
theorem dX11_addWays_28 : decode cX11_addWays 28 = .ok (.bipush 9, 2) := by decide +kernel
theorem dX11_addWays_30 : decode cX11_addWays 30 = .ok (.iload_n 1, 1) := by decide +kernel
theorem dX11_addWays_31 : decode cX11_addWays 31 = .ok (.imul, 1) := by decide +kernel
theorem dX11_addWays_32 : decode cX11_addWays 32 = .ok (.iload 5, 2) := by decide +kernel
theorem dX11_addWays_34 : decode cX11_addWays 34 = .ok (.iadd, 1) := by decide +kernel
theorem dX11_addWays_35 : decode cX11_addWays 35 = .ok (.laload, 1) := by decide +kernel
theorem dX11_addWays_36 : decode cX11_addWays 36 = .ok (.ladd, 1) := by decide +kernel
theorem dX11_addWays_37 : decode cX11_addWays 37 = .ok (.lload_n 3, 1) := by decide +kernel
theorem dX11_addWays_38 : decode cX11_addWays 38 = .ok (.ladd, 1) := by decide +kernel
theorem dX11_addWays_39 : decode cX11_addWays 39 = .ok (.lstore 6, 2) := by decide +kernel
theorem dX11_addWays_41 : decode cX11_addWays 41 = .ok (.aload_n 0, 1) := by decide +kernel
theorem dX11_addWays_42 : decode cX11_addWays 42 = .ok (.getfield 73, 3) := by decide +kernel
theorem dX11_addWays_45 : decode cX11_addWays 45 = .ok (.bipush 9, 2) := by decide +kernel
theorem dX11_addWays_47 : decode cX11_addWays 47 = .ok (.iload_n 2, 1) := by decide +kernel
theorem dX11_addWays_48 : decode cX11_addWays 48 = .ok (.imul, 1) := by decide +kernel
theorem dX11_addWays_49 : decode cX11_addWays 49 = .ok (.iload 5, 2) := by decide +kernel
theorem dX11_addWays_51 : decode cX11_addWays 51 = .ok (.iadd, 1) := by decide +kernel
theorem dX11_addWays_52 : decode cX11_addWays 52 = .ok (.lload 6, 2) := by decide +kernel
theorem dX11_addWays_54 : decode cX11_addWays 54 = .ok (.ldc2_w 193, 3) := by decide +kernel
theorem dX11_addWays_57 : decode cX11_addWays 57 = .ok (.lrem, 1) := by decide +kernel
theorem dX11_addWays_58 : decode cX11_addWays 58 = .ok (.lastore, 1) := by decide +kernel
theorem dX11_addWays_59 : decode cX11_addWays 59 = .ok (.lload 6, 2) := by decide +kernel
theorem dX11_addWays_61 : decode cX11_addWays 61 = .ok (.ldc2_w 193, 3) := by decide +kernel
theorem dX11_addWays_64 : decode cX11_addWays 64 = .ok (.ldiv, 1) := by decide +kernel
theorem dX11_addWays_65 : decode cX11_addWays 65 = .ok (.lstore_n 3, 1) := by decide +kernel
theorem dX11_addWays_66 : decode cX11_addWays 66 = .ok (.iinc 5 1, 3) := by decide +kernel
theorem dX11_addWays_69 : decode cX11_addWays 69 = .ok (.goto (-64), 3) := by decide +kernel
theorem dX11_addWays_72 : decode cX11_addWays 72 = .ok (.return_, 1) := by decide +kernel
theorem dX11_walks_0 : decode cX11_walks 0 = .ok (.aload_n 0, 1) := by decide +kernel
theorem dX11_walks_1 : decode cX11_walks 1 = .ok (.iload_n 1, 1) := by decide +kernel
theorem dX11_walks_2 : decode cX11_walks 2 = .ok (.invokevirtual 108, 3) := by decide +kernel
theorem dX11_walks_5 : decode cX11_walks 5 = .ok (.ifCond .eq 11, 3) := by decide +kernel
theorem dX11_walks_8 : decode cX11_walks 8 = .ok (.aload_n 0, 1) := by decide +kernel
theorem dX11_walks_9 : decode cX11_walks 9 = .ok (.iload_n 2, 1) := by decide +kernel
theorem dX11_walks_10 : decode cX11_walks 10 = .ok (.invokevirtual 108, 3) := by decide +kernel
theorem dX11_walks_13 : decode cX11_walks 13 = .ok (.ifCond .ne 9, 3) := by decide +kernel
theorem dX11_walks_16 : decode cX11_walks 16 = .ok (.aload_n 0, 1) := by decide +kernel
theorem dX11_walks_17 : decode cX11_walks 17 = .ok (.iconst (-1), 1) := by decide +kernel
theorem dX11_walks_18 : decode cX11_walks 18 = .ok (.invokevirtual 104, 3) := by decide +kernel
theorem dX11_walks_21 : decode cX11_walks 21 = .ok (.ireturn, 1) := by decide +kernel
theorem dX11_walks_22 : decode cX11_walks 22 = .ok (.iload_n 3, 1) := by decide +kernel
theorem dX11_walks_23 : decode cX11_walks 23 = .ok (.ifCond .ge 10, 3) := by decide +kernel
theorem dX11_walks_26 : decode cX11_walks 26 = .ok (.aload_n 0, 1) := by decide +kernel
theorem dX11_walks_27 : decode cX11_walks 27 = .ok (.bipush (-4), 2) := by decide +kernel
theorem dX11_walks_29 : decode cX11_walks 29 = .ok (.invokevirtual 104, 3) := by decide +kernel
theorem dX11_walks_32 : decode cX11_walks 32 = .ok (.ireturn, 1) := by decide +kernel
theorem dX11_walks_33 : decode cX11_walks 33 = .ok (.iload_n 3, 1) := by decide +kernel
theorem dX11_walks_34 : decode cX11_walks 34 = .ok (.bipush 60, 2) := by decide +kernel
theorem dX11_walks_36 : decode cX11_walks 36 = .ok (.if_icmp .le 10, 3) := by decide +kernel
theorem dX11_walks_39 : decode cX11_walks 39 = .ok (.aload_n 0, 1) := by decide +kernel
theorem dX11_walks_40 : decode cX11_walks 40 = .ok (.bipush (-6), 2) := by decide +kernel
theorem dX11_walks_42 : decode cX11_walks 42 = .ok (.invokevirtual 104, 3) := by decide +kernel
theorem dX11_walks_45 : decode cX11_walks 45 = .ok (.ireturn, 1) := by decide +kernel
theorem dX11_walks_46 : decode cX11_walks 46 = .ok (.iconst 0, 1) := by decide +kernel
theorem dX11_walks_47 : decode cX11_walks 47 = .ok (.istore 5, 2) := by decide +kernel
theorem dX11_walks_49 : decode cX11_walks 49 = .ok (.iload 5, 2) := by decide +kernel
theorem dX11_walks_51 : decode cX11_walks 51 = .ok (.sipush 144, 3) := by decide +kernel
theorem dX11_walks_54 : decode cX11_walks 54 = .ok (.if_icmp .ge 30, 3) := by decide +kernel
theorem dX11_walks_57 : decode cX11_walks 57 = .ok (.aload_n 0, 1) := by decide +kernel
theorem dX11_walks_58 : decode cX11_walks 58 = .ok (.getfield 69, 3) := by decide +kernel
theorem dX11_walks_61 : decode cX11_walks 61 = .ok (.iload 5, 2) := by decide +kernel
theorem dX11_walks_63 : decode cX11_walks 63 = .ok (.iload 5, 2) := by decide +kernel
theorem dX11_walks_65 : decode cX11_walks 65 = .ok (.bipush 9, 2) := by decide +kernel
theorem dX11_walks_67 : decode cX11_walks 67 = .ok (.iload_n 1, 1) := by decide +kernel
theorem dX11_walks_68 : decode cX11_walks 68 = .ok (.imul, 1) := by decide +kernel
theorem dX11_walks_69 : decode cX11_walks 69 = .ok (.if_icmp .ne 7, 3) := by decide +kernel
theorem dX11_walks_72 : decode cX11_walks 72 = .ok (.lconst 1, 1) := by decide +kernel
theorem dX11_walks_73 : decode cX11_walks 73 = .ok (.goto 4, 3) := by decide +kernel
theorem dX11_walks_76 : decode cX11_walks 76 = .ok (.lconst 0, 1) := by decide +kernel
theorem dX11_walks_77 : decode cX11_walks 77 = .ok (.lastore, 1) := by decide +kernel
theorem dX11_walks_78 : decode cX11_walks 78 = .ok (.iinc 5 1, 3) := by decide +kernel
theorem dX11_walks_81 : decode cX11_walks 81 = .ok (.goto (-32), 3) := by decide +kernel
theorem dX11_walks_84 : decode cX11_walks 84 = .ok (.iconst 0, 1) := by decide +kernel
theorem dX11_walks_85 : decode cX11_walks 85 = .ok (.istore 5, 2) := by decide +kernel
theorem dX11_walks_87 : decode cX11_walks 87 = .ok (.iload 5, 2) := by decide +kernel
theorem dX11_walks_89 : decode cX11_walks 89 = .ok (.iload_n 3, 1) := by decide +kernel
theorem dX11_walks_90 : decode cX11_walks 90 = .ok (.if_icmp .ge 106, 3) := by decide +kernel
theorem dX11_walks_93 : decode cX11_walks 93 = .ok (.iconst 0, 1) := by decide +kernel
theorem dX11_walks_94 : decode cX11_walks 94 = .ok (.istore 6, 2) := by decide +kernel
theorem dX11_walks_96 : decode cX11_walks 96 = .ok (.iload 6, 2) := by decide +kernel
theorem dX11_walks_98 : decode cX11_walks 98 = .ok (.sipush 144, 3) := by decide +kernel
theorem dX11_walks_101 : decode cX11_walks 101 = .ok (.if_icmp .ge 17, 3) := by decide +kernel
theorem dX11_walks_104 : decode cX11_walks 104 = .ok (.aload_n 0, 1) := by decide +kernel
theorem dX11_walks_105 : decode cX11_walks 105 = .ok (.getfield 73, 3) := by decide +kernel
theorem dX11_walks_108 : decode cX11_walks 108 = .ok (.iload 6, 2) := by decide +kernel
theorem dX11_walks_110 : decode cX11_walks 110 = .ok (.lconst 0, 1) := by decide +kernel
theorem dX11_walks_111 : decode cX11_walks 111 = .ok (.lastore, 1) := by decide +kernel
theorem dX11_walks_112 : decode cX11_walks 112 = .ok (.iinc 6 1, 3) := by decide +kernel
theorem dX11_walks_115 : decode cX11_walks 115 = .ok (.goto (-19), 3) := by decide +kernel
theorem dX11_walks_118 : decode cX11_walks 118 = .ok (.iconst 0, 1) := by decide +kernel
theorem dX11_walks_119 : decode cX11_walks 119 = .ok (.istore 6, 2) := by decide +kernel
theorem dX11_walks_121 : decode cX11_walks 121 = .ok (.iload 6, 2) := by decide +kernel
theorem dX11_walks_123 : decode cX11_walks 123 = .ok (.sipush 256, 3) := by decide +kernel
theorem dX11_walks_126 : decode cX11_walks 126 = .ok (.if_icmp .ge 33, 3) := by decide +kernel
theorem dX11_walks_129 : decode cX11_walks 129 = .ok (.aload_n 0, 1) := by decide +kernel
theorem dX11_walks_130 : decode cX11_walks 130 = .ok (.getfield 13, 3) := by decide +kernel
theorem dX11_walks_133 : decode cX11_walks 133 = .ok (.iload 6, 2) := by decide +kernel
theorem dX11_walks_135 : decode cX11_walks 135 = .ok (.baload, 1) := by decide +kernel
theorem dX11_walks_136 : decode cX11_walks 136 = .ok (.ifCond .eq 17, 3) := by decide +kernel
theorem dX11_walks_139 : decode cX11_walks 139 = .ok (.aload_n 0, 1) := by decide +kernel
theorem dX11_walks_140 : decode cX11_walks 140 = .ok (.iload 6, 2) := by decide +kernel
theorem dX11_walks_142 : decode cX11_walks 142 = .ok (.bipush 16, 2) := by decide +kernel
theorem dX11_walks_144 : decode cX11_walks 144 = .ok (.idiv, 1) := by decide +kernel
theorem dX11_walks_145 : decode cX11_walks 145 = .ok (.iload 6, 2) := by decide +kernel
theorem dX11_walks_147 : decode cX11_walks 147 = .ok (.bipush 16, 2) := by decide +kernel
theorem dX11_walks_149 : decode cX11_walks 149 = .ok (.irem, 1) := by decide +kernel
theorem dX11_walks_150 : decode cX11_walks 150 = .ok (.invokevirtual 195, 3) := by decide +kernel
theorem dX11_walks_153 : decode cX11_walks 153 = .ok (.iinc 6 1, 3) := by decide +kernel
theorem dX11_walks_156 : decode cX11_walks 156 = .ok (.goto (-35), 3) := by decide +kernel
theorem dX11_walks_159 : decode cX11_walks 159 = .ok (.iconst 0, 1) := by decide +kernel
theorem dX11_walks_160 : decode cX11_walks 160 = .ok (.istore 6, 2) := by decide +kernel
theorem dX11_walks_162 : decode cX11_walks 162 = .ok (.iload 6, 2) := by decide +kernel
theorem dX11_walks_164 : decode cX11_walks 164 = .ok (.sipush 144, 3) := by decide +kernel
theorem dX11_walks_167 : decode cX11_walks 167 = .ok (.if_icmp .ge 23, 3) := by decide +kernel
theorem dX11_walks_170 : decode cX11_walks 170 = .ok (.aload_n 0, 1) := by decide +kernel
theorem dX11_walks_171 : decode cX11_walks 171 = .ok (.getfield 69, 3) := by decide +kernel
theorem dX11_walks_174 : decode cX11_walks 174 = .ok (.iload 6, 2) := by decide +kernel
theorem dX11_walks_176 : decode cX11_walks 176 = .ok (.aload_n 0, 1) := by decide +kernel
theorem dX11_walks_177 : decode cX11_walks 177 = .ok (.getfield 73, 3) := by decide +kernel
theorem dX11_walks_180 : decode cX11_walks 180 = .ok (.iload 6, 2) := by decide +kernel
theorem dX11_walks_182 : decode cX11_walks 182 = .ok (.laload, 1) := by decide +kernel
theorem dX11_walks_183 : decode cX11_walks 183 = .ok (.lastore, 1) := by decide +kernel
theorem dX11_walks_184 : decode cX11_walks 184 = .ok (.iinc 6 1, 3) := by decide +kernel
theorem dX11_walks_187 : decode cX11_walks 187 = .ok (.goto (-25), 3) := by decide +kernel
theorem dX11_walks_190 : decode cX11_walks 190 = .ok (.iinc 5 1, 3) := by decide +kernel
theorem dX11_walks_193 : decode cX11_walks 193 = .ok (.goto (-106), 3) := by decide +kernel
theorem dX11_walks_196 : decode cX11_walks 196 = .ok (.iconst 1, 1) := by decide +kernel
theorem dX11_walks_197 : decode cX11_walks 197 = .ok (.istore 5, 2) := by decide +kernel
theorem dX11_walks_199 : decode cX11_walks 199 = .ok (.iconst 1, 1) := by decide +kernel
theorem dX11_walks_200 : decode cX11_walks 200 = .ok (.istore 6, 2) := by decide +kernel
theorem dX11_walks_202 : decode cX11_walks 202 = .ok (.iload 6, 2) := by decide +kernel
theorem dX11_walks_204 : decode cX11_walks 204 = .ok (.bipush 9, 2) := by decide +kernel
theorem dX11_walks_206 : decode cX11_walks 206 = .ok (.if_icmp .ge 37, 3) := by decide +kernel
theorem dX11_walks_209 : decode cX11_walks 209 = .ok (.aload_n 0, 1) := by decide +kernel
theorem dX11_walks_210 : decode cX11_walks 210 = .ok (.getfield 69, 3) := by decide +kernel
theorem dX11_walks_213 : decode cX11_walks 213 = .ok (.bipush 9, 2) := by decide +kernel
theorem dX11_walks_215 : decode cX11_walks 215 = .ok (.iload_n 2, 1) := by decide +kernel
theorem dX11_walks_216 : decode cX11_walks 216 = .ok (.imul, 1) := by decide +kernel
theorem dX11_walks_217 : decode cX11_walks 217 = .ok (.iload 6, 2) := by decide +kernel
theorem dX11_walks_219 : decode cX11_walks 219 = .ok (.iadd, 1) := by decide +kernel
theorem dX11_walks_220 : decode cX11_walks 220 = .ok (.laload, 1) := by decide +kernel
theorem dX11_walks_221 : decode cX11_walks 221 = .ok (.lconst 0, 1) := by decide +kernel
theorem dX11_walks_222 : decode cX11_walks 222 = .ok (.lcmp, 1) := by decide +kernel
theorem dX11_walks_223 : decode cX11_walks 223 = .ok (.ifCond .le 10, 3) := by decide +kernel
theorem dX11_walks_226 : decode cX11_walks 226 = .ok (.iload 6, 2) := by decide +kernel
theorem dX11_walks_228 : decode cX11_walks 228 = .ok (.iconst 1, 1) := by decide +kernel
theorem dX11_walks_229 : decode cX11_walks 229 = .ok (.iadd, 1) := by decide +kernel
theorem dX11_walks_230 : decode cX11_walks 230 = .ok (.goto 5, 3) := by decide +kernel
theorem dX11_walks_233 : decode cX11_walks 233 = .ok (.iload 5, 2) := by decide +kernel
theorem dX11_walks_235 : decode cX11_walks 235 = .ok (.istore 5, 2) := by decide +kernel
theorem dX11_walks_237 : decode cX11_walks 237 = .ok (.iinc 6 1, 3) := by decide +kernel
theorem dX11_walks_240 : decode cX11_walks 240 = .ok (.goto (-38), 3) := by decide +kernel
theorem dX11_walks_243 : decode cX11_walks 243 = .ok (.iload 4, 2) := by decide +kernel
theorem dX11_walks_245 : decode cX11_walks 245 = .ok (.iconst 0, 1) := by decide +kernel
theorem dX11_walks_246 : decode cX11_walks 246 = .ok (.iload 5, 2) := by decide +kernel
theorem dX11_walks_248 : decode cX11_walks 248 = .ok (.iconst 1, 1) := by decide +kernel
theorem dX11_walks_249 : decode cX11_walks 249 = .ok (.isub, 1) := by decide +kernel
theorem dX11_walks_250 : decode cX11_walks 250 = .ok (.invokestatic 86, 3) := by decide +kernel
theorem dX11_walks_253 : decode cX11_walks 253 = .ok (.ifCond .eq 19, 3) := by decide +kernel
theorem dX11_walks_256 : decode cX11_walks 256 = .ok (.aload_n 0, 1) := by decide +kernel
theorem dX11_walks_257 : decode cX11_walks 257 = .ok (.getfield 69, 3) := by decide +kernel
theorem dX11_walks_260 : decode cX11_walks 260 = .ok (.bipush 9, 2) := by decide +kernel
theorem dX11_walks_262 : decode cX11_walks 262 = .ok (.iload_n 2, 1) := by decide +kernel
theorem dX11_walks_263 : decode cX11_walks 263 = .ok (.imul, 1) := by decide +kernel
theorem dX11_walks_264 : decode cX11_walks 264 = .ok (.iload 4, 2) := by decide +kernel
theorem dX11_walks_266 : decode cX11_walks 266 = .ok (.iadd, 1) := by decide +kernel
theorem dX11_walks_267 : decode cX11_walks 267 = .ok (.laload, 1) := by decide +kernel
theorem dX11_walks_268 : decode cX11_walks 268 = .ok (.l2i, 1) := by decide +kernel
theorem dX11_walks_269 : decode cX11_walks 269 = .ok (.goto 5, 3) := by decide +kernel
theorem dX11_walks_272 : decode cX11_walks 272 = .ok (.bipush (-9), 2) := by decide +kernel
theorem dX11_walks_274 : decode cX11_walks 274 = .ok (.ireturn, 1) := by decide +kernel
theorem dX11_sample_0 : decode cX11_sample 0 = .ok (.iload_n 2, 1) := by decide +kernel
theorem dX11_sample_1 : decode cX11_sample 1 = .ok (.invokestatic 124, 3) := by decide +kernel
theorem dX11_sample_4 : decode cX11_sample 4 = .ok (.ifCond .eq 19, 3) := by decide +kernel
theorem dX11_sample_7 : decode cX11_sample 7 = .ok (.iload_n 1, 1) := by decide +kernel
theorem dX11_sample_8 : decode cX11_sample 8 = .ok (.iconst 0, 1) := by decide +kernel
theorem dX11_sample_9 : decode cX11_sample 9 = .ok (.iconst 1, 1) := by decide +kernel
theorem dX11_sample_10 : decode cX11_sample 10 = .ok (.aload_n 0, 1) := by decide +kernel
theorem dX11_sample_11 : decode cX11_sample 11 = .ok (.getfield 7, 3) := by decide +kernel
theorem dX11_sample_14 : decode cX11_sample 14 = .ok (.ishl, 1) := by decide +kernel
theorem dX11_sample_15 : decode cX11_sample 15 = .ok (.iconst 1, 1) := by decide +kernel
theorem dX11_sample_16 : decode cX11_sample 16 = .ok (.isub, 1) := by decide +kernel
theorem dX11_sample_17 : decode cX11_sample 17 = .ok (.invokestatic 86, 3) := by decide +kernel
theorem dX11_sample_20 : decode cX11_sample 20 = .ok (.ifCond .ne 9, 3) := by decide +kernel
theorem dX11_sample_23 : decode cX11_sample 23 = .ok (.aload_n 0, 1) := by decide +kernel
theorem dX11_sample_24 : decode cX11_sample 24 = .ok (.iconst (-1), 1) := by decide +kernel
theorem dX11_sample_25 : decode cX11_sample 25 = .ok (.invokevirtual 104, 3) := by decide +kernel
theorem dX11_sample_28 : decode cX11_sample 28 = .ok (.ireturn, 1) := by decide +kernel
theorem dX11_sample_29 : decode cX11_sample 29 = .ok (.iload_n 1, 1) := by decide +kernel
theorem dX11_sample_30 : decode cX11_sample 30 = .ok (.invokestatic 127, 3) := by decide +kernel
theorem dX11_sample_33 : decode cX11_sample 33 = .ok (.istore 4, 2) := by decide +kernel
theorem dX11_sample_35 : decode cX11_sample 35 = .ok (.iload 4, 2) := by decide +kernel
theorem dX11_sample_37 : decode cX11_sample 37 = .ok (.iconst 3, 1) := by decide +kernel
theorem dX11_sample_38 : decode cX11_sample 38 = .ok (.if_icmp .ge 10, 3) := by decide +kernel
theorem dX11_sample_41 : decode cX11_sample 41 = .ok (.aload_n 0, 1) := by decide +kernel
theorem dX11_sample_42 : decode cX11_sample 42 = .ok (.bipush (-3), 2) := by decide +kernel
theorem dX11_sample_44 : decode cX11_sample 44 = .ok (.invokevirtual 104, 3) := by decide +kernel
theorem dX11_sample_47 : decode cX11_sample 47 = .ok (.ireturn, 1) := by decide +kernel
theorem dX11_sample_48 : decode cX11_sample 48 = .ok (.iload_n 3, 1) := by decide +kernel
theorem dX11_sample_49 : decode cX11_sample 49 = .ok (.iconst 0, 1) := by decide +kernel
theorem dX11_sample_50 : decode cX11_sample 50 = .ok (.iconst 1, 1) := by decide +kernel
theorem dX11_sample_51 : decode cX11_sample 51 = .ok (.invokestatic 86, 3) := by decide +kernel
theorem dX11_sample_54 : decode cX11_sample 54 = .ok (.ifCond .ne 10, 3) := by decide +kernel
theorem dX11_sample_57 : decode cX11_sample 57 = .ok (.aload_n 0, 1) := by decide +kernel
theorem dX11_sample_58 : decode cX11_sample 58 = .ok (.bipush (-2), 2) := by decide +kernel
theorem dX11_sample_60 : decode cX11_sample 60 = .ok (.invokevirtual 104, 3) := by decide +kernel
theorem dX11_sample_63 : decode cX11_sample 63 = .ok (.ireturn, 1) := by decide +kernel
theorem dX11_sample_64 : decode cX11_sample 64 = .ok (.iconst 0, 1) := by decide +kernel
theorem dX11_sample_65 : decode cX11_sample 65 = .ok (.istore 5, 2) := by decide +kernel
theorem dX11_sample_67 : decode cX11_sample 67 = .ok (.iconst 0, 1) := by decide +kernel
theorem dX11_sample_68 : decode cX11_sample 68 = .ok (.istore 6, 2) := by decide +kernel
theorem dX11_sample_70 : decode cX11_sample 70 = .ok (.iload 6, 2) := by decide +kernel
theorem dX11_sample_72 : decode cX11_sample 72 = .ok (.aload_n 0, 1) := by decide +kernel
theorem dX11_sample_73 : decode cX11_sample 73 = .ok (.getfield 7, 3) := by decide +kernel
theorem dX11_sample_76 : decode cX11_sample 76 = .ok (.if_icmp .ge 107, 3) := by decide +kernel
theorem dX11_sample_79 : decode cX11_sample 79 = .ok (.iload 6, 2) := by decide +kernel
theorem dX11_sample_81 : decode cX11_sample 81 = .ok (.iconst 1, 1) := by decide +kernel
theorem dX11_sample_82 : decode cX11_sample 82 = .ok (.iadd, 1) := by decide +kernel
theorem dX11_sample_83 : decode cX11_sample 83 = .ok (.istore 7, 2) := by decide +kernel
theorem dX11_sample_85 : decode cX11_sample 85 = .ok (.iload 7, 2) := by decide +kernel
theorem dX11_sample_87 : decode cX11_sample 87 = .ok (.aload_n 0, 1) := by decide +kernel
theorem dX11_sample_88 : decode cX11_sample 88 = .ok (.getfield 7, 3) := by decide +kernel
theorem dX11_sample_91 : decode cX11_sample 91 = .ok (.if_icmp .ge 86, 3) := by decide +kernel
theorem dX11_sample_94 : decode cX11_sample 94 = .ok (.iload 7, 2) := by decide +kernel
theorem dX11_sample_96 : decode cX11_sample 96 = .ok (.iconst 1, 1) := by decide +kernel
theorem dX11_sample_97 : decode cX11_sample 97 = .ok (.iadd, 1) := by decide +kernel
theorem dX11_sample_98 : decode cX11_sample 98 = .ok (.istore 8, 2) := by decide +kernel
theorem dX11_sample_100 : decode cX11_sample 100 = .ok (.iload 8, 2) := by decide +kernel
theorem dX11_sample_102 : decode cX11_sample 102 = .ok (.aload_n 0, 1) := by decide +kernel
theorem dX11_sample_103 : decode cX11_sample 103 = .ok (.getfield 7, 3) := by decide +kernel
theorem dX11_sample_106 : decode cX11_sample 106 = .ok (.if_icmp .ge 65, 3) := by decide +kernel
theorem dX11_sample_109 : decode cX11_sample 109 = .ok (.iload_n 1, 1) := by decide +kernel
theorem dX11_sample_110 : decode cX11_sample 110 = .ok (.iload 6, 2) := by decide +kernel
theorem dX11_sample_112 : decode cX11_sample 112 = .ok (.ishr, 1) := by decide +kernel
theorem dX11_sample_113 : decode cX11_sample 113 = .ok (.iload_n 1, 1) := by decide +kernel
theorem dX11_sample_114 : decode cX11_sample 114 = .ok (.iload 7, 2) := by decide +kernel
theorem dX11_sample_116 : decode cX11_sample 116 = .ok (.ishr, 1) := by decide +kernel
theorem dX11_sample_117 : decode cX11_sample 117 = .ok (.iand, 1) := by decide +kernel
theorem dX11_sample_118 : decode cX11_sample 118 = .ok (.iload_n 1, 1) := by decide +kernel
theorem dX11_sample_119 : decode cX11_sample 119 = .ok (.iload 8, 2) := by decide +kernel
theorem dX11_sample_121 : decode cX11_sample 121 = .ok (.ishr, 1) := by decide +kernel
theorem dX11_sample_122 : decode cX11_sample 122 = .ok (.iand, 1) := by decide +kernel
theorem dX11_sample_123 : decode cX11_sample 123 = .ok (.iconst 1, 1) := by decide +kernel
theorem dX11_sample_124 : decode cX11_sample 124 = .ok (.iand, 1) := by decide +kernel
theorem dX11_sample_125 : decode cX11_sample 125 = .ok (.iconst 1, 1) := by decide +kernel
theorem dX11_sample_126 : decode cX11_sample 126 = .ok (.if_icmp .ne 7, 3) := by decide +kernel
theorem dX11_sample_129 : decode cX11_sample 129 = .ok (.iconst 1, 1) := by decide +kernel
theorem dX11_sample_130 : decode cX11_sample 130 = .ok (.goto 4, 3) := by decide +kernel
theorem dX11_sample_133 : decode cX11_sample 133 = .ok (.iconst 0, 1) := by decide +kernel
theorem dX11_sample_134 : decode cX11_sample 134 = .ok (.istore 9, 2) := by decide +kernel
theorem dX11_sample_136 : decode cX11_sample 136 = .ok (.iload 5, 2) := by decide +kernel
theorem dX11_sample_138 : decode cX11_sample 138 = .ok (.iload 9, 2) := by decide +kernel
theorem dX11_sample_140 : decode cX11_sample 140 = .ok (.ifCond .eq 21, 3) := by decide +kernel
theorem dX11_sample_143 : decode cX11_sample 143 = .ok (.aload_n 0, 1) := by decide +kernel
theorem dX11_sample_144 : decode cX11_sample 144 = .ok (.iload 6, 2) := by decide +kernel
theorem dX11_sample_146 : decode cX11_sample 146 = .ok (.iload 7, 2) := by decide +kernel
theorem dX11_sample_148 : decode cX11_sample 148 = .ok (.iload 8, 2) := by decide +kernel
theorem dX11_sample_150 : decode cX11_sample 150 = .ok (.invokevirtual 121, 3) := by decide +kernel
theorem dX11_sample_153 : decode cX11_sample 153 = .ok (.iload_n 2, 1) := by decide +kernel
theorem dX11_sample_154 : decode cX11_sample 154 = .ok (.if_icmp .ne 7, 3) := by decide +kernel
theorem dX11_sample_157 : decode cX11_sample 157 = .ok (.iconst 1, 1) := by decide +kernel
theorem dX11_sample_158 : decode cX11_sample 158 = .ok (.goto 4, 3) := by decide +kernel
theorem dX11_sample_161 : decode cX11_sample 161 = .ok (.iconst 0, 1) := by decide +kernel
theorem dX11_sample_162 : decode cX11_sample 162 = .ok (.iadd, 1) := by decide +kernel
theorem dX11_sample_163 : decode cX11_sample 163 = .ok (.istore 5, 2) := by decide +kernel
theorem dX11_sample_165 : decode cX11_sample 165 = .ok (.iinc 8 1, 3) := by decide +kernel
theorem dX11_sample_168 : decode cX11_sample 168 = .ok (.goto (-68), 3) := by decide +kernel
theorem dX11_sample_171 : decode cX11_sample 171 = .ok (.iinc 7 1, 3) := by decide +kernel
theorem dX11_sample_174 : decode cX11_sample 174 = .ok (.goto (-89), 3) := by decide +kernel
theorem dX11_sample_177 : decode cX11_sample 177 = .ok (.iinc 6 1, 3) := by decide +kernel
theorem dX11_sample_180 : decode cX11_sample 180 = .ok (.goto (-110), 3) := by decide +kernel
theorem dX11_sample_183 : decode cX11_sample 183 = .ok (.iload 5, 2) := by decide +kernel
theorem dX11_sample_185 : decode cX11_sample 185 = .ok (.i2l, 1) := by decide +kernel
theorem dX11_sample_186 : decode cX11_sample 186 = .ok (.aload_n 0, 1) := by decide +kernel
theorem dX11_sample_187 : decode cX11_sample 187 = .ok (.getfield 7, 3) := by decide +kernel
theorem dX11_sample_190 : decode cX11_sample 190 = .ok (.invokestatic 167, 3) := by decide +kernel
theorem dX11_sample_193 : decode cX11_sample 193 = .ok (.i2l, 1) := by decide +kernel
theorem dX11_sample_194 : decode cX11_sample 194 = .ok (.lmul, 1) := by decide +kernel
theorem dX11_sample_195 : decode cX11_sample 195 = .ok (.lstore 6, 2) := by decide +kernel
theorem dX11_sample_197 : decode cX11_sample 197 = .ok (.iload 4, 2) := by decide +kernel
theorem dX11_sample_199 : decode cX11_sample 199 = .ok (.invokestatic 167, 3) := by decide +kernel
theorem dX11_sample_202 : decode cX11_sample 202 = .ok (.i2l, 1) := by decide +kernel
theorem dX11_sample_203 : decode cX11_sample 203 = .ok (.lstore 8, 2) := by decide +kernel
theorem dX11_sample_205 : decode cX11_sample 205 = .ok (.lload 6, 2) := by decide +kernel
theorem dX11_sample_207 : decode cX11_sample 207 = .ok (.lload 8, 2) := by decide +kernel
theorem dX11_sample_209 : decode cX11_sample 209 = .ok (.invokestatic 181, 3) := by decide +kernel
theorem dX11_sample_212 : decode cX11_sample 212 = .ok (.lstore 10, 2) := by decide +kernel
theorem dX11_sample_214 : decode cX11_sample 214 = .ok (.iload_n 3, 1) := by decide +kernel
theorem dX11_sample_215 : decode cX11_sample 215 = .ok (.ifCond .ne 11, 3) := by decide +kernel
theorem dX11_sample_218 : decode cX11_sample 218 = .ok (.lload 6, 2) := by decide +kernel
theorem dX11_sample_220 : decode cX11_sample 220 = .ok (.lload 10, 2) := by decide +kernel
theorem dX11_sample_222 : decode cX11_sample 222 = .ok (.ldiv, 1) := by decide +kernel
theorem dX11_sample_223 : decode cX11_sample 223 = .ok (.goto 8, 3) := by decide +kernel
theorem dX11_sample_226 : decode cX11_sample 226 = .ok (.lload 8, 2) := by decide +kernel
theorem dX11_sample_228 : decode cX11_sample 228 = .ok (.lload 10, 2) := by decide +kernel
theorem dX11_sample_230 : decode cX11_sample 230 = .ok (.ldiv, 1) := by decide +kernel
theorem dX11_sample_231 : decode cX11_sample 231 = .ok (.l2i, 1) := by decide +kernel
theorem dX11_sample_232 : decode cX11_sample 232 = .ok (.ireturn, 1) := by decide +kernel
theorem dX11_isSheet_0 : decode cX11_isSheet 0 = .ok (.iload_n 0, 1) := by decide +kernel
theorem dX11_isSheet_1 : decode cX11_isSheet 1 = .ok (.iconst 0, 1) := by decide +kernel
theorem dX11_isSheet_2 : decode cX11_isSheet 2 = .ok (.iconst 3, 1) := by decide +kernel
theorem dX11_isSheet_3 : decode cX11_isSheet 3 = .ok (.invokestatic 86, 3) := by decide +kernel
theorem dX11_isSheet_6 : decode cX11_isSheet 6 = .ok (.ireturn, 1) := by decide +kernel
theorem dX11_keep_0 : decode cX11_keep 0 = .ok (.iload_n 1, 1) := by decide +kernel
theorem dX11_keep_1 : decode cX11_keep 1 = .ok (.invokestatic 198, 3) := by decide +kernel
theorem dX11_keep_4 : decode cX11_keep 4 = .ok (.ifCond .ne 9, 3) := by decide +kernel
theorem dX11_keep_7 : decode cX11_keep 7 = .ok (.aload_n 0, 1) := by decide +kernel
theorem dX11_keep_8 : decode cX11_keep 8 = .ok (.iconst (-1), 1) := by decide +kernel
theorem dX11_keep_9 : decode cX11_keep 9 = .ok (.invokevirtual 104, 3) := by decide +kernel
theorem dX11_keep_12 : decode cX11_keep 12 = .ok (.ireturn, 1) := by decide +kernel
theorem dX11_keep_13 : decode cX11_keep 13 = .ok (.aload_n 0, 1) := by decide +kernel
theorem dX11_keep_14 : decode cX11_keep 14 = .ok (.getfield 27, 3) := by decide +kernel
theorem dX11_keep_17 : decode cX11_keep 17 = .ok (.iload_n 1, 1) := by decide +kernel
theorem dX11_keep_18 : decode cX11_keep 18 = .ok (.aload_n 0, 1) := by decide +kernel
theorem dX11_keep_19 : decode cX11_keep 19 = .ok (.getfield 7, 3) := by decide +kernel
theorem dX11_keep_22 : decode cX11_keep 22 = .ok (.iastore, 1) := by decide +kernel
theorem dX11_keep_23 : decode cX11_keep 23 = .ok (.iconst 0, 1) := by decide +kernel
theorem dX11_keep_24 : decode cX11_keep 24 = .ok (.istore_n 2, 1) := by decide +kernel
theorem dX11_keep_25 : decode cX11_keep 25 = .ok (.iload_n 2, 1) := by decide +kernel
theorem dX11_keep_26 : decode cX11_keep 26 = .ok (.sipush 256, 3) := by decide +kernel
theorem dX11_keep_29 : decode cX11_keep 29 = .ok (.if_icmp .ge 63, 3) := by decide +kernel
theorem dX11_keep_32 : decode cX11_keep 32 = .ok (.aload_n 0, 1) := by decide +kernel
theorem dX11_keep_33 : decode cX11_keep 33 = .ok (.getfield 30, 3) := by decide +kernel
theorem dX11_keep_36 : decode cX11_keep 36 = .ok (.sipush 256, 3) := by decide +kernel
theorem dX11_keep_39 : decode cX11_keep 39 = .ok (.iload_n 1, 1) := by decide +kernel
theorem dX11_keep_40 : decode cX11_keep 40 = .ok (.imul, 1) := by decide +kernel
theorem dX11_keep_41 : decode cX11_keep 41 = .ok (.iload_n 2, 1) := by decide +kernel
theorem dX11_keep_42 : decode cX11_keep 42 = .ok (.iadd, 1) := by decide +kernel
theorem dX11_keep_43 : decode cX11_keep 43 = .ok (.aload_n 0, 1) := by decide +kernel
theorem dX11_keep_44 : decode cX11_keep 44 = .ok (.getfield 13, 3) := by decide +kernel
theorem dX11_keep_47 : decode cX11_keep 47 = .ok (.iload_n 2, 1) := by decide +kernel
theorem dX11_keep_48 : decode cX11_keep 48 = .ok (.baload, 1) := by decide +kernel
theorem dX11_keep_49 : decode cX11_keep 49 = .ok (.bastore, 1) := by decide +kernel
theorem dX11_keep_50 : decode cX11_keep 50 = .ok (.aload_n 0, 1) := by decide +kernel
theorem dX11_keep_51 : decode cX11_keep 51 = .ok (.getfield 33, 3) := by decide +kernel
theorem dX11_keep_54 : decode cX11_keep 54 = .ok (.sipush 256, 3) := by decide +kernel
theorem dX11_keep_57 : decode cX11_keep 57 = .ok (.iload_n 1, 1) := by decide +kernel
theorem dX11_keep_58 : decode cX11_keep 58 = .ok (.imul, 1) := by decide +kernel
theorem dX11_keep_59 : decode cX11_keep 59 = .ok (.iload_n 2, 1) := by decide +kernel
theorem dX11_keep_60 : decode cX11_keep 60 = .ok (.iadd, 1) := by decide +kernel
theorem dX11_keep_61 : decode cX11_keep 61 = .ok (.aload_n 0, 1) := by decide +kernel
theorem dX11_keep_62 : decode cX11_keep 62 = .ok (.getfield 17, 3) := by decide +kernel
theorem dX11_keep_65 : decode cX11_keep 65 = .ok (.iload_n 2, 1) := by decide +kernel
theorem dX11_keep_66 : decode cX11_keep 66 = .ok (.iaload, 1) := by decide +kernel
theorem dX11_keep_67 : decode cX11_keep 67 = .ok (.iastore, 1) := by decide +kernel
theorem dX11_keep_68 : decode cX11_keep 68 = .ok (.aload_n 0, 1) := by decide +kernel
theorem dX11_keep_69 : decode cX11_keep 69 = .ok (.getfield 36, 3) := by decide +kernel
theorem dX11_keep_72 : decode cX11_keep 72 = .ok (.sipush 256, 3) := by decide +kernel
theorem dX11_keep_75 : decode cX11_keep 75 = .ok (.iload_n 1, 1) := by decide +kernel
theorem dX11_keep_76 : decode cX11_keep 76 = .ok (.imul, 1) := by decide +kernel
theorem dX11_keep_77 : decode cX11_keep 77 = .ok (.iload_n 2, 1) := by decide +kernel
theorem dX11_keep_78 : decode cX11_keep 78 = .ok (.iadd, 1) := by decide +kernel
theorem dX11_keep_79 : decode cX11_keep 79 = .ok (.aload_n 0, 1) := by decide +kernel
theorem dX11_keep_80 : decode cX11_keep 80 = .ok (.getfield 21, 3) := by decide +kernel
theorem dX11_keep_83 : decode cX11_keep 83 = .ok (.iload_n 2, 1) := by decide +kernel
theorem dX11_keep_84 : decode cX11_keep 84 = .ok (.iaload, 1) := by decide +kernel
theorem dX11_keep_85 : decode cX11_keep 85 = .ok (.iastore, 1) := by decide +kernel
theorem dX11_keep_86 : decode cX11_keep 86 = .ok (.iinc 2 1, 3) := by decide +kernel
theorem dX11_keep_89 : decode cX11_keep 89 = .ok (.goto (-64), 3) := by decide +kernel
theorem dX11_keep_92 : decode cX11_keep 92 = .ok (.aload_n 0, 1) := by decide +kernel
theorem dX11_keep_93 : decode cX11_keep 93 = .ok (.invokevirtual 161, 3) := by decide +kernel
theorem dX11_keep_96 : decode cX11_keep 96 = .ok (.ireturn, 1) := by decide +kernel
theorem dX11_load_0 : decode cX11_load 0 = .ok (.aload_n 0, 1) := by decide +kernel
theorem dX11_load_1 : decode cX11_load 1 = .ok (.aload_n 0, 1) := by decide +kernel
theorem dX11_load_2 : decode cX11_load 2 = .ok (.getfield 27, 3) := by decide +kernel
theorem dX11_load_5 : decode cX11_load 5 = .ok (.iload_n 1, 1) := by decide +kernel
theorem dX11_load_6 : decode cX11_load 6 = .ok (.iaload, 1) := by decide +kernel
theorem dX11_load_7 : decode cX11_load 7 = .ok (.putfield 7, 3) := by decide +kernel
theorem dX11_load_10 : decode cX11_load 10 = .ok (.iconst 0, 1) := by decide +kernel
theorem dX11_load_11 : decode cX11_load 11 = .ok (.istore_n 2, 1) := by decide +kernel
theorem dX11_load_12 : decode cX11_load 12 = .ok (.iload_n 2, 1) := by decide +kernel
theorem dX11_load_13 : decode cX11_load 13 = .ok (.sipush 256, 3) := by decide +kernel
theorem dX11_load_16 : decode cX11_load 16 = .ok (.if_icmp .ge 63, 3) := by decide +kernel
theorem dX11_load_19 : decode cX11_load 19 = .ok (.aload_n 0, 1) := by decide +kernel
theorem dX11_load_20 : decode cX11_load 20 = .ok (.getfield 13, 3) := by decide +kernel
theorem dX11_load_23 : decode cX11_load 23 = .ok (.iload_n 2, 1) := by decide +kernel
theorem dX11_load_24 : decode cX11_load 24 = .ok (.aload_n 0, 1) := by decide +kernel
theorem dX11_load_25 : decode cX11_load 25 = .ok (.getfield 30, 3) := by decide +kernel
theorem dX11_load_28 : decode cX11_load 28 = .ok (.sipush 256, 3) := by decide +kernel
theorem dX11_load_31 : decode cX11_load 31 = .ok (.iload_n 1, 1) := by decide +kernel
theorem dX11_load_32 : decode cX11_load 32 = .ok (.imul, 1) := by decide +kernel
theorem dX11_load_33 : decode cX11_load 33 = .ok (.iload_n 2, 1) := by decide +kernel
theorem dX11_load_34 : decode cX11_load 34 = .ok (.iadd, 1) := by decide +kernel
theorem dX11_load_35 : decode cX11_load 35 = .ok (.baload, 1) := by decide +kernel
theorem dX11_load_36 : decode cX11_load 36 = .ok (.bastore, 1) := by decide +kernel
theorem dX11_load_37 : decode cX11_load 37 = .ok (.aload_n 0, 1) := by decide +kernel
theorem dX11_load_38 : decode cX11_load 38 = .ok (.getfield 17, 3) := by decide +kernel
theorem dX11_load_41 : decode cX11_load 41 = .ok (.iload_n 2, 1) := by decide +kernel
theorem dX11_load_42 : decode cX11_load 42 = .ok (.aload_n 0, 1) := by decide +kernel
theorem dX11_load_43 : decode cX11_load 43 = .ok (.getfield 33, 3) := by decide +kernel
theorem dX11_load_46 : decode cX11_load 46 = .ok (.sipush 256, 3) := by decide +kernel
theorem dX11_load_49 : decode cX11_load 49 = .ok (.iload_n 1, 1) := by decide +kernel
theorem dX11_load_50 : decode cX11_load 50 = .ok (.imul, 1) := by decide +kernel
theorem dX11_load_51 : decode cX11_load 51 = .ok (.iload_n 2, 1) := by decide +kernel
theorem dX11_load_52 : decode cX11_load 52 = .ok (.iadd, 1) := by decide +kernel
theorem dX11_load_53 : decode cX11_load 53 = .ok (.iaload, 1) := by decide +kernel
theorem dX11_load_54 : decode cX11_load 54 = .ok (.iastore, 1) := by decide +kernel
theorem dX11_load_55 : decode cX11_load 55 = .ok (.aload_n 0, 1) := by decide +kernel
theorem dX11_load_56 : decode cX11_load 56 = .ok (.getfield 21, 3) := by decide +kernel
theorem dX11_load_59 : decode cX11_load 59 = .ok (.iload_n 2, 1) := by decide +kernel
theorem dX11_load_60 : decode cX11_load 60 = .ok (.aload_n 0, 1) := by decide +kernel
theorem dX11_load_61 : decode cX11_load 61 = .ok (.getfield 36, 3) := by decide +kernel
theorem dX11_load_64 : decode cX11_load 64 = .ok (.sipush 256, 3) := by decide +kernel
theorem dX11_load_67 : decode cX11_load 67 = .ok (.iload_n 1, 1) := by decide +kernel
theorem dX11_load_68 : decode cX11_load 68 = .ok (.imul, 1) := by decide +kernel
theorem dX11_load_69 : decode cX11_load 69 = .ok (.iload_n 2, 1) := by decide +kernel
theorem dX11_load_70 : decode cX11_load 70 = .ok (.iadd, 1) := by decide +kernel
theorem dX11_load_71 : decode cX11_load 71 = .ok (.iaload, 1) := by decide +kernel
theorem dX11_load_72 : decode cX11_load 72 = .ok (.iastore, 1) := by decide +kernel
theorem dX11_load_73 : decode cX11_load 73 = .ok (.iinc 2 1, 3) := by decide +kernel
theorem dX11_load_76 : decode cX11_load 76 = .ok (.goto (-64), 3) := by decide +kernel
theorem dX11_load_79 : decode cX11_load 79 = .ok (.return_, 1) := by decide +kernel
theorem dX11_take_0 : decode cX11_take 0 = .ok (.iload_n 1, 1) := by decide +kernel
theorem dX11_take_1 : decode cX11_take 1 = .ok (.invokestatic 198, 3) := by decide +kernel
theorem dX11_take_4 : decode cX11_take 4 = .ok (.ifCond .ne 9, 3) := by decide +kernel
theorem dX11_take_7 : decode cX11_take 7 = .ok (.aload_n 0, 1) := by decide +kernel
theorem dX11_take_8 : decode cX11_take 8 = .ok (.iconst (-1), 1) := by decide +kernel
theorem dX11_take_9 : decode cX11_take 9 = .ok (.invokevirtual 104, 3) := by decide +kernel
theorem dX11_take_12 : decode cX11_take 12 = .ok (.ireturn, 1) := by decide +kernel
theorem dX11_take_13 : decode cX11_take 13 = .ok (.aload_n 0, 1) := by decide +kernel
theorem dX11_take_14 : decode cX11_take 14 = .ok (.getfield 27, 3) := by decide +kernel
theorem dX11_take_17 : decode cX11_take 17 = .ok (.iload_n 1, 1) := by decide +kernel
theorem dX11_take_18 : decode cX11_take 18 = .ok (.iaload, 1) := by decide +kernel
theorem dX11_take_19 : decode cX11_take 19 = .ok (.ifCond .ne 10, 3) := by decide +kernel
theorem dX11_take_22 : decode cX11_take 22 = .ok (.aload_n 0, 1) := by decide +kernel
theorem dX11_take_23 : decode cX11_take 23 = .ok (.bipush (-5), 2) := by decide +kernel
theorem dX11_take_25 : decode cX11_take 25 = .ok (.invokevirtual 104, 3) := by decide +kernel
theorem dX11_take_28 : decode cX11_take 28 = .ok (.ireturn, 1) := by decide +kernel
theorem dX11_take_29 : decode cX11_take 29 = .ok (.aload_n 0, 1) := by decide +kernel
theorem dX11_take_30 : decode cX11_take 30 = .ok (.iload_n 1, 1) := by decide +kernel
theorem dX11_take_31 : decode cX11_take 31 = .ok (.invokevirtual 201, 3) := by decide +kernel
theorem dX11_take_34 : decode cX11_take 34 = .ok (.aload_n 0, 1) := by decide +kernel
theorem dX11_take_35 : decode cX11_take 35 = .ok (.invokevirtual 161, 3) := by decide +kernel
theorem dX11_take_38 : decode cX11_take 38 = .ok (.ireturn, 1) := by decide +kernel
theorem dX11_lose_0 : decode cX11_lose 0 = .ok (.iload_n 1, 1) := by decide +kernel
theorem dX11_lose_1 : decode cX11_lose 1 = .ok (.invokestatic 198, 3) := by decide +kernel
theorem dX11_lose_4 : decode cX11_lose 4 = .ok (.ifCond .ne 9, 3) := by decide +kernel
theorem dX11_lose_7 : decode cX11_lose 7 = .ok (.aload_n 0, 1) := by decide +kernel
theorem dX11_lose_8 : decode cX11_lose 8 = .ok (.iconst (-1), 1) := by decide +kernel
theorem dX11_lose_9 : decode cX11_lose 9 = .ok (.invokevirtual 104, 3) := by decide +kernel
theorem dX11_lose_12 : decode cX11_lose 12 = .ok (.ireturn, 1) := by decide +kernel
theorem dX11_lose_13 : decode cX11_lose 13 = .ok (.aload_n 0, 1) := by decide +kernel
theorem dX11_lose_14 : decode cX11_lose 14 = .ok (.getfield 27, 3) := by decide +kernel
theorem dX11_lose_17 : decode cX11_lose 17 = .ok (.iload_n 1, 1) := by decide +kernel
theorem dX11_lose_18 : decode cX11_lose 18 = .ok (.iaload, 1) := by decide +kernel
theorem dX11_lose_19 : decode cX11_lose 19 = .ok (.ifCond .ne 10, 3) := by decide +kernel
theorem dX11_lose_22 : decode cX11_lose 22 = .ok (.aload_n 0, 1) := by decide +kernel
theorem dX11_lose_23 : decode cX11_lose 23 = .ok (.bipush (-5), 2) := by decide +kernel
theorem dX11_lose_25 : decode cX11_lose 25 = .ok (.invokevirtual 104, 3) := by decide +kernel
theorem dX11_lose_28 : decode cX11_lose 28 = .ok (.ireturn, 1) := by decide +kernel
theorem dX11_lose_29 : decode cX11_lose 29 = .ok (.aload_n 0, 1) := by decide +kernel
theorem dX11_lose_30 : decode cX11_lose 30 = .ok (.getfield 27, 3) := by decide +kernel
theorem dX11_lose_33 : decode cX11_lose 33 = .ok (.iload_n 1, 1) := by decide +kernel
theorem dX11_lose_34 : decode cX11_lose 34 = .ok (.iconst 0, 1) := by decide +kernel
theorem dX11_lose_35 : decode cX11_lose 35 = .ok (.iastore, 1) := by decide +kernel
theorem dX11_lose_36 : decode cX11_lose 36 = .ok (.iconst 1, 1) := by decide +kernel
theorem dX11_lose_37 : decode cX11_lose 37 = .ok (.ireturn, 1) := by decide +kernel
theorem dX11_far_0 : decode cX11_far 0 = .ok (.iload_n 1, 1) := by decide +kernel
theorem dX11_far_1 : decode cX11_far 1 = .ok (.invokestatic 198, 3) := by decide +kernel
theorem dX11_far_4 : decode cX11_far 4 = .ok (.ifCond .ne 9, 3) := by decide +kernel
theorem dX11_far_7 : decode cX11_far 7 = .ok (.aload_n 0, 1) := by decide +kernel
theorem dX11_far_8 : decode cX11_far 8 = .ok (.iconst (-1), 1) := by decide +kernel
theorem dX11_far_9 : decode cX11_far 9 = .ok (.invokevirtual 104, 3) := by decide +kernel
theorem dX11_far_12 : decode cX11_far 12 = .ok (.ireturn, 1) := by decide +kernel
theorem dX11_far_13 : decode cX11_far 13 = .ok (.aload_n 0, 1) := by decide +kernel
theorem dX11_far_14 : decode cX11_far 14 = .ok (.getfield 27, 3) := by decide +kernel
theorem dX11_far_17 : decode cX11_far 17 = .ok (.iload_n 1, 1) := by decide +kernel
theorem dX11_far_18 : decode cX11_far 18 = .ok (.iaload, 1) := by decide +kernel
theorem dX11_far_19 : decode cX11_far 19 = .ok (.ifCond .ne 10, 3) := by decide +kernel
theorem dX11_far_22 : decode cX11_far 22 = .ok (.aload_n 0, 1) := by decide +kernel
theorem dX11_far_23 : decode cX11_far 23 = .ok (.bipush (-5), 2) := by decide +kernel
theorem dX11_far_25 : decode cX11_far 25 = .ok (.invokevirtual 104, 3) := by decide +kernel
theorem dX11_far_28 : decode cX11_far 28 = .ok (.ireturn, 1) := by decide +kernel
theorem dX11_far_29 : decode cX11_far 29 = .ok (.aload_n 0, 1) := by decide +kernel
theorem dX11_far_30 : decode cX11_far 30 = .ok (.getfield 7, 3) := by decide +kernel
theorem dX11_far_33 : decode cX11_far 33 = .ok (.istore_n 2, 1) := by decide +kernel
theorem dX11_far_34 : decode cX11_far 34 = .ok (.iconst 0, 1) := by decide +kernel
theorem dX11_far_35 : decode cX11_far 35 = .ok (.istore_n 3, 1) := by decide +kernel
theorem dX11_far_36 : decode cX11_far 36 = .ok (.iload_n 3, 1) := by decide +kernel
theorem dX11_far_37 : decode cX11_far 37 = .ok (.bipush 16, 2) := by decide +kernel
theorem dX11_far_39 : decode cX11_far 39 = .ok (.if_icmp .ge 20, 3) := by decide +kernel
theorem dX11_far_42 : decode cX11_far 42 = .ok (.aload_n 0, 1) := by decide +kernel
theorem dX11_far_43 : decode cX11_far 43 = .ok (.getfield 79, 3) := by decide +kernel
theorem dX11_far_46 : decode cX11_far 46 = .ok (.iload_n 3, 1) := by decide +kernel
theorem dX11_far_47 : decode cX11_far 47 = .ok (.aload_n 0, 1) := by decide +kernel
theorem dX11_far_48 : decode cX11_far 48 = .ok (.iload_n 3, 1) := by decide +kernel
theorem dX11_far_49 : decode cX11_far 49 = .ok (.invokevirtual 133, 3) := by decide +kernel
theorem dX11_far_52 : decode cX11_far 52 = .ok (.iastore, 1) := by decide +kernel
theorem dX11_far_53 : decode cX11_far 53 = .ok (.iinc 3 1, 3) := by decide +kernel
theorem dX11_far_56 : decode cX11_far 56 = .ok (.goto (-20), 3) := by decide +kernel
theorem dX11_far_59 : decode cX11_far 59 = .ok (.iconst 0, 1) := by decide +kernel
theorem dX11_far_60 : decode cX11_far 60 = .ok (.istore_n 3, 1) := by decide +kernel
theorem dX11_far_61 : decode cX11_far 61 = .ok (.iload_n 3, 1) := by decide +kernel
theorem dX11_far_62 : decode cX11_far 62 = .ok (.sipush 256, 3) := by decide +kernel
theorem dX11_far_65 : decode cX11_far 65 = .ok (.if_icmp .ge 39, 3) := by decide +kernel
theorem dX11_far_68 : decode cX11_far 68 = .ok (.aload_n 0, 1) := by decide +kernel
theorem dX11_far_69 : decode cX11_far 69 = .ok (.getfield 76, 3) := by decide +kernel
theorem dX11_far_72 : decode cX11_far 72 = .ok (.iload_n 3, 1) := by decide +kernel
theorem dX11_far_73 : decode cX11_far 73 = .ok (.aload_n 0, 1) := by decide +kernel
theorem dX11_far_74 : decode cX11_far 74 = .ok (.getfield 13, 3) := by decide +kernel
theorem dX11_far_77 : decode cX11_far 77 = .ok (.iload_n 3, 1) := by decide +kernel
theorem dX11_far_78 : decode cX11_far 78 = .ok (.baload, 1) := by decide +kernel
theorem dX11_far_79 : decode cX11_far 79 = .ok (.bastore, 1) := by decide +kernel
theorem dX11_far_80 : decode cX11_far 80 = .ok (.aload_n 0, 1) := by decide +kernel
theorem dX11_far_81 : decode cX11_far 81 = .ok (.getfield 13, 3) := by decide +kernel
theorem dX11_far_84 : decode cX11_far 84 = .ok (.iload_n 3, 1) := by decide +kernel
theorem dX11_far_85 : decode cX11_far 85 = .ok (.aload_n 0, 1) := by decide +kernel
theorem dX11_far_86 : decode cX11_far 86 = .ok (.getfield 30, 3) := by decide +kernel
theorem dX11_far_89 : decode cX11_far 89 = .ok (.sipush 256, 3) := by decide +kernel
theorem dX11_far_92 : decode cX11_far 92 = .ok (.iload_n 1, 1) := by decide +kernel
theorem dX11_far_93 : decode cX11_far 93 = .ok (.imul, 1) := by decide +kernel
theorem dX11_far_94 : decode cX11_far 94 = .ok (.iload_n 3, 1) := by decide +kernel
theorem dX11_far_95 : decode cX11_far 95 = .ok (.iadd, 1) := by decide +kernel
theorem dX11_far_96 : decode cX11_far 96 = .ok (.baload, 1) := by decide +kernel
theorem dX11_far_97 : decode cX11_far 97 = .ok (.bastore, 1) := by decide +kernel
theorem dX11_far_98 : decode cX11_far 98 = .ok (.iinc 3 1, 3) := by decide +kernel
theorem dX11_far_101 : decode cX11_far 101 = .ok (.goto (-40), 3) := by decide +kernel
theorem dX11_far_104 : decode cX11_far 104 = .ok (.aload_n 0, 1) := by decide +kernel
theorem dX11_far_105 : decode cX11_far 105 = .ok (.aload_n 0, 1) := by decide +kernel
theorem dX11_far_106 : decode cX11_far 106 = .ok (.getfield 27, 3) := by decide +kernel
theorem dX11_far_109 : decode cX11_far 109 = .ok (.iload_n 1, 1) := by decide +kernel
theorem dX11_far_110 : decode cX11_far 110 = .ok (.iaload, 1) := by decide +kernel
theorem dX11_far_111 : decode cX11_far 111 = .ok (.putfield 7, 3) := by decide +kernel
theorem dX11_far_114 : decode cX11_far 114 = .ok (.iconst 0, 1) := by decide +kernel
theorem dX11_far_115 : decode cX11_far 115 = .ok (.istore_n 3, 1) := by decide +kernel
theorem dX11_far_116 : decode cX11_far 116 = .ok (.iconst 0, 1) := by decide +kernel
theorem dX11_far_117 : decode cX11_far 117 = .ok (.istore 4, 2) := by decide +kernel
theorem dX11_far_119 : decode cX11_far 119 = .ok (.iload 4, 2) := by decide +kernel
theorem dX11_far_121 : decode cX11_far 121 = .ok (.bipush 16, 2) := by decide +kernel
theorem dX11_far_123 : decode cX11_far 123 = .ok (.if_icmp .ge 41, 3) := by decide +kernel
theorem dX11_far_126 : decode cX11_far 126 = .ok (.aload_n 0, 1) := by decide +kernel
theorem dX11_far_127 : decode cX11_far 127 = .ok (.iload 4, 2) := by decide +kernel
theorem dX11_far_129 : decode cX11_far 129 = .ok (.invokevirtual 133, 3) := by decide +kernel
theorem dX11_far_132 : decode cX11_far 132 = .ok (.aload_n 0, 1) := by decide +kernel
theorem dX11_far_133 : decode cX11_far 133 = .ok (.getfield 79, 3) := by decide +kernel
theorem dX11_far_136 : decode cX11_far 136 = .ok (.iload 4, 2) := by decide +kernel
theorem dX11_far_138 : decode cX11_far 138 = .ok (.iaload, 1) := by decide +kernel
theorem dX11_far_139 : decode cX11_far 139 = .ok (.isub, 1) := by decide +kernel
theorem dX11_far_140 : decode cX11_far 140 = .ok (.istore 5, 2) := by decide +kernel
theorem dX11_far_142 : decode cX11_far 142 = .ok (.iload_n 3, 1) := by decide +kernel
theorem dX11_far_143 : decode cX11_far 143 = .ok (.iload 5, 2) := by decide +kernel
theorem dX11_far_145 : decode cX11_far 145 = .ok (.ifCond .ge 9, 3) := by decide +kernel
theorem dX11_far_148 : decode cX11_far 148 = .ok (.iload 5, 2) := by decide +kernel
theorem dX11_far_150 : decode cX11_far 150 = .ok (.ineg, 1) := by decide +kernel
theorem dX11_far_151 : decode cX11_far 151 = .ok (.goto 5, 3) := by decide +kernel
theorem dX11_far_154 : decode cX11_far 154 = .ok (.iload 5, 2) := by decide +kernel
theorem dX11_far_156 : decode cX11_far 156 = .ok (.iadd, 1) := by decide +kernel
theorem dX11_far_157 : decode cX11_far 157 = .ok (.istore_n 3, 1) := by decide +kernel
theorem dX11_far_158 : decode cX11_far 158 = .ok (.iinc 4 1, 3) := by decide +kernel
theorem dX11_far_161 : decode cX11_far 161 = .ok (.goto (-42), 3) := by decide +kernel
theorem dX11_far_164 : decode cX11_far 164 = .ok (.iconst 0, 1) := by decide +kernel
theorem dX11_far_165 : decode cX11_far 165 = .ok (.istore 4, 2) := by decide +kernel
theorem dX11_far_167 : decode cX11_far 167 = .ok (.iload 4, 2) := by decide +kernel
theorem dX11_far_169 : decode cX11_far 169 = .ok (.sipush 256, 3) := by decide +kernel
theorem dX11_far_172 : decode cX11_far 172 = .ok (.if_icmp .ge 23, 3) := by decide +kernel
theorem dX11_far_175 : decode cX11_far 175 = .ok (.aload_n 0, 1) := by decide +kernel
theorem dX11_far_176 : decode cX11_far 176 = .ok (.getfield 13, 3) := by decide +kernel
theorem dX11_far_179 : decode cX11_far 179 = .ok (.iload 4, 2) := by decide +kernel
theorem dX11_far_181 : decode cX11_far 181 = .ok (.aload_n 0, 1) := by decide +kernel
theorem dX11_far_182 : decode cX11_far 182 = .ok (.getfield 76, 3) := by decide +kernel
theorem dX11_far_185 : decode cX11_far 185 = .ok (.iload 4, 2) := by decide +kernel
theorem dX11_far_187 : decode cX11_far 187 = .ok (.baload, 1) := by decide +kernel
theorem dX11_far_188 : decode cX11_far 188 = .ok (.bastore, 1) := by decide +kernel
theorem dX11_far_189 : decode cX11_far 189 = .ok (.iinc 4 1, 3) := by decide +kernel
theorem dX11_far_192 : decode cX11_far 192 = .ok (.goto (-25), 3) := by decide +kernel
theorem dX11_far_195 : decode cX11_far 195 = .ok (.aload_n 0, 1) := by decide +kernel
theorem dX11_far_196 : decode cX11_far 196 = .ok (.iload_n 2, 1) := by decide +kernel
theorem dX11_far_197 : decode cX11_far 197 = .ok (.putfield 7, 3) := by decide +kernel
theorem dX11_far_200 : decode cX11_far 200 = .ok (.iload_n 3, 1) := by decide +kernel
theorem dX11_far_201 : decode cX11_far 201 = .ok (.ireturn, 1) := by decide +kernel
theorem dX11_status_0 : decode cX11_status 0 = .ok (.iconst 0, 1) := by decide +kernel
theorem dX11_status_1 : decode cX11_status 1 = .ok (.istore_n 2, 1) := by decide +kernel
theorem dX11_status_2 : decode cX11_status 2 = .ok (.iload_n 1, 1) := by decide +kernel
theorem dX11_status_3 : decode cX11_status 3 = .ok (.tableswitch 230 0 6 #[41, 46, 51, 90, 146, 178, 178], 41) := by decide +kernel
theorem dX11_status_44 : decode cX11_status 44 = .ok (.aload_n 0, 1) := by decide +kernel
theorem dX11_status_45 : decode cX11_status 45 = .ok (.getfield 7, 3) := by decide +kernel
theorem dX11_status_48 : decode cX11_status 48 = .ok (.ireturn, 1) := by decide +kernel
theorem dX11_status_49 : decode cX11_status 49 = .ok (.aload_n 0, 1) := by decide +kernel
theorem dX11_status_50 : decode cX11_status 50 = .ok (.invokevirtual 161, 3) := by decide +kernel
theorem dX11_status_53 : decode cX11_status 53 = .ok (.ireturn, 1) := by decide +kernel
theorem dX11_status_54 : decode cX11_status 54 = .ok (.iconst 0, 1) := by decide +kernel
theorem dX11_status_55 : decode cX11_status 55 = .ok (.istore_n 3, 1) := by decide +kernel
theorem dX11_status_56 : decode cX11_status 56 = .ok (.iload_n 3, 1) := by decide +kernel
theorem dX11_status_57 : decode cX11_status 57 = .ok (.sipush 256, 3) := by decide +kernel
theorem dX11_status_60 : decode cX11_status 60 = .ok (.if_icmp .ge 31, 3) := by decide +kernel
theorem dX11_status_63 : decode cX11_status 63 = .ok (.iload_n 2, 1) := by decide +kernel
theorem dX11_status_64 : decode cX11_status 64 = .ok (.aload_n 0, 1) := by decide +kernel
theorem dX11_status_65 : decode cX11_status 65 = .ok (.getfield 13, 3) := by decide +kernel
theorem dX11_status_68 : decode cX11_status 68 = .ok (.iload_n 3, 1) := by decide +kernel
theorem dX11_status_69 : decode cX11_status 69 = .ok (.baload, 1) := by decide +kernel
theorem dX11_status_70 : decode cX11_status 70 = .ok (.ifCond .eq 12, 3) := by decide +kernel
theorem dX11_status_73 : decode cX11_status 73 = .ok (.aload_n 0, 1) := by decide +kernel
theorem dX11_status_74 : decode cX11_status 74 = .ok (.getfield 17, 3) := by decide +kernel
theorem dX11_status_77 : decode cX11_status 77 = .ok (.iload_n 3, 1) := by decide +kernel
theorem dX11_status_78 : decode cX11_status 78 = .ok (.iaload, 1) := by decide +kernel
theorem dX11_status_79 : decode cX11_status 79 = .ok (.goto 4, 3) := by decide +kernel
theorem dX11_status_82 : decode cX11_status 82 = .ok (.iconst 0, 1) := by decide +kernel
theorem dX11_status_83 : decode cX11_status 83 = .ok (.iadd, 1) := by decide +kernel
theorem dX11_status_84 : decode cX11_status 84 = .ok (.istore_n 2, 1) := by decide +kernel
theorem dX11_status_85 : decode cX11_status 85 = .ok (.iinc 3 1, 3) := by decide +kernel
theorem dX11_status_88 : decode cX11_status 88 = .ok (.goto (-32), 3) := by decide +kernel
theorem dX11_status_91 : decode cX11_status 91 = .ok (.iload_n 2, 1) := by decide +kernel
theorem dX11_status_92 : decode cX11_status 92 = .ok (.ireturn, 1) := by decide +kernel
theorem dX11_status_93 : decode cX11_status 93 = .ok (.iconst 0, 1) := by decide +kernel
theorem dX11_status_94 : decode cX11_status 94 = .ok (.istore_n 3, 1) := by decide +kernel
theorem dX11_status_95 : decode cX11_status 95 = .ok (.iload_n 3, 1) := by decide +kernel
theorem dX11_status_96 : decode cX11_status 96 = .ok (.aload_n 0, 1) := by decide +kernel
theorem dX11_status_97 : decode cX11_status 97 = .ok (.getfield 7, 3) := by decide +kernel
theorem dX11_status_100 : decode cX11_status 100 = .ok (.if_icmp .ge 47, 3) := by decide +kernel
theorem dX11_status_103 : decode cX11_status 103 = .ok (.iload_n 3, 1) := by decide +kernel
theorem dX11_status_104 : decode cX11_status 104 = .ok (.iconst 1, 1) := by decide +kernel
theorem dX11_status_105 : decode cX11_status 105 = .ok (.iadd, 1) := by decide +kernel
theorem dX11_status_106 : decode cX11_status 106 = .ok (.istore 4, 2) := by decide +kernel
theorem dX11_status_108 : decode cX11_status 108 = .ok (.iload 4, 2) := by decide +kernel
theorem dX11_status_110 : decode cX11_status 110 = .ok (.aload_n 0, 1) := by decide +kernel
theorem dX11_status_111 : decode cX11_status 111 = .ok (.getfield 7, 3) := by decide +kernel
theorem dX11_status_114 : decode cX11_status 114 = .ok (.if_icmp .ge 27, 3) := by decide +kernel
theorem dX11_status_117 : decode cX11_status 117 = .ok (.iload_n 2, 1) := by decide +kernel
theorem dX11_status_118 : decode cX11_status 118 = .ok (.aload_n 0, 1) := by decide +kernel
theorem dX11_status_119 : decode cX11_status 119 = .ok (.iload_n 3, 1) := by decide +kernel
theorem dX11_status_120 : decode cX11_status 120 = .ok (.iload 4, 2) := by decide +kernel
theorem dX11_status_122 : decode cX11_status 122 = .ok (.invokevirtual 143, 3) := by decide +kernel
theorem dX11_status_125 : decode cX11_status 125 = .ok (.ifCond .eq 7, 3) := by decide +kernel
theorem dX11_status_128 : decode cX11_status 128 = .ok (.iconst 1, 1) := by decide +kernel
theorem dX11_status_129 : decode cX11_status 129 = .ok (.goto 4, 3) := by decide +kernel
theorem dX11_status_132 : decode cX11_status 132 = .ok (.iconst 0, 1) := by decide +kernel
theorem dX11_status_133 : decode cX11_status 133 = .ok (.iadd, 1) := by decide +kernel
theorem dX11_status_134 : decode cX11_status 134 = .ok (.istore_n 2, 1) := by decide +kernel
theorem dX11_status_135 : decode cX11_status 135 = .ok (.iinc 4 1, 3) := by decide +kernel
theorem dX11_status_138 : decode cX11_status 138 = .ok (.goto (-30), 3) := by decide +kernel
theorem dX11_status_141 : decode cX11_status 141 = .ok (.iinc 3 1, 3) := by decide +kernel
theorem dX11_status_144 : decode cX11_status 144 = .ok (.goto (-49), 3) := by decide +kernel
theorem dX11_status_147 : decode cX11_status 147 = .ok (.iload_n 2, 1) := by decide +kernel
theorem dX11_status_148 : decode cX11_status 148 = .ok (.ireturn, 1) := by decide +kernel
theorem dX11_status_149 : decode cX11_status 149 = .ok (.iconst 0, 1) := by decide +kernel
theorem dX11_status_150 : decode cX11_status 150 = .ok (.istore_n 3, 1) := by decide +kernel
theorem dX11_status_151 : decode cX11_status 151 = .ok (.iload_n 3, 1) := by decide +kernel
theorem dX11_status_152 : decode cX11_status 152 = .ok (.iconst 4, 1) := by decide +kernel
theorem dX11_status_153 : decode cX11_status 153 = .ok (.if_icmp .ge 26, 3) := by decide +kernel
theorem dX11_status_156 : decode cX11_status 156 = .ok (.iload_n 2, 1) := by decide +kernel
theorem dX11_status_157 : decode cX11_status 157 = .ok (.aload_n 0, 1) := by decide +kernel
theorem dX11_status_158 : decode cX11_status 158 = .ok (.getfield 27, 3) := by decide +kernel
theorem dX11_status_161 : decode cX11_status 161 = .ok (.iload_n 3, 1) := by decide +kernel
theorem dX11_status_162 : decode cX11_status 162 = .ok (.iaload, 1) := by decide +kernel
theorem dX11_status_163 : decode cX11_status 163 = .ok (.ifCond .le 7, 3) := by decide +kernel
theorem dX11_status_166 : decode cX11_status 166 = .ok (.iconst 1, 1) := by decide +kernel
theorem dX11_status_167 : decode cX11_status 167 = .ok (.goto 4, 3) := by decide +kernel
theorem dX11_status_170 : decode cX11_status 170 = .ok (.iconst 0, 1) := by decide +kernel
theorem dX11_status_171 : decode cX11_status 171 = .ok (.iadd, 1) := by decide +kernel
theorem dX11_status_172 : decode cX11_status 172 = .ok (.istore_n 2, 1) := by decide +kernel
theorem dX11_status_173 : decode cX11_status 173 = .ok (.iinc 3 1, 3) := by decide +kernel
theorem dX11_status_176 : decode cX11_status 176 = .ok (.goto (-25), 3) := by decide +kernel
theorem dX11_status_179 : decode cX11_status 179 = .ok (.iload_n 2, 1) := by decide +kernel
theorem dX11_status_180 : decode cX11_status 180 = .ok (.ireturn, 1) := by decide +kernel
theorem dX11_status_181 : decode cX11_status 181 = .ok (.iconst 1, 1) := by decide +kernel
theorem dX11_status_182 : decode cX11_status 182 = .ok (.istore_n 3, 1) := by decide +kernel
theorem dX11_status_183 : decode cX11_status 183 = .ok (.iload_n 3, 1) := by decide +kernel
theorem dX11_status_184 : decode cX11_status 184 = .ok (.aload_n 0, 1) := by decide +kernel
theorem dX11_status_185 : decode cX11_status 185 = .ok (.getfield 7, 3) := by decide +kernel
theorem dX11_status_188 : decode cX11_status 188 = .ok (.if_icmp .ge 43, 3) := by decide +kernel
theorem dX11_status_191 : decode cX11_status 191 = .ok (.iload_n 2, 1) := by decide +kernel
theorem dX11_status_192 : decode cX11_status 192 = .ok (.iload_n 1, 1) := by decide +kernel
theorem dX11_status_193 : decode cX11_status 193 = .ok (.iconst 5, 1) := by decide +kernel
theorem dX11_status_194 : decode cX11_status 194 = .ok (.if_icmp .ne 15, 3) := by decide +kernel
theorem dX11_status_197 : decode cX11_status 197 = .ok (.aload_n 0, 1) := by decide +kernel
theorem dX11_status_198 : decode cX11_status 198 = .ok (.iconst 0, 1) := by decide +kernel
theorem dX11_status_199 : decode cX11_status 199 = .ok (.iload_n 3, 1) := by decide +kernel
theorem dX11_status_200 : decode cX11_status 200 = .ok (.invokevirtual 96, 3) := by decide +kernel
theorem dX11_status_203 : decode cX11_status 203 = .ok (.ifCond .eq 19, 3) := by decide +kernel
theorem dX11_status_206 : decode cX11_status 206 = .ok (.goto 12, 3) := by decide +kernel
theorem dX11_status_209 : decode cX11_status 209 = .ok (.aload_n 0, 1) := by decide +kernel
theorem dX11_status_210 : decode cX11_status 210 = .ok (.iload_n 3, 1) := by decide +kernel
theorem dX11_status_211 : decode cX11_status 211 = .ok (.iconst 0, 1) := by decide +kernel
theorem dX11_status_212 : decode cX11_status 212 = .ok (.invokevirtual 96, 3) := by decide +kernel
theorem dX11_status_215 : decode cX11_status 215 = .ok (.ifCond .eq 7, 3) := by decide +kernel
theorem dX11_status_218 : decode cX11_status 218 = .ok (.iconst 1, 1) := by decide +kernel
theorem dX11_status_219 : decode cX11_status 219 = .ok (.goto 4, 3) := by decide +kernel
theorem dX11_status_222 : decode cX11_status 222 = .ok (.iconst 0, 1) := by decide +kernel
theorem dX11_status_223 : decode cX11_status 223 = .ok (.iadd, 1) := by decide +kernel
theorem dX11_status_224 : decode cX11_status 224 = .ok (.istore_n 2, 1) := by decide +kernel
theorem dX11_status_225 : decode cX11_status 225 = .ok (.iinc 3 1, 3) := by decide +kernel
theorem dX11_status_228 : decode cX11_status 228 = .ok (.goto (-45), 3) := by decide +kernel
theorem dX11_status_231 : decode cX11_status 231 = .ok (.iload_n 2, 1) := by decide +kernel
theorem dX11_status_232 : decode cX11_status 232 = .ok (.ireturn, 1) := by decide +kernel
theorem dX11_status_233 : decode cX11_status 233 = .ok (.iload_n 1, 1) := by decide +kernel
theorem dX11_status_234 : decode cX11_status 234 = .ok (.bipush 11, 2) := by decide +kernel
theorem dX11_status_236 : decode cX11_status 236 = .ok (.bipush 16, 2) := by decide +kernel
theorem dX11_status_238 : decode cX11_status 238 = .ok (.invokestatic 86, 3) := by decide +kernel
theorem dX11_status_241 : decode cX11_status 241 = .ok (.ifCond .eq 15, 3) := by decide +kernel
theorem dX11_status_244 : decode cX11_status 244 = .ok (.aload_n 0, 1) := by decide +kernel
theorem dX11_status_245 : decode cX11_status 245 = .ok (.getfield 39, 3) := by decide +kernel
theorem dX11_status_248 : decode cX11_status 248 = .ok (.iload_n 1, 1) := by decide +kernel
theorem dX11_status_249 : decode cX11_status 249 = .ok (.bipush 10, 2) := by decide +kernel
theorem dX11_status_251 : decode cX11_status 251 = .ok (.isub, 1) := by decide +kernel
theorem dX11_status_252 : decode cX11_status 252 = .ok (.iaload, 1) := by decide +kernel
theorem dX11_status_253 : decode cX11_status 253 = .ok (.goto 5, 3) := by decide +kernel
theorem dX11_status_256 : decode cX11_status 256 = .ok (.bipush (-9), 2) := by decide +kernel
theorem dX11_status_258 : decode cX11_status 258 = .ok (.ireturn, 1) := by decide +kernel
theorem dJ6_bitCount_0f7a4_0 : decode cJ6_bitCount_0f7a4 0 = .ok (.iload_n 0, 1) := by decide +kernel
theorem dJ6_bitCount_0f7a4_1 : decode cJ6_bitCount_0f7a4 1 = .ok (.iload_n 0, 1) := by decide +kernel
theorem dJ6_bitCount_0f7a4_2 : decode cJ6_bitCount_0f7a4 2 = .ok (.iconst 1, 1) := by decide +kernel
theorem dJ6_bitCount_0f7a4_3 : decode cJ6_bitCount_0f7a4 3 = .ok (.iushr, 1) := by decide +kernel
theorem dJ6_bitCount_0f7a4_4 : decode cJ6_bitCount_0f7a4 4 = .ok (.ldc_w 265, 3) := by decide +kernel
theorem dJ6_bitCount_0f7a4_7 : decode cJ6_bitCount_0f7a4 7 = .ok (.iand, 1) := by decide +kernel
theorem dJ6_bitCount_0f7a4_8 : decode cJ6_bitCount_0f7a4 8 = .ok (.isub, 1) := by decide +kernel
theorem dJ6_bitCount_0f7a4_9 : decode cJ6_bitCount_0f7a4 9 = .ok (.istore_n 0, 1) := by decide +kernel
theorem dJ6_bitCount_0f7a4_10 : decode cJ6_bitCount_0f7a4 10 = .ok (.iload_n 0, 1) := by decide +kernel
theorem dJ6_bitCount_0f7a4_11 : decode cJ6_bitCount_0f7a4 11 = .ok (.ldc_w 266, 3) := by decide +kernel
theorem dJ6_bitCount_0f7a4_14 : decode cJ6_bitCount_0f7a4 14 = .ok (.iand, 1) := by decide +kernel
theorem dJ6_bitCount_0f7a4_15 : decode cJ6_bitCount_0f7a4 15 = .ok (.iload_n 0, 1) := by decide +kernel
theorem dJ6_bitCount_0f7a4_16 : decode cJ6_bitCount_0f7a4 16 = .ok (.iconst 2, 1) := by decide +kernel
theorem dJ6_bitCount_0f7a4_17 : decode cJ6_bitCount_0f7a4 17 = .ok (.iushr, 1) := by decide +kernel
theorem dJ6_bitCount_0f7a4_18 : decode cJ6_bitCount_0f7a4 18 = .ok (.ldc_w 266, 3) := by decide +kernel
theorem dJ6_bitCount_0f7a4_21 : decode cJ6_bitCount_0f7a4 21 = .ok (.iand, 1) := by decide +kernel
theorem dJ6_bitCount_0f7a4_22 : decode cJ6_bitCount_0f7a4 22 = .ok (.iadd, 1) := by decide +kernel
theorem dJ6_bitCount_0f7a4_23 : decode cJ6_bitCount_0f7a4 23 = .ok (.istore_n 0, 1) := by decide +kernel
theorem dJ6_bitCount_0f7a4_24 : decode cJ6_bitCount_0f7a4 24 = .ok (.iload_n 0, 1) := by decide +kernel
theorem dJ6_bitCount_0f7a4_25 : decode cJ6_bitCount_0f7a4 25 = .ok (.iload_n 0, 1) := by decide +kernel
theorem dJ6_bitCount_0f7a4_26 : decode cJ6_bitCount_0f7a4 26 = .ok (.iconst 4, 1) := by decide +kernel
theorem dJ6_bitCount_0f7a4_27 : decode cJ6_bitCount_0f7a4 27 = .ok (.iushr, 1) := by decide +kernel
theorem dJ6_bitCount_0f7a4_28 : decode cJ6_bitCount_0f7a4 28 = .ok (.iadd, 1) := by decide +kernel
theorem dJ6_bitCount_0f7a4_29 : decode cJ6_bitCount_0f7a4 29 = .ok (.ldc_w 267, 3) := by decide +kernel
theorem dJ6_bitCount_0f7a4_32 : decode cJ6_bitCount_0f7a4 32 = .ok (.iand, 1) := by decide +kernel
theorem dJ6_bitCount_0f7a4_33 : decode cJ6_bitCount_0f7a4 33 = .ok (.istore_n 0, 1) := by decide +kernel
theorem dJ6_bitCount_0f7a4_34 : decode cJ6_bitCount_0f7a4 34 = .ok (.iload_n 0, 1) := by decide +kernel
theorem dJ6_bitCount_0f7a4_35 : decode cJ6_bitCount_0f7a4 35 = .ok (.iload_n 0, 1) := by decide +kernel
theorem dJ6_bitCount_0f7a4_36 : decode cJ6_bitCount_0f7a4 36 = .ok (.bipush 8, 2) := by decide +kernel
theorem dJ6_bitCount_0f7a4_38 : decode cJ6_bitCount_0f7a4 38 = .ok (.iushr, 1) := by decide +kernel
theorem dJ6_bitCount_0f7a4_39 : decode cJ6_bitCount_0f7a4 39 = .ok (.iadd, 1) := by decide +kernel
theorem dJ6_bitCount_0f7a4_40 : decode cJ6_bitCount_0f7a4 40 = .ok (.istore_n 0, 1) := by decide +kernel
theorem dJ6_bitCount_0f7a4_41 : decode cJ6_bitCount_0f7a4 41 = .ok (.iload_n 0, 1) := by decide +kernel
theorem dJ6_bitCount_0f7a4_42 : decode cJ6_bitCount_0f7a4 42 = .ok (.iload_n 0, 1) := by decide +kernel
theorem dJ6_bitCount_0f7a4_43 : decode cJ6_bitCount_0f7a4 43 = .ok (.bipush 16, 2) := by decide +kernel
theorem dJ6_bitCount_0f7a4_45 : decode cJ6_bitCount_0f7a4 45 = .ok (.iushr, 1) := by decide +kernel
theorem dJ6_bitCount_0f7a4_46 : decode cJ6_bitCount_0f7a4 46 = .ok (.iadd, 1) := by decide +kernel
theorem dJ6_bitCount_0f7a4_47 : decode cJ6_bitCount_0f7a4 47 = .ok (.istore_n 0, 1) := by decide +kernel
theorem dJ6_bitCount_0f7a4_48 : decode cJ6_bitCount_0f7a4 48 = .ok (.iload_n 0, 1) := by decide +kernel
theorem dJ6_bitCount_0f7a4_49 : decode cJ6_bitCount_0f7a4 49 = .ok (.bipush 63, 2) := by decide +kernel
theorem dJ6_bitCount_0f7a4_51 : decode cJ6_bitCount_0f7a4 51 = .ok (.iand, 1) := by decide +kernel
theorem dJ6_bitCount_0f7a4_52 : decode cJ6_bitCount_0f7a4 52 = .ok (.ireturn, 1) := by decide +kernel
theorem dJ13_compare_74951_0 : decode cJ13_compare_74951 0 = .ok (.lload_n 0, 1) := by decide +kernel
theorem dJ13_compare_74951_1 : decode cJ13_compare_74951 1 = .ok (.lload_n 2, 1) := by decide +kernel
theorem dJ13_compare_74951_2 : decode cJ13_compare_74951 2 = .ok (.lcmp, 1) := by decide +kernel
theorem dJ13_compare_74951_3 : decode cJ13_compare_74951 3 = .ok (.ifCond .ge 7, 3) := by decide +kernel
theorem dJ13_compare_74951_6 : decode cJ13_compare_74951 6 = .ok (.iconst (-1), 1) := by decide +kernel
theorem dJ13_compare_74951_7 : decode cJ13_compare_74951 7 = .ok (.goto 14, 3) := by decide +kernel
theorem dJ13_compare_74951_10 : decode cJ13_compare_74951 10 = .ok (.lload_n 0, 1) := by decide +kernel
theorem dJ13_compare_74951_11 : decode cJ13_compare_74951 11 = .ok (.lload_n 2, 1) := by decide +kernel
theorem dJ13_compare_74951_12 : decode cJ13_compare_74951 12 = .ok (.lcmp, 1) := by decide +kernel
theorem dJ13_compare_74951_13 : decode cJ13_compare_74951 13 = .ok (.ifCond .ne 7, 3) := by decide +kernel
theorem dJ13_compare_74951_16 : decode cJ13_compare_74951 16 = .ok (.iconst 0, 1) := by decide +kernel
theorem dJ13_compare_74951_17 : decode cJ13_compare_74951 17 = .ok (.goto 4, 3) := by decide +kernel
theorem dJ13_compare_74951_20 : decode cJ13_compare_74951 20 = .ok (.iconst 1, 1) := by decide +kernel
theorem dJ13_compare_74951_21 : decode cJ13_compare_74951 21 = .ok (.ireturn, 1) := by decide +kernel
theorem dJ9_abs_0f7a4_0 : decode cJ9_abs_0f7a4 0 = .ok (.iload_n 0, 1) := by decide +kernel
theorem dJ9_abs_0f7a4_1 : decode cJ9_abs_0f7a4 1 = .ok (.ifCond .ge 8, 3) := by decide +kernel
theorem dJ9_abs_0f7a4_4 : decode cJ9_abs_0f7a4 4 = .ok (.iload_n 0, 1) := by decide +kernel
theorem dJ9_abs_0f7a4_5 : decode cJ9_abs_0f7a4 5 = .ok (.ineg, 1) := by decide +kernel
theorem dJ9_abs_0f7a4_6 : decode cJ9_abs_0f7a4 6 = .ok (.goto 4, 3) := by decide +kernel
theorem dJ9_abs_0f7a4_9 : decode cJ9_abs_0f7a4 9 = .ok (.iload_n 0, 1) := by decide +kernel
theorem dJ9_abs_0f7a4_10 : decode cJ9_abs_0f7a4 10 = .ok (.ireturn, 1) := by decide +kernel
theorem dJ9_max_7cf53_0 : decode cJ9_max_7cf53 0 = .ok (.iload_n 0, 1) := by decide +kernel
theorem dJ9_max_7cf53_1 : decode cJ9_max_7cf53 1 = .ok (.iload_n 1, 1) := by decide +kernel
theorem dJ9_max_7cf53_2 : decode cJ9_max_7cf53 2 = .ok (.if_icmp .lt 7, 3) := by decide +kernel
theorem dJ9_max_7cf53_5 : decode cJ9_max_7cf53 5 = .ok (.iload_n 0, 1) := by decide +kernel
theorem dJ9_max_7cf53_6 : decode cJ9_max_7cf53 6 = .ok (.goto 4, 3) := by decide +kernel
theorem dJ9_max_7cf53_9 : decode cJ9_max_7cf53 9 = .ok (.iload_n 1, 1) := by decide +kernel
theorem dJ9_max_7cf53_10 : decode cJ9_max_7cf53 10 = .ok (.ireturn, 1) := by decide +kernel
theorem dJ9_min_7cf53_0 : decode cJ9_min_7cf53 0 = .ok (.iload_n 0, 1) := by decide +kernel
theorem dJ9_min_7cf53_1 : decode cJ9_min_7cf53 1 = .ok (.iload_n 1, 1) := by decide +kernel
theorem dJ9_min_7cf53_2 : decode cJ9_min_7cf53 2 = .ok (.if_icmp .gt 7, 3) := by decide +kernel
theorem dJ9_min_7cf53_5 : decode cJ9_min_7cf53 5 = .ok (.iload_n 0, 1) := by decide +kernel
theorem dJ9_min_7cf53_6 : decode cJ9_min_7cf53 6 = .ok (.goto 4, 3) := by decide +kernel
theorem dJ9_min_7cf53_9 : decode cJ9_min_7cf53 9 = .ok (.iload_n 1, 1) := by decide +kernel
theorem dJ9_min_7cf53_10 : decode cJ9_min_7cf53 10 = .ok (.ireturn, 1) := by decide +kernel
theorem dL_law_0 : decode cL_law 0 = .ok (.new 7, 3) := by decide +kernel
theorem dL_law_3 : decode cL_law 3 = .ok (.dup, 1) := by decide +kernel
theorem dL_law_4 : decode cL_law 4 = .ok (.invokespecial 9, 3) := by decide +kernel
theorem dL_law_7 : decode cL_law 7 = .ok (.astore_n 1, 1) := by decide +kernel
theorem dL_law_8 : decode cL_law 8 = .ok (.new 10, 3) := by decide +kernel
theorem dL_law_11 : decode cL_law 11 = .ok (.dup, 1) := by decide +kernel
theorem dL_law_12 : decode cL_law 12 = .ok (.invokespecial 12, 3) := by decide +kernel
theorem dL_law_15 : decode cL_law 15 = .ok (.astore_n 2, 1) := by decide +kernel
theorem dL_law_16 : decode cL_law 16 = .ok (.iconst 0, 1) := by decide +kernel
theorem dL_law_17 : decode cL_law 17 = .ok (.istore_n 3, 1) := by decide +kernel
theorem dL_law_18 : decode cL_law 18 = .ok (.iload_n 3, 1) := by decide +kernel
theorem dL_law_19 : decode cL_law 19 = .ok (.aload_n 0, 1) := by decide +kernel
theorem dL_law_20 : decode cL_law 20 = .ok (.arraylength, 1) := by decide +kernel
theorem dL_law_21 : decode cL_law 21 = .ok (.iconst 5, 1) := by decide +kernel
theorem dL_law_22 : decode cL_law 22 = .ok (.isub, 1) := by decide +kernel
theorem dL_law_23 : decode cL_law 23 = .ok (.if_icmp .gt 1035, 3) := by decide +kernel
theorem dL_law_26 : decode cL_law 26 = .ok (.aload_n 0, 1) := by decide +kernel
theorem dL_law_27 : decode cL_law 27 = .ok (.iload_n 3, 1) := by decide +kernel
theorem dL_law_28 : decode cL_law 28 = .ok (.iaload, 1) := by decide +kernel
theorem dL_law_29 : decode cL_law 29 = .ok (.bipush 31, 2) := by decide +kernel
theorem dL_law_31 : decode cL_law 31 = .ok (.iand, 1) := by decide +kernel
theorem dL_law_32 : decode cL_law 32 = .ok (.tableswitch 1020 0 28 #[132, 155, 208, 241, 284, 317, 360, 393, 436, 459, 502, 525, 538, 561, 584, 617, 640, 674, 697, 730, 763, 786, 809, 862, 905, 928, 951, 974, 997], 132) := by decide +kernel
