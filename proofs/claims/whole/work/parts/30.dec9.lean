theorem dX9_init_0 : decode cX9_init 0 = .ok (.aload_n 0, 1) := by decide +kernel
theorem dX9_init_1 : decode cX9_init 1 = .ok (.invokespecial 1, 3) := by decide +kernel
theorem dX9_init_4 : decode cX9_init 4 = .ok (.aload_n 0, 1) := by decide +kernel
theorem dX9_init_5 : decode cX9_init 5 = .ok (.sipush 1163, 3) := by decide +kernel
theorem dX9_init_8 : decode cX9_init 8 = .ok (.newarray .int, 2) := by decide +kernel
theorem dX9_init_10 : decode cX9_init 10 = .ok (.putfield 7, 3) := by decide +kernel
theorem dX9_init_13 : decode cX9_init 13 = .ok (.aload_n 0, 1) := by decide +kernel
theorem dX9_init_14 : decode cX9_init 14 = .ok (.sipush 6978, 3) := by decide +kernel
theorem dX9_init_17 : decode cX9_init 17 = .ok (.newarray .int, 2) := by decide +kernel
theorem dX9_init_19 : decode cX9_init 19 = .ok (.putfield 13, 3) := by decide +kernel
theorem dX9_init_22 : decode cX9_init 22 = .ok (.aload_n 0, 1) := by decide +kernel
theorem dX9_init_23 : decode cX9_init 23 = .ok (.bipush 100, 2) := by decide +kernel
theorem dX9_init_25 : decode cX9_init 25 = .ok (.newarray .int, 2) := by decide +kernel
theorem dX9_init_27 : decode cX9_init 27 = .ok (.putfield 16, 3) := by decide +kernel
theorem dX9_init_30 : decode cX9_init 30 = .ok (.aload_n 0, 1) := by decide +kernel
theorem dX9_init_31 : decode cX9_init 31 = .ok (.bipush 50, 2) := by decide +kernel
theorem dX9_init_33 : decode cX9_init 33 = .ok (.newarray .int, 2) := by decide +kernel
theorem dX9_init_35 : decode cX9_init 35 = .ok (.putfield 19, 3) := by decide +kernel
theorem dX9_init_38 : decode cX9_init 38 = .ok (.aload_n 0, 1) := by decide +kernel
theorem dX9_init_39 : decode cX9_init 39 = .ok (.bipush 50, 2) := by decide +kernel
theorem dX9_init_41 : decode cX9_init 41 = .ok (.newarray .int, 2) := by decide +kernel
theorem dX9_init_43 : decode cX9_init 43 = .ok (.putfield 22, 3) := by decide +kernel
theorem dX9_init_46 : decode cX9_init 46 = .ok (.aload_n 0, 1) := by decide +kernel
theorem dX9_init_47 : decode cX9_init 47 = .ok (.sipush 1024, 3) := by decide +kernel
theorem dX9_init_50 : decode cX9_init 50 = .ok (.newarray .int, 2) := by decide +kernel
theorem dX9_init_52 : decode cX9_init 52 = .ok (.putfield 25, 3) := by decide +kernel
theorem dX9_init_55 : decode cX9_init 55 = .ok (.aload_n 0, 1) := by decide +kernel
theorem dX9_init_56 : decode cX9_init 56 = .ok (.bipush 64, 2) := by decide +kernel
theorem dX9_init_58 : decode cX9_init 58 = .ok (.newarray .int, 2) := by decide +kernel
theorem dX9_init_60 : decode cX9_init 60 = .ok (.putfield 28, 3) := by decide +kernel
theorem dX9_init_63 : decode cX9_init 63 = .ok (.aload_n 0, 1) := by decide +kernel
theorem dX9_init_64 : decode cX9_init 64 = .ok (.bipush 64, 2) := by decide +kernel
theorem dX9_init_66 : decode cX9_init 66 = .ok (.newarray .int, 2) := by decide +kernel
theorem dX9_init_68 : decode cX9_init 68 = .ok (.putfield 31, 3) := by decide +kernel
theorem dX9_init_71 : decode cX9_init 71 = .ok (.aload_n 0, 1) := by decide +kernel
theorem dX9_init_72 : decode cX9_init 72 = .ok (.bipush 64, 2) := by decide +kernel
theorem dX9_init_74 : decode cX9_init 74 = .ok (.newarray .int, 2) := by decide +kernel
theorem dX9_init_76 : decode cX9_init 76 = .ok (.putfield 34, 3) := by decide +kernel
theorem dX9_init_79 : decode cX9_init 79 = .ok (.aload_n 0, 1) := by decide +kernel
theorem dX9_init_80 : decode cX9_init 80 = .ok (.bipush 120, 2) := by decide +kernel
theorem dX9_init_82 : decode cX9_init 82 = .ok (.newarray .int, 2) := by decide +kernel
theorem dX9_init_84 : decode cX9_init 84 = .ok (.putfield 37, 3) := by decide +kernel
theorem dX9_init_87 : decode cX9_init 87 = .ok (.aload_n 0, 1) := by decide +kernel
theorem dX9_init_88 : decode cX9_init 88 = .ok (.bipush 120, 2) := by decide +kernel
theorem dX9_init_90 : decode cX9_init 90 = .ok (.newarray .int, 2) := by decide +kernel
theorem dX9_init_92 : decode cX9_init 92 = .ok (.putfield 40, 3) := by decide +kernel
theorem dX9_init_95 : decode cX9_init 95 = .ok (.aload_n 0, 1) := by decide +kernel
theorem dX9_init_96 : decode cX9_init 96 = .ok (.bipush 120, 2) := by decide +kernel
theorem dX9_init_98 : decode cX9_init 98 = .ok (.newarray .int, 2) := by decide +kernel
theorem dX9_init_100 : decode cX9_init 100 = .ok (.putfield 43, 3) := by decide +kernel
theorem dX9_init_103 : decode cX9_init 103 = .ok (.aload_n 0, 1) := by decide +kernel
theorem dX9_init_104 : decode cX9_init 104 = .ok (.bipush 64, 2) := by decide +kernel
theorem dX9_init_106 : decode cX9_init 106 = .ok (.newarray .int, 2) := by decide +kernel
theorem dX9_init_108 : decode cX9_init 108 = .ok (.putfield 46, 3) := by decide +kernel
theorem dX9_init_111 : decode cX9_init 111 = .ok (.aload_n 0, 1) := by decide +kernel
theorem dX9_init_112 : decode cX9_init 112 = .ok (.bipush 64, 2) := by decide +kernel
theorem dX9_init_114 : decode cX9_init 114 = .ok (.newarray .int, 2) := by decide +kernel
theorem dX9_init_116 : decode cX9_init 116 = .ok (.putfield 49, 3) := by decide +kernel
theorem dX9_init_119 : decode cX9_init 119 = .ok (.aload_n 0, 1) := by decide +kernel
theorem dX9_init_120 : decode cX9_init 120 = .ok (.bipush 64, 2) := by decide +kernel
theorem dX9_init_122 : decode cX9_init 122 = .ok (.newarray .int, 2) := by decide +kernel
theorem dX9_init_124 : decode cX9_init 124 = .ok (.putfield 52, 3) := by decide +kernel
theorem dX9_init_127 : decode cX9_init 127 = .ok (.aload_n 0, 1) := by decide +kernel
theorem dX9_init_128 : decode cX9_init 128 = .ok (.bipush 50, 2) := by decide +kernel
theorem dX9_init_130 : decode cX9_init 130 = .ok (.newarray .int, 2) := by decide +kernel
theorem dX9_init_132 : decode cX9_init 132 = .ok (.putfield 55, 3) := by decide +kernel
theorem dX9_init_135 : decode cX9_init 135 = .ok (.aload_n 0, 1) := by decide +kernel
theorem dX9_init_136 : decode cX9_init 136 = .ok (.bipush 50, 2) := by decide +kernel
theorem dX9_init_138 : decode cX9_init 138 = .ok (.newarray .int, 2) := by decide +kernel
theorem dX9_init_140 : decode cX9_init 140 = .ok (.putfield 58, 3) := by decide +kernel
theorem dX9_init_143 : decode cX9_init 143 = .ok (.aload_n 0, 1) := by decide +kernel
theorem dX9_init_144 : decode cX9_init 144 = .ok (.getfield 7, 3) := by decide +kernel
theorem dX9_init_147 : decode cX9_init 147 = .ok (.iconst 0, 1) := by decide +kernel
theorem dX9_init_148 : decode cX9_init 148 = .ok (.iconst 2, 1) := by decide +kernel
theorem dX9_init_149 : decode cX9_init 149 = .ok (.iastore, 1) := by decide +kernel
theorem dX9_init_150 : decode cX9_init 150 = .ok (.aload_n 0, 1) := by decide +kernel
theorem dX9_init_151 : decode cX9_init 151 = .ok (.getfield 7, 3) := by decide +kernel
theorem dX9_init_154 : decode cX9_init 154 = .ok (.iconst 1, 1) := by decide +kernel
theorem dX9_init_155 : decode cX9_init 155 = .ok (.iconst 2, 1) := by decide +kernel
theorem dX9_init_156 : decode cX9_init 156 = .ok (.iastore, 1) := by decide +kernel
theorem dX9_init_157 : decode cX9_init 157 = .ok (.aload_n 0, 1) := by decide +kernel
theorem dX9_init_158 : decode cX9_init 158 = .ok (.getfield 7, 3) := by decide +kernel
theorem dX9_init_161 : decode cX9_init 161 = .ok (.iconst 2, 1) := by decide +kernel
theorem dX9_init_162 : decode cX9_init 162 = .ok (.iconst 5, 1) := by decide +kernel
theorem dX9_init_163 : decode cX9_init 163 = .ok (.iastore, 1) := by decide +kernel
theorem dX9_init_164 : decode cX9_init 164 = .ok (.aload_n 0, 1) := by decide +kernel
theorem dX9_init_165 : decode cX9_init 165 = .ok (.getfield 7, 3) := by decide +kernel
theorem dX9_init_168 : decode cX9_init 168 = .ok (.iconst 4, 1) := by decide +kernel
theorem dX9_init_169 : decode cX9_init 169 = .ok (.bipush 10, 2) := by decide +kernel
theorem dX9_init_171 : decode cX9_init 171 = .ok (.iastore, 1) := by decide +kernel
theorem dX9_init_172 : decode cX9_init 172 = .ok (.aload_n 0, 1) := by decide +kernel
theorem dX9_init_173 : decode cX9_init 173 = .ok (.invokevirtual 61, 3) := by decide +kernel
theorem dX9_init_176 : decode cX9_init 176 = .ok (.return_, 1) := by decide +kernel
theorem dX9_thrown_0 : decode cX9_thrown 0 = .ok (.aload_n 0, 1) := by decide +kernel
theorem dX9_thrown_1 : decode cX9_thrown 1 = .ok (.getfield 64, 3) := by decide +kernel
theorem dX9_thrown_4 : decode cX9_thrown 4 = .ok (.ireturn, 1) := by decide +kernel
theorem dX9_in_0 : decode cX9_in 0 = .ok (.iload_n 0, 1) := by decide +kernel
theorem dX9_in_1 : decode cX9_in 1 = .ok (.iload_n 1, 1) := by decide +kernel
theorem dX9_in_2 : decode cX9_in 2 = .ok (.if_icmp .lt 12, 3) := by decide +kernel
theorem dX9_in_5 : decode cX9_in 5 = .ok (.iload_n 0, 1) := by decide +kernel
theorem dX9_in_6 : decode cX9_in 6 = .ok (.iload_n 2, 1) := by decide +kernel
theorem dX9_in_7 : decode cX9_in 7 = .ok (.if_icmp .gt 7, 3) := by decide +kernel
theorem dX9_in_10 : decode cX9_in 10 = .ok (.iconst 1, 1) := by decide +kernel
theorem dX9_in_11 : decode cX9_in 11 = .ok (.goto 4, 3) := by decide +kernel
theorem dX9_in_14 : decode cX9_in 14 = .ok (.iconst 0, 1) := by decide +kernel
theorem dX9_in_15 : decode cX9_in 15 = .ok (.ireturn, 1) := by decide +kernel
theorem dX9_copy_0 : decode cX9_copy 0 = .ok (.iconst 0, 1) := by decide +kernel
theorem dX9_copy_1 : decode cX9_copy 1 = .ok (.istore_n 2, 1) := by decide +kernel
theorem dX9_copy_2 : decode cX9_copy 2 = .ok (.iload_n 2, 1) := by decide +kernel
theorem dX9_copy_3 : decode cX9_copy 3 = .ok (.sipush 1163, 3) := by decide +kernel
theorem dX9_copy_6 : decode cX9_copy 6 = .ok (.if_icmp .ge 27, 3) := by decide +kernel
theorem dX9_copy_9 : decode cX9_copy 9 = .ok (.aload_n 0, 1) := by decide +kernel
theorem dX9_copy_10 : decode cX9_copy 10 = .ok (.getfield 13, 3) := by decide +kernel
theorem dX9_copy_13 : decode cX9_copy 13 = .ok (.sipush 1163, 3) := by decide +kernel
theorem dX9_copy_16 : decode cX9_copy 16 = .ok (.iload_n 1, 1) := by decide +kernel
theorem dX9_copy_17 : decode cX9_copy 17 = .ok (.imul, 1) := by decide +kernel
theorem dX9_copy_18 : decode cX9_copy 18 = .ok (.iload_n 2, 1) := by decide +kernel
theorem dX9_copy_19 : decode cX9_copy 19 = .ok (.iadd, 1) := by decide +kernel
theorem dX9_copy_20 : decode cX9_copy 20 = .ok (.aload_n 0, 1) := by decide +kernel
theorem dX9_copy_21 : decode cX9_copy 21 = .ok (.getfield 7, 3) := by decide +kernel
theorem dX9_copy_24 : decode cX9_copy 24 = .ok (.iload_n 2, 1) := by decide +kernel
theorem dX9_copy_25 : decode cX9_copy 25 = .ok (.iaload, 1) := by decide +kernel
theorem dX9_copy_26 : decode cX9_copy 26 = .ok (.iastore, 1) := by decide +kernel
theorem dX9_copy_27 : decode cX9_copy 27 = .ok (.iinc 2 1, 3) := by decide +kernel
theorem dX9_copy_30 : decode cX9_copy 30 = .ok (.goto (-28), 3) := by decide +kernel
theorem dX9_copy_33 : decode cX9_copy 33 = .ok (.return_, 1) := by decide +kernel
theorem dX9_layBack_0 : decode cX9_layBack 0 = .ok (.iconst 0, 1) := by decide +kernel
theorem dX9_layBack_1 : decode cX9_layBack 1 = .ok (.istore_n 2, 1) := by decide +kernel
theorem dX9_layBack_2 : decode cX9_layBack 2 = .ok (.iload_n 2, 1) := by decide +kernel
theorem dX9_layBack_3 : decode cX9_layBack 3 = .ok (.sipush 1163, 3) := by decide +kernel
theorem dX9_layBack_6 : decode cX9_layBack 6 = .ok (.if_icmp .ge 27, 3) := by decide +kernel
theorem dX9_layBack_9 : decode cX9_layBack 9 = .ok (.aload_n 0, 1) := by decide +kernel
theorem dX9_layBack_10 : decode cX9_layBack 10 = .ok (.getfield 7, 3) := by decide +kernel
theorem dX9_layBack_13 : decode cX9_layBack 13 = .ok (.iload_n 2, 1) := by decide +kernel
theorem dX9_layBack_14 : decode cX9_layBack 14 = .ok (.aload_n 0, 1) := by decide +kernel
theorem dX9_layBack_15 : decode cX9_layBack 15 = .ok (.getfield 13, 3) := by decide +kernel
theorem dX9_layBack_18 : decode cX9_layBack 18 = .ok (.sipush 1163, 3) := by decide +kernel
theorem dX9_layBack_21 : decode cX9_layBack 21 = .ok (.iload_n 1, 1) := by decide +kernel
theorem dX9_layBack_22 : decode cX9_layBack 22 = .ok (.imul, 1) := by decide +kernel
theorem dX9_layBack_23 : decode cX9_layBack 23 = .ok (.iload_n 2, 1) := by decide +kernel
theorem dX9_layBack_24 : decode cX9_layBack 24 = .ok (.iadd, 1) := by decide +kernel
theorem dX9_layBack_25 : decode cX9_layBack 25 = .ok (.iaload, 1) := by decide +kernel
theorem dX9_layBack_26 : decode cX9_layBack 26 = .ok (.iastore, 1) := by decide +kernel
theorem dX9_layBack_27 : decode cX9_layBack 27 = .ok (.iinc 2 1, 3) := by decide +kernel
theorem dX9_layBack_30 : decode cX9_layBack 30 = .ok (.goto (-28), 3) := by decide +kernel
theorem dX9_layBack_33 : decode cX9_layBack 33 = .ok (.return_, 1) := by decide +kernel
theorem dX9_makeRoom_0 : decode cX9_makeRoom 0 = .ok (.aload_n 0, 1) := by decide +kernel
theorem dX9_makeRoom_1 : decode cX9_makeRoom 1 = .ok (.getfield 68, 3) := by decide +kernel
theorem dX9_makeRoom_4 : decode cX9_makeRoom 4 = .ok (.iconst 4, 1) := by decide +kernel
theorem dX9_makeRoom_5 : decode cX9_makeRoom 5 = .ok (.if_icmp .ne 44, 3) := by decide +kernel
theorem dX9_makeRoom_8 : decode cX9_makeRoom 8 = .ok (.iconst 0, 1) := by decide +kernel
theorem dX9_makeRoom_9 : decode cX9_makeRoom 9 = .ok (.istore_n 1, 1) := by decide +kernel
theorem dX9_makeRoom_10 : decode cX9_makeRoom 10 = .ok (.iload_n 1, 1) := by decide +kernel
theorem dX9_makeRoom_11 : decode cX9_makeRoom 11 = .ok (.sipush 3489, 3) := by decide +kernel
theorem dX9_makeRoom_14 : decode cX9_makeRoom 14 = .ok (.if_icmp .ge 25, 3) := by decide +kernel
theorem dX9_makeRoom_17 : decode cX9_makeRoom 17 = .ok (.aload_n 0, 1) := by decide +kernel
theorem dX9_makeRoom_18 : decode cX9_makeRoom 18 = .ok (.getfield 13, 3) := by decide +kernel
theorem dX9_makeRoom_21 : decode cX9_makeRoom 21 = .ok (.iload_n 1, 1) := by decide +kernel
theorem dX9_makeRoom_22 : decode cX9_makeRoom 22 = .ok (.aload_n 0, 1) := by decide +kernel
theorem dX9_makeRoom_23 : decode cX9_makeRoom 23 = .ok (.getfield 13, 3) := by decide +kernel
theorem dX9_makeRoom_26 : decode cX9_makeRoom 26 = .ok (.iload_n 1, 1) := by decide +kernel
theorem dX9_makeRoom_27 : decode cX9_makeRoom 27 = .ok (.sipush 1163, 3) := by decide +kernel
theorem dX9_makeRoom_30 : decode cX9_makeRoom 30 = .ok (.iadd, 1) := by decide +kernel
theorem dX9_makeRoom_31 : decode cX9_makeRoom 31 = .ok (.iaload, 1) := by decide +kernel
theorem dX9_makeRoom_32 : decode cX9_makeRoom 32 = .ok (.iastore, 1) := by decide +kernel
theorem dX9_makeRoom_33 : decode cX9_makeRoom 33 = .ok (.iinc 1 1, 3) := by decide +kernel
theorem dX9_makeRoom_36 : decode cX9_makeRoom 36 = .ok (.goto (-26), 3) := by decide +kernel
theorem dX9_makeRoom_39 : decode cX9_makeRoom 39 = .ok (.aload_n 0, 1) := by decide +kernel
theorem dX9_makeRoom_40 : decode cX9_makeRoom 40 = .ok (.dup, 1) := by decide +kernel
theorem dX9_makeRoom_41 : decode cX9_makeRoom 41 = .ok (.getfield 68, 3) := by decide +kernel
theorem dX9_makeRoom_44 : decode cX9_makeRoom 44 = .ok (.iconst 1, 1) := by decide +kernel
theorem dX9_makeRoom_45 : decode cX9_makeRoom 45 = .ok (.isub, 1) := by decide +kernel
theorem dX9_makeRoom_46 : decode cX9_makeRoom 46 = .ok (.putfield 68, 3) := by decide +kernel
theorem dX9_makeRoom_49 : decode cX9_makeRoom 49 = .ok (.return_, 1) := by decide +kernel
theorem dX9_keep_0 : decode cX9_keep 0 = .ok (.aload_n 0, 1) := by decide +kernel
theorem dX9_keep_1 : decode cX9_keep 1 = .ok (.invokevirtual 71, 3) := by decide +kernel
theorem dX9_keep_4 : decode cX9_keep 4 = .ok (.aload_n 0, 1) := by decide +kernel
theorem dX9_keep_5 : decode cX9_keep 5 = .ok (.aload_n 0, 1) := by decide +kernel
theorem dX9_keep_6 : decode cX9_keep 6 = .ok (.getfield 68, 3) := by decide +kernel
theorem dX9_keep_9 : decode cX9_keep 9 = .ok (.invokevirtual 74, 3) := by decide +kernel
theorem dX9_keep_12 : decode cX9_keep 12 = .ok (.aload_n 0, 1) := by decide +kernel
theorem dX9_keep_13 : decode cX9_keep 13 = .ok (.dup, 1) := by decide +kernel
theorem dX9_keep_14 : decode cX9_keep 14 = .ok (.getfield 68, 3) := by decide +kernel
theorem dX9_keep_17 : decode cX9_keep 17 = .ok (.iconst 1, 1) := by decide +kernel
theorem dX9_keep_18 : decode cX9_keep 18 = .ok (.iadd, 1) := by decide +kernel
theorem dX9_keep_19 : decode cX9_keep 19 = .ok (.putfield 68, 3) := by decide +kernel
theorem dX9_keep_22 : decode cX9_keep 22 = .ok (.return_, 1) := by decide +kernel
theorem dX9_empties_0 : decode cX9_empties 0 = .ok (.aload_n 0, 1) := by decide +kernel
theorem dX9_empties_1 : decode cX9_empties 1 = .ok (.getfield 7, 3) := by decide +kernel
theorem dX9_empties_4 : decode cX9_empties 4 = .ok (.iconst 5, 1) := by decide +kernel
theorem dX9_empties_5 : decode cX9_empties 5 = .ok (.iconst 0, 1) := by decide +kernel
theorem dX9_empties_6 : decode cX9_empties 6 = .ok (.iastore, 1) := by decide +kernel
theorem dX9_empties_7 : decode cX9_empties 7 = .ok (.bipush 18, 2) := by decide +kernel
theorem dX9_empties_9 : decode cX9_empties 9 = .ok (.istore_n 1, 1) := by decide +kernel
theorem dX9_empties_10 : decode cX9_empties 10 = .ok (.iload_n 1, 1) := by decide +kernel
theorem dX9_empties_11 : decode cX9_empties 11 = .ok (.sipush 1042, 3) := by decide +kernel
theorem dX9_empties_14 : decode cX9_empties 14 = .ok (.if_icmp .ge 16, 3) := by decide +kernel
theorem dX9_empties_17 : decode cX9_empties 17 = .ok (.aload_n 0, 1) := by decide +kernel
theorem dX9_empties_18 : decode cX9_empties 18 = .ok (.getfield 7, 3) := by decide +kernel
theorem dX9_empties_21 : decode cX9_empties 21 = .ok (.iload_n 1, 1) := by decide +kernel
theorem dX9_empties_22 : decode cX9_empties 22 = .ok (.iconst (-1), 1) := by decide +kernel
theorem dX9_empties_23 : decode cX9_empties 23 = .ok (.iastore, 1) := by decide +kernel
theorem dX9_empties_24 : decode cX9_empties 24 = .ok (.iinc 1 1, 3) := by decide +kernel
theorem dX9_empties_27 : decode cX9_empties 27 = .ok (.goto (-17), 3) := by decide +kernel
theorem dX9_empties_30 : decode cX9_empties 30 = .ok (.return_, 1) := by decide +kernel
theorem dX9_isKey_0 : decode cX9_isKey 0 = .ok (.iload_n 0, 1) := by decide +kernel
theorem dX9_isKey_1 : decode cX9_isKey 1 = .ok (.iconst 0, 1) := by decide +kernel
theorem dX9_isKey_2 : decode cX9_isKey 2 = .ok (.sipush 999, 3) := by decide +kernel
theorem dX9_isKey_5 : decode cX9_isKey 5 = .ok (.invokestatic 78, 3) := by decide +kernel
theorem dX9_isKey_8 : decode cX9_isKey 8 = .ok (.ireturn, 1) := by decide +kernel
theorem dX9_codeOf_0 : decode cX9_codeOf 0 = .ok (.iload_n 0, 1) := by decide +kernel
theorem dX9_codeOf_1 : decode cX9_codeOf 1 = .ok (.i2l, 1) := by decide +kernel
theorem dX9_codeOf_2 : decode cX9_codeOf 2 = .ok (.ldc2_w 82, 3) := by decide +kernel
theorem dX9_codeOf_5 : decode cX9_codeOf 5 = .ok (.lmul, 1) := by decide +kernel
theorem dX9_codeOf_6 : decode cX9_codeOf 6 = .ok (.iload_n 1, 1) := by decide +kernel
theorem dX9_codeOf_7 : decode cX9_codeOf 7 = .ok (.i2l, 1) := by decide +kernel
theorem dX9_codeOf_8 : decode cX9_codeOf 8 = .ok (.ldc2_w 84, 3) := by decide +kernel
theorem dX9_codeOf_11 : decode cX9_codeOf 11 = .ok (.lmul, 1) := by decide +kernel
theorem dX9_codeOf_12 : decode cX9_codeOf 12 = .ok (.ladd, 1) := by decide +kernel
theorem dX9_codeOf_13 : decode cX9_codeOf 13 = .ok (.ldc2_w 86, 3) := by decide +kernel
theorem dX9_codeOf_16 : decode cX9_codeOf 16 = .ok (.ladd, 1) := by decide +kernel
theorem dX9_codeOf_17 : decode cX9_codeOf 17 = .ok (.ldc2_w 88, 3) := by decide +kernel
theorem dX9_codeOf_20 : decode cX9_codeOf 20 = .ok (.lrem, 1) := by decide +kernel
theorem dX9_codeOf_21 : decode cX9_codeOf 21 = .ok (.lstore_n 2, 1) := by decide +kernel
theorem dX9_codeOf_22 : decode cX9_codeOf 22 = .ok (.lload_n 2, 1) := by decide +kernel
theorem dX9_codeOf_23 : decode cX9_codeOf 23 = .ok (.lload_n 2, 1) := by decide +kernel
theorem dX9_codeOf_24 : decode cX9_codeOf 24 = .ok (.ldc2_w 90, 3) := by decide +kernel
theorem dX9_codeOf_27 : decode cX9_codeOf 27 = .ok (.ldiv, 1) := by decide +kernel
theorem dX9_codeOf_28 : decode cX9_codeOf 28 = .ok (.lxor, 1) := by decide +kernel
theorem dX9_codeOf_29 : decode cX9_codeOf 29 = .ok (.lstore_n 2, 1) := by decide +kernel
theorem dX9_codeOf_30 : decode cX9_codeOf 30 = .ok (.lload_n 2, 1) := by decide +kernel
theorem dX9_codeOf_31 : decode cX9_codeOf 31 = .ok (.ldc2_w 92, 3) := by decide +kernel
theorem dX9_codeOf_34 : decode cX9_codeOf 34 = .ok (.lmul, 1) := by decide +kernel
theorem dX9_codeOf_35 : decode cX9_codeOf 35 = .ok (.lconst 1, 1) := by decide +kernel
theorem dX9_codeOf_36 : decode cX9_codeOf 36 = .ok (.ladd, 1) := by decide +kernel
theorem dX9_codeOf_37 : decode cX9_codeOf 37 = .ok (.ldc2_w 88, 3) := by decide +kernel
theorem dX9_codeOf_40 : decode cX9_codeOf 40 = .ok (.lrem, 1) := by decide +kernel
theorem dX9_codeOf_41 : decode cX9_codeOf 41 = .ok (.lstore_n 2, 1) := by decide +kernel
theorem dX9_codeOf_42 : decode cX9_codeOf 42 = .ok (.lload_n 2, 1) := by decide +kernel
theorem dX9_codeOf_43 : decode cX9_codeOf 43 = .ok (.lload_n 2, 1) := by decide +kernel
theorem dX9_codeOf_44 : decode cX9_codeOf 44 = .ok (.ldc2_w 94, 3) := by decide +kernel
theorem dX9_codeOf_47 : decode cX9_codeOf 47 = .ok (.ldiv, 1) := by decide +kernel
theorem dX9_codeOf_48 : decode cX9_codeOf 48 = .ok (.lxor, 1) := by decide +kernel
theorem dX9_codeOf_49 : decode cX9_codeOf 49 = .ok (.lstore_n 2, 1) := by decide +kernel
theorem dX9_codeOf_50 : decode cX9_codeOf 50 = .ok (.lload_n 2, 1) := by decide +kernel
theorem dX9_codeOf_51 : decode cX9_codeOf 51 = .ok (.l2i, 1) := by decide +kernel
theorem dX9_codeOf_52 : decode cX9_codeOf 52 = .ok (.ireturn, 1) := by decide +kernel
theorem dX9_tagOf_0 : decode cX9_tagOf 0 = .ok (.iload_n 1, 1) := by decide +kernel
theorem dX9_tagOf_1 : decode cX9_tagOf 1 = .ok (.aload_n 0, 1) := by decide +kernel
theorem dX9_tagOf_2 : decode cX9_tagOf 2 = .ok (.getfield 7, 3) := by decide +kernel
theorem dX9_tagOf_5 : decode cX9_tagOf 5 = .ok (.iconst 3, 1) := by decide +kernel
theorem dX9_tagOf_6 : decode cX9_tagOf 6 = .ok (.iaload, 1) := by decide +kernel
theorem dX9_tagOf_7 : decode cX9_tagOf 7 = .ok (.invokestatic 96, 3) := by decide +kernel
theorem dX9_tagOf_10 : decode cX9_tagOf 10 = .ok (.sipush 16384, 3) := by decide +kernel
theorem dX9_tagOf_13 : decode cX9_tagOf 13 = .ok (.idiv, 1) := by decide +kernel
theorem dX9_tagOf_14 : decode cX9_tagOf 14 = .ok (.ireturn, 1) := by decide +kernel
theorem dX9_bodyOf_0 : decode cX9_bodyOf 0 = .ok (.iload_n 1, 1) := by decide +kernel
theorem dX9_bodyOf_1 : decode cX9_bodyOf 1 = .ok (.aload_n 0, 1) := by decide +kernel
theorem dX9_bodyOf_2 : decode cX9_bodyOf 2 = .ok (.getfield 7, 3) := by decide +kernel
theorem dX9_bodyOf_5 : decode cX9_bodyOf 5 = .ok (.iconst 3, 1) := by decide +kernel
theorem dX9_bodyOf_6 : decode cX9_bodyOf 6 = .ok (.iaload, 1) := by decide +kernel
theorem dX9_bodyOf_7 : decode cX9_bodyOf 7 = .ok (.invokestatic 96, 3) := by decide +kernel
theorem dX9_bodyOf_10 : decode cX9_bodyOf 10 = .ok (.sipush 16384, 3) := by decide +kernel
theorem dX9_bodyOf_13 : decode cX9_bodyOf 13 = .ok (.irem, 1) := by decide +kernel
theorem dX9_bodyOf_14 : decode cX9_bodyOf 14 = .ok (.ireturn, 1) := by decide +kernel
theorem dX9_buckets_0 : decode cX9_buckets 0 = .ok (.iconst 1, 1) := by decide +kernel
theorem dX9_buckets_1 : decode cX9_buckets 1 = .ok (.aload_n 0, 1) := by decide +kernel
theorem dX9_buckets_2 : decode cX9_buckets 2 = .ok (.getfield 7, 3) := by decide +kernel
theorem dX9_buckets_5 : decode cX9_buckets 5 = .ok (.iconst 0, 1) := by decide +kernel
theorem dX9_buckets_6 : decode cX9_buckets 6 = .ok (.iaload, 1) := by decide +kernel
theorem dX9_buckets_7 : decode cX9_buckets 7 = .ok (.ishl, 1) := by decide +kernel
theorem dX9_buckets_8 : decode cX9_buckets 8 = .ok (.ireturn, 1) := by decide +kernel
theorem dX9_stepOf_0 : decode cX9_stepOf 0 = .ok (.bipush 37, 2) := by decide +kernel
theorem dX9_stepOf_2 : decode cX9_stepOf 2 = .ok (.iload_n 0, 1) := by decide +kernel
theorem dX9_stepOf_3 : decode cX9_stepOf 3 = .ok (.imul, 1) := by decide +kernel
theorem dX9_stepOf_4 : decode cX9_stepOf 4 = .ok (.bipush 11, 2) := by decide +kernel
theorem dX9_stepOf_6 : decode cX9_stepOf 6 = .ok (.iadd, 1) := by decide +kernel
theorem dX9_stepOf_7 : decode cX9_stepOf 7 = .ok (.bipush 64, 2) := by decide +kernel
theorem dX9_stepOf_9 : decode cX9_stepOf 9 = .ok (.irem, 1) := by decide +kernel
theorem dX9_stepOf_10 : decode cX9_stepOf 10 = .ok (.iconst 1, 1) := by decide +kernel
theorem dX9_stepOf_11 : decode cX9_stepOf 11 = .ok (.ior, 1) := by decide +kernel
theorem dX9_stepOf_12 : decode cX9_stepOf 12 = .ok (.iconst 1, 1) := by decide +kernel
theorem dX9_stepOf_13 : decode cX9_stepOf 13 = .ok (.iload_n 1, 1) := by decide +kernel
theorem dX9_stepOf_14 : decode cX9_stepOf 14 = .ok (.ishl, 1) := by decide +kernel
theorem dX9_stepOf_15 : decode cX9_stepOf 15 = .ok (.irem, 1) := by decide +kernel
theorem dX9_stepOf_16 : decode cX9_stepOf 16 = .ok (.ireturn, 1) := by decide +kernel
theorem dX9_homeOf_0 : decode cX9_homeOf 0 = .ok (.aload_n 0, 1) := by decide +kernel
theorem dX9_homeOf_1 : decode cX9_homeOf 1 = .ok (.iload_n 1, 1) := by decide +kernel
theorem dX9_homeOf_2 : decode cX9_homeOf 2 = .ok (.invokevirtual 100, 3) := by decide +kernel
theorem dX9_homeOf_5 : decode cX9_homeOf 5 = .ok (.aload_n 0, 1) := by decide +kernel
theorem dX9_homeOf_6 : decode cX9_homeOf 6 = .ok (.invokevirtual 104, 3) := by decide +kernel
theorem dX9_homeOf_9 : decode cX9_homeOf 9 = .ok (.irem, 1) := by decide +kernel
theorem dX9_homeOf_10 : decode cX9_homeOf 10 = .ok (.ireturn, 1) := by decide +kernel
theorem dX9_otherOf_0 : decode cX9_otherOf 0 = .ok (.aload_n 0, 1) := by decide +kernel
theorem dX9_otherOf_1 : decode cX9_otherOf 1 = .ok (.iload_n 1, 1) := by decide +kernel
theorem dX9_otherOf_2 : decode cX9_otherOf 2 = .ok (.invokevirtual 108, 3) := by decide +kernel
theorem dX9_otherOf_5 : decode cX9_otherOf 5 = .ok (.aload_n 0, 1) := by decide +kernel
theorem dX9_otherOf_6 : decode cX9_otherOf 6 = .ok (.iload_n 1, 1) := by decide +kernel
theorem dX9_otherOf_7 : decode cX9_otherOf 7 = .ok (.invokevirtual 111, 3) := by decide +kernel
theorem dX9_otherOf_10 : decode cX9_otherOf 10 = .ok (.aload_n 0, 1) := by decide +kernel
theorem dX9_otherOf_11 : decode cX9_otherOf 11 = .ok (.getfield 7, 3) := by decide +kernel
theorem dX9_otherOf_14 : decode cX9_otherOf 14 = .ok (.iconst 0, 1) := by decide +kernel
theorem dX9_otherOf_15 : decode cX9_otherOf 15 = .ok (.iaload, 1) := by decide +kernel
theorem dX9_otherOf_16 : decode cX9_otherOf 16 = .ok (.invokestatic 114, 3) := by decide +kernel
theorem dX9_otherOf_19 : decode cX9_otherOf 19 = .ok (.ixor, 1) := by decide +kernel
theorem dX9_otherOf_20 : decode cX9_otherOf 20 = .ok (.ireturn, 1) := by decide +kernel
theorem dX9_printOf_0 : decode cX9_printOf 0 = .ok (.aload_n 0, 1) := by decide +kernel
theorem dX9_printOf_1 : decode cX9_printOf 1 = .ok (.iload_n 1, 1) := by decide +kernel
theorem dX9_printOf_2 : decode cX9_printOf 2 = .ok (.invokevirtual 100, 3) := by decide +kernel
theorem dX9_printOf_5 : decode cX9_printOf 5 = .ok (.aload_n 0, 1) := by decide +kernel
theorem dX9_printOf_6 : decode cX9_printOf 6 = .ok (.getfield 7, 3) := by decide +kernel
theorem dX9_printOf_9 : decode cX9_printOf 9 = .ok (.iconst 0, 1) := by decide +kernel
theorem dX9_printOf_10 : decode cX9_printOf 10 = .ok (.iaload, 1) := by decide +kernel
theorem dX9_printOf_11 : decode cX9_printOf 11 = .ok (.ishr, 1) := by decide +kernel
theorem dX9_printOf_12 : decode cX9_printOf 12 = .ok (.iconst 1, 1) := by decide +kernel
theorem dX9_printOf_13 : decode cX9_printOf 13 = .ok (.iload_n 2, 1) := by decide +kernel
theorem dX9_printOf_14 : decode cX9_printOf 14 = .ok (.ishl, 1) := by decide +kernel
theorem dX9_printOf_15 : decode cX9_printOf 15 = .ok (.irem, 1) := by decide +kernel
theorem dX9_printOf_16 : decode cX9_printOf 16 = .ok (.ireturn, 1) := by decide +kernel
theorem dX9_at_0 : decode cX9_at 0 = .ok (.bipush 18, 2) := by decide +kernel
theorem dX9_at_2 : decode cX9_at 2 = .ok (.iconst 4, 1) := by decide +kernel
theorem dX9_at_3 : decode cX9_at 3 = .ok (.iconst 4, 1) := by decide +kernel
theorem dX9_at_4 : decode cX9_at 4 = .ok (.iload_n 0, 1) := by decide +kernel
theorem dX9_at_5 : decode cX9_at 5 = .ok (.imul, 1) := by decide +kernel
theorem dX9_at_6 : decode cX9_at 6 = .ok (.iload_n 1, 1) := by decide +kernel
theorem dX9_at_7 : decode cX9_at 7 = .ok (.iadd, 1) := by decide +kernel
theorem dX9_at_8 : decode cX9_at 8 = .ok (.imul, 1) := by decide +kernel
theorem dX9_at_9 : decode cX9_at 9 = .ok (.iadd, 1) := by decide +kernel
theorem dX9_at_10 : decode cX9_at 10 = .ok (.ireturn, 1) := by decide +kernel
theorem dX9_isEmpty_0 : decode cX9_isEmpty 0 = .ok (.aload_n 0, 1) := by decide +kernel
theorem dX9_isEmpty_1 : decode cX9_isEmpty 1 = .ok (.getfield 7, 3) := by decide +kernel
theorem dX9_isEmpty_4 : decode cX9_isEmpty 4 = .ok (.iload_n 1, 1) := by decide +kernel
theorem dX9_isEmpty_5 : decode cX9_isEmpty 5 = .ok (.iload_n 2, 1) := by decide +kernel
theorem dX9_isEmpty_6 : decode cX9_isEmpty 6 = .ok (.invokestatic 117, 3) := by decide +kernel
theorem dX9_isEmpty_9 : decode cX9_isEmpty 9 = .ok (.iaload, 1) := by decide +kernel
theorem dX9_isEmpty_10 : decode cX9_isEmpty 10 = .ok (.iconst (-1), 1) := by decide +kernel
theorem dX9_isEmpty_11 : decode cX9_isEmpty 11 = .ok (.if_icmp .ne 7, 3) := by decide +kernel
theorem dX9_isEmpty_14 : decode cX9_isEmpty 14 = .ok (.iconst 1, 1) := by decide +kernel
theorem dX9_isEmpty_15 : decode cX9_isEmpty 15 = .ok (.goto 4, 3) := by decide +kernel
theorem dX9_isEmpty_18 : decode cX9_isEmpty 18 = .ok (.iconst 0, 1) := by decide +kernel
theorem dX9_isEmpty_19 : decode cX9_isEmpty 19 = .ok (.ireturn, 1) := by decide +kernel
theorem dX9_room_0 : decode cX9_room 0 = .ok (.iconst 0, 1) := by decide +kernel
theorem dX9_room_1 : decode cX9_room 1 = .ok (.istore_n 2, 1) := by decide +kernel
theorem dX9_room_2 : decode cX9_room 2 = .ok (.iload_n 2, 1) := by decide +kernel
theorem dX9_room_3 : decode cX9_room 3 = .ok (.aload_n 0, 1) := by decide +kernel
theorem dX9_room_4 : decode cX9_room 4 = .ok (.getfield 7, 3) := by decide +kernel
theorem dX9_room_7 : decode cX9_room 7 = .ok (.iconst 1, 1) := by decide +kernel
theorem dX9_room_8 : decode cX9_room 8 = .ok (.iaload, 1) := by decide +kernel
theorem dX9_room_9 : decode cX9_room 9 = .ok (.if_icmp .ge 20, 3) := by decide +kernel
theorem dX9_room_12 : decode cX9_room 12 = .ok (.aload_n 0, 1) := by decide +kernel
theorem dX9_room_13 : decode cX9_room 13 = .ok (.iload_n 1, 1) := by decide +kernel
theorem dX9_room_14 : decode cX9_room 14 = .ok (.iload_n 2, 1) := by decide +kernel
theorem dX9_room_15 : decode cX9_room 15 = .ok (.invokevirtual 120, 3) := by decide +kernel
theorem dX9_room_18 : decode cX9_room 18 = .ok (.ifCond .eq 5, 3) := by decide +kernel
theorem dX9_room_21 : decode cX9_room 21 = .ok (.iload_n 2, 1) := by decide +kernel
theorem dX9_room_22 : decode cX9_room 22 = .ok (.ireturn, 1) := by decide +kernel
theorem dX9_room_23 : decode cX9_room 23 = .ok (.iinc 2 1, 3) := by decide +kernel
theorem dX9_room_26 : decode cX9_room 26 = .ok (.goto (-24), 3) := by decide +kernel
theorem dX9_room_29 : decode cX9_room 29 = .ok (.iconst (-1), 1) := by decide +kernel
theorem dX9_room_30 : decode cX9_room 30 = .ok (.ireturn, 1) := by decide +kernel
theorem dX9_put_0 : decode cX9_put 0 = .ok (.iload_n 1, 1) := by decide +kernel
theorem dX9_put_1 : decode cX9_put 1 = .ok (.iload_n 2, 1) := by decide +kernel
theorem dX9_put_2 : decode cX9_put 2 = .ok (.invokestatic 117, 3) := by decide +kernel
theorem dX9_put_5 : decode cX9_put 5 = .ok (.istore 7, 2) := by decide +kernel
theorem dX9_put_7 : decode cX9_put 7 = .ok (.aload_n 0, 1) := by decide +kernel
theorem dX9_put_8 : decode cX9_put 8 = .ok (.getfield 7, 3) := by decide +kernel
theorem dX9_put_11 : decode cX9_put 11 = .ok (.iload 7, 2) := by decide +kernel
theorem dX9_put_13 : decode cX9_put 13 = .ok (.iload_n 3, 1) := by decide +kernel
theorem dX9_put_14 : decode cX9_put 14 = .ok (.iastore, 1) := by decide +kernel
theorem dX9_put_15 : decode cX9_put 15 = .ok (.aload_n 0, 1) := by decide +kernel
theorem dX9_put_16 : decode cX9_put 16 = .ok (.getfield 7, 3) := by decide +kernel
theorem dX9_put_19 : decode cX9_put 19 = .ok (.iload 7, 2) := by decide +kernel
theorem dX9_put_21 : decode cX9_put 21 = .ok (.iconst 1, 1) := by decide +kernel
theorem dX9_put_22 : decode cX9_put 22 = .ok (.iadd, 1) := by decide +kernel
theorem dX9_put_23 : decode cX9_put 23 = .ok (.iload 4, 2) := by decide +kernel
theorem dX9_put_25 : decode cX9_put 25 = .ok (.iastore, 1) := by decide +kernel
theorem dX9_put_26 : decode cX9_put 26 = .ok (.aload_n 0, 1) := by decide +kernel
theorem dX9_put_27 : decode cX9_put 27 = .ok (.getfield 7, 3) := by decide +kernel
theorem dX9_put_30 : decode cX9_put 30 = .ok (.iload 7, 2) := by decide +kernel
theorem dX9_put_32 : decode cX9_put 32 = .ok (.iconst 2, 1) := by decide +kernel
theorem dX9_put_33 : decode cX9_put 33 = .ok (.iadd, 1) := by decide +kernel
theorem dX9_put_34 : decode cX9_put 34 = .ok (.iload 5, 2) := by decide +kernel
theorem dX9_put_36 : decode cX9_put 36 = .ok (.iastore, 1) := by decide +kernel
theorem dX9_put_37 : decode cX9_put 37 = .ok (.aload_n 0, 1) := by decide +kernel
theorem dX9_put_38 : decode cX9_put 38 = .ok (.getfield 7, 3) := by decide +kernel
theorem dX9_put_41 : decode cX9_put 41 = .ok (.iload 7, 2) := by decide +kernel
theorem dX9_put_43 : decode cX9_put 43 = .ok (.iconst 3, 1) := by decide +kernel
theorem dX9_put_44 : decode cX9_put 44 = .ok (.iadd, 1) := by decide +kernel
theorem dX9_put_45 : decode cX9_put 45 = .ok (.iload 6, 2) := by decide +kernel
theorem dX9_put_47 : decode cX9_put 47 = .ok (.iastore, 1) := by decide +kernel
theorem dX9_put_48 : decode cX9_put 48 = .ok (.return_, 1) := by decide +kernel
theorem dX9_matches_0 : decode cX9_matches 0 = .ok (.aload_n 0, 1) := by decide +kernel
theorem dX9_matches_1 : decode cX9_matches 1 = .ok (.getfield 7, 3) := by decide +kernel
theorem dX9_matches_4 : decode cX9_matches 4 = .ok (.iload_n 2, 1) := by decide +kernel
theorem dX9_matches_5 : decode cX9_matches 5 = .ok (.iaload, 1) := by decide +kernel
theorem dX9_matches_6 : decode cX9_matches 6 = .ok (.aload_n 0, 1) := by decide +kernel
theorem dX9_matches_7 : decode cX9_matches 7 = .ok (.iload_n 1, 1) := by decide +kernel
theorem dX9_matches_8 : decode cX9_matches 8 = .ok (.invokevirtual 111, 3) := by decide +kernel
theorem dX9_matches_11 : decode cX9_matches 11 = .ok (.if_icmp .ne 31, 3) := by decide +kernel
theorem dX9_matches_14 : decode cX9_matches 14 = .ok (.aload_n 0, 1) := by decide +kernel
theorem dX9_matches_15 : decode cX9_matches 15 = .ok (.getfield 7, 3) := by decide +kernel
theorem dX9_matches_18 : decode cX9_matches 18 = .ok (.iload_n 2, 1) := by decide +kernel
theorem dX9_matches_19 : decode cX9_matches 19 = .ok (.iconst 2, 1) := by decide +kernel
theorem dX9_matches_20 : decode cX9_matches 20 = .ok (.iadd, 1) := by decide +kernel
theorem dX9_matches_21 : decode cX9_matches 21 = .ok (.iaload, 1) := by decide +kernel
theorem dX9_matches_22 : decode cX9_matches 22 = .ok (.aload_n 0, 1) := by decide +kernel
theorem dX9_matches_23 : decode cX9_matches 23 = .ok (.iload_n 1, 1) := by decide +kernel
theorem dX9_matches_24 : decode cX9_matches 24 = .ok (.aload_n 0, 1) := by decide +kernel
theorem dX9_matches_25 : decode cX9_matches 25 = .ok (.getfield 7, 3) := by decide +kernel
theorem dX9_matches_28 : decode cX9_matches 28 = .ok (.iload_n 2, 1) := by decide +kernel
theorem dX9_matches_29 : decode cX9_matches 29 = .ok (.iconst 1, 1) := by decide +kernel
theorem dX9_matches_30 : decode cX9_matches 30 = .ok (.iadd, 1) := by decide +kernel
theorem dX9_matches_31 : decode cX9_matches 31 = .ok (.iaload, 1) := by decide +kernel
theorem dX9_matches_32 : decode cX9_matches 32 = .ok (.invokevirtual 124, 3) := by decide +kernel
theorem dX9_matches_35 : decode cX9_matches 35 = .ok (.if_icmp .ne 7, 3) := by decide +kernel
theorem dX9_matches_38 : decode cX9_matches 38 = .ok (.iconst 1, 1) := by decide +kernel
theorem dX9_matches_39 : decode cX9_matches 39 = .ok (.goto 4, 3) := by decide +kernel
theorem dX9_matches_42 : decode cX9_matches 42 = .ok (.iconst 0, 1) := by decide +kernel
theorem dX9_matches_43 : decode cX9_matches 43 = .ok (.ireturn, 1) := by decide +kernel
theorem dX9_placeOf_0 : decode cX9_placeOf 0 = .ok (.iconst (-1), 1) := by decide +kernel
theorem dX9_placeOf_1 : decode cX9_placeOf 1 = .ok (.istore_n 2, 1) := by decide +kernel
theorem dX9_placeOf_2 : decode cX9_placeOf 2 = .ok (.iconst (-1), 1) := by decide +kernel
theorem dX9_placeOf_3 : decode cX9_placeOf 3 = .ok (.istore_n 3, 1) := by decide +kernel
theorem dX9_placeOf_4 : decode cX9_placeOf 4 = .ok (.iconst 0, 1) := by decide +kernel
theorem dX9_placeOf_5 : decode cX9_placeOf 5 = .ok (.istore 4, 2) := by decide +kernel
theorem dX9_placeOf_7 : decode cX9_placeOf 7 = .ok (.iload 4, 2) := by decide +kernel
theorem dX9_placeOf_9 : decode cX9_placeOf 9 = .ok (.iconst 2, 1) := by decide +kernel
theorem dX9_placeOf_10 : decode cX9_placeOf 10 = .ok (.if_icmp .ge 124, 3) := by decide +kernel
theorem dX9_placeOf_13 : decode cX9_placeOf 13 = .ok (.iload 4, 2) := by decide +kernel
theorem dX9_placeOf_15 : decode cX9_placeOf 15 = .ok (.ifCond .ne 11, 3) := by decide +kernel
theorem dX9_placeOf_18 : decode cX9_placeOf 18 = .ok (.aload_n 0, 1) := by decide +kernel
theorem dX9_placeOf_19 : decode cX9_placeOf 19 = .ok (.iload_n 1, 1) := by decide +kernel
theorem dX9_placeOf_20 : decode cX9_placeOf 20 = .ok (.invokevirtual 108, 3) := by decide +kernel
theorem dX9_placeOf_23 : decode cX9_placeOf 23 = .ok (.goto 8, 3) := by decide +kernel
theorem dX9_placeOf_26 : decode cX9_placeOf 26 = .ok (.aload_n 0, 1) := by decide +kernel
theorem dX9_placeOf_27 : decode cX9_placeOf 27 = .ok (.iload_n 1, 1) := by decide +kernel
theorem dX9_placeOf_28 : decode cX9_placeOf 28 = .ok (.invokevirtual 127, 3) := by decide +kernel
theorem dX9_placeOf_31 : decode cX9_placeOf 31 = .ok (.istore 5, 2) := by decide +kernel
theorem dX9_placeOf_33 : decode cX9_placeOf 33 = .ok (.iconst 0, 1) := by decide +kernel
theorem dX9_placeOf_34 : decode cX9_placeOf 34 = .ok (.istore 6, 2) := by decide +kernel
theorem dX9_placeOf_36 : decode cX9_placeOf 36 = .ok (.iload 6, 2) := by decide +kernel
theorem dX9_placeOf_38 : decode cX9_placeOf 38 = .ok (.aload_n 0, 1) := by decide +kernel
theorem dX9_placeOf_39 : decode cX9_placeOf 39 = .ok (.getfield 7, 3) := by decide +kernel
theorem dX9_placeOf_42 : decode cX9_placeOf 42 = .ok (.iconst 1, 1) := by decide +kernel
theorem dX9_placeOf_43 : decode cX9_placeOf 43 = .ok (.iaload, 1) := by decide +kernel
theorem dX9_placeOf_44 : decode cX9_placeOf 44 = .ok (.if_icmp .ge 84, 3) := by decide +kernel
theorem dX9_placeOf_47 : decode cX9_placeOf 47 = .ok (.iload 5, 2) := by decide +kernel
theorem dX9_placeOf_49 : decode cX9_placeOf 49 = .ok (.iload 6, 2) := by decide +kernel
theorem dX9_placeOf_51 : decode cX9_placeOf 51 = .ok (.invokestatic 117, 3) := by decide +kernel
theorem dX9_placeOf_54 : decode cX9_placeOf 54 = .ok (.istore 7, 2) := by decide +kernel
theorem dX9_placeOf_56 : decode cX9_placeOf 56 = .ok (.aload_n 0, 1) := by decide +kernel
theorem dX9_placeOf_57 : decode cX9_placeOf 57 = .ok (.iload 5, 2) := by decide +kernel
theorem dX9_placeOf_59 : decode cX9_placeOf 59 = .ok (.iload 6, 2) := by decide +kernel
theorem dX9_placeOf_61 : decode cX9_placeOf 61 = .ok (.invokevirtual 120, 3) := by decide +kernel
theorem dX9_placeOf_64 : decode cX9_placeOf 64 = .ok (.ifCond .ne 58, 3) := by decide +kernel
theorem dX9_placeOf_67 : decode cX9_placeOf 67 = .ok (.aload_n 0, 1) := by decide +kernel
theorem dX9_placeOf_68 : decode cX9_placeOf 68 = .ok (.getfield 7, 3) := by decide +kernel
theorem dX9_placeOf_71 : decode cX9_placeOf 71 = .ok (.iload 7, 2) := by decide +kernel
theorem dX9_placeOf_73 : decode cX9_placeOf 73 = .ok (.iconst 3, 1) := by decide +kernel
theorem dX9_placeOf_74 : decode cX9_placeOf 74 = .ok (.iadd, 1) := by decide +kernel
theorem dX9_placeOf_75 : decode cX9_placeOf 75 = .ok (.iaload, 1) := by decide +kernel
theorem dX9_placeOf_76 : decode cX9_placeOf 76 = .ok (.iload 4, 2) := by decide +kernel
theorem dX9_placeOf_78 : decode cX9_placeOf 78 = .ok (.if_icmp .ne 44, 3) := by decide +kernel
theorem dX9_placeOf_81 : decode cX9_placeOf 81 = .ok (.aload_n 0, 1) := by decide +kernel
theorem dX9_placeOf_82 : decode cX9_placeOf 82 = .ok (.iload_n 1, 1) := by decide +kernel
theorem dX9_placeOf_83 : decode cX9_placeOf 83 = .ok (.iload 7, 2) := by decide +kernel
theorem dX9_placeOf_85 : decode cX9_placeOf 85 = .ok (.invokevirtual 130, 3) := by decide +kernel
theorem dX9_placeOf_88 : decode cX9_placeOf 88 = .ok (.ifCond .eq 34, 3) := by decide +kernel
theorem dX9_placeOf_91 : decode cX9_placeOf 91 = .ok (.aload_n 0, 1) := by decide +kernel
theorem dX9_placeOf_92 : decode cX9_placeOf 92 = .ok (.getfield 7, 3) := by decide +kernel
theorem dX9_placeOf_95 : decode cX9_placeOf 95 = .ok (.iload 7, 2) := by decide +kernel
theorem dX9_placeOf_97 : decode cX9_placeOf 97 = .ok (.iconst 1, 1) := by decide +kernel
theorem dX9_placeOf_98 : decode cX9_placeOf 98 = .ok (.iadd, 1) := by decide +kernel
theorem dX9_placeOf_99 : decode cX9_placeOf 99 = .ok (.iaload, 1) := by decide +kernel
theorem dX9_placeOf_100 : decode cX9_placeOf 100 = .ok (.iload_n 3, 1) := by decide +kernel
theorem dX9_placeOf_101 : decode cX9_placeOf 101 = .ok (.if_icmp .le 21, 3) := by decide +kernel
theorem dX9_placeOf_104 : decode cX9_placeOf 104 = .ok (.iconst 4, 1) := by decide +kernel
theorem dX9_placeOf_105 : decode cX9_placeOf 105 = .ok (.iload 5, 2) := by decide +kernel
theorem dX9_placeOf_107 : decode cX9_placeOf 107 = .ok (.imul, 1) := by decide +kernel
theorem dX9_placeOf_108 : decode cX9_placeOf 108 = .ok (.iload 6, 2) := by decide +kernel
theorem dX9_placeOf_110 : decode cX9_placeOf 110 = .ok (.iadd, 1) := by decide +kernel
theorem dX9_placeOf_111 : decode cX9_placeOf 111 = .ok (.istore_n 2, 1) := by decide +kernel
theorem dX9_placeOf_112 : decode cX9_placeOf 112 = .ok (.aload_n 0, 1) := by decide +kernel
theorem dX9_placeOf_113 : decode cX9_placeOf 113 = .ok (.getfield 7, 3) := by decide +kernel
theorem dX9_placeOf_116 : decode cX9_placeOf 116 = .ok (.iload 7, 2) := by decide +kernel
theorem dX9_placeOf_118 : decode cX9_placeOf 118 = .ok (.iconst 1, 1) := by decide +kernel
theorem dX9_placeOf_119 : decode cX9_placeOf 119 = .ok (.iadd, 1) := by decide +kernel
theorem dX9_placeOf_120 : decode cX9_placeOf 120 = .ok (.iaload, 1) := by decide +kernel
theorem dX9_placeOf_121 : decode cX9_placeOf 121 = .ok (.istore_n 3, 1) := by decide +kernel
theorem dX9_placeOf_122 : decode cX9_placeOf 122 = .ok (.iinc 6 1, 3) := by decide +kernel
theorem dX9_placeOf_125 : decode cX9_placeOf 125 = .ok (.goto (-89), 3) := by decide +kernel
theorem dX9_placeOf_128 : decode cX9_placeOf 128 = .ok (.iinc 4 1, 3) := by decide +kernel
theorem dX9_placeOf_131 : decode cX9_placeOf 131 = .ok (.goto (-124), 3) := by decide +kernel
theorem dX9_placeOf_134 : decode cX9_placeOf 134 = .ok (.iconst 0, 1) := by decide +kernel
theorem dX9_placeOf_135 : decode cX9_placeOf 135 = .ok (.istore 4, 2) := by decide +kernel
theorem dX9_placeOf_137 : decode cX9_placeOf 137 = .ok (.iload 4, 2) := by decide +kernel
theorem dX9_placeOf_139 : decode cX9_placeOf 139 = .ok (.aload_n 0, 1) := by decide +kernel
theorem dX9_placeOf_140 : decode cX9_placeOf 140 = .ok (.getfield 7, 3) := by decide +kernel
theorem dX9_placeOf_143 : decode cX9_placeOf 143 = .ok (.iconst 5, 1) := by decide +kernel
theorem dX9_placeOf_144 : decode cX9_placeOf 144 = .ok (.iaload, 1) := by decide +kernel
theorem dX9_placeOf_145 : decode cX9_placeOf 145 = .ok (.if_icmp .ge 75, 3) := by decide +kernel
theorem dX9_placeOf_148 : decode cX9_placeOf 148 = .ok (.bipush 6, 2) := by decide +kernel
theorem dX9_placeOf_150 : decode cX9_placeOf 150 = .ok (.iconst 4, 1) := by decide +kernel
theorem dX9_placeOf_151 : decode cX9_placeOf 151 = .ok (.iload 4, 2) := by decide +kernel
theorem dX9_placeOf_153 : decode cX9_placeOf 153 = .ok (.imul, 1) := by decide +kernel
theorem dX9_placeOf_154 : decode cX9_placeOf 154 = .ok (.iadd, 1) := by decide +kernel
theorem dX9_placeOf_155 : decode cX9_placeOf 155 = .ok (.istore 5, 2) := by decide +kernel
theorem dX9_placeOf_157 : decode cX9_placeOf 157 = .ok (.aload_n 0, 1) := by decide +kernel
theorem dX9_placeOf_158 : decode cX9_placeOf 158 = .ok (.getfield 7, 3) := by decide +kernel
theorem dX9_placeOf_161 : decode cX9_placeOf 161 = .ok (.iload 5, 2) := by decide +kernel
theorem dX9_placeOf_163 : decode cX9_placeOf 163 = .ok (.iconst 3, 1) := by decide +kernel
theorem dX9_placeOf_164 : decode cX9_placeOf 164 = .ok (.iadd, 1) := by decide +kernel
theorem dX9_placeOf_165 : decode cX9_placeOf 165 = .ok (.iaload, 1) := by decide +kernel
theorem dX9_placeOf_166 : decode cX9_placeOf 166 = .ok (.aload_n 0, 1) := by decide +kernel
theorem dX9_placeOf_167 : decode cX9_placeOf 167 = .ok (.iload_n 1, 1) := by decide +kernel
theorem dX9_placeOf_168 : decode cX9_placeOf 168 = .ok (.invokevirtual 108, 3) := by decide +kernel
theorem dX9_placeOf_171 : decode cX9_placeOf 171 = .ok (.if_icmp .ne 43, 3) := by decide +kernel
theorem dX9_placeOf_174 : decode cX9_placeOf 174 = .ok (.aload_n 0, 1) := by decide +kernel
theorem dX9_placeOf_175 : decode cX9_placeOf 175 = .ok (.iload_n 1, 1) := by decide +kernel
theorem dX9_placeOf_176 : decode cX9_placeOf 176 = .ok (.iload 5, 2) := by decide +kernel
theorem dX9_placeOf_178 : decode cX9_placeOf 178 = .ok (.invokevirtual 130, 3) := by decide +kernel
theorem dX9_placeOf_181 : decode cX9_placeOf 181 = .ok (.ifCond .eq 33, 3) := by decide +kernel
theorem dX9_placeOf_184 : decode cX9_placeOf 184 = .ok (.aload_n 0, 1) := by decide +kernel
theorem dX9_placeOf_185 : decode cX9_placeOf 185 = .ok (.getfield 7, 3) := by decide +kernel
theorem dX9_placeOf_188 : decode cX9_placeOf 188 = .ok (.iload 5, 2) := by decide +kernel
theorem dX9_placeOf_190 : decode cX9_placeOf 190 = .ok (.iconst 1, 1) := by decide +kernel
theorem dX9_placeOf_191 : decode cX9_placeOf 191 = .ok (.iadd, 1) := by decide +kernel
theorem dX9_placeOf_192 : decode cX9_placeOf 192 = .ok (.iaload, 1) := by decide +kernel
theorem dX9_placeOf_193 : decode cX9_placeOf 193 = .ok (.iload_n 3, 1) := by decide +kernel
theorem dX9_placeOf_194 : decode cX9_placeOf 194 = .ok (.if_icmp .le 20, 3) := by decide +kernel
theorem dX9_placeOf_197 : decode cX9_placeOf 197 = .ok (.sipush 1000, 3) := by decide +kernel
theorem dX9_placeOf_200 : decode cX9_placeOf 200 = .ok (.iload 4, 2) := by decide +kernel
theorem dX9_placeOf_202 : decode cX9_placeOf 202 = .ok (.iadd, 1) := by decide +kernel
theorem dX9_placeOf_203 : decode cX9_placeOf 203 = .ok (.istore_n 2, 1) := by decide +kernel
theorem dX9_placeOf_204 : decode cX9_placeOf 204 = .ok (.aload_n 0, 1) := by decide +kernel
theorem dX9_placeOf_205 : decode cX9_placeOf 205 = .ok (.getfield 7, 3) := by decide +kernel
theorem dX9_placeOf_208 : decode cX9_placeOf 208 = .ok (.iload 5, 2) := by decide +kernel
theorem dX9_placeOf_210 : decode cX9_placeOf 210 = .ok (.iconst 1, 1) := by decide +kernel
theorem dX9_placeOf_211 : decode cX9_placeOf 211 = .ok (.iadd, 1) := by decide +kernel
theorem dX9_placeOf_212 : decode cX9_placeOf 212 = .ok (.iaload, 1) := by decide +kernel
theorem dX9_placeOf_213 : decode cX9_placeOf 213 = .ok (.istore_n 3, 1) := by decide +kernel
theorem dX9_placeOf_214 : decode cX9_placeOf 214 = .ok (.iinc 4 1, 3) := by decide +kernel
theorem dX9_placeOf_217 : decode cX9_placeOf 217 = .ok (.goto (-80), 3) := by decide +kernel
theorem dX9_placeOf_220 : decode cX9_placeOf 220 = .ok (.iload_n 2, 1) := by decide +kernel
theorem dX9_placeOf_221 : decode cX9_placeOf 221 = .ok (.ireturn, 1) := by decide +kernel
theorem dX9_indexOf_0 : decode cX9_indexOf 0 = .ok (.iconst 0, 1) := by decide +kernel
theorem dX9_indexOf_1 : decode cX9_indexOf 1 = .ok (.istore_n 2, 1) := by decide +kernel
theorem dX9_indexOf_2 : decode cX9_indexOf 2 = .ok (.iload_n 2, 1) := by decide +kernel
theorem dX9_indexOf_3 : decode cX9_indexOf 3 = .ok (.aload_n 0, 1) := by decide +kernel
theorem dX9_indexOf_4 : decode cX9_indexOf 4 = .ok (.getfield 7, 3) := by decide +kernel
theorem dX9_indexOf_7 : decode cX9_indexOf 7 = .ok (.sipush 1042, 3) := by decide +kernel
theorem dX9_indexOf_10 : decode cX9_indexOf 10 = .ok (.iaload, 1) := by decide +kernel
theorem dX9_indexOf_11 : decode cX9_indexOf 11 = .ok (.if_icmp .ge 25, 3) := by decide +kernel
theorem dX9_indexOf_14 : decode cX9_indexOf 14 = .ok (.aload_n 0, 1) := by decide +kernel
theorem dX9_indexOf_15 : decode cX9_indexOf 15 = .ok (.getfield 7, 3) := by decide +kernel
theorem dX9_indexOf_18 : decode cX9_indexOf 18 = .ok (.sipush 1043, 3) := by decide +kernel
theorem dX9_indexOf_21 : decode cX9_indexOf 21 = .ok (.iload_n 2, 1) := by decide +kernel
theorem dX9_indexOf_22 : decode cX9_indexOf 22 = .ok (.iadd, 1) := by decide +kernel
theorem dX9_indexOf_23 : decode cX9_indexOf 23 = .ok (.iaload, 1) := by decide +kernel
theorem dX9_indexOf_24 : decode cX9_indexOf 24 = .ok (.iload_n 1, 1) := by decide +kernel
theorem dX9_indexOf_25 : decode cX9_indexOf 25 = .ok (.if_icmp .ne 5, 3) := by decide +kernel
theorem dX9_indexOf_28 : decode cX9_indexOf 28 = .ok (.iload_n 2, 1) := by decide +kernel
theorem dX9_indexOf_29 : decode cX9_indexOf 29 = .ok (.ireturn, 1) := by decide +kernel
theorem dX9_indexOf_30 : decode cX9_indexOf 30 = .ok (.iinc 2 1, 3) := by decide +kernel
theorem dX9_indexOf_33 : decode cX9_indexOf 33 = .ok (.goto (-31), 3) := by decide +kernel
theorem dX9_indexOf_36 : decode cX9_indexOf 36 = .ok (.iconst (-1), 1) := by decide +kernel
theorem dX9_indexOf_37 : decode cX9_indexOf 37 = .ok (.ireturn, 1) := by decide +kernel
theorem dX9_settles_0 : decode cX9_settles 0 = .ok (.aload_n 0, 1) := by decide +kernel
theorem dX9_settles_1 : decode cX9_settles 1 = .ok (.iload_n 1, 1) := by decide +kernel
theorem dX9_settles_2 : decode cX9_settles 2 = .ok (.invokevirtual 133, 3) := by decide +kernel
theorem dX9_settles_5 : decode cX9_settles 5 = .ok (.istore_n 2, 1) := by decide +kernel
theorem dX9_settles_6 : decode cX9_settles 6 = .ok (.iload_n 2, 1) := by decide +kernel
theorem dX9_settles_7 : decode cX9_settles 7 = .ok (.iconst (-1), 1) := by decide +kernel
theorem dX9_settles_8 : decode cX9_settles 8 = .ok (.if_icmp .eq 34, 3) := by decide +kernel
theorem dX9_settles_11 : decode cX9_settles 11 = .ok (.aload_n 0, 1) := by decide +kernel
theorem dX9_settles_12 : decode cX9_settles 12 = .ok (.iload_n 1, 1) := by decide +kernel
theorem dX9_settles_13 : decode cX9_settles 13 = .ok (.iload_n 2, 1) := by decide +kernel
theorem dX9_settles_14 : decode cX9_settles 14 = .ok (.aload_n 0, 1) := by decide +kernel
theorem dX9_settles_15 : decode cX9_settles 15 = .ok (.getfield 136, 3) := by decide +kernel
theorem dX9_settles_18 : decode cX9_settles 18 = .ok (.aload_n 0, 1) := by decide +kernel
theorem dX9_settles_19 : decode cX9_settles 19 = .ok (.getfield 139, 3) := by decide +kernel
theorem dX9_settles_22 : decode cX9_settles 22 = .ok (.aload_n 0, 1) := by decide +kernel
theorem dX9_settles_23 : decode cX9_settles 23 = .ok (.getfield 142, 3) := by decide +kernel
theorem dX9_settles_26 : decode cX9_settles 26 = .ok (.iload_n 1, 1) := by decide +kernel
theorem dX9_settles_27 : decode cX9_settles 27 = .ok (.aload_n 0, 1) := by decide +kernel
theorem dX9_settles_28 : decode cX9_settles 28 = .ok (.getfield 145, 3) := by decide +kernel
theorem dX9_settles_31 : decode cX9_settles 31 = .ok (.if_icmp .ne 7, 3) := by decide +kernel
theorem dX9_settles_34 : decode cX9_settles 34 = .ok (.iconst 0, 1) := by decide +kernel
theorem dX9_settles_35 : decode cX9_settles 35 = .ok (.goto 4, 3) := by decide +kernel
theorem dX9_settles_38 : decode cX9_settles 38 = .ok (.iconst 1, 1) := by decide +kernel
theorem dX9_settles_39 : decode cX9_settles 39 = .ok (.invokevirtual 148, 3) := by decide +kernel
theorem dX9_settles_42 : decode cX9_settles 42 = .ok (.iload_n 2, 1) := by decide +kernel
theorem dX9_settles_43 : decode cX9_settles 43 = .ok (.iconst (-1), 1) := by decide +kernel
theorem dX9_settles_44 : decode cX9_settles 44 = .ok (.if_icmp .eq 7, 3) := by decide +kernel
theorem dX9_settles_47 : decode cX9_settles 47 = .ok (.iconst 1, 1) := by decide +kernel
theorem dX9_settles_48 : decode cX9_settles 48 = .ok (.goto 4, 3) := by decide +kernel
theorem dX9_settles_51 : decode cX9_settles 51 = .ok (.iconst 0, 1) := by decide +kernel
theorem dX9_settles_52 : decode cX9_settles 52 = .ok (.ireturn, 1) := by decide +kernel
theorem dX9_hold_0 : decode cX9_hold 0 = .ok (.aload_n 0, 1) := by decide +kernel
theorem dX9_hold_1 : decode cX9_hold 1 = .ok (.aload_n 0, 1) := by decide +kernel
theorem dX9_hold_2 : decode cX9_hold 2 = .ok (.iload_n 1, 1) := by decide +kernel
theorem dX9_hold_3 : decode cX9_hold 3 = .ok (.invokevirtual 111, 3) := by decide +kernel
theorem dX9_hold_6 : decode cX9_hold 6 = .ok (.putfield 136, 3) := by decide +kernel
theorem dX9_hold_9 : decode cX9_hold 9 = .ok (.aload_n 0, 1) := by decide +kernel
theorem dX9_hold_10 : decode cX9_hold 10 = .ok (.aload_n 0, 1) := by decide +kernel
theorem dX9_hold_11 : decode cX9_hold 11 = .ok (.getfield 7, 3) := by decide +kernel
theorem dX9_hold_14 : decode cX9_hold 14 = .ok (.iconst 2, 1) := by decide +kernel
theorem dX9_hold_15 : decode cX9_hold 15 = .ok (.iaload, 1) := by decide +kernel
theorem dX9_hold_16 : decode cX9_hold 16 = .ok (.putfield 139, 3) := by decide +kernel
theorem dX9_hold_19 : decode cX9_hold 19 = .ok (.aload_n 0, 1) := by decide +kernel
theorem dX9_hold_20 : decode cX9_hold 20 = .ok (.aload_n 0, 1) := by decide +kernel
theorem dX9_hold_21 : decode cX9_hold 21 = .ok (.iload_n 1, 1) := by decide +kernel
theorem dX9_hold_22 : decode cX9_hold 22 = .ok (.aload_n 0, 1) := by decide +kernel
theorem dX9_hold_23 : decode cX9_hold 23 = .ok (.getfield 7, 3) := by decide +kernel
theorem dX9_hold_26 : decode cX9_hold 26 = .ok (.iconst 2, 1) := by decide +kernel
theorem dX9_hold_27 : decode cX9_hold 27 = .ok (.iaload, 1) := by decide +kernel
theorem dX9_hold_28 : decode cX9_hold 28 = .ok (.invokevirtual 124, 3) := by decide +kernel
theorem dX9_hold_31 : decode cX9_hold 31 = .ok (.putfield 142, 3) := by decide +kernel
theorem dX9_hold_34 : decode cX9_hold 34 = .ok (.aload_n 0, 1) := by decide +kernel
theorem dX9_hold_35 : decode cX9_hold 35 = .ok (.aload_n 0, 1) := by decide +kernel
theorem dX9_hold_36 : decode cX9_hold 36 = .ok (.iload_n 1, 1) := by decide +kernel
theorem dX9_hold_37 : decode cX9_hold 37 = .ok (.invokevirtual 108, 3) := by decide +kernel
theorem dX9_hold_40 : decode cX9_hold 40 = .ok (.putfield 145, 3) := by decide +kernel
theorem dX9_hold_43 : decode cX9_hold 43 = .ok (.return_, 1) := by decide +kernel
theorem dX9_exchange_0 : decode cX9_exchange 0 = .ok (.iload_n 1, 1) := by decide +kernel
theorem dX9_exchange_1 : decode cX9_exchange 1 = .ok (.iload_n 2, 1) := by decide +kernel
theorem dX9_exchange_2 : decode cX9_exchange 2 = .ok (.invokestatic 117, 3) := by decide +kernel
theorem dX9_exchange_5 : decode cX9_exchange 5 = .ok (.istore_n 3, 1) := by decide +kernel
theorem dX9_exchange_6 : decode cX9_exchange 6 = .ok (.aload_n 0, 1) := by decide +kernel
theorem dX9_exchange_7 : decode cX9_exchange 7 = .ok (.getfield 7, 3) := by decide +kernel
theorem dX9_exchange_10 : decode cX9_exchange 10 = .ok (.iload_n 3, 1) := by decide +kernel
theorem dX9_exchange_11 : decode cX9_exchange 11 = .ok (.iaload, 1) := by decide +kernel
theorem dX9_exchange_12 : decode cX9_exchange 12 = .ok (.istore 4, 2) := by decide +kernel
theorem dX9_exchange_14 : decode cX9_exchange 14 = .ok (.aload_n 0, 1) := by decide +kernel
theorem dX9_exchange_15 : decode cX9_exchange 15 = .ok (.getfield 7, 3) := by decide +kernel
theorem dX9_exchange_18 : decode cX9_exchange 18 = .ok (.iload_n 3, 1) := by decide +kernel
theorem dX9_exchange_19 : decode cX9_exchange 19 = .ok (.iconst 1, 1) := by decide +kernel
theorem dX9_exchange_20 : decode cX9_exchange 20 = .ok (.iadd, 1) := by decide +kernel
theorem dX9_exchange_21 : decode cX9_exchange 21 = .ok (.iaload, 1) := by decide +kernel
theorem dX9_exchange_22 : decode cX9_exchange 22 = .ok (.istore 5, 2) := by decide +kernel
theorem dX9_exchange_24 : decode cX9_exchange 24 = .ok (.aload_n 0, 1) := by decide +kernel
theorem dX9_exchange_25 : decode cX9_exchange 25 = .ok (.getfield 7, 3) := by decide +kernel
theorem dX9_exchange_28 : decode cX9_exchange 28 = .ok (.iload_n 3, 1) := by decide +kernel
theorem dX9_exchange_29 : decode cX9_exchange 29 = .ok (.iconst 2, 1) := by decide +kernel
theorem dX9_exchange_30 : decode cX9_exchange 30 = .ok (.iadd, 1) := by decide +kernel
theorem dX9_exchange_31 : decode cX9_exchange 31 = .ok (.iaload, 1) := by decide +kernel
theorem dX9_exchange_32 : decode cX9_exchange 32 = .ok (.istore 6, 2) := by decide +kernel
theorem dX9_exchange_34 : decode cX9_exchange 34 = .ok (.aload_n 0, 1) := by decide +kernel
theorem dX9_exchange_35 : decode cX9_exchange 35 = .ok (.getfield 7, 3) := by decide +kernel
theorem dX9_exchange_38 : decode cX9_exchange 38 = .ok (.iload_n 3, 1) := by decide +kernel
theorem dX9_exchange_39 : decode cX9_exchange 39 = .ok (.iconst 3, 1) := by decide +kernel
theorem dX9_exchange_40 : decode cX9_exchange 40 = .ok (.iadd, 1) := by decide +kernel
theorem dX9_exchange_41 : decode cX9_exchange 41 = .ok (.iaload, 1) := by decide +kernel
theorem dX9_exchange_42 : decode cX9_exchange 42 = .ok (.ifCond .ne 7, 3) := by decide +kernel
theorem dX9_exchange_45 : decode cX9_exchange 45 = .ok (.iload_n 1, 1) := by decide +kernel
theorem dX9_exchange_46 : decode cX9_exchange 46 = .ok (.goto 16, 3) := by decide +kernel
theorem dX9_exchange_49 : decode cX9_exchange 49 = .ok (.iload_n 1, 1) := by decide +kernel
theorem dX9_exchange_50 : decode cX9_exchange 50 = .ok (.iload 4, 2) := by decide +kernel
theorem dX9_exchange_52 : decode cX9_exchange 52 = .ok (.aload_n 0, 1) := by decide +kernel
theorem dX9_exchange_53 : decode cX9_exchange 53 = .ok (.getfield 7, 3) := by decide +kernel
theorem dX9_exchange_56 : decode cX9_exchange 56 = .ok (.iconst 0, 1) := by decide +kernel
theorem dX9_exchange_57 : decode cX9_exchange 57 = .ok (.iaload, 1) := by decide +kernel
theorem dX9_exchange_58 : decode cX9_exchange 58 = .ok (.invokestatic 114, 3) := by decide +kernel
theorem dX9_exchange_61 : decode cX9_exchange 61 = .ok (.ixor, 1) := by decide +kernel
theorem dX9_exchange_62 : decode cX9_exchange 62 = .ok (.istore 7, 2) := by decide +kernel
theorem dX9_exchange_64 : decode cX9_exchange 64 = .ok (.aload_n 0, 1) := by decide +kernel
theorem dX9_exchange_65 : decode cX9_exchange 65 = .ok (.iload_n 1, 1) := by decide +kernel
theorem dX9_exchange_66 : decode cX9_exchange 66 = .ok (.iload_n 2, 1) := by decide +kernel
theorem dX9_exchange_67 : decode cX9_exchange 67 = .ok (.aload_n 0, 1) := by decide +kernel
theorem dX9_exchange_68 : decode cX9_exchange 68 = .ok (.getfield 136, 3) := by decide +kernel
theorem dX9_exchange_71 : decode cX9_exchange 71 = .ok (.aload_n 0, 1) := by decide +kernel
theorem dX9_exchange_72 : decode cX9_exchange 72 = .ok (.getfield 139, 3) := by decide +kernel
theorem dX9_exchange_75 : decode cX9_exchange 75 = .ok (.aload_n 0, 1) := by decide +kernel
theorem dX9_exchange_76 : decode cX9_exchange 76 = .ok (.getfield 142, 3) := by decide +kernel
theorem dX9_exchange_79 : decode cX9_exchange 79 = .ok (.iload_n 1, 1) := by decide +kernel
theorem dX9_exchange_80 : decode cX9_exchange 80 = .ok (.aload_n 0, 1) := by decide +kernel
theorem dX9_exchange_81 : decode cX9_exchange 81 = .ok (.getfield 145, 3) := by decide +kernel
theorem dX9_exchange_84 : decode cX9_exchange 84 = .ok (.if_icmp .ne 7, 3) := by decide +kernel
theorem dX9_exchange_87 : decode cX9_exchange 87 = .ok (.iconst 0, 1) := by decide +kernel
theorem dX9_exchange_88 : decode cX9_exchange 88 = .ok (.goto 4, 3) := by decide +kernel
theorem dX9_exchange_91 : decode cX9_exchange 91 = .ok (.iconst 1, 1) := by decide +kernel
theorem dX9_exchange_92 : decode cX9_exchange 92 = .ok (.invokevirtual 148, 3) := by decide +kernel
theorem dX9_exchange_95 : decode cX9_exchange 95 = .ok (.aload_n 0, 1) := by decide +kernel
theorem dX9_exchange_96 : decode cX9_exchange 96 = .ok (.iload 4, 2) := by decide +kernel
theorem dX9_exchange_98 : decode cX9_exchange 98 = .ok (.putfield 136, 3) := by decide +kernel
theorem dX9_exchange_101 : decode cX9_exchange 101 = .ok (.aload_n 0, 1) := by decide +kernel
theorem dX9_exchange_102 : decode cX9_exchange 102 = .ok (.iload 5, 2) := by decide +kernel
theorem dX9_exchange_104 : decode cX9_exchange 104 = .ok (.putfield 139, 3) := by decide +kernel
theorem dX9_exchange_107 : decode cX9_exchange 107 = .ok (.aload_n 0, 1) := by decide +kernel
theorem dX9_exchange_108 : decode cX9_exchange 108 = .ok (.iload 6, 2) := by decide +kernel
theorem dX9_exchange_110 : decode cX9_exchange 110 = .ok (.putfield 142, 3) := by decide +kernel
theorem dX9_exchange_113 : decode cX9_exchange 113 = .ok (.aload_n 0, 1) := by decide +kernel
theorem dX9_exchange_114 : decode cX9_exchange 114 = .ok (.iload 7, 2) := by decide +kernel
theorem dX9_exchange_116 : decode cX9_exchange 116 = .ok (.putfield 145, 3) := by decide +kernel
theorem dX9_exchange_119 : decode cX9_exchange 119 = .ok (.return_, 1) := by decide +kernel
theorem dX9_walks_0 : decode cX9_walks 0 = .ok (.iconst 0, 1) := by decide +kernel
theorem dX9_walks_1 : decode cX9_walks 1 = .ok (.istore_n 2, 1) := by decide +kernel
theorem dX9_walks_2 : decode cX9_walks 2 = .ok (.iload_n 2, 1) := by decide +kernel
theorem dX9_walks_3 : decode cX9_walks 3 = .ok (.sipush 1024, 3) := by decide +kernel
theorem dX9_walks_6 : decode cX9_walks 6 = .ok (.if_icmp .ge 24, 3) := by decide +kernel
theorem dX9_walks_9 : decode cX9_walks 9 = .ok (.aload_n 0, 1) := by decide +kernel
theorem dX9_walks_10 : decode cX9_walks 10 = .ok (.getfield 25, 3) := by decide +kernel
theorem dX9_walks_13 : decode cX9_walks 13 = .ok (.iload_n 2, 1) := by decide +kernel
theorem dX9_walks_14 : decode cX9_walks 14 = .ok (.aload_n 0, 1) := by decide +kernel
theorem dX9_walks_15 : decode cX9_walks 15 = .ok (.getfield 7, 3) := by decide +kernel
theorem dX9_walks_18 : decode cX9_walks 18 = .ok (.bipush 18, 2) := by decide +kernel
theorem dX9_walks_20 : decode cX9_walks 20 = .ok (.iload_n 2, 1) := by decide +kernel
theorem dX9_walks_21 : decode cX9_walks 21 = .ok (.iadd, 1) := by decide +kernel
theorem dX9_walks_22 : decode cX9_walks 22 = .ok (.iaload, 1) := by decide +kernel
theorem dX9_walks_23 : decode cX9_walks 23 = .ok (.iastore, 1) := by decide +kernel
theorem dX9_walks_24 : decode cX9_walks 24 = .ok (.iinc 2 1, 3) := by decide +kernel
theorem dX9_walks_27 : decode cX9_walks 27 = .ok (.goto (-25), 3) := by decide +kernel
theorem dX9_walks_30 : decode cX9_walks 30 = .ok (.iload_n 1, 1) := by decide +kernel
theorem dX9_walks_31 : decode cX9_walks 31 = .ok (.istore_n 2, 1) := by decide +kernel
theorem dX9_walks_32 : decode cX9_walks 32 = .ok (.aload_n 0, 1) := by decide +kernel
theorem dX9_walks_33 : decode cX9_walks 33 = .ok (.getfield 152, 3) := by decide +kernel
theorem dX9_walks_36 : decode cX9_walks 36 = .ok (.aload_n 0, 1) := by decide +kernel
theorem dX9_walks_37 : decode cX9_walks 37 = .ok (.getfield 7, 3) := by decide +kernel
theorem dX9_walks_40 : decode cX9_walks 40 = .ok (.iconst 4, 1) := by decide +kernel
theorem dX9_walks_41 : decode cX9_walks 41 = .ok (.iaload, 1) := by decide +kernel
theorem dX9_walks_42 : decode cX9_walks 42 = .ok (.if_icmp .ge 87, 3) := by decide +kernel
theorem dX9_walks_45 : decode cX9_walks 45 = .ok (.aload_n 0, 1) := by decide +kernel
theorem dX9_walks_46 : decode cX9_walks 46 = .ok (.getfield 152, 3) := by decide +kernel
theorem dX9_walks_49 : decode cX9_walks 49 = .ok (.aload_n 0, 1) := by decide +kernel
theorem dX9_walks_50 : decode cX9_walks 50 = .ok (.getfield 7, 3) := by decide +kernel
theorem dX9_walks_53 : decode cX9_walks 53 = .ok (.iconst 1, 1) := by decide +kernel
theorem dX9_walks_54 : decode cX9_walks 54 = .ok (.iaload, 1) := by decide +kernel
theorem dX9_walks_55 : decode cX9_walks 55 = .ok (.irem, 1) := by decide +kernel
theorem dX9_walks_56 : decode cX9_walks 56 = .ok (.istore_n 3, 1) := by decide +kernel
theorem dX9_walks_57 : decode cX9_walks 57 = .ok (.aload_n 0, 1) := by decide +kernel
theorem dX9_walks_58 : decode cX9_walks 58 = .ok (.getfield 19, 3) := by decide +kernel
theorem dX9_walks_61 : decode cX9_walks 61 = .ok (.aload_n 0, 1) := by decide +kernel
theorem dX9_walks_62 : decode cX9_walks 62 = .ok (.getfield 152, 3) := by decide +kernel
theorem dX9_walks_65 : decode cX9_walks 65 = .ok (.iconst 4, 1) := by decide +kernel
theorem dX9_walks_66 : decode cX9_walks 66 = .ok (.iload_n 2, 1) := by decide +kernel
theorem dX9_walks_67 : decode cX9_walks 67 = .ok (.imul, 1) := by decide +kernel
theorem dX9_walks_68 : decode cX9_walks 68 = .ok (.iload_n 3, 1) := by decide +kernel
theorem dX9_walks_69 : decode cX9_walks 69 = .ok (.iadd, 1) := by decide +kernel
theorem dX9_walks_70 : decode cX9_walks 70 = .ok (.iastore, 1) := by decide +kernel
theorem dX9_walks_71 : decode cX9_walks 71 = .ok (.aload_n 0, 1) := by decide +kernel
theorem dX9_walks_72 : decode cX9_walks 72 = .ok (.iload_n 2, 1) := by decide +kernel
theorem dX9_walks_73 : decode cX9_walks 73 = .ok (.iload_n 3, 1) := by decide +kernel
theorem dX9_walks_74 : decode cX9_walks 74 = .ok (.invokevirtual 155, 3) := by decide +kernel
theorem dX9_walks_77 : decode cX9_walks 77 = .ok (.aload_n 0, 1) := by decide +kernel
theorem dX9_walks_78 : decode cX9_walks 78 = .ok (.getfield 22, 3) := by decide +kernel
theorem dX9_walks_81 : decode cX9_walks 81 = .ok (.aload_n 0, 1) := by decide +kernel
theorem dX9_walks_82 : decode cX9_walks 82 = .ok (.getfield 152, 3) := by decide +kernel
theorem dX9_walks_85 : decode cX9_walks 85 = .ok (.aload_n 0, 1) := by decide +kernel
theorem dX9_walks_86 : decode cX9_walks 86 = .ok (.getfield 136, 3) := by decide +kernel
theorem dX9_walks_89 : decode cX9_walks 89 = .ok (.iastore, 1) := by decide +kernel
theorem dX9_walks_90 : decode cX9_walks 90 = .ok (.aload_n 0, 1) := by decide +kernel
theorem dX9_walks_91 : decode cX9_walks 91 = .ok (.dup, 1) := by decide +kernel
theorem dX9_walks_92 : decode cX9_walks 92 = .ok (.getfield 152, 3) := by decide +kernel
theorem dX9_walks_95 : decode cX9_walks 95 = .ok (.iconst 1, 1) := by decide +kernel
theorem dX9_walks_96 : decode cX9_walks 96 = .ok (.iadd, 1) := by decide +kernel
theorem dX9_walks_97 : decode cX9_walks 97 = .ok (.putfield 152, 3) := by decide +kernel
theorem dX9_walks_100 : decode cX9_walks 100 = .ok (.iload_n 2, 1) := by decide +kernel
theorem dX9_walks_101 : decode cX9_walks 101 = .ok (.aload_n 0, 1) := by decide +kernel
theorem dX9_walks_102 : decode cX9_walks 102 = .ok (.getfield 136, 3) := by decide +kernel
theorem dX9_walks_105 : decode cX9_walks 105 = .ok (.aload_n 0, 1) := by decide +kernel
theorem dX9_walks_106 : decode cX9_walks 106 = .ok (.getfield 7, 3) := by decide +kernel
theorem dX9_walks_109 : decode cX9_walks 109 = .ok (.iconst 0, 1) := by decide +kernel
theorem dX9_walks_110 : decode cX9_walks 110 = .ok (.iaload, 1) := by decide +kernel
theorem dX9_walks_111 : decode cX9_walks 111 = .ok (.invokestatic 114, 3) := by decide +kernel
theorem dX9_walks_114 : decode cX9_walks 114 = .ok (.ixor, 1) := by decide +kernel
theorem dX9_walks_115 : decode cX9_walks 115 = .ok (.istore_n 2, 1) := by decide +kernel
theorem dX9_walks_116 : decode cX9_walks 116 = .ok (.aload_n 0, 1) := by decide +kernel
theorem dX9_walks_117 : decode cX9_walks 117 = .ok (.iload_n 2, 1) := by decide +kernel
theorem dX9_walks_118 : decode cX9_walks 118 = .ok (.invokevirtual 159, 3) := by decide +kernel
theorem dX9_walks_121 : decode cX9_walks 121 = .ok (.ifCond .eq 5, 3) := by decide +kernel
theorem dX9_walks_124 : decode cX9_walks 124 = .ok (.iconst 1, 1) := by decide +kernel
theorem dX9_walks_125 : decode cX9_walks 125 = .ok (.ireturn, 1) := by decide +kernel
theorem dX9_walks_126 : decode cX9_walks 126 = .ok (.goto (-94), 3) := by decide +kernel
theorem dX9_walks_129 : decode cX9_walks 129 = .ok (.iconst 0, 1) := by decide +kernel
theorem dX9_walks_130 : decode cX9_walks 130 = .ok (.istore_n 3, 1) := by decide +kernel
theorem dX9_walks_131 : decode cX9_walks 131 = .ok (.iload_n 3, 1) := by decide +kernel
theorem dX9_walks_132 : decode cX9_walks 132 = .ok (.sipush 1024, 3) := by decide +kernel
theorem dX9_walks_135 : decode cX9_walks 135 = .ok (.if_icmp .ge 24, 3) := by decide +kernel
theorem dX9_walks_138 : decode cX9_walks 138 = .ok (.aload_n 0, 1) := by decide +kernel
theorem dX9_walks_139 : decode cX9_walks 139 = .ok (.getfield 7, 3) := by decide +kernel
theorem dX9_walks_142 : decode cX9_walks 142 = .ok (.bipush 18, 2) := by decide +kernel
theorem dX9_walks_144 : decode cX9_walks 144 = .ok (.iload_n 3, 1) := by decide +kernel
theorem dX9_walks_145 : decode cX9_walks 145 = .ok (.iadd, 1) := by decide +kernel
theorem dX9_walks_146 : decode cX9_walks 146 = .ok (.aload_n 0, 1) := by decide +kernel
theorem dX9_walks_147 : decode cX9_walks 147 = .ok (.getfield 25, 3) := by decide +kernel
theorem dX9_walks_150 : decode cX9_walks 150 = .ok (.iload_n 3, 1) := by decide +kernel
theorem dX9_walks_151 : decode cX9_walks 151 = .ok (.iaload, 1) := by decide +kernel
theorem dX9_walks_152 : decode cX9_walks 152 = .ok (.iastore, 1) := by decide +kernel
theorem dX9_walks_153 : decode cX9_walks 153 = .ok (.iinc 3 1, 3) := by decide +kernel
theorem dX9_walks_156 : decode cX9_walks 156 = .ok (.goto (-25), 3) := by decide +kernel
theorem dX9_walks_159 : decode cX9_walks 159 = .ok (.iconst 0, 1) := by decide +kernel
theorem dX9_walks_160 : decode cX9_walks 160 = .ok (.ireturn, 1) := by decide +kernel
theorem dX9_addEntry_0 : decode cX9_addEntry 0 = .ok (.aload_n 0, 1) := by decide +kernel
theorem dX9_addEntry_1 : decode cX9_addEntry 1 = .ok (.iconst 0, 1) := by decide +kernel
theorem dX9_addEntry_2 : decode cX9_addEntry 2 = .ok (.putfield 152, 3) := by decide +kernel
theorem dX9_addEntry_5 : decode cX9_addEntry 5 = .ok (.aload_n 0, 1) := by decide +kernel
theorem dX9_addEntry_6 : decode cX9_addEntry 6 = .ok (.iload_n 1, 1) := by decide +kernel
theorem dX9_addEntry_7 : decode cX9_addEntry 7 = .ok (.invokevirtual 163, 3) := by decide +kernel
theorem dX9_addEntry_10 : decode cX9_addEntry 10 = .ok (.aload_n 0, 1) := by decide +kernel
theorem dX9_addEntry_11 : decode cX9_addEntry 11 = .ok (.getfield 145, 3) := by decide +kernel
theorem dX9_addEntry_14 : decode cX9_addEntry 14 = .ok (.istore_n 2, 1) := by decide +kernel
theorem dX9_addEntry_15 : decode cX9_addEntry 15 = .ok (.aload_n 0, 1) := by decide +kernel
theorem dX9_addEntry_16 : decode cX9_addEntry 16 = .ok (.iload_n 2, 1) := by decide +kernel
theorem dX9_addEntry_17 : decode cX9_addEntry 17 = .ok (.invokevirtual 159, 3) := by decide +kernel
theorem dX9_addEntry_20 : decode cX9_addEntry 20 = .ok (.ifCond .ne 15, 3) := by decide +kernel
theorem dX9_addEntry_23 : decode cX9_addEntry 23 = .ok (.aload_n 0, 1) := by decide +kernel
theorem dX9_addEntry_24 : decode cX9_addEntry 24 = .ok (.aload_n 0, 1) := by decide +kernel
theorem dX9_addEntry_25 : decode cX9_addEntry 25 = .ok (.iload_n 1, 1) := by decide +kernel
theorem dX9_addEntry_26 : decode cX9_addEntry 26 = .ok (.invokevirtual 127, 3) := by decide +kernel
theorem dX9_addEntry_29 : decode cX9_addEntry 29 = .ok (.invokevirtual 159, 3) := by decide +kernel
theorem dX9_addEntry_32 : decode cX9_addEntry 32 = .ok (.ifCond .eq 5, 3) := by decide +kernel
theorem dX9_addEntry_35 : decode cX9_addEntry 35 = .ok (.iconst 0, 1) := by decide +kernel
theorem dX9_addEntry_36 : decode cX9_addEntry 36 = .ok (.ireturn, 1) := by decide +kernel
theorem dX9_addEntry_37 : decode cX9_addEntry 37 = .ok (.aload_n 0, 1) := by decide +kernel
theorem dX9_addEntry_38 : decode cX9_addEntry 38 = .ok (.iload_n 2, 1) := by decide +kernel
theorem dX9_addEntry_39 : decode cX9_addEntry 39 = .ok (.invokevirtual 166, 3) := by decide +kernel
theorem dX9_addEntry_42 : decode cX9_addEntry 42 = .ok (.ifCond .eq 8, 3) := by decide +kernel
theorem dX9_addEntry_45 : decode cX9_addEntry 45 = .ok (.aload_n 0, 1) := by decide +kernel
theorem dX9_addEntry_46 : decode cX9_addEntry 46 = .ok (.getfield 152, 3) := by decide +kernel
theorem dX9_addEntry_49 : decode cX9_addEntry 49 = .ok (.ireturn, 1) := by decide +kernel
theorem dX9_addEntry_50 : decode cX9_addEntry 50 = .ok (.aload_n 0, 1) := by decide +kernel
theorem dX9_addEntry_51 : decode cX9_addEntry 51 = .ok (.getfield 7, 3) := by decide +kernel
theorem dX9_addEntry_54 : decode cX9_addEntry 54 = .ok (.iconst 5, 1) := by decide +kernel
theorem dX9_addEntry_55 : decode cX9_addEntry 55 = .ok (.iaload, 1) := by decide +kernel
theorem dX9_addEntry_56 : decode cX9_addEntry 56 = .ok (.iconst 3, 1) := by decide +kernel
theorem dX9_addEntry_57 : decode cX9_addEntry 57 = .ok (.if_icmp .ne 5, 3) := by decide +kernel
theorem dX9_addEntry_60 : decode cX9_addEntry 60 = .ok (.iconst (-1), 1) := by decide +kernel
theorem dX9_addEntry_61 : decode cX9_addEntry 61 = .ok (.ireturn, 1) := by decide +kernel
theorem dX9_addEntry_62 : decode cX9_addEntry 62 = .ok (.bipush 6, 2) := by decide +kernel
theorem dX9_addEntry_64 : decode cX9_addEntry 64 = .ok (.iconst 4, 1) := by decide +kernel
theorem dX9_addEntry_65 : decode cX9_addEntry 65 = .ok (.aload_n 0, 1) := by decide +kernel
theorem dX9_addEntry_66 : decode cX9_addEntry 66 = .ok (.getfield 7, 3) := by decide +kernel
theorem dX9_addEntry_69 : decode cX9_addEntry 69 = .ok (.iconst 5, 1) := by decide +kernel
theorem dX9_addEntry_70 : decode cX9_addEntry 70 = .ok (.iaload, 1) := by decide +kernel
theorem dX9_addEntry_71 : decode cX9_addEntry 71 = .ok (.imul, 1) := by decide +kernel
theorem dX9_addEntry_72 : decode cX9_addEntry 72 = .ok (.iadd, 1) := by decide +kernel
theorem dX9_addEntry_73 : decode cX9_addEntry 73 = .ok (.istore_n 3, 1) := by decide +kernel
theorem dX9_addEntry_74 : decode cX9_addEntry 74 = .ok (.aload_n 0, 1) := by decide +kernel
theorem dX9_addEntry_75 : decode cX9_addEntry 75 = .ok (.getfield 7, 3) := by decide +kernel
theorem dX9_addEntry_78 : decode cX9_addEntry 78 = .ok (.iload_n 3, 1) := by decide +kernel
theorem dX9_addEntry_79 : decode cX9_addEntry 79 = .ok (.aload_n 0, 1) := by decide +kernel
theorem dX9_addEntry_80 : decode cX9_addEntry 80 = .ok (.iload_n 1, 1) := by decide +kernel
theorem dX9_addEntry_81 : decode cX9_addEntry 81 = .ok (.invokevirtual 111, 3) := by decide +kernel
theorem dX9_addEntry_84 : decode cX9_addEntry 84 = .ok (.iastore, 1) := by decide +kernel
theorem dX9_addEntry_85 : decode cX9_addEntry 85 = .ok (.aload_n 0, 1) := by decide +kernel
theorem dX9_addEntry_86 : decode cX9_addEntry 86 = .ok (.getfield 7, 3) := by decide +kernel
theorem dX9_addEntry_89 : decode cX9_addEntry 89 = .ok (.iload_n 3, 1) := by decide +kernel
theorem dX9_addEntry_90 : decode cX9_addEntry 90 = .ok (.iconst 1, 1) := by decide +kernel
theorem dX9_addEntry_91 : decode cX9_addEntry 91 = .ok (.iadd, 1) := by decide +kernel
theorem dX9_addEntry_92 : decode cX9_addEntry 92 = .ok (.aload_n 0, 1) := by decide +kernel
theorem dX9_addEntry_93 : decode cX9_addEntry 93 = .ok (.getfield 7, 3) := by decide +kernel
theorem dX9_addEntry_96 : decode cX9_addEntry 96 = .ok (.iconst 2, 1) := by decide +kernel
theorem dX9_addEntry_97 : decode cX9_addEntry 97 = .ok (.iaload, 1) := by decide +kernel
theorem dX9_addEntry_98 : decode cX9_addEntry 98 = .ok (.iastore, 1) := by decide +kernel
theorem dX9_addEntry_99 : decode cX9_addEntry 99 = .ok (.aload_n 0, 1) := by decide +kernel
theorem dX9_addEntry_100 : decode cX9_addEntry 100 = .ok (.getfield 7, 3) := by decide +kernel
theorem dX9_addEntry_103 : decode cX9_addEntry 103 = .ok (.iload_n 3, 1) := by decide +kernel
theorem dX9_addEntry_104 : decode cX9_addEntry 104 = .ok (.iconst 2, 1) := by decide +kernel
theorem dX9_addEntry_105 : decode cX9_addEntry 105 = .ok (.iadd, 1) := by decide +kernel
theorem dX9_addEntry_106 : decode cX9_addEntry 106 = .ok (.aload_n 0, 1) := by decide +kernel
theorem dX9_addEntry_107 : decode cX9_addEntry 107 = .ok (.iload_n 1, 1) := by decide +kernel
theorem dX9_addEntry_108 : decode cX9_addEntry 108 = .ok (.aload_n 0, 1) := by decide +kernel
theorem dX9_addEntry_109 : decode cX9_addEntry 109 = .ok (.getfield 7, 3) := by decide +kernel
theorem dX9_addEntry_112 : decode cX9_addEntry 112 = .ok (.iconst 2, 1) := by decide +kernel
theorem dX9_addEntry_113 : decode cX9_addEntry 113 = .ok (.iaload, 1) := by decide +kernel
theorem dX9_addEntry_114 : decode cX9_addEntry 114 = .ok (.invokevirtual 124, 3) := by decide +kernel
theorem dX9_addEntry_117 : decode cX9_addEntry 117 = .ok (.iastore, 1) := by decide +kernel
theorem dX9_addEntry_118 : decode cX9_addEntry 118 = .ok (.aload_n 0, 1) := by decide +kernel
theorem dX9_addEntry_119 : decode cX9_addEntry 119 = .ok (.getfield 7, 3) := by decide +kernel
theorem dX9_addEntry_122 : decode cX9_addEntry 122 = .ok (.iload_n 3, 1) := by decide +kernel
theorem dX9_addEntry_123 : decode cX9_addEntry 123 = .ok (.iconst 3, 1) := by decide +kernel
theorem dX9_addEntry_124 : decode cX9_addEntry 124 = .ok (.iadd, 1) := by decide +kernel
theorem dX9_addEntry_125 : decode cX9_addEntry 125 = .ok (.iload_n 2, 1) := by decide +kernel
theorem dX9_addEntry_126 : decode cX9_addEntry 126 = .ok (.iastore, 1) := by decide +kernel
theorem dX9_addEntry_127 : decode cX9_addEntry 127 = .ok (.aload_n 0, 1) := by decide +kernel
theorem dX9_addEntry_128 : decode cX9_addEntry 128 = .ok (.getfield 7, 3) := by decide +kernel
theorem dX9_addEntry_131 : decode cX9_addEntry 131 = .ok (.iconst 5, 1) := by decide +kernel
theorem dX9_addEntry_132 : decode cX9_addEntry 132 = .ok (.dup2, 1) := by decide +kernel
theorem dX9_addEntry_133 : decode cX9_addEntry 133 = .ok (.iaload, 1) := by decide +kernel
theorem dX9_addEntry_134 : decode cX9_addEntry 134 = .ok (.iconst 1, 1) := by decide +kernel
theorem dX9_addEntry_135 : decode cX9_addEntry 135 = .ok (.iadd, 1) := by decide +kernel
theorem dX9_addEntry_136 : decode cX9_addEntry 136 = .ok (.iastore, 1) := by decide +kernel
theorem dX9_addEntry_137 : decode cX9_addEntry 137 = .ok (.bipush 100, 2) := by decide +kernel
theorem dX9_addEntry_139 : decode cX9_addEntry 139 = .ok (.ireturn, 1) := by decide +kernel
theorem dX9_mayAdd_0 : decode cX9_mayAdd 0 = .ok (.aload_n 0, 1) := by decide +kernel
theorem dX9_mayAdd_1 : decode cX9_mayAdd 1 = .ok (.iload_n 1, 1) := by decide +kernel
theorem dX9_mayAdd_2 : decode cX9_mayAdd 2 = .ok (.invokevirtual 169, 3) := by decide +kernel
theorem dX9_mayAdd_5 : decode cX9_mayAdd 5 = .ok (.iconst (-1), 1) := by decide +kernel
theorem dX9_mayAdd_6 : decode cX9_mayAdd 6 = .ok (.if_icmp .ne 20, 3) := by decide +kernel
theorem dX9_mayAdd_9 : decode cX9_mayAdd 9 = .ok (.aload_n 0, 1) := by decide +kernel
theorem dX9_mayAdd_10 : decode cX9_mayAdd 10 = .ok (.getfield 7, 3) := by decide +kernel
theorem dX9_mayAdd_13 : decode cX9_mayAdd 13 = .ok (.sipush 1042, 3) := by decide +kernel
theorem dX9_mayAdd_16 : decode cX9_mayAdd 16 = .ok (.iaload, 1) := by decide +kernel
theorem dX9_mayAdd_17 : decode cX9_mayAdd 17 = .ok (.bipush 120, 2) := by decide +kernel
theorem dX9_mayAdd_19 : decode cX9_mayAdd 19 = .ok (.if_icmp .ge 7, 3) := by decide +kernel
theorem dX9_mayAdd_22 : decode cX9_mayAdd 22 = .ok (.iconst 1, 1) := by decide +kernel
theorem dX9_mayAdd_23 : decode cX9_mayAdd 23 = .ok (.goto 4, 3) := by decide +kernel
theorem dX9_mayAdd_26 : decode cX9_mayAdd 26 = .ok (.iconst 0, 1) := by decide +kernel
theorem dX9_mayAdd_27 : decode cX9_mayAdd 27 = .ok (.ireturn, 1) := by decide +kernel
theorem dX9_noteKey_0 : decode cX9_noteKey 0 = .ok (.aload_n 0, 1) := by decide +kernel
theorem dX9_noteKey_1 : decode cX9_noteKey 1 = .ok (.getfield 7, 3) := by decide +kernel
theorem dX9_noteKey_4 : decode cX9_noteKey 4 = .ok (.sipush 1043, 3) := by decide +kernel
theorem dX9_noteKey_7 : decode cX9_noteKey 7 = .ok (.aload_n 0, 1) := by decide +kernel
theorem dX9_noteKey_8 : decode cX9_noteKey 8 = .ok (.getfield 7, 3) := by decide +kernel
theorem dX9_noteKey_11 : decode cX9_noteKey 11 = .ok (.sipush 1042, 3) := by decide +kernel
theorem dX9_noteKey_14 : decode cX9_noteKey 14 = .ok (.iaload, 1) := by decide +kernel
theorem dX9_noteKey_15 : decode cX9_noteKey 15 = .ok (.iadd, 1) := by decide +kernel
theorem dX9_noteKey_16 : decode cX9_noteKey 16 = .ok (.iload_n 1, 1) := by decide +kernel
theorem dX9_noteKey_17 : decode cX9_noteKey 17 = .ok (.iastore, 1) := by decide +kernel
theorem dX9_noteKey_18 : decode cX9_noteKey 18 = .ok (.aload_n 0, 1) := by decide +kernel
theorem dX9_noteKey_19 : decode cX9_noteKey 19 = .ok (.getfield 7, 3) := by decide +kernel
theorem dX9_noteKey_22 : decode cX9_noteKey 22 = .ok (.sipush 1042, 3) := by decide +kernel
theorem dX9_noteKey_25 : decode cX9_noteKey 25 = .ok (.dup2, 1) := by decide +kernel
theorem dX9_noteKey_26 : decode cX9_noteKey 26 = .ok (.iaload, 1) := by decide +kernel
theorem dX9_noteKey_27 : decode cX9_noteKey 27 = .ok (.iconst 1, 1) := by decide +kernel
theorem dX9_noteKey_28 : decode cX9_noteKey 28 = .ok (.iadd, 1) := by decide +kernel
theorem dX9_noteKey_29 : decode cX9_noteKey 29 = .ok (.iastore, 1) := by decide +kernel
theorem dX9_noteKey_30 : decode cX9_noteKey 30 = .ok (.return_, 1) := by decide +kernel
theorem dX9_reach_0 : decode cX9_reach 0 = .ok (.aload_n 0, 1) := by decide +kernel
theorem dX9_reach_1 : decode cX9_reach 1 = .ok (.getfield 31, 3) := by decide +kernel
theorem dX9_reach_4 : decode cX9_reach 4 = .ok (.iload_n 1, 1) := by decide +kernel
theorem dX9_reach_5 : decode cX9_reach 5 = .ok (.iaload, 1) := by decide +kernel
theorem dX9_reach_6 : decode cX9_reach 6 = .ok (.iconst (-1), 1) := by decide +kernel
theorem dX9_reach_7 : decode cX9_reach 7 = .ok (.if_icmp .ne 37, 3) := by decide +kernel
theorem dX9_reach_10 : decode cX9_reach 10 = .ok (.aload_n 0, 1) := by decide +kernel
theorem dX9_reach_11 : decode cX9_reach 11 = .ok (.getfield 31, 3) := by decide +kernel
theorem dX9_reach_14 : decode cX9_reach 14 = .ok (.iload_n 1, 1) := by decide +kernel
theorem dX9_reach_15 : decode cX9_reach 15 = .ok (.iload_n 2, 1) := by decide +kernel
theorem dX9_reach_16 : decode cX9_reach 16 = .ok (.iastore, 1) := by decide +kernel
theorem dX9_reach_17 : decode cX9_reach 17 = .ok (.aload_n 0, 1) := by decide +kernel
theorem dX9_reach_18 : decode cX9_reach 18 = .ok (.getfield 34, 3) := by decide +kernel
theorem dX9_reach_21 : decode cX9_reach 21 = .ok (.iload_n 1, 1) := by decide +kernel
theorem dX9_reach_22 : decode cX9_reach 22 = .ok (.iload_n 3, 1) := by decide +kernel
theorem dX9_reach_23 : decode cX9_reach 23 = .ok (.iastore, 1) := by decide +kernel
theorem dX9_reach_24 : decode cX9_reach 24 = .ok (.aload_n 0, 1) := by decide +kernel
theorem dX9_reach_25 : decode cX9_reach 25 = .ok (.getfield 28, 3) := by decide +kernel
theorem dX9_reach_28 : decode cX9_reach 28 = .ok (.aload_n 0, 1) := by decide +kernel
theorem dX9_reach_29 : decode cX9_reach 29 = .ok (.getfield 172, 3) := by decide +kernel
theorem dX9_reach_32 : decode cX9_reach 32 = .ok (.iload_n 1, 1) := by decide +kernel
theorem dX9_reach_33 : decode cX9_reach 33 = .ok (.iastore, 1) := by decide +kernel
theorem dX9_reach_34 : decode cX9_reach 34 = .ok (.aload_n 0, 1) := by decide +kernel
theorem dX9_reach_35 : decode cX9_reach 35 = .ok (.dup, 1) := by decide +kernel
theorem dX9_reach_36 : decode cX9_reach 36 = .ok (.getfield 172, 3) := by decide +kernel
theorem dX9_reach_39 : decode cX9_reach 39 = .ok (.iconst 1, 1) := by decide +kernel
theorem dX9_reach_40 : decode cX9_reach 40 = .ok (.iadd, 1) := by decide +kernel
theorem dX9_reach_41 : decode cX9_reach 41 = .ok (.putfield 172, 3) := by decide +kernel
theorem dX9_reach_44 : decode cX9_reach 44 = .ok (.return_, 1) := by decide +kernel
theorem dX9_endOfChain_0 : decode cX9_endOfChain 0 = .ok (.aload_n 0, 1) := by decide +kernel
theorem dX9_endOfChain_1 : decode cX9_endOfChain 1 = .ok (.iconst 0, 1) := by decide +kernel
theorem dX9_endOfChain_2 : decode cX9_endOfChain 2 = .ok (.putfield 172, 3) := by decide +kernel
theorem dX9_endOfChain_5 : decode cX9_endOfChain 5 = .ok (.iconst 0, 1) := by decide +kernel
theorem dX9_endOfChain_6 : decode cX9_endOfChain 6 = .ok (.istore_n 2, 1) := by decide +kernel
theorem dX9_endOfChain_7 : decode cX9_endOfChain 7 = .ok (.iload_n 2, 1) := by decide +kernel
theorem dX9_endOfChain_8 : decode cX9_endOfChain 8 = .ok (.bipush 64, 2) := by decide +kernel
theorem dX9_endOfChain_10 : decode cX9_endOfChain 10 = .ok (.if_icmp .ge 16, 3) := by decide +kernel
theorem dX9_endOfChain_13 : decode cX9_endOfChain 13 = .ok (.aload_n 0, 1) := by decide +kernel
theorem dX9_endOfChain_14 : decode cX9_endOfChain 14 = .ok (.getfield 31, 3) := by decide +kernel
theorem dX9_endOfChain_17 : decode cX9_endOfChain 17 = .ok (.iload_n 2, 1) := by decide +kernel
theorem dX9_endOfChain_18 : decode cX9_endOfChain 18 = .ok (.iconst (-1), 1) := by decide +kernel
theorem dX9_endOfChain_19 : decode cX9_endOfChain 19 = .ok (.iastore, 1) := by decide +kernel
theorem dX9_endOfChain_20 : decode cX9_endOfChain 20 = .ok (.iinc 2 1, 3) := by decide +kernel
theorem dX9_endOfChain_23 : decode cX9_endOfChain 23 = .ok (.goto (-16), 3) := by decide +kernel
theorem dX9_endOfChain_26 : decode cX9_endOfChain 26 = .ok (.aload_n 0, 1) := by decide +kernel
theorem dX9_endOfChain_27 : decode cX9_endOfChain 27 = .ok (.aload_n 0, 1) := by decide +kernel
theorem dX9_endOfChain_28 : decode cX9_endOfChain 28 = .ok (.iload_n 1, 1) := by decide +kernel
theorem dX9_endOfChain_29 : decode cX9_endOfChain 29 = .ok (.invokevirtual 108, 3) := by decide +kernel
theorem dX9_endOfChain_32 : decode cX9_endOfChain 32 = .ok (.iconst 0, 1) := by decide +kernel
theorem dX9_endOfChain_33 : decode cX9_endOfChain 33 = .ok (.iconst (-1), 1) := by decide +kernel
theorem dX9_endOfChain_34 : decode cX9_endOfChain 34 = .ok (.invokevirtual 175, 3) := by decide +kernel
theorem dX9_endOfChain_37 : decode cX9_endOfChain 37 = .ok (.aload_n 0, 1) := by decide +kernel
theorem dX9_endOfChain_38 : decode cX9_endOfChain 38 = .ok (.aload_n 0, 1) := by decide +kernel
theorem dX9_endOfChain_39 : decode cX9_endOfChain 39 = .ok (.iload_n 1, 1) := by decide +kernel
theorem dX9_endOfChain_40 : decode cX9_endOfChain 40 = .ok (.invokevirtual 127, 3) := by decide +kernel
theorem dX9_endOfChain_43 : decode cX9_endOfChain 43 = .ok (.iconst 0, 1) := by decide +kernel
theorem dX9_endOfChain_44 : decode cX9_endOfChain 44 = .ok (.iconst (-1), 1) := by decide +kernel
theorem dX9_endOfChain_45 : decode cX9_endOfChain 45 = .ok (.invokevirtual 175, 3) := by decide +kernel
theorem dX9_endOfChain_48 : decode cX9_endOfChain 48 = .ok (.iconst 0, 1) := by decide +kernel
theorem dX9_endOfChain_49 : decode cX9_endOfChain 49 = .ok (.istore_n 2, 1) := by decide +kernel
theorem dX9_endOfChain_50 : decode cX9_endOfChain 50 = .ok (.iload_n 2, 1) := by decide +kernel
theorem dX9_endOfChain_51 : decode cX9_endOfChain 51 = .ok (.aload_n 0, 1) := by decide +kernel
theorem dX9_endOfChain_52 : decode cX9_endOfChain 52 = .ok (.getfield 172, 3) := by decide +kernel
theorem dX9_endOfChain_55 : decode cX9_endOfChain 55 = .ok (.if_icmp .ge 87, 3) := by decide +kernel
theorem dX9_endOfChain_58 : decode cX9_endOfChain 58 = .ok (.aload_n 0, 1) := by decide +kernel
theorem dX9_endOfChain_59 : decode cX9_endOfChain 59 = .ok (.getfield 28, 3) := by decide +kernel
theorem dX9_endOfChain_62 : decode cX9_endOfChain 62 = .ok (.iload_n 2, 1) := by decide +kernel
theorem dX9_endOfChain_63 : decode cX9_endOfChain 63 = .ok (.iaload, 1) := by decide +kernel
theorem dX9_endOfChain_64 : decode cX9_endOfChain 64 = .ok (.istore_n 3, 1) := by decide +kernel
theorem dX9_endOfChain_65 : decode cX9_endOfChain 65 = .ok (.aload_n 0, 1) := by decide +kernel
theorem dX9_endOfChain_66 : decode cX9_endOfChain 66 = .ok (.iload_n 3, 1) := by decide +kernel
theorem dX9_endOfChain_67 : decode cX9_endOfChain 67 = .ok (.invokevirtual 133, 3) := by decide +kernel
theorem dX9_endOfChain_70 : decode cX9_endOfChain 70 = .ok (.iconst (-1), 1) := by decide +kernel
theorem dX9_endOfChain_71 : decode cX9_endOfChain 71 = .ok (.if_icmp .eq 5, 3) := by decide +kernel
theorem dX9_endOfChain_74 : decode cX9_endOfChain 74 = .ok (.iload_n 3, 1) := by decide +kernel
theorem dX9_endOfChain_75 : decode cX9_endOfChain 75 = .ok (.ireturn, 1) := by decide +kernel
theorem dX9_endOfChain_76 : decode cX9_endOfChain 76 = .ok (.iconst 0, 1) := by decide +kernel
theorem dX9_endOfChain_77 : decode cX9_endOfChain 77 = .ok (.istore 4, 2) := by decide +kernel
theorem dX9_endOfChain_79 : decode cX9_endOfChain 79 = .ok (.iload 4, 2) := by decide +kernel
theorem dX9_endOfChain_81 : decode cX9_endOfChain 81 = .ok (.aload_n 0, 1) := by decide +kernel
theorem dX9_endOfChain_82 : decode cX9_endOfChain 82 = .ok (.getfield 7, 3) := by decide +kernel
theorem dX9_endOfChain_85 : decode cX9_endOfChain 85 = .ok (.iconst 1, 1) := by decide +kernel
theorem dX9_endOfChain_86 : decode cX9_endOfChain 86 = .ok (.iaload, 1) := by decide +kernel
theorem dX9_endOfChain_87 : decode cX9_endOfChain 87 = .ok (.if_icmp .ge 49, 3) := by decide +kernel
theorem dX9_endOfChain_90 : decode cX9_endOfChain 90 = .ok (.aload_n 0, 1) := by decide +kernel
theorem dX9_endOfChain_91 : decode cX9_endOfChain 91 = .ok (.iload_n 3, 1) := by decide +kernel
theorem dX9_endOfChain_92 : decode cX9_endOfChain 92 = .ok (.aload_n 0, 1) := by decide +kernel
theorem dX9_endOfChain_93 : decode cX9_endOfChain 93 = .ok (.getfield 7, 3) := by decide +kernel
theorem dX9_endOfChain_96 : decode cX9_endOfChain 96 = .ok (.iload_n 3, 1) := by decide +kernel
theorem dX9_endOfChain_97 : decode cX9_endOfChain 97 = .ok (.iload 4, 2) := by decide +kernel
theorem dX9_endOfChain_99 : decode cX9_endOfChain 99 = .ok (.invokestatic 117, 3) := by decide +kernel
theorem dX9_endOfChain_102 : decode cX9_endOfChain 102 = .ok (.iaload, 1) := by decide +kernel
theorem dX9_endOfChain_103 : decode cX9_endOfChain 103 = .ok (.aload_n 0, 1) := by decide +kernel
theorem dX9_endOfChain_104 : decode cX9_endOfChain 104 = .ok (.getfield 7, 3) := by decide +kernel
theorem dX9_endOfChain_107 : decode cX9_endOfChain 107 = .ok (.iconst 0, 1) := by decide +kernel
theorem dX9_endOfChain_108 : decode cX9_endOfChain 108 = .ok (.iaload, 1) := by decide +kernel
theorem dX9_endOfChain_109 : decode cX9_endOfChain 109 = .ok (.invokestatic 114, 3) := by decide +kernel
theorem dX9_endOfChain_112 : decode cX9_endOfChain 112 = .ok (.ixor, 1) := by decide +kernel
theorem dX9_endOfChain_113 : decode cX9_endOfChain 113 = .ok (.aload_n 0, 1) := by decide +kernel
theorem dX9_endOfChain_114 : decode cX9_endOfChain 114 = .ok (.getfield 31, 3) := by decide +kernel
theorem dX9_endOfChain_117 : decode cX9_endOfChain 117 = .ok (.iload_n 3, 1) := by decide +kernel
theorem dX9_endOfChain_118 : decode cX9_endOfChain 118 = .ok (.iaload, 1) := by decide +kernel
theorem dX9_endOfChain_119 : decode cX9_endOfChain 119 = .ok (.iconst 1, 1) := by decide +kernel
theorem dX9_endOfChain_120 : decode cX9_endOfChain 120 = .ok (.iadd, 1) := by decide +kernel
theorem dX9_endOfChain_121 : decode cX9_endOfChain 121 = .ok (.iconst 4, 1) := by decide +kernel
theorem dX9_endOfChain_122 : decode cX9_endOfChain 122 = .ok (.iload_n 3, 1) := by decide +kernel
theorem dX9_endOfChain_123 : decode cX9_endOfChain 123 = .ok (.imul, 1) := by decide +kernel
theorem dX9_endOfChain_124 : decode cX9_endOfChain 124 = .ok (.iload 4, 2) := by decide +kernel
theorem dX9_endOfChain_126 : decode cX9_endOfChain 126 = .ok (.iadd, 1) := by decide +kernel
theorem dX9_endOfChain_127 : decode cX9_endOfChain 127 = .ok (.invokevirtual 175, 3) := by decide +kernel
theorem dX9_endOfChain_130 : decode cX9_endOfChain 130 = .ok (.iinc 4 1, 3) := by decide +kernel
theorem dX9_endOfChain_133 : decode cX9_endOfChain 133 = .ok (.goto (-54), 3) := by decide +kernel
theorem dX9_endOfChain_136 : decode cX9_endOfChain 136 = .ok (.iinc 2 1, 3) := by decide +kernel
theorem dX9_endOfChain_139 : decode cX9_endOfChain 139 = .ok (.goto (-89), 3) := by decide +kernel
theorem dX9_endOfChain_142 : decode cX9_endOfChain 142 = .ok (.iconst (-1), 1) := by decide +kernel
theorem dX9_endOfChain_143 : decode cX9_endOfChain 143 = .ok (.ireturn, 1) := by decide +kernel
theorem dX9_moveChain_0 : decode cX9_moveChain 0 = .ok (.iload_n 2, 1) := by decide +kernel
theorem dX9_moveChain_1 : decode cX9_moveChain 1 = .ok (.istore_n 3, 1) := by decide +kernel
theorem dX9_moveChain_2 : decode cX9_moveChain 2 = .ok (.aload_n 0, 1) := by decide +kernel
theorem dX9_moveChain_3 : decode cX9_moveChain 3 = .ok (.iload_n 2, 1) := by decide +kernel
theorem dX9_moveChain_4 : decode cX9_moveChain 4 = .ok (.invokevirtual 133, 3) := by decide +kernel
theorem dX9_moveChain_7 : decode cX9_moveChain 7 = .ok (.istore 4, 2) := by decide +kernel
theorem dX9_moveChain_9 : decode cX9_moveChain 9 = .ok (.aload_n 0, 1) := by decide +kernel
theorem dX9_moveChain_10 : decode cX9_moveChain 10 = .ok (.getfield 34, 3) := by decide +kernel
theorem dX9_moveChain_13 : decode cX9_moveChain 13 = .ok (.iload_n 3, 1) := by decide +kernel
theorem dX9_moveChain_14 : decode cX9_moveChain 14 = .ok (.iaload, 1) := by decide +kernel
theorem dX9_moveChain_15 : decode cX9_moveChain 15 = .ok (.iconst (-1), 1) := by decide +kernel
theorem dX9_moveChain_16 : decode cX9_moveChain 16 = .ok (.if_icmp .eq 89, 3) := by decide +kernel
theorem dX9_moveChain_19 : decode cX9_moveChain 19 = .ok (.aload_n 0, 1) := by decide +kernel
theorem dX9_moveChain_20 : decode cX9_moveChain 20 = .ok (.getfield 34, 3) := by decide +kernel
theorem dX9_moveChain_23 : decode cX9_moveChain 23 = .ok (.iload_n 3, 1) := by decide +kernel
theorem dX9_moveChain_24 : decode cX9_moveChain 24 = .ok (.iaload, 1) := by decide +kernel
theorem dX9_moveChain_25 : decode cX9_moveChain 25 = .ok (.iconst 4, 1) := by decide +kernel
theorem dX9_moveChain_26 : decode cX9_moveChain 26 = .ok (.idiv, 1) := by decide +kernel
theorem dX9_moveChain_27 : decode cX9_moveChain 27 = .ok (.aload_n 0, 1) := by decide +kernel
theorem dX9_moveChain_28 : decode cX9_moveChain 28 = .ok (.getfield 34, 3) := by decide +kernel
theorem dX9_moveChain_31 : decode cX9_moveChain 31 = .ok (.iload_n 3, 1) := by decide +kernel
theorem dX9_moveChain_32 : decode cX9_moveChain 32 = .ok (.iaload, 1) := by decide +kernel
theorem dX9_moveChain_33 : decode cX9_moveChain 33 = .ok (.iconst 4, 1) := by decide +kernel
theorem dX9_moveChain_34 : decode cX9_moveChain 34 = .ok (.irem, 1) := by decide +kernel
theorem dX9_moveChain_35 : decode cX9_moveChain 35 = .ok (.invokestatic 117, 3) := by decide +kernel
theorem dX9_moveChain_38 : decode cX9_moveChain 38 = .ok (.istore 5, 2) := by decide +kernel
theorem dX9_moveChain_40 : decode cX9_moveChain 40 = .ok (.aload_n 0, 1) := by decide +kernel
theorem dX9_moveChain_41 : decode cX9_moveChain 41 = .ok (.iload_n 3, 1) := by decide +kernel
theorem dX9_moveChain_42 : decode cX9_moveChain 42 = .ok (.iload 4, 2) := by decide +kernel
theorem dX9_moveChain_44 : decode cX9_moveChain 44 = .ok (.aload_n 0, 1) := by decide +kernel
theorem dX9_moveChain_45 : decode cX9_moveChain 45 = .ok (.getfield 7, 3) := by decide +kernel
theorem dX9_moveChain_48 : decode cX9_moveChain 48 = .ok (.iload 5, 2) := by decide +kernel
theorem dX9_moveChain_50 : decode cX9_moveChain 50 = .ok (.iaload, 1) := by decide +kernel
theorem dX9_moveChain_51 : decode cX9_moveChain 51 = .ok (.aload_n 0, 1) := by decide +kernel
theorem dX9_moveChain_52 : decode cX9_moveChain 52 = .ok (.getfield 7, 3) := by decide +kernel
theorem dX9_moveChain_55 : decode cX9_moveChain 55 = .ok (.iload 5, 2) := by decide +kernel
theorem dX9_moveChain_57 : decode cX9_moveChain 57 = .ok (.iconst 1, 1) := by decide +kernel
theorem dX9_moveChain_58 : decode cX9_moveChain 58 = .ok (.iadd, 1) := by decide +kernel
theorem dX9_moveChain_59 : decode cX9_moveChain 59 = .ok (.iaload, 1) := by decide +kernel
theorem dX9_moveChain_60 : decode cX9_moveChain 60 = .ok (.aload_n 0, 1) := by decide +kernel
theorem dX9_moveChain_61 : decode cX9_moveChain 61 = .ok (.getfield 7, 3) := by decide +kernel
theorem dX9_moveChain_64 : decode cX9_moveChain 64 = .ok (.iload 5, 2) := by decide +kernel
theorem dX9_moveChain_66 : decode cX9_moveChain 66 = .ok (.iconst 2, 1) := by decide +kernel
theorem dX9_moveChain_67 : decode cX9_moveChain 67 = .ok (.iadd, 1) := by decide +kernel
theorem dX9_moveChain_68 : decode cX9_moveChain 68 = .ok (.iaload, 1) := by decide +kernel
theorem dX9_moveChain_69 : decode cX9_moveChain 69 = .ok (.iconst 1, 1) := by decide +kernel
theorem dX9_moveChain_70 : decode cX9_moveChain 70 = .ok (.aload_n 0, 1) := by decide +kernel
theorem dX9_moveChain_71 : decode cX9_moveChain 71 = .ok (.getfield 7, 3) := by decide +kernel
theorem dX9_moveChain_74 : decode cX9_moveChain 74 = .ok (.iload 5, 2) := by decide +kernel
theorem dX9_moveChain_76 : decode cX9_moveChain 76 = .ok (.iconst 3, 1) := by decide +kernel
theorem dX9_moveChain_77 : decode cX9_moveChain 77 = .ok (.iadd, 1) := by decide +kernel
theorem dX9_moveChain_78 : decode cX9_moveChain 78 = .ok (.iaload, 1) := by decide +kernel
theorem dX9_moveChain_79 : decode cX9_moveChain 79 = .ok (.isub, 1) := by decide +kernel
theorem dX9_moveChain_80 : decode cX9_moveChain 80 = .ok (.invokevirtual 148, 3) := by decide +kernel
theorem dX9_moveChain_83 : decode cX9_moveChain 83 = .ok (.aload_n 0, 1) := by decide +kernel
theorem dX9_moveChain_84 : decode cX9_moveChain 84 = .ok (.getfield 34, 3) := by decide +kernel
theorem dX9_moveChain_87 : decode cX9_moveChain 87 = .ok (.iload_n 3, 1) := by decide +kernel
theorem dX9_moveChain_88 : decode cX9_moveChain 88 = .ok (.iaload, 1) := by decide +kernel
theorem dX9_moveChain_89 : decode cX9_moveChain 89 = .ok (.iconst 4, 1) := by decide +kernel
theorem dX9_moveChain_90 : decode cX9_moveChain 90 = .ok (.irem, 1) := by decide +kernel
theorem dX9_moveChain_91 : decode cX9_moveChain 91 = .ok (.istore 4, 2) := by decide +kernel
theorem dX9_moveChain_93 : decode cX9_moveChain 93 = .ok (.aload_n 0, 1) := by decide +kernel
theorem dX9_moveChain_94 : decode cX9_moveChain 94 = .ok (.getfield 34, 3) := by decide +kernel
theorem dX9_moveChain_97 : decode cX9_moveChain 97 = .ok (.iload_n 3, 1) := by decide +kernel
theorem dX9_moveChain_98 : decode cX9_moveChain 98 = .ok (.iaload, 1) := by decide +kernel
theorem dX9_moveChain_99 : decode cX9_moveChain 99 = .ok (.iconst 4, 1) := by decide +kernel
theorem dX9_moveChain_100 : decode cX9_moveChain 100 = .ok (.idiv, 1) := by decide +kernel
theorem dX9_moveChain_101 : decode cX9_moveChain 101 = .ok (.istore_n 3, 1) := by decide +kernel
theorem dX9_moveChain_102 : decode cX9_moveChain 102 = .ok (.goto (-93), 3) := by decide +kernel
theorem dX9_moveChain_105 : decode cX9_moveChain 105 = .ok (.aload_n 0, 1) := by decide +kernel
theorem dX9_moveChain_106 : decode cX9_moveChain 106 = .ok (.iload_n 1, 1) := by decide +kernel
theorem dX9_moveChain_107 : decode cX9_moveChain 107 = .ok (.invokevirtual 163, 3) := by decide +kernel
theorem dX9_moveChain_110 : decode cX9_moveChain 110 = .ok (.aload_n 0, 1) := by decide +kernel
theorem dX9_moveChain_111 : decode cX9_moveChain 111 = .ok (.iload_n 3, 1) := by decide +kernel
theorem dX9_moveChain_112 : decode cX9_moveChain 112 = .ok (.iload 4, 2) := by decide +kernel
theorem dX9_moveChain_114 : decode cX9_moveChain 114 = .ok (.aload_n 0, 1) := by decide +kernel
theorem dX9_moveChain_115 : decode cX9_moveChain 115 = .ok (.getfield 136, 3) := by decide +kernel
theorem dX9_moveChain_118 : decode cX9_moveChain 118 = .ok (.aload_n 0, 1) := by decide +kernel
theorem dX9_moveChain_119 : decode cX9_moveChain 119 = .ok (.getfield 139, 3) := by decide +kernel
theorem dX9_moveChain_122 : decode cX9_moveChain 122 = .ok (.aload_n 0, 1) := by decide +kernel
theorem dX9_moveChain_123 : decode cX9_moveChain 123 = .ok (.getfield 142, 3) := by decide +kernel
theorem dX9_moveChain_126 : decode cX9_moveChain 126 = .ok (.iload_n 3, 1) := by decide +kernel
theorem dX9_moveChain_127 : decode cX9_moveChain 127 = .ok (.aload_n 0, 1) := by decide +kernel
theorem dX9_moveChain_128 : decode cX9_moveChain 128 = .ok (.getfield 145, 3) := by decide +kernel
theorem dX9_moveChain_131 : decode cX9_moveChain 131 = .ok (.if_icmp .ne 7, 3) := by decide +kernel
theorem dX9_moveChain_134 : decode cX9_moveChain 134 = .ok (.iconst 0, 1) := by decide +kernel
theorem dX9_moveChain_135 : decode cX9_moveChain 135 = .ok (.goto 4, 3) := by decide +kernel
theorem dX9_moveChain_138 : decode cX9_moveChain 138 = .ok (.iconst 1, 1) := by decide +kernel
theorem dX9_moveChain_139 : decode cX9_moveChain 139 = .ok (.invokevirtual 148, 3) := by decide +kernel
theorem dX9_moveChain_142 : decode cX9_moveChain 142 = .ok (.return_, 1) := by decide +kernel
theorem dX9_dropStash_0 : decode cX9_dropStash 0 = .ok (.aload_n 0, 1) := by decide +kernel
theorem dX9_dropStash_1 : decode cX9_dropStash 1 = .ok (.getfield 7, 3) := by decide +kernel
theorem dX9_dropStash_4 : decode cX9_dropStash 4 = .ok (.iconst 5, 1) := by decide +kernel
theorem dX9_dropStash_5 : decode cX9_dropStash 5 = .ok (.dup2, 1) := by decide +kernel
theorem dX9_dropStash_6 : decode cX9_dropStash 6 = .ok (.iaload, 1) := by decide +kernel
theorem dX9_dropStash_7 : decode cX9_dropStash 7 = .ok (.iconst 1, 1) := by decide +kernel
theorem dX9_dropStash_8 : decode cX9_dropStash 8 = .ok (.isub, 1) := by decide +kernel
theorem dX9_dropStash_9 : decode cX9_dropStash 9 = .ok (.iastore, 1) := by decide +kernel
theorem dX9_dropStash_10 : decode cX9_dropStash 10 = .ok (.bipush 6, 2) := by decide +kernel
theorem dX9_dropStash_12 : decode cX9_dropStash 12 = .ok (.iconst 4, 1) := by decide +kernel
theorem dX9_dropStash_13 : decode cX9_dropStash 13 = .ok (.iload_n 1, 1) := by decide +kernel
theorem dX9_dropStash_14 : decode cX9_dropStash 14 = .ok (.imul, 1) := by decide +kernel
theorem dX9_dropStash_15 : decode cX9_dropStash 15 = .ok (.iadd, 1) := by decide +kernel
theorem dX9_dropStash_16 : decode cX9_dropStash 16 = .ok (.istore_n 2, 1) := by decide +kernel
theorem dX9_dropStash_17 : decode cX9_dropStash 17 = .ok (.iload_n 2, 1) := by decide +kernel
theorem dX9_dropStash_18 : decode cX9_dropStash 18 = .ok (.bipush 6, 2) := by decide +kernel
theorem dX9_dropStash_20 : decode cX9_dropStash 20 = .ok (.iconst 4, 1) := by decide +kernel
theorem dX9_dropStash_21 : decode cX9_dropStash 21 = .ok (.aload_n 0, 1) := by decide +kernel
theorem dX9_dropStash_22 : decode cX9_dropStash 22 = .ok (.getfield 7, 3) := by decide +kernel
theorem dX9_dropStash_25 : decode cX9_dropStash 25 = .ok (.iconst 5, 1) := by decide +kernel
theorem dX9_dropStash_26 : decode cX9_dropStash 26 = .ok (.iaload, 1) := by decide +kernel
theorem dX9_dropStash_27 : decode cX9_dropStash 27 = .ok (.imul, 1) := by decide +kernel
theorem dX9_dropStash_28 : decode cX9_dropStash 28 = .ok (.iadd, 1) := by decide +kernel
theorem dX9_dropStash_29 : decode cX9_dropStash 29 = .ok (.if_icmp .ge 23, 3) := by decide +kernel
theorem dX9_dropStash_32 : decode cX9_dropStash 32 = .ok (.aload_n 0, 1) := by decide +kernel
theorem dX9_dropStash_33 : decode cX9_dropStash 33 = .ok (.getfield 7, 3) := by decide +kernel
theorem dX9_dropStash_36 : decode cX9_dropStash 36 = .ok (.iload_n 2, 1) := by decide +kernel
theorem dX9_dropStash_37 : decode cX9_dropStash 37 = .ok (.aload_n 0, 1) := by decide +kernel
theorem dX9_dropStash_38 : decode cX9_dropStash 38 = .ok (.getfield 7, 3) := by decide +kernel
theorem dX9_dropStash_41 : decode cX9_dropStash 41 = .ok (.iload_n 2, 1) := by decide +kernel
theorem dX9_dropStash_42 : decode cX9_dropStash 42 = .ok (.iconst 4, 1) := by decide +kernel
theorem dX9_dropStash_43 : decode cX9_dropStash 43 = .ok (.iadd, 1) := by decide +kernel
theorem dX9_dropStash_44 : decode cX9_dropStash 44 = .ok (.iaload, 1) := by decide +kernel
theorem dX9_dropStash_45 : decode cX9_dropStash 45 = .ok (.iastore, 1) := by decide +kernel
theorem dX9_dropStash_46 : decode cX9_dropStash 46 = .ok (.iinc 2 1, 3) := by decide +kernel
theorem dX9_dropStash_49 : decode cX9_dropStash 49 = .ok (.goto (-32), 3) := by decide +kernel
theorem dX9_dropStash_52 : decode cX9_dropStash 52 = .ok (.return_, 1) := by decide +kernel
theorem dX9_leave_0 : decode cX9_leave 0 = .ok (.iconst 0, 1) := by decide +kernel
theorem dX9_leave_1 : decode cX9_leave 1 = .ok (.istore_n 1, 1) := by decide +kernel
theorem dX9_leave_2 : decode cX9_leave 2 = .ok (.iconst 0, 1) := by decide +kernel
theorem dX9_leave_3 : decode cX9_leave 3 = .ok (.istore_n 2, 1) := by decide +kernel
theorem dX9_leave_4 : decode cX9_leave 4 = .ok (.iload_n 2, 1) := by decide +kernel
theorem dX9_leave_5 : decode cX9_leave 5 = .ok (.aload_n 0, 1) := by decide +kernel
theorem dX9_leave_6 : decode cX9_leave 6 = .ok (.getfield 7, 3) := by decide +kernel
theorem dX9_leave_9 : decode cX9_leave 9 = .ok (.iconst 5, 1) := by decide +kernel
theorem dX9_leave_10 : decode cX9_leave 10 = .ok (.iaload, 1) := by decide +kernel
theorem dX9_leave_11 : decode cX9_leave 11 = .ok (.if_icmp .ge 109, 3) := by decide +kernel
theorem dX9_leave_14 : decode cX9_leave 14 = .ok (.bipush 6, 2) := by decide +kernel
theorem dX9_leave_16 : decode cX9_leave 16 = .ok (.iconst 4, 1) := by decide +kernel
theorem dX9_leave_17 : decode cX9_leave 17 = .ok (.iload_n 2, 1) := by decide +kernel
theorem dX9_leave_18 : decode cX9_leave 18 = .ok (.imul, 1) := by decide +kernel
theorem dX9_leave_19 : decode cX9_leave 19 = .ok (.iadd, 1) := by decide +kernel
theorem dX9_leave_20 : decode cX9_leave 20 = .ok (.istore_n 3, 1) := by decide +kernel
theorem dX9_leave_21 : decode cX9_leave 21 = .ok (.aload_n 0, 1) := by decide +kernel
theorem dX9_leave_22 : decode cX9_leave 22 = .ok (.aload_n 0, 1) := by decide +kernel
theorem dX9_leave_23 : decode cX9_leave 23 = .ok (.getfield 7, 3) := by decide +kernel
theorem dX9_leave_26 : decode cX9_leave 26 = .ok (.iload_n 3, 1) := by decide +kernel
theorem dX9_leave_27 : decode cX9_leave 27 = .ok (.iaload, 1) := by decide +kernel
theorem dX9_leave_28 : decode cX9_leave 28 = .ok (.putfield 136, 3) := by decide +kernel
theorem dX9_leave_31 : decode cX9_leave 31 = .ok (.aload_n 0, 1) := by decide +kernel
theorem dX9_leave_32 : decode cX9_leave 32 = .ok (.aload_n 0, 1) := by decide +kernel
theorem dX9_leave_33 : decode cX9_leave 33 = .ok (.getfield 7, 3) := by decide +kernel
theorem dX9_leave_36 : decode cX9_leave 36 = .ok (.iload_n 3, 1) := by decide +kernel
theorem dX9_leave_37 : decode cX9_leave 37 = .ok (.iconst 1, 1) := by decide +kernel
theorem dX9_leave_38 : decode cX9_leave 38 = .ok (.iadd, 1) := by decide +kernel
theorem dX9_leave_39 : decode cX9_leave 39 = .ok (.iaload, 1) := by decide +kernel
theorem dX9_leave_40 : decode cX9_leave 40 = .ok (.putfield 139, 3) := by decide +kernel
theorem dX9_leave_43 : decode cX9_leave 43 = .ok (.aload_n 0, 1) := by decide +kernel
theorem dX9_leave_44 : decode cX9_leave 44 = .ok (.aload_n 0, 1) := by decide +kernel
theorem dX9_leave_45 : decode cX9_leave 45 = .ok (.getfield 7, 3) := by decide +kernel
theorem dX9_leave_48 : decode cX9_leave 48 = .ok (.iload_n 3, 1) := by decide +kernel
theorem dX9_leave_49 : decode cX9_leave 49 = .ok (.iconst 2, 1) := by decide +kernel
theorem dX9_leave_50 : decode cX9_leave 50 = .ok (.iadd, 1) := by decide +kernel
theorem dX9_leave_51 : decode cX9_leave 51 = .ok (.iaload, 1) := by decide +kernel
theorem dX9_leave_52 : decode cX9_leave 52 = .ok (.putfield 142, 3) := by decide +kernel
theorem dX9_leave_55 : decode cX9_leave 55 = .ok (.aload_n 0, 1) := by decide +kernel
theorem dX9_leave_56 : decode cX9_leave 56 = .ok (.aload_n 0, 1) := by decide +kernel
theorem dX9_leave_57 : decode cX9_leave 57 = .ok (.getfield 7, 3) := by decide +kernel
theorem dX9_leave_60 : decode cX9_leave 60 = .ok (.iload_n 3, 1) := by decide +kernel
theorem dX9_leave_61 : decode cX9_leave 61 = .ok (.iconst 3, 1) := by decide +kernel
theorem dX9_leave_62 : decode cX9_leave 62 = .ok (.iadd, 1) := by decide +kernel
theorem dX9_leave_63 : decode cX9_leave 63 = .ok (.iaload, 1) := by decide +kernel
theorem dX9_leave_64 : decode cX9_leave 64 = .ok (.putfield 145, 3) := by decide +kernel
theorem dX9_leave_67 : decode cX9_leave 67 = .ok (.aload_n 0, 1) := by decide +kernel
theorem dX9_leave_68 : decode cX9_leave 68 = .ok (.aload_n 0, 1) := by decide +kernel
theorem dX9_leave_69 : decode cX9_leave 69 = .ok (.getfield 145, 3) := by decide +kernel
theorem dX9_leave_72 : decode cX9_leave 72 = .ok (.invokevirtual 159, 3) := by decide +kernel
theorem dX9_leave_75 : decode cX9_leave 75 = .ok (.ifCond .ne 28, 3) := by decide +kernel
theorem dX9_leave_78 : decode cX9_leave 78 = .ok (.aload_n 0, 1) := by decide +kernel
theorem dX9_leave_79 : decode cX9_leave 79 = .ok (.aload_n 0, 1) := by decide +kernel
theorem dX9_leave_80 : decode cX9_leave 80 = .ok (.getfield 145, 3) := by decide +kernel
theorem dX9_leave_83 : decode cX9_leave 83 = .ok (.aload_n 0, 1) := by decide +kernel
theorem dX9_leave_84 : decode cX9_leave 84 = .ok (.getfield 136, 3) := by decide +kernel
theorem dX9_leave_87 : decode cX9_leave 87 = .ok (.aload_n 0, 1) := by decide +kernel
theorem dX9_leave_88 : decode cX9_leave 88 = .ok (.getfield 7, 3) := by decide +kernel
theorem dX9_leave_91 : decode cX9_leave 91 = .ok (.iconst 0, 1) := by decide +kernel
theorem dX9_leave_92 : decode cX9_leave 92 = .ok (.iaload, 1) := by decide +kernel
theorem dX9_leave_93 : decode cX9_leave 93 = .ok (.invokestatic 114, 3) := by decide +kernel
theorem dX9_leave_96 : decode cX9_leave 96 = .ok (.ixor, 1) := by decide +kernel
theorem dX9_leave_97 : decode cX9_leave 97 = .ok (.invokevirtual 159, 3) := by decide +kernel
theorem dX9_leave_100 : decode cX9_leave 100 = .ok (.ifCond .eq 14, 3) := by decide +kernel
theorem dX9_leave_103 : decode cX9_leave 103 = .ok (.aload_n 0, 1) := by decide +kernel
theorem dX9_leave_104 : decode cX9_leave 104 = .ok (.iload_n 2, 1) := by decide +kernel
theorem dX9_leave_105 : decode cX9_leave 105 = .ok (.invokevirtual 179, 3) := by decide +kernel
theorem dX9_leave_108 : decode cX9_leave 108 = .ok (.iinc 1 1, 3) := by decide +kernel
theorem dX9_leave_111 : decode cX9_leave 111 = .ok (.goto 6, 3) := by decide +kernel
theorem dX9_leave_114 : decode cX9_leave 114 = .ok (.iinc 2 1, 3) := by decide +kernel
theorem dX9_leave_117 : decode cX9_leave 117 = .ok (.goto (-113), 3) := by decide +kernel
theorem dX9_leave_120 : decode cX9_leave 120 = .ok (.iload_n 1, 1) := by decide +kernel
theorem dX9_leave_121 : decode cX9_leave 121 = .ok (.ireturn, 1) := by decide +kernel
theorem dX9_deletes_0 : decode cX9_deletes 0 = .ok (.aload_n 0, 1) := by decide +kernel
theorem dX9_deletes_1 : decode cX9_deletes 1 = .ok (.iload_n 1, 1) := by decide +kernel
theorem dX9_deletes_2 : decode cX9_deletes 2 = .ok (.invokevirtual 182, 3) := by decide +kernel
theorem dX9_deletes_5 : decode cX9_deletes 5 = .ok (.istore_n 3, 1) := by decide +kernel
theorem dX9_deletes_6 : decode cX9_deletes 6 = .ok (.aload_n 0, 1) := by decide +kernel
theorem dX9_deletes_7 : decode cX9_deletes 7 = .ok (.getfield 7, 3) := by decide +kernel
theorem dX9_deletes_10 : decode cX9_deletes 10 = .ok (.sipush 1042, 3) := by decide +kernel
theorem dX9_deletes_13 : decode cX9_deletes 13 = .ok (.dup2, 1) := by decide +kernel
theorem dX9_deletes_14 : decode cX9_deletes 14 = .ok (.iaload, 1) := by decide +kernel
theorem dX9_deletes_15 : decode cX9_deletes 15 = .ok (.iconst 1, 1) := by decide +kernel
theorem dX9_deletes_16 : decode cX9_deletes 16 = .ok (.isub, 1) := by decide +kernel
theorem dX9_deletes_17 : decode cX9_deletes 17 = .ok (.iastore, 1) := by decide +kernel
theorem dX9_deletes_18 : decode cX9_deletes 18 = .ok (.sipush 1043, 3) := by decide +kernel
theorem dX9_deletes_21 : decode cX9_deletes 21 = .ok (.iload_n 2, 1) := by decide +kernel
theorem dX9_deletes_22 : decode cX9_deletes 22 = .ok (.iadd, 1) := by decide +kernel
theorem dX9_deletes_23 : decode cX9_deletes 23 = .ok (.istore 4, 2) := by decide +kernel
theorem dX9_deletes_25 : decode cX9_deletes 25 = .ok (.iload 4, 2) := by decide +kernel
theorem dX9_deletes_27 : decode cX9_deletes 27 = .ok (.sipush 1043, 3) := by decide +kernel
theorem dX9_deletes_30 : decode cX9_deletes 30 = .ok (.aload_n 0, 1) := by decide +kernel
theorem dX9_deletes_31 : decode cX9_deletes 31 = .ok (.getfield 7, 3) := by decide +kernel
theorem dX9_deletes_34 : decode cX9_deletes 34 = .ok (.sipush 1042, 3) := by decide +kernel
theorem dX9_deletes_37 : decode cX9_deletes 37 = .ok (.iaload, 1) := by decide +kernel
theorem dX9_deletes_38 : decode cX9_deletes 38 = .ok (.iadd, 1) := by decide +kernel
theorem dX9_deletes_39 : decode cX9_deletes 39 = .ok (.if_icmp .ge 25, 3) := by decide +kernel
theorem dX9_deletes_42 : decode cX9_deletes 42 = .ok (.aload_n 0, 1) := by decide +kernel
theorem dX9_deletes_43 : decode cX9_deletes 43 = .ok (.getfield 7, 3) := by decide +kernel
theorem dX9_deletes_46 : decode cX9_deletes 46 = .ok (.iload 4, 2) := by decide +kernel
theorem dX9_deletes_48 : decode cX9_deletes 48 = .ok (.aload_n 0, 1) := by decide +kernel
theorem dX9_deletes_49 : decode cX9_deletes 49 = .ok (.getfield 7, 3) := by decide +kernel
theorem dX9_deletes_52 : decode cX9_deletes 52 = .ok (.iload 4, 2) := by decide +kernel
theorem dX9_deletes_54 : decode cX9_deletes 54 = .ok (.iconst 1, 1) := by decide +kernel
theorem dX9_deletes_55 : decode cX9_deletes 55 = .ok (.iadd, 1) := by decide +kernel
theorem dX9_deletes_56 : decode cX9_deletes 56 = .ok (.iaload, 1) := by decide +kernel
theorem dX9_deletes_57 : decode cX9_deletes 57 = .ok (.iastore, 1) := by decide +kernel
theorem dX9_deletes_58 : decode cX9_deletes 58 = .ok (.iinc 4 1, 3) := by decide +kernel
theorem dX9_deletes_61 : decode cX9_deletes 61 = .ok (.goto (-36), 3) := by decide +kernel
theorem dX9_deletes_64 : decode cX9_deletes 64 = .ok (.iload_n 3, 1) := by decide +kernel
theorem dX9_deletes_65 : decode cX9_deletes 65 = .ok (.sipush 1000, 3) := by decide +kernel
theorem dX9_deletes_68 : decode cX9_deletes 68 = .ok (.if_icmp .lt 15, 3) := by decide +kernel
theorem dX9_deletes_71 : decode cX9_deletes 71 = .ok (.aload_n 0, 1) := by decide +kernel
theorem dX9_deletes_72 : decode cX9_deletes 72 = .ok (.iload_n 3, 1) := by decide +kernel
theorem dX9_deletes_73 : decode cX9_deletes 73 = .ok (.sipush 1000, 3) := by decide +kernel
theorem dX9_deletes_76 : decode cX9_deletes 76 = .ok (.isub, 1) := by decide +kernel
theorem dX9_deletes_77 : decode cX9_deletes 77 = .ok (.invokevirtual 179, 3) := by decide +kernel
theorem dX9_deletes_80 : decode cX9_deletes 80 = .ok (.goto 22, 3) := by decide +kernel
theorem dX9_deletes_83 : decode cX9_deletes 83 = .ok (.iload_n 3, 1) := by decide +kernel
theorem dX9_deletes_84 : decode cX9_deletes 84 = .ok (.iconst (-1), 1) := by decide +kernel
theorem dX9_deletes_85 : decode cX9_deletes 85 = .ok (.if_icmp .eq 17, 3) := by decide +kernel
theorem dX9_deletes_88 : decode cX9_deletes 88 = .ok (.aload_n 0, 1) := by decide +kernel
theorem dX9_deletes_89 : decode cX9_deletes 89 = .ok (.iload_n 3, 1) := by decide +kernel
theorem dX9_deletes_90 : decode cX9_deletes 90 = .ok (.iconst 4, 1) := by decide +kernel
theorem dX9_deletes_91 : decode cX9_deletes 91 = .ok (.idiv, 1) := by decide +kernel
theorem dX9_deletes_92 : decode cX9_deletes 92 = .ok (.iload_n 3, 1) := by decide +kernel
theorem dX9_deletes_93 : decode cX9_deletes 93 = .ok (.iconst 4, 1) := by decide +kernel
theorem dX9_deletes_94 : decode cX9_deletes 94 = .ok (.irem, 1) := by decide +kernel
theorem dX9_deletes_95 : decode cX9_deletes 95 = .ok (.iconst (-1), 1) := by decide +kernel
theorem dX9_deletes_96 : decode cX9_deletes 96 = .ok (.iconst (-1), 1) := by decide +kernel
theorem dX9_deletes_97 : decode cX9_deletes 97 = .ok (.iconst (-1), 1) := by decide +kernel
theorem dX9_deletes_98 : decode cX9_deletes 98 = .ok (.iconst (-1), 1) := by decide +kernel
theorem dX9_deletes_99 : decode cX9_deletes 99 = .ok (.invokevirtual 148, 3) := by decide +kernel
theorem dX9_deletes_102 : decode cX9_deletes 102 = .ok (.aload_n 0, 1) := by decide +kernel
theorem dX9_deletes_103 : decode cX9_deletes 103 = .ok (.invokevirtual 185, 3) := by decide +kernel
theorem dX9_deletes_106 : decode cX9_deletes 106 = .ok (.ireturn, 1) := by decide +kernel
theorem dX9_shortest_0 : decode cX9_shortest 0 = .ok (.iconst (-1), 1) := by decide +kernel
theorem dX9_shortest_1 : decode cX9_shortest 1 = .ok (.istore_n 1, 1) := by decide +kernel
theorem dX9_shortest_2 : decode cX9_shortest 2 = .ok (.bipush 18, 2) := by decide +kernel
theorem dX9_shortest_4 : decode cX9_shortest 4 = .ok (.istore_n 2, 1) := by decide +kernel
theorem dX9_shortest_5 : decode cX9_shortest 5 = .ok (.iload_n 2, 1) := by decide +kernel
theorem dX9_shortest_6 : decode cX9_shortest 6 = .ok (.sipush 1042, 3) := by decide +kernel
theorem dX9_shortest_9 : decode cX9_shortest 9 = .ok (.if_icmp .ge 49, 3) := by decide +kernel
theorem dX9_shortest_12 : decode cX9_shortest 12 = .ok (.aload_n 0, 1) := by decide +kernel
theorem dX9_shortest_13 : decode cX9_shortest 13 = .ok (.getfield 7, 3) := by decide +kernel
theorem dX9_shortest_16 : decode cX9_shortest 16 = .ok (.iload_n 2, 1) := by decide +kernel
theorem dX9_shortest_17 : decode cX9_shortest 17 = .ok (.iaload, 1) := by decide +kernel
theorem dX9_shortest_18 : decode cX9_shortest 18 = .ok (.iconst (-1), 1) := by decide +kernel
theorem dX9_shortest_19 : decode cX9_shortest 19 = .ok (.if_icmp .eq 31, 3) := by decide +kernel
theorem dX9_shortest_22 : decode cX9_shortest 22 = .ok (.iload_n 1, 1) := by decide +kernel
theorem dX9_shortest_23 : decode cX9_shortest 23 = .ok (.iconst (-1), 1) := by decide +kernel
theorem dX9_shortest_24 : decode cX9_shortest 24 = .ok (.if_icmp .eq 15, 3) := by decide +kernel
theorem dX9_shortest_27 : decode cX9_shortest 27 = .ok (.aload_n 0, 1) := by decide +kernel
theorem dX9_shortest_28 : decode cX9_shortest 28 = .ok (.getfield 7, 3) := by decide +kernel
theorem dX9_shortest_31 : decode cX9_shortest 31 = .ok (.iload_n 2, 1) := by decide +kernel
theorem dX9_shortest_32 : decode cX9_shortest 32 = .ok (.iconst 1, 1) := by decide +kernel
theorem dX9_shortest_33 : decode cX9_shortest 33 = .ok (.iadd, 1) := by decide +kernel
theorem dX9_shortest_34 : decode cX9_shortest 34 = .ok (.iaload, 1) := by decide +kernel
theorem dX9_shortest_35 : decode cX9_shortest 35 = .ok (.iload_n 1, 1) := by decide +kernel
theorem dX9_shortest_36 : decode cX9_shortest 36 = .ok (.if_icmp .ge 14, 3) := by decide +kernel
theorem dX9_shortest_39 : decode cX9_shortest 39 = .ok (.aload_n 0, 1) := by decide +kernel
theorem dX9_shortest_40 : decode cX9_shortest 40 = .ok (.getfield 7, 3) := by decide +kernel
theorem dX9_shortest_43 : decode cX9_shortest 43 = .ok (.iload_n 2, 1) := by decide +kernel
theorem dX9_shortest_44 : decode cX9_shortest 44 = .ok (.iconst 1, 1) := by decide +kernel
theorem dX9_shortest_45 : decode cX9_shortest 45 = .ok (.iadd, 1) := by decide +kernel
theorem dX9_shortest_46 : decode cX9_shortest 46 = .ok (.iaload, 1) := by decide +kernel
theorem dX9_shortest_47 : decode cX9_shortest 47 = .ok (.goto 4, 3) := by decide +kernel
theorem dX9_shortest_50 : decode cX9_shortest 50 = .ok (.iload_n 1, 1) := by decide +kernel
theorem dX9_shortest_51 : decode cX9_shortest 51 = .ok (.istore_n 1, 1) := by decide +kernel
theorem dX9_shortest_52 : decode cX9_shortest 52 = .ok (.iinc 2 4, 3) := by decide +kernel
theorem dX9_shortest_55 : decode cX9_shortest 55 = .ok (.goto (-50), 3) := by decide +kernel
theorem dX9_shortest_58 : decode cX9_shortest 58 = .ok (.iconst 0, 1) := by decide +kernel
theorem dX9_shortest_59 : decode cX9_shortest 59 = .ok (.istore_n 2, 1) := by decide +kernel
theorem dX9_shortest_60 : decode cX9_shortest 60 = .ok (.iload_n 2, 1) := by decide +kernel
theorem dX9_shortest_61 : decode cX9_shortest 61 = .ok (.aload_n 0, 1) := by decide +kernel
theorem dX9_shortest_62 : decode cX9_shortest 62 = .ok (.getfield 7, 3) := by decide +kernel
theorem dX9_shortest_65 : decode cX9_shortest 65 = .ok (.iconst 5, 1) := by decide +kernel
theorem dX9_shortest_66 : decode cX9_shortest 66 = .ok (.iaload, 1) := by decide +kernel
theorem dX9_shortest_67 : decode cX9_shortest 67 = .ok (.if_icmp .ge 49, 3) := by decide +kernel
theorem dX9_shortest_70 : decode cX9_shortest 70 = .ok (.iload_n 1, 1) := by decide +kernel
theorem dX9_shortest_71 : decode cX9_shortest 71 = .ok (.iconst (-1), 1) := by decide +kernel
theorem dX9_shortest_72 : decode cX9_shortest 72 = .ok (.if_icmp .eq 20, 3) := by decide +kernel
theorem dX9_shortest_75 : decode cX9_shortest 75 = .ok (.aload_n 0, 1) := by decide +kernel
theorem dX9_shortest_76 : decode cX9_shortest 76 = .ok (.getfield 7, 3) := by decide +kernel
theorem dX9_shortest_79 : decode cX9_shortest 79 = .ok (.bipush 6, 2) := by decide +kernel
theorem dX9_shortest_81 : decode cX9_shortest 81 = .ok (.iconst 4, 1) := by decide +kernel
theorem dX9_shortest_82 : decode cX9_shortest 82 = .ok (.iload_n 2, 1) := by decide +kernel
theorem dX9_shortest_83 : decode cX9_shortest 83 = .ok (.imul, 1) := by decide +kernel
theorem dX9_shortest_84 : decode cX9_shortest 84 = .ok (.iadd, 1) := by decide +kernel
theorem dX9_shortest_85 : decode cX9_shortest 85 = .ok (.iconst 1, 1) := by decide +kernel
theorem dX9_shortest_86 : decode cX9_shortest 86 = .ok (.iadd, 1) := by decide +kernel
theorem dX9_shortest_87 : decode cX9_shortest 87 = .ok (.iaload, 1) := by decide +kernel
theorem dX9_shortest_88 : decode cX9_shortest 88 = .ok (.iload_n 1, 1) := by decide +kernel
theorem dX9_shortest_89 : decode cX9_shortest 89 = .ok (.if_icmp .ge 19, 3) := by decide +kernel
theorem dX9_shortest_92 : decode cX9_shortest 92 = .ok (.aload_n 0, 1) := by decide +kernel
theorem dX9_shortest_93 : decode cX9_shortest 93 = .ok (.getfield 7, 3) := by decide +kernel
theorem dX9_shortest_96 : decode cX9_shortest 96 = .ok (.bipush 6, 2) := by decide +kernel
theorem dX9_shortest_98 : decode cX9_shortest 98 = .ok (.iconst 4, 1) := by decide +kernel
theorem dX9_shortest_99 : decode cX9_shortest 99 = .ok (.iload_n 2, 1) := by decide +kernel
theorem dX9_shortest_100 : decode cX9_shortest 100 = .ok (.imul, 1) := by decide +kernel
theorem dX9_shortest_101 : decode cX9_shortest 101 = .ok (.iadd, 1) := by decide +kernel
theorem dX9_shortest_102 : decode cX9_shortest 102 = .ok (.iconst 1, 1) := by decide +kernel
theorem dX9_shortest_103 : decode cX9_shortest 103 = .ok (.iadd, 1) := by decide +kernel
theorem dX9_shortest_104 : decode cX9_shortest 104 = .ok (.iaload, 1) := by decide +kernel
theorem dX9_shortest_105 : decode cX9_shortest 105 = .ok (.goto 4, 3) := by decide +kernel
theorem dX9_shortest_108 : decode cX9_shortest 108 = .ok (.iload_n 1, 1) := by decide +kernel
theorem dX9_shortest_109 : decode cX9_shortest 109 = .ok (.istore_n 1, 1) := by decide +kernel
theorem dX9_shortest_110 : decode cX9_shortest 110 = .ok (.iinc 2 1, 3) := by decide +kernel
theorem dX9_shortest_113 : decode cX9_shortest 113 = .ok (.goto (-53), 3) := by decide +kernel
theorem dX9_shortest_116 : decode cX9_shortest 116 = .ok (.iload_n 1, 1) := by decide +kernel
theorem dX9_shortest_117 : decode cX9_shortest 117 = .ok (.ireturn, 1) := by decide +kernel
theorem dX9_mayGrow_0 : decode cX9_mayGrow 0 = .ok (.aload_n 0, 1) := by decide +kernel
theorem dX9_mayGrow_1 : decode cX9_mayGrow 1 = .ok (.getfield 7, 3) := by decide +kernel
theorem dX9_mayGrow_4 : decode cX9_mayGrow 4 = .ok (.iconst 0, 1) := by decide +kernel
theorem dX9_mayGrow_5 : decode cX9_mayGrow 5 = .ok (.iaload, 1) := by decide +kernel
theorem dX9_mayGrow_6 : decode cX9_mayGrow 6 = .ok (.bipush 6, 2) := by decide +kernel
theorem dX9_mayGrow_8 : decode cX9_mayGrow 8 = .ok (.if_icmp .ge 14, 3) := by decide +kernel
theorem dX9_mayGrow_11 : decode cX9_mayGrow 11 = .ok (.aload_n 0, 1) := by decide +kernel
theorem dX9_mayGrow_12 : decode cX9_mayGrow 12 = .ok (.invokevirtual 188, 3) := by decide +kernel
theorem dX9_mayGrow_15 : decode cX9_mayGrow 15 = .ok (.ifCond .eq 7, 3) := by decide +kernel
theorem dX9_mayGrow_18 : decode cX9_mayGrow 18 = .ok (.iconst 1, 1) := by decide +kernel
theorem dX9_mayGrow_19 : decode cX9_mayGrow 19 = .ok (.goto 4, 3) := by decide +kernel
theorem dX9_mayGrow_22 : decode cX9_mayGrow 22 = .ok (.iconst 0, 1) := by decide +kernel
theorem dX9_mayGrow_23 : decode cX9_mayGrow 23 = .ok (.ireturn, 1) := by decide +kernel
theorem dX9_grows_0 : decode cX9_grows 0 = .ok (.aload_n 0, 1) := by decide +kernel
theorem dX9_grows_1 : decode cX9_grows 1 = .ok (.getfield 7, 3) := by decide +kernel
theorem dX9_grows_4 : decode cX9_grows 4 = .ok (.iconst 0, 1) := by decide +kernel
theorem dX9_grows_5 : decode cX9_grows 5 = .ok (.iaload, 1) := by decide +kernel
theorem dX9_grows_6 : decode cX9_grows 6 = .ok (.istore_n 1, 1) := by decide +kernel
theorem dX9_grows_7 : decode cX9_grows 7 = .ok (.iconst 0, 1) := by decide +kernel
theorem dX9_grows_8 : decode cX9_grows 8 = .ok (.istore_n 2, 1) := by decide +kernel
theorem dX9_grows_9 : decode cX9_grows 9 = .ok (.iload_n 2, 1) := by decide +kernel
theorem dX9_grows_10 : decode cX9_grows 10 = .ok (.sipush 1024, 3) := by decide +kernel
theorem dX9_grows_13 : decode cX9_grows 13 = .ok (.if_icmp .ge 34, 3) := by decide +kernel
theorem dX9_grows_16 : decode cX9_grows 16 = .ok (.aload_n 0, 1) := by decide +kernel
theorem dX9_grows_17 : decode cX9_grows 17 = .ok (.getfield 25, 3) := by decide +kernel
theorem dX9_grows_20 : decode cX9_grows 20 = .ok (.iload_n 2, 1) := by decide +kernel
theorem dX9_grows_21 : decode cX9_grows 21 = .ok (.aload_n 0, 1) := by decide +kernel
theorem dX9_grows_22 : decode cX9_grows 22 = .ok (.getfield 7, 3) := by decide +kernel
theorem dX9_grows_25 : decode cX9_grows 25 = .ok (.bipush 18, 2) := by decide +kernel
theorem dX9_grows_27 : decode cX9_grows 27 = .ok (.iload_n 2, 1) := by decide +kernel
theorem dX9_grows_28 : decode cX9_grows 28 = .ok (.iadd, 1) := by decide +kernel
theorem dX9_grows_29 : decode cX9_grows 29 = .ok (.iaload, 1) := by decide +kernel
theorem dX9_grows_30 : decode cX9_grows 30 = .ok (.iastore, 1) := by decide +kernel
theorem dX9_grows_31 : decode cX9_grows 31 = .ok (.aload_n 0, 1) := by decide +kernel
theorem dX9_grows_32 : decode cX9_grows 32 = .ok (.getfield 7, 3) := by decide +kernel
theorem dX9_grows_35 : decode cX9_grows 35 = .ok (.bipush 18, 2) := by decide +kernel
theorem dX9_grows_37 : decode cX9_grows 37 = .ok (.iload_n 2, 1) := by decide +kernel
theorem dX9_grows_38 : decode cX9_grows 38 = .ok (.iadd, 1) := by decide +kernel
theorem dX9_grows_39 : decode cX9_grows 39 = .ok (.iconst (-1), 1) := by decide +kernel
theorem dX9_grows_40 : decode cX9_grows 40 = .ok (.iastore, 1) := by decide +kernel
theorem dX9_grows_41 : decode cX9_grows 41 = .ok (.iinc 2 1, 3) := by decide +kernel
theorem dX9_grows_44 : decode cX9_grows 44 = .ok (.goto (-35), 3) := by decide +kernel
theorem dX9_grows_47 : decode cX9_grows 47 = .ok (.aload_n 0, 1) := by decide +kernel
theorem dX9_grows_48 : decode cX9_grows 48 = .ok (.getfield 7, 3) := by decide +kernel
theorem dX9_grows_51 : decode cX9_grows 51 = .ok (.iconst 0, 1) := by decide +kernel
theorem dX9_grows_52 : decode cX9_grows 52 = .ok (.dup2, 1) := by decide +kernel
theorem dX9_grows_53 : decode cX9_grows 53 = .ok (.iaload, 1) := by decide +kernel
theorem dX9_grows_54 : decode cX9_grows 54 = .ok (.iconst 1, 1) := by decide +kernel
theorem dX9_grows_55 : decode cX9_grows 55 = .ok (.iadd, 1) := by decide +kernel
theorem dX9_grows_56 : decode cX9_grows 56 = .ok (.iastore, 1) := by decide +kernel
theorem dX9_grows_57 : decode cX9_grows 57 = .ok (.iconst 0, 1) := by decide +kernel
theorem dX9_grows_58 : decode cX9_grows 58 = .ok (.istore_n 2, 1) := by decide +kernel
theorem dX9_grows_59 : decode cX9_grows 59 = .ok (.iload_n 2, 1) := by decide +kernel
theorem dX9_grows_60 : decode cX9_grows 60 = .ok (.sipush 256, 3) := by decide +kernel
theorem dX9_grows_63 : decode cX9_grows 63 = .ok (.if_icmp .ge 143, 3) := by decide +kernel
theorem dX9_grows_66 : decode cX9_grows 66 = .ok (.iconst 4, 1) := by decide +kernel
theorem dX9_grows_67 : decode cX9_grows 67 = .ok (.iload_n 2, 1) := by decide +kernel
theorem dX9_grows_68 : decode cX9_grows 68 = .ok (.imul, 1) := by decide +kernel
theorem dX9_grows_69 : decode cX9_grows 69 = .ok (.istore_n 3, 1) := by decide +kernel
theorem dX9_grows_70 : decode cX9_grows 70 = .ok (.aload_n 0, 1) := by decide +kernel
theorem dX9_grows_71 : decode cX9_grows 71 = .ok (.getfield 25, 3) := by decide +kernel
theorem dX9_grows_74 : decode cX9_grows 74 = .ok (.iload_n 3, 1) := by decide +kernel
theorem dX9_grows_75 : decode cX9_grows 75 = .ok (.iaload, 1) := by decide +kernel
theorem dX9_grows_76 : decode cX9_grows 76 = .ok (.istore 4, 2) := by decide +kernel
theorem dX9_grows_78 : decode cX9_grows 78 = .ok (.iload 4, 2) := by decide +kernel
theorem dX9_grows_80 : decode cX9_grows 80 = .ok (.iconst (-1), 1) := by decide +kernel
theorem dX9_grows_81 : decode cX9_grows 81 = .ok (.if_icmp .eq 119, 3) := by decide +kernel
theorem dX9_grows_84 : decode cX9_grows 84 = .ok (.iload_n 2, 1) := by decide +kernel
theorem dX9_grows_85 : decode cX9_grows 85 = .ok (.iconst 4, 1) := by decide +kernel
theorem dX9_grows_86 : decode cX9_grows 86 = .ok (.idiv, 1) := by decide +kernel
theorem dX9_grows_87 : decode cX9_grows 87 = .ok (.istore 5, 2) := by decide +kernel
theorem dX9_grows_89 : decode cX9_grows 89 = .ok (.aload_n 0, 1) := by decide +kernel
theorem dX9_grows_90 : decode cX9_grows 90 = .ok (.getfield 25, 3) := by decide +kernel
theorem dX9_grows_93 : decode cX9_grows 93 = .ok (.iload_n 3, 1) := by decide +kernel
theorem dX9_grows_94 : decode cX9_grows 94 = .ok (.iconst 3, 1) := by decide +kernel
theorem dX9_grows_95 : decode cX9_grows 95 = .ok (.iadd, 1) := by decide +kernel
theorem dX9_grows_96 : decode cX9_grows 96 = .ok (.iaload, 1) := by decide +kernel
theorem dX9_grows_97 : decode cX9_grows 97 = .ok (.ifCond .ne 8, 3) := by decide +kernel
theorem dX9_grows_100 : decode cX9_grows 100 = .ok (.iload 5, 2) := by decide +kernel
theorem dX9_grows_102 : decode cX9_grows 102 = .ok (.goto 12, 3) := by decide +kernel
theorem dX9_grows_105 : decode cX9_grows 105 = .ok (.iload 5, 2) := by decide +kernel
theorem dX9_grows_107 : decode cX9_grows 107 = .ok (.iload 4, 2) := by decide +kernel
theorem dX9_grows_109 : decode cX9_grows 109 = .ok (.iload_n 1, 1) := by decide +kernel
theorem dX9_grows_110 : decode cX9_grows 110 = .ok (.invokestatic 114, 3) := by decide +kernel
theorem dX9_grows_113 : decode cX9_grows 113 = .ok (.ixor, 1) := by decide +kernel
theorem dX9_grows_114 : decode cX9_grows 114 = .ok (.aload_n 0, 1) := by decide +kernel
theorem dX9_grows_115 : decode cX9_grows 115 = .ok (.getfield 25, 3) := by decide +kernel
theorem dX9_grows_118 : decode cX9_grows 118 = .ok (.iload_n 3, 1) := by decide +kernel
theorem dX9_grows_119 : decode cX9_grows 119 = .ok (.iconst 2, 1) := by decide +kernel
theorem dX9_grows_120 : decode cX9_grows 120 = .ok (.iadd, 1) := by decide +kernel
theorem dX9_grows_121 : decode cX9_grows 121 = .ok (.iaload, 1) := by decide +kernel
theorem dX9_grows_122 : decode cX9_grows 122 = .ok (.iconst 2, 1) := by decide +kernel
theorem dX9_grows_123 : decode cX9_grows 123 = .ok (.irem, 1) := by decide +kernel
theorem dX9_grows_124 : decode cX9_grows 124 = .ok (.iload_n 1, 1) := by decide +kernel
theorem dX9_grows_125 : decode cX9_grows 125 = .ok (.ishl, 1) := by decide +kernel
theorem dX9_grows_126 : decode cX9_grows 126 = .ok (.iadd, 1) := by decide +kernel
theorem dX9_grows_127 : decode cX9_grows 127 = .ok (.istore 6, 2) := by decide +kernel
theorem dX9_grows_129 : decode cX9_grows 129 = .ok (.aload_n 0, 1) := by decide +kernel
theorem dX9_grows_130 : decode cX9_grows 130 = .ok (.getfield 25, 3) := by decide +kernel
theorem dX9_grows_133 : decode cX9_grows 133 = .ok (.iload_n 3, 1) := by decide +kernel
theorem dX9_grows_134 : decode cX9_grows 134 = .ok (.iconst 3, 1) := by decide +kernel
theorem dX9_grows_135 : decode cX9_grows 135 = .ok (.iadd, 1) := by decide +kernel
theorem dX9_grows_136 : decode cX9_grows 136 = .ok (.iaload, 1) := by decide +kernel
theorem dX9_grows_137 : decode cX9_grows 137 = .ok (.ifCond .ne 8, 3) := by decide +kernel
theorem dX9_grows_140 : decode cX9_grows 140 = .ok (.iload 6, 2) := by decide +kernel
theorem dX9_grows_142 : decode cX9_grows 142 = .ok (.goto 17, 3) := by decide +kernel
theorem dX9_grows_145 : decode cX9_grows 145 = .ok (.iload 6, 2) := by decide +kernel
theorem dX9_grows_147 : decode cX9_grows 147 = .ok (.iload 4, 2) := by decide +kernel
theorem dX9_grows_149 : decode cX9_grows 149 = .ok (.aload_n 0, 1) := by decide +kernel
theorem dX9_grows_150 : decode cX9_grows 150 = .ok (.getfield 7, 3) := by decide +kernel
theorem dX9_grows_153 : decode cX9_grows 153 = .ok (.iconst 0, 1) := by decide +kernel
theorem dX9_grows_154 : decode cX9_grows 154 = .ok (.iaload, 1) := by decide +kernel
theorem dX9_grows_155 : decode cX9_grows 155 = .ok (.invokestatic 114, 3) := by decide +kernel
theorem dX9_grows_158 : decode cX9_grows 158 = .ok (.ixor, 1) := by decide +kernel
theorem dX9_grows_159 : decode cX9_grows 159 = .ok (.istore 7, 2) := by decide +kernel
theorem dX9_grows_161 : decode cX9_grows 161 = .ok (.aload_n 0, 1) := by decide +kernel
theorem dX9_grows_162 : decode cX9_grows 162 = .ok (.iload 7, 2) := by decide +kernel
theorem dX9_grows_164 : decode cX9_grows 164 = .ok (.iload_n 2, 1) := by decide +kernel
theorem dX9_grows_165 : decode cX9_grows 165 = .ok (.iconst 4, 1) := by decide +kernel
theorem dX9_grows_166 : decode cX9_grows 166 = .ok (.irem, 1) := by decide +kernel
theorem dX9_grows_167 : decode cX9_grows 167 = .ok (.iload 4, 2) := by decide +kernel
theorem dX9_grows_169 : decode cX9_grows 169 = .ok (.aload_n 0, 1) := by decide +kernel
theorem dX9_grows_170 : decode cX9_grows 170 = .ok (.getfield 25, 3) := by decide +kernel
theorem dX9_grows_173 : decode cX9_grows 173 = .ok (.iload_n 3, 1) := by decide +kernel
theorem dX9_grows_174 : decode cX9_grows 174 = .ok (.iconst 1, 1) := by decide +kernel
theorem dX9_grows_175 : decode cX9_grows 175 = .ok (.iadd, 1) := by decide +kernel
theorem dX9_grows_176 : decode cX9_grows 176 = .ok (.iaload, 1) := by decide +kernel
theorem dX9_grows_177 : decode cX9_grows 177 = .ok (.iconst 1, 1) := by decide +kernel
theorem dX9_grows_178 : decode cX9_grows 178 = .ok (.isub, 1) := by decide +kernel
theorem dX9_grows_179 : decode cX9_grows 179 = .ok (.aload_n 0, 1) := by decide +kernel
theorem dX9_grows_180 : decode cX9_grows 180 = .ok (.getfield 25, 3) := by decide +kernel
theorem dX9_grows_183 : decode cX9_grows 183 = .ok (.iload_n 3, 1) := by decide +kernel
theorem dX9_grows_184 : decode cX9_grows 184 = .ok (.iconst 2, 1) := by decide +kernel
theorem dX9_grows_185 : decode cX9_grows 185 = .ok (.iadd, 1) := by decide +kernel
theorem dX9_grows_186 : decode cX9_grows 186 = .ok (.iaload, 1) := by decide +kernel
theorem dX9_grows_187 : decode cX9_grows 187 = .ok (.iconst 2, 1) := by decide +kernel
theorem dX9_grows_188 : decode cX9_grows 188 = .ok (.idiv, 1) := by decide +kernel
theorem dX9_grows_189 : decode cX9_grows 189 = .ok (.aload_n 0, 1) := by decide +kernel
theorem dX9_grows_190 : decode cX9_grows 190 = .ok (.getfield 25, 3) := by decide +kernel
theorem dX9_grows_193 : decode cX9_grows 193 = .ok (.iload_n 3, 1) := by decide +kernel
theorem dX9_grows_194 : decode cX9_grows 194 = .ok (.iconst 3, 1) := by decide +kernel
theorem dX9_grows_195 : decode cX9_grows 195 = .ok (.iadd, 1) := by decide +kernel
theorem dX9_grows_196 : decode cX9_grows 196 = .ok (.iaload, 1) := by decide +kernel
theorem dX9_grows_197 : decode cX9_grows 197 = .ok (.invokevirtual 148, 3) := by decide +kernel
theorem dX9_grows_200 : decode cX9_grows 200 = .ok (.iinc 2 1, 3) := by decide +kernel
theorem dX9_grows_203 : decode cX9_grows 203 = .ok (.goto (-144), 3) := by decide +kernel
theorem dX9_grows_206 : decode cX9_grows 206 = .ok (.iconst 0, 1) := by decide +kernel
theorem dX9_grows_207 : decode cX9_grows 207 = .ok (.istore_n 2, 1) := by decide +kernel
theorem dX9_grows_208 : decode cX9_grows 208 = .ok (.iload_n 2, 1) := by decide +kernel
theorem dX9_grows_209 : decode cX9_grows 209 = .ok (.aload_n 0, 1) := by decide +kernel
theorem dX9_grows_210 : decode cX9_grows 210 = .ok (.getfield 7, 3) := by decide +kernel
theorem dX9_grows_213 : decode cX9_grows 213 = .ok (.iconst 5, 1) := by decide +kernel
theorem dX9_grows_214 : decode cX9_grows 214 = .ok (.iaload, 1) := by decide +kernel
theorem dX9_grows_215 : decode cX9_grows 215 = .ok (.if_icmp .ge 63, 3) := by decide +kernel
theorem dX9_grows_218 : decode cX9_grows 218 = .ok (.bipush 6, 2) := by decide +kernel
theorem dX9_grows_220 : decode cX9_grows 220 = .ok (.iconst 4, 1) := by decide +kernel
theorem dX9_grows_221 : decode cX9_grows 221 = .ok (.iload_n 2, 1) := by decide +kernel
theorem dX9_grows_222 : decode cX9_grows 222 = .ok (.imul, 1) := by decide +kernel
theorem dX9_grows_223 : decode cX9_grows 223 = .ok (.iadd, 1) := by decide +kernel
theorem dX9_grows_224 : decode cX9_grows 224 = .ok (.istore_n 3, 1) := by decide +kernel
theorem dX9_grows_225 : decode cX9_grows 225 = .ok (.aload_n 0, 1) := by decide +kernel
theorem dX9_grows_226 : decode cX9_grows 226 = .ok (.getfield 7, 3) := by decide +kernel
theorem dX9_grows_229 : decode cX9_grows 229 = .ok (.iload_n 3, 1) := by decide +kernel
theorem dX9_grows_230 : decode cX9_grows 230 = .ok (.iconst 3, 1) := by decide +kernel
theorem dX9_grows_231 : decode cX9_grows 231 = .ok (.iadd, 1) := by decide +kernel
theorem dX9_grows_232 : decode cX9_grows 232 = .ok (.dup2, 1) := by decide +kernel
theorem dX9_grows_233 : decode cX9_grows 233 = .ok (.iaload, 1) := by decide +kernel
theorem dX9_grows_234 : decode cX9_grows 234 = .ok (.aload_n 0, 1) := by decide +kernel
theorem dX9_grows_235 : decode cX9_grows 235 = .ok (.getfield 7, 3) := by decide +kernel
theorem dX9_grows_238 : decode cX9_grows 238 = .ok (.iload_n 3, 1) := by decide +kernel
theorem dX9_grows_239 : decode cX9_grows 239 = .ok (.iconst 2, 1) := by decide +kernel
theorem dX9_grows_240 : decode cX9_grows 240 = .ok (.iadd, 1) := by decide +kernel
theorem dX9_grows_241 : decode cX9_grows 241 = .ok (.iaload, 1) := by decide +kernel
theorem dX9_grows_242 : decode cX9_grows 242 = .ok (.iconst 2, 1) := by decide +kernel
theorem dX9_grows_243 : decode cX9_grows 243 = .ok (.irem, 1) := by decide +kernel
theorem dX9_grows_244 : decode cX9_grows 244 = .ok (.iload_n 1, 1) := by decide +kernel
theorem dX9_grows_245 : decode cX9_grows 245 = .ok (.ishl, 1) := by decide +kernel
theorem dX9_grows_246 : decode cX9_grows 246 = .ok (.iadd, 1) := by decide +kernel
theorem dX9_grows_247 : decode cX9_grows 247 = .ok (.iastore, 1) := by decide +kernel
theorem dX9_grows_248 : decode cX9_grows 248 = .ok (.aload_n 0, 1) := by decide +kernel
theorem dX9_grows_249 : decode cX9_grows 249 = .ok (.getfield 7, 3) := by decide +kernel
theorem dX9_grows_252 : decode cX9_grows 252 = .ok (.iload_n 3, 1) := by decide +kernel
theorem dX9_grows_253 : decode cX9_grows 253 = .ok (.iconst 1, 1) := by decide +kernel
theorem dX9_grows_254 : decode cX9_grows 254 = .ok (.iadd, 1) := by decide +kernel
theorem dX9_grows_255 : decode cX9_grows 255 = .ok (.dup2, 1) := by decide +kernel
theorem dX9_grows_256 : decode cX9_grows 256 = .ok (.iaload, 1) := by decide +kernel
theorem dX9_grows_257 : decode cX9_grows 257 = .ok (.iconst 1, 1) := by decide +kernel
theorem dX9_grows_258 : decode cX9_grows 258 = .ok (.isub, 1) := by decide +kernel
theorem dX9_grows_259 : decode cX9_grows 259 = .ok (.iastore, 1) := by decide +kernel
theorem dX9_grows_260 : decode cX9_grows 260 = .ok (.aload_n 0, 1) := by decide +kernel
theorem dX9_grows_261 : decode cX9_grows 261 = .ok (.getfield 7, 3) := by decide +kernel
theorem dX9_grows_264 : decode cX9_grows 264 = .ok (.iload_n 3, 1) := by decide +kernel
theorem dX9_grows_265 : decode cX9_grows 265 = .ok (.iconst 2, 1) := by decide +kernel
theorem dX9_grows_266 : decode cX9_grows 266 = .ok (.iadd, 1) := by decide +kernel
theorem dX9_grows_267 : decode cX9_grows 267 = .ok (.dup2, 1) := by decide +kernel
theorem dX9_grows_268 : decode cX9_grows 268 = .ok (.iaload, 1) := by decide +kernel
theorem dX9_grows_269 : decode cX9_grows 269 = .ok (.iconst 2, 1) := by decide +kernel
theorem dX9_grows_270 : decode cX9_grows 270 = .ok (.idiv, 1) := by decide +kernel
theorem dX9_grows_271 : decode cX9_grows 271 = .ok (.iastore, 1) := by decide +kernel
theorem dX9_grows_272 : decode cX9_grows 272 = .ok (.iinc 2 1, 3) := by decide +kernel
theorem dX9_grows_275 : decode cX9_grows 275 = .ok (.goto (-67), 3) := by decide +kernel
theorem dX9_grows_278 : decode cX9_grows 278 = .ok (.aload_n 0, 1) := by decide +kernel
theorem dX9_grows_279 : decode cX9_grows 279 = .ok (.invokevirtual 185, 3) := by decide +kernel
theorem dX9_grows_282 : decode cX9_grows 282 = .ok (.istore_n 2, 1) := by decide +kernel
theorem dX9_grows_283 : decode cX9_grows 283 = .ok (.return_, 1) := by decide +kernel
theorem dX9_rebuilds_0 : decode cX9_rebuilds 0 = .ok (.aload_n 0, 1) := by decide +kernel
theorem dX9_rebuilds_1 : decode cX9_rebuilds 1 = .ok (.getfield 7, 3) := by decide +kernel
theorem dX9_rebuilds_4 : decode cX9_rebuilds 4 = .ok (.iconst 0, 1) := by decide +kernel
theorem dX9_rebuilds_5 : decode cX9_rebuilds 5 = .ok (.iload_n 1, 1) := by decide +kernel
theorem dX9_rebuilds_6 : decode cX9_rebuilds 6 = .ok (.iastore, 1) := by decide +kernel
theorem dX9_rebuilds_7 : decode cX9_rebuilds 7 = .ok (.aload_n 0, 1) := by decide +kernel
theorem dX9_rebuilds_8 : decode cX9_rebuilds 8 = .ok (.getfield 7, 3) := by decide +kernel
theorem dX9_rebuilds_11 : decode cX9_rebuilds 11 = .ok (.iconst 1, 1) := by decide +kernel
theorem dX9_rebuilds_12 : decode cX9_rebuilds 12 = .ok (.iload_n 2, 1) := by decide +kernel
theorem dX9_rebuilds_13 : decode cX9_rebuilds 13 = .ok (.iastore, 1) := by decide +kernel
theorem dX9_rebuilds_14 : decode cX9_rebuilds 14 = .ok (.aload_n 0, 1) := by decide +kernel
theorem dX9_rebuilds_15 : decode cX9_rebuilds 15 = .ok (.getfield 7, 3) := by decide +kernel
theorem dX9_rebuilds_18 : decode cX9_rebuilds 18 = .ok (.iconst 2, 1) := by decide +kernel
theorem dX9_rebuilds_19 : decode cX9_rebuilds 19 = .ok (.iload_n 3, 1) := by decide +kernel
theorem dX9_rebuilds_20 : decode cX9_rebuilds 20 = .ok (.iastore, 1) := by decide +kernel
theorem dX9_rebuilds_21 : decode cX9_rebuilds 21 = .ok (.aload_n 0, 1) := by decide +kernel
theorem dX9_rebuilds_22 : decode cX9_rebuilds 22 = .ok (.getfield 7, 3) := by decide +kernel
theorem dX9_rebuilds_25 : decode cX9_rebuilds 25 = .ok (.iconst 3, 1) := by decide +kernel
theorem dX9_rebuilds_26 : decode cX9_rebuilds 26 = .ok (.iload 4, 2) := by decide +kernel
theorem dX9_rebuilds_28 : decode cX9_rebuilds 28 = .ok (.iastore, 1) := by decide +kernel
theorem dX9_rebuilds_29 : decode cX9_rebuilds 29 = .ok (.aload_n 0, 1) := by decide +kernel
theorem dX9_rebuilds_30 : decode cX9_rebuilds 30 = .ok (.invokevirtual 61, 3) := by decide +kernel
theorem dX9_rebuilds_33 : decode cX9_rebuilds 33 = .ok (.iconst 0, 1) := by decide +kernel
theorem dX9_rebuilds_34 : decode cX9_rebuilds 34 = .ok (.istore 5, 2) := by decide +kernel
theorem dX9_rebuilds_36 : decode cX9_rebuilds 36 = .ok (.iload 5, 2) := by decide +kernel
theorem dX9_rebuilds_38 : decode cX9_rebuilds 38 = .ok (.aload_n 0, 1) := by decide +kernel
theorem dX9_rebuilds_39 : decode cX9_rebuilds 39 = .ok (.getfield 7, 3) := by decide +kernel
theorem dX9_rebuilds_42 : decode cX9_rebuilds 42 = .ok (.sipush 1042, 3) := by decide +kernel
theorem dX9_rebuilds_45 : decode cX9_rebuilds 45 = .ok (.iaload, 1) := by decide +kernel
theorem dX9_rebuilds_46 : decode cX9_rebuilds 46 = .ok (.if_icmp .ge 30, 3) := by decide +kernel
theorem dX9_rebuilds_49 : decode cX9_rebuilds 49 = .ok (.aload_n 0, 1) := by decide +kernel
theorem dX9_rebuilds_50 : decode cX9_rebuilds 50 = .ok (.aload_n 0, 1) := by decide +kernel
theorem dX9_rebuilds_51 : decode cX9_rebuilds 51 = .ok (.getfield 7, 3) := by decide +kernel
theorem dX9_rebuilds_54 : decode cX9_rebuilds 54 = .ok (.sipush 1043, 3) := by decide +kernel
theorem dX9_rebuilds_57 : decode cX9_rebuilds 57 = .ok (.iload 5, 2) := by decide +kernel
theorem dX9_rebuilds_59 : decode cX9_rebuilds 59 = .ok (.iadd, 1) := by decide +kernel
theorem dX9_rebuilds_60 : decode cX9_rebuilds 60 = .ok (.iaload, 1) := by decide +kernel
theorem dX9_rebuilds_61 : decode cX9_rebuilds 61 = .ok (.invokevirtual 191, 3) := by decide +kernel
theorem dX9_rebuilds_64 : decode cX9_rebuilds 64 = .ok (.iconst (-1), 1) := by decide +kernel
theorem dX9_rebuilds_65 : decode cX9_rebuilds 65 = .ok (.if_icmp .ne 5, 3) := by decide +kernel
theorem dX9_rebuilds_68 : decode cX9_rebuilds 68 = .ok (.iconst 0, 1) := by decide +kernel
theorem dX9_rebuilds_69 : decode cX9_rebuilds 69 = .ok (.ireturn, 1) := by decide +kernel
theorem dX9_rebuilds_70 : decode cX9_rebuilds 70 = .ok (.iinc 5 1, 3) := by decide +kernel
theorem dX9_rebuilds_73 : decode cX9_rebuilds 73 = .ok (.goto (-37), 3) := by decide +kernel
theorem dX9_rebuilds_76 : decode cX9_rebuilds 76 = .ok (.iconst 1, 1) := by decide +kernel
theorem dX9_rebuilds_77 : decode cX9_rebuilds 77 = .ok (.ireturn, 1) := by decide +kernel
theorem dX9_tag_0 : decode cX9_tag 0 = .ok (.aload_n 0, 1) := by decide +kernel
theorem dX9_tag_1 : decode cX9_tag 1 = .ok (.iload_n 1, 1) := by decide +kernel
theorem dX9_tag_2 : decode cX9_tag 2 = .ok (.invokestatic 194, 3) := by decide +kernel
theorem dX9_tag_5 : decode cX9_tag 5 = .ok (.ifCond .eq 7, 3) := by decide +kernel
theorem dX9_tag_8 : decode cX9_tag 8 = .ok (.iconst 0, 1) := by decide +kernel
theorem dX9_tag_9 : decode cX9_tag 9 = .ok (.goto 4, 3) := by decide +kernel
theorem dX9_tag_12 : decode cX9_tag 12 = .ok (.iconst 1, 1) := by decide +kernel
theorem dX9_tag_13 : decode cX9_tag 13 = .ok (.putfield 64, 3) := by decide +kernel
theorem dX9_tag_16 : decode cX9_tag 16 = .ok (.aload_n 0, 1) := by decide +kernel
theorem dX9_tag_17 : decode cX9_tag 17 = .ok (.getfield 64, 3) := by decide +kernel
theorem dX9_tag_20 : decode cX9_tag 20 = .ok (.ifCond .eq 7, 3) := by decide +kernel
theorem dX9_tag_23 : decode cX9_tag 23 = .ok (.iconst 0, 1) := by decide +kernel
theorem dX9_tag_24 : decode cX9_tag 24 = .ok (.goto 8, 3) := by decide +kernel
theorem dX9_tag_27 : decode cX9_tag 27 = .ok (.aload_n 0, 1) := by decide +kernel
theorem dX9_tag_28 : decode cX9_tag 28 = .ok (.iload_n 1, 1) := by decide +kernel
theorem dX9_tag_29 : decode cX9_tag 29 = .ok (.invokevirtual 111, 3) := by decide +kernel
theorem dX9_tag_32 : decode cX9_tag 32 = .ok (.ireturn, 1) := by decide +kernel
theorem dX9_body_0 : decode cX9_body 0 = .ok (.aload_n 0, 1) := by decide +kernel
theorem dX9_body_1 : decode cX9_body 1 = .ok (.iload_n 1, 1) := by decide +kernel
theorem dX9_body_2 : decode cX9_body 2 = .ok (.invokestatic 194, 3) := by decide +kernel
theorem dX9_body_5 : decode cX9_body 5 = .ok (.ifCond .eq 7, 3) := by decide +kernel
theorem dX9_body_8 : decode cX9_body 8 = .ok (.iconst 0, 1) := by decide +kernel
theorem dX9_body_9 : decode cX9_body 9 = .ok (.goto 4, 3) := by decide +kernel
theorem dX9_body_12 : decode cX9_body 12 = .ok (.iconst 1, 1) := by decide +kernel
theorem dX9_body_13 : decode cX9_body 13 = .ok (.putfield 64, 3) := by decide +kernel
theorem dX9_body_16 : decode cX9_body 16 = .ok (.aload_n 0, 1) := by decide +kernel
theorem dX9_body_17 : decode cX9_body 17 = .ok (.getfield 64, 3) := by decide +kernel
theorem dX9_body_20 : decode cX9_body 20 = .ok (.ifCond .eq 7, 3) := by decide +kernel
theorem dX9_body_23 : decode cX9_body 23 = .ok (.iconst 0, 1) := by decide +kernel
theorem dX9_body_24 : decode cX9_body 24 = .ok (.goto 8, 3) := by decide +kernel
theorem dX9_body_27 : decode cX9_body 27 = .ok (.aload_n 0, 1) := by decide +kernel
theorem dX9_body_28 : decode cX9_body 28 = .ok (.iload_n 1, 1) := by decide +kernel
theorem dX9_body_29 : decode cX9_body 29 = .ok (.invokevirtual 100, 3) := by decide +kernel
theorem dX9_body_32 : decode cX9_body 32 = .ok (.ireturn, 1) := by decide +kernel
theorem dX9_bucket_0 : decode cX9_bucket 0 = .ok (.aload_n 0, 1) := by decide +kernel
theorem dX9_bucket_1 : decode cX9_bucket 1 = .ok (.iload_n 1, 1) := by decide +kernel
theorem dX9_bucket_2 : decode cX9_bucket 2 = .ok (.invokestatic 194, 3) := by decide +kernel
theorem dX9_bucket_5 : decode cX9_bucket 5 = .ok (.ifCond .eq 7, 3) := by decide +kernel
theorem dX9_bucket_8 : decode cX9_bucket 8 = .ok (.iconst 0, 1) := by decide +kernel
theorem dX9_bucket_9 : decode cX9_bucket 9 = .ok (.goto 4, 3) := by decide +kernel
theorem dX9_bucket_12 : decode cX9_bucket 12 = .ok (.iconst 1, 1) := by decide +kernel
theorem dX9_bucket_13 : decode cX9_bucket 13 = .ok (.putfield 64, 3) := by decide +kernel
theorem dX9_bucket_16 : decode cX9_bucket 16 = .ok (.aload_n 0, 1) := by decide +kernel
theorem dX9_bucket_17 : decode cX9_bucket 17 = .ok (.getfield 64, 3) := by decide +kernel
theorem dX9_bucket_20 : decode cX9_bucket 20 = .ok (.ifCond .eq 7, 3) := by decide +kernel
theorem dX9_bucket_23 : decode cX9_bucket 23 = .ok (.iconst 0, 1) := by decide +kernel
theorem dX9_bucket_24 : decode cX9_bucket 24 = .ok (.goto 20, 3) := by decide +kernel
theorem dX9_bucket_27 : decode cX9_bucket 27 = .ok (.iload_n 2, 1) := by decide +kernel
theorem dX9_bucket_28 : decode cX9_bucket 28 = .ok (.ifCond .eq 11, 3) := by decide +kernel
theorem dX9_bucket_31 : decode cX9_bucket 31 = .ok (.aload_n 0, 1) := by decide +kernel
theorem dX9_bucket_32 : decode cX9_bucket 32 = .ok (.iload_n 1, 1) := by decide +kernel
theorem dX9_bucket_33 : decode cX9_bucket 33 = .ok (.invokevirtual 127, 3) := by decide +kernel
theorem dX9_bucket_36 : decode cX9_bucket 36 = .ok (.goto 8, 3) := by decide +kernel
theorem dX9_bucket_39 : decode cX9_bucket 39 = .ok (.aload_n 0, 1) := by decide +kernel
theorem dX9_bucket_40 : decode cX9_bucket 40 = .ok (.iload_n 1, 1) := by decide +kernel
theorem dX9_bucket_41 : decode cX9_bucket 41 = .ok (.invokevirtual 108, 3) := by decide +kernel
theorem dX9_bucket_44 : decode cX9_bucket 44 = .ok (.ireturn, 1) := by decide +kernel
theorem dX9_found_0 : decode cX9_found 0 = .ok (.aload_n 0, 1) := by decide +kernel
theorem dX9_found_1 : decode cX9_found 1 = .ok (.iload_n 1, 1) := by decide +kernel
theorem dX9_found_2 : decode cX9_found 2 = .ok (.invokestatic 194, 3) := by decide +kernel
theorem dX9_found_5 : decode cX9_found 5 = .ok (.ifCond .eq 7, 3) := by decide +kernel
theorem dX9_found_8 : decode cX9_found 8 = .ok (.iconst 0, 1) := by decide +kernel
theorem dX9_found_9 : decode cX9_found 9 = .ok (.goto 4, 3) := by decide +kernel
theorem dX9_found_12 : decode cX9_found 12 = .ok (.iconst 1, 1) := by decide +kernel
theorem dX9_found_13 : decode cX9_found 13 = .ok (.putfield 64, 3) := by decide +kernel
theorem dX9_found_16 : decode cX9_found 16 = .ok (.aload_n 0, 1) := by decide +kernel
theorem dX9_found_17 : decode cX9_found 17 = .ok (.getfield 64, 3) := by decide +kernel
theorem dX9_found_20 : decode cX9_found 20 = .ok (.ifCond .ne 16, 3) := by decide +kernel
theorem dX9_found_23 : decode cX9_found 23 = .ok (.aload_n 0, 1) := by decide +kernel
theorem dX9_found_24 : decode cX9_found 24 = .ok (.iload_n 1, 1) := by decide +kernel
theorem dX9_found_25 : decode cX9_found 25 = .ok (.invokevirtual 182, 3) := by decide +kernel
theorem dX9_found_28 : decode cX9_found 28 = .ok (.iconst (-1), 1) := by decide +kernel
theorem dX9_found_29 : decode cX9_found 29 = .ok (.if_icmp .eq 7, 3) := by decide +kernel
theorem dX9_found_32 : decode cX9_found 32 = .ok (.iconst 1, 1) := by decide +kernel
theorem dX9_found_33 : decode cX9_found 33 = .ok (.goto 4, 3) := by decide +kernel
theorem dX9_found_36 : decode cX9_found 36 = .ok (.iconst 0, 1) := by decide +kernel
theorem dX9_found_37 : decode cX9_found 37 = .ok (.ireturn, 1) := by decide +kernel
theorem dX9_place_0 : decode cX9_place 0 = .ok (.aload_n 0, 1) := by decide +kernel
theorem dX9_place_1 : decode cX9_place 1 = .ok (.iload_n 1, 1) := by decide +kernel
theorem dX9_place_2 : decode cX9_place 2 = .ok (.invokestatic 194, 3) := by decide +kernel
theorem dX9_place_5 : decode cX9_place 5 = .ok (.ifCond .eq 7, 3) := by decide +kernel
theorem dX9_place_8 : decode cX9_place 8 = .ok (.iconst 0, 1) := by decide +kernel
theorem dX9_place_9 : decode cX9_place 9 = .ok (.goto 4, 3) := by decide +kernel
theorem dX9_place_12 : decode cX9_place 12 = .ok (.iconst 1, 1) := by decide +kernel
theorem dX9_place_13 : decode cX9_place 13 = .ok (.putfield 64, 3) := by decide +kernel
theorem dX9_place_16 : decode cX9_place 16 = .ok (.aload_n 0, 1) := by decide +kernel
theorem dX9_place_17 : decode cX9_place 17 = .ok (.getfield 64, 3) := by decide +kernel
theorem dX9_place_20 : decode cX9_place 20 = .ok (.ifCond .eq 7, 3) := by decide +kernel
theorem dX9_place_23 : decode cX9_place 23 = .ok (.iconst 0, 1) := by decide +kernel
theorem dX9_place_24 : decode cX9_place 24 = .ok (.goto 8, 3) := by decide +kernel
theorem dX9_place_27 : decode cX9_place 27 = .ok (.aload_n 0, 1) := by decide +kernel
theorem dX9_place_28 : decode cX9_place 28 = .ok (.iload_n 1, 1) := by decide +kernel
theorem dX9_place_29 : decode cX9_place 29 = .ok (.invokevirtual 182, 3) := by decide +kernel
theorem dX9_place_32 : decode cX9_place 32 = .ok (.ireturn, 1) := by decide +kernel
theorem dX9_present_0 : decode cX9_present 0 = .ok (.aload_n 0, 1) := by decide +kernel
theorem dX9_present_1 : decode cX9_present 1 = .ok (.iload_n 1, 1) := by decide +kernel
theorem dX9_present_2 : decode cX9_present 2 = .ok (.iconst 0, 1) := by decide +kernel
theorem dX9_present_3 : decode cX9_present 3 = .ok (.aload_n 0, 1) := by decide +kernel
theorem dX9_present_4 : decode cX9_present 4 = .ok (.getfield 7, 3) := by decide +kernel
theorem dX9_present_7 : decode cX9_present 7 = .ok (.sipush 1042, 3) := by decide +kernel
theorem dX9_present_10 : decode cX9_present 10 = .ok (.iaload, 1) := by decide +kernel
theorem dX9_present_11 : decode cX9_present 11 = .ok (.iconst 1, 1) := by decide +kernel
theorem dX9_present_12 : decode cX9_present 12 = .ok (.isub, 1) := by decide +kernel
theorem dX9_present_13 : decode cX9_present 13 = .ok (.invokestatic 78, 3) := by decide +kernel
theorem dX9_present_16 : decode cX9_present 16 = .ok (.ifCond .eq 7, 3) := by decide +kernel
theorem dX9_present_19 : decode cX9_present 19 = .ok (.iconst 0, 1) := by decide +kernel
theorem dX9_present_20 : decode cX9_present 20 = .ok (.goto 4, 3) := by decide +kernel
theorem dX9_present_23 : decode cX9_present 23 = .ok (.iconst 1, 1) := by decide +kernel
theorem dX9_present_24 : decode cX9_present 24 = .ok (.putfield 64, 3) := by decide +kernel
theorem dX9_present_27 : decode cX9_present 27 = .ok (.aload_n 0, 1) := by decide +kernel
theorem dX9_present_28 : decode cX9_present 28 = .ok (.getfield 64, 3) := by decide +kernel
theorem dX9_present_31 : decode cX9_present 31 = .ok (.ifCond .eq 7, 3) := by decide +kernel
theorem dX9_present_34 : decode cX9_present 34 = .ok (.iconst 0, 1) := by decide +kernel
theorem dX9_present_35 : decode cX9_present 35 = .ok (.goto 13, 3) := by decide +kernel
theorem dX9_present_38 : decode cX9_present 38 = .ok (.aload_n 0, 1) := by decide +kernel
theorem dX9_present_39 : decode cX9_present 39 = .ok (.getfield 7, 3) := by decide +kernel
theorem dX9_present_42 : decode cX9_present 42 = .ok (.sipush 1043, 3) := by decide +kernel
theorem dX9_present_45 : decode cX9_present 45 = .ok (.iload_n 1, 1) := by decide +kernel
theorem dX9_present_46 : decode cX9_present 46 = .ok (.iadd, 1) := by decide +kernel
theorem dX9_present_47 : decode cX9_present 47 = .ok (.iaload, 1) := by decide +kernel
theorem dX9_present_48 : decode cX9_present 48 = .ok (.ireturn, 1) := by decide +kernel
theorem dX9_count_0 : decode cX9_count 0 = .ok (.aload_n 0, 1) := by decide +kernel
theorem dX9_count_1 : decode cX9_count 1 = .ok (.iconst 0, 1) := by decide +kernel
theorem dX9_count_2 : decode cX9_count 2 = .ok (.putfield 64, 3) := by decide +kernel
theorem dX9_count_5 : decode cX9_count 5 = .ok (.aload_n 0, 1) := by decide +kernel
theorem dX9_count_6 : decode cX9_count 6 = .ok (.getfield 7, 3) := by decide +kernel
theorem dX9_count_9 : decode cX9_count 9 = .ok (.sipush 1042, 3) := by decide +kernel
theorem dX9_count_12 : decode cX9_count 12 = .ok (.iaload, 1) := by decide +kernel
theorem dX9_count_13 : decode cX9_count 13 = .ok (.ireturn, 1) := by decide +kernel
theorem dX9_tryAdd_0 : decode cX9_tryAdd 0 = .ok (.aload_n 0, 1) := by decide +kernel
theorem dX9_tryAdd_1 : decode cX9_tryAdd 1 = .ok (.iload_n 1, 1) := by decide +kernel
theorem dX9_tryAdd_2 : decode cX9_tryAdd 2 = .ok (.invokevirtual 197, 3) := by decide +kernel
theorem dX9_tryAdd_5 : decode cX9_tryAdd 5 = .ok (.ifCond .eq 11, 3) := by decide +kernel
theorem dX9_tryAdd_8 : decode cX9_tryAdd 8 = .ok (.aload_n 0, 1) := by decide +kernel
theorem dX9_tryAdd_9 : decode cX9_tryAdd 9 = .ok (.iload_n 1, 1) := by decide +kernel
theorem dX9_tryAdd_10 : decode cX9_tryAdd 10 = .ok (.invokevirtual 191, 3) := by decide +kernel
theorem dX9_tryAdd_13 : decode cX9_tryAdd 13 = .ok (.goto 4, 3) := by decide +kernel
theorem dX9_tryAdd_16 : decode cX9_tryAdd 16 = .ok (.iconst (-1), 1) := by decide +kernel
theorem dX9_tryAdd_17 : decode cX9_tryAdd 17 = .ok (.istore_n 2, 1) := by decide +kernel
theorem dX9_tryAdd_18 : decode cX9_tryAdd 18 = .ok (.iload_n 2, 1) := by decide +kernel
theorem dX9_tryAdd_19 : decode cX9_tryAdd 19 = .ok (.iconst (-1), 1) := by decide +kernel
theorem dX9_tryAdd_20 : decode cX9_tryAdd 20 = .ok (.if_icmp .eq 8, 3) := by decide +kernel
theorem dX9_tryAdd_23 : decode cX9_tryAdd 23 = .ok (.aload_n 0, 1) := by decide +kernel
theorem dX9_tryAdd_24 : decode cX9_tryAdd 24 = .ok (.iload_n 1, 1) := by decide +kernel
theorem dX9_tryAdd_25 : decode cX9_tryAdd 25 = .ok (.invokevirtual 200, 3) := by decide +kernel
theorem dX9_tryAdd_28 : decode cX9_tryAdd 28 = .ok (.iload_n 2, 1) := by decide +kernel
theorem dX9_tryAdd_29 : decode cX9_tryAdd 29 = .ok (.ireturn, 1) := by decide +kernel
theorem dX9_add_0 : decode cX9_add 0 = .ok (.aload_n 0, 1) := by decide +kernel
theorem dX9_add_1 : decode cX9_add 1 = .ok (.iload_n 1, 1) := by decide +kernel
theorem dX9_add_2 : decode cX9_add 2 = .ok (.invokestatic 194, 3) := by decide +kernel
theorem dX9_add_5 : decode cX9_add 5 = .ok (.ifCond .eq 7, 3) := by decide +kernel
theorem dX9_add_8 : decode cX9_add 8 = .ok (.iconst 0, 1) := by decide +kernel
theorem dX9_add_9 : decode cX9_add 9 = .ok (.goto 4, 3) := by decide +kernel
theorem dX9_add_12 : decode cX9_add 12 = .ok (.iconst 1, 1) := by decide +kernel
theorem dX9_add_13 : decode cX9_add 13 = .ok (.putfield 64, 3) := by decide +kernel
theorem dX9_add_16 : decode cX9_add 16 = .ok (.aload_n 0, 1) := by decide +kernel
theorem dX9_add_17 : decode cX9_add 17 = .ok (.getfield 64, 3) := by decide +kernel
theorem dX9_add_20 : decode cX9_add 20 = .ok (.ifCond .eq 5, 3) := by decide +kernel
theorem dX9_add_23 : decode cX9_add 23 = .ok (.iconst 0, 1) := by decide +kernel
theorem dX9_add_24 : decode cX9_add 24 = .ok (.ireturn, 1) := by decide +kernel
theorem dX9_add_25 : decode cX9_add 25 = .ok (.aload_n 0, 1) := by decide +kernel
theorem dX9_add_26 : decode cX9_add 26 = .ok (.iconst 4, 1) := by decide +kernel
theorem dX9_add_27 : decode cX9_add 27 = .ok (.invokevirtual 74, 3) := by decide +kernel
theorem dX9_add_30 : decode cX9_add 30 = .ok (.aload_n 0, 1) := by decide +kernel
theorem dX9_add_31 : decode cX9_add 31 = .ok (.iload_n 1, 1) := by decide +kernel
theorem dX9_add_32 : decode cX9_add 32 = .ok (.invokevirtual 203, 3) := by decide +kernel
theorem dX9_add_35 : decode cX9_add 35 = .ok (.istore_n 2, 1) := by decide +kernel
theorem dX9_add_36 : decode cX9_add 36 = .ok (.iload_n 2, 1) := by decide +kernel
theorem dX9_add_37 : decode cX9_add 37 = .ok (.iconst (-1), 1) := by decide +kernel
theorem dX9_add_38 : decode cX9_add 38 = .ok (.if_icmp .ne 15, 3) := by decide +kernel
theorem dX9_add_41 : decode cX9_add 41 = .ok (.aload_n 0, 1) := by decide +kernel
theorem dX9_add_42 : decode cX9_add 42 = .ok (.iconst 4, 1) := by decide +kernel
theorem dX9_add_43 : decode cX9_add 43 = .ok (.invokevirtual 206, 3) := by decide +kernel
theorem dX9_add_46 : decode cX9_add 46 = .ok (.aload_n 0, 1) := by decide +kernel
theorem dX9_add_47 : decode cX9_add 47 = .ok (.iconst 2, 1) := by decide +kernel
theorem dX9_add_48 : decode cX9_add 48 = .ok (.putfield 64, 3) := by decide +kernel
theorem dX9_add_51 : decode cX9_add 51 = .ok (.iconst 0, 1) := by decide +kernel
theorem dX9_add_52 : decode cX9_add 52 = .ok (.ireturn, 1) := by decide +kernel
theorem dX9_add_53 : decode cX9_add 53 = .ok (.aload_n 0, 1) := by decide +kernel
theorem dX9_add_54 : decode cX9_add 54 = .ok (.iconst 4, 1) := by decide +kernel
theorem dX9_add_55 : decode cX9_add 55 = .ok (.invokevirtual 209, 3) := by decide +kernel
theorem dX9_add_58 : decode cX9_add 58 = .ok (.iload_n 2, 1) := by decide +kernel
theorem dX9_add_59 : decode cX9_add 59 = .ok (.ireturn, 1) := by decide +kernel
theorem dX9_keepAside_0 : decode cX9_keepAside 0 = .ok (.aload_n 0, 1) := by decide +kernel
theorem dX9_keepAside_1 : decode cX9_keepAside 1 = .ok (.invokevirtual 71, 3) := by decide +kernel
theorem dX9_keepAside_4 : decode cX9_keepAside 4 = .ok (.iconst 0, 1) := by decide +kernel
theorem dX9_keepAside_5 : decode cX9_keepAside 5 = .ok (.istore_n 2, 1) := by decide +kernel
theorem dX9_keepAside_6 : decode cX9_keepAside 6 = .ok (.iload_n 2, 1) := by decide +kernel
theorem dX9_keepAside_7 : decode cX9_keepAside 7 = .ok (.sipush 1163, 3) := by decide +kernel
theorem dX9_keepAside_10 : decode cX9_keepAside 10 = .ok (.if_icmp .ge 36, 3) := by decide +kernel
theorem dX9_keepAside_13 : decode cX9_keepAside 13 = .ok (.aload_n 0, 1) := by decide +kernel
theorem dX9_keepAside_14 : decode cX9_keepAside 14 = .ok (.getfield 13, 3) := by decide +kernel
theorem dX9_keepAside_17 : decode cX9_keepAside 17 = .ok (.sipush 1163, 3) := by decide +kernel
theorem dX9_keepAside_20 : decode cX9_keepAside 20 = .ok (.aload_n 0, 1) := by decide +kernel
theorem dX9_keepAside_21 : decode cX9_keepAside 21 = .ok (.getfield 68, 3) := by decide +kernel
theorem dX9_keepAside_24 : decode cX9_keepAside 24 = .ok (.imul, 1) := by decide +kernel
theorem dX9_keepAside_25 : decode cX9_keepAside 25 = .ok (.iload_n 2, 1) := by decide +kernel
theorem dX9_keepAside_26 : decode cX9_keepAside 26 = .ok (.iadd, 1) := by decide +kernel
theorem dX9_keepAside_27 : decode cX9_keepAside 27 = .ok (.aload_n 0, 1) := by decide +kernel
theorem dX9_keepAside_28 : decode cX9_keepAside 28 = .ok (.getfield 13, 3) := by decide +kernel
theorem dX9_keepAside_31 : decode cX9_keepAside 31 = .ok (.sipush 1163, 3) := by decide +kernel
theorem dX9_keepAside_34 : decode cX9_keepAside 34 = .ok (.iload_n 1, 1) := by decide +kernel
theorem dX9_keepAside_35 : decode cX9_keepAside 35 = .ok (.imul, 1) := by decide +kernel
theorem dX9_keepAside_36 : decode cX9_keepAside 36 = .ok (.iload_n 2, 1) := by decide +kernel
theorem dX9_keepAside_37 : decode cX9_keepAside 37 = .ok (.iadd, 1) := by decide +kernel
theorem dX9_keepAside_38 : decode cX9_keepAside 38 = .ok (.iaload, 1) := by decide +kernel
theorem dX9_keepAside_39 : decode cX9_keepAside 39 = .ok (.iastore, 1) := by decide +kernel
theorem dX9_keepAside_40 : decode cX9_keepAside 40 = .ok (.iinc 2 1, 3) := by decide +kernel
theorem dX9_keepAside_43 : decode cX9_keepAside 43 = .ok (.goto (-37), 3) := by decide +kernel
theorem dX9_keepAside_46 : decode cX9_keepAside 46 = .ok (.aload_n 0, 1) := by decide +kernel
theorem dX9_keepAside_47 : decode cX9_keepAside 47 = .ok (.dup, 1) := by decide +kernel
theorem dX9_keepAside_48 : decode cX9_keepAside 48 = .ok (.getfield 68, 3) := by decide +kernel
theorem dX9_keepAside_51 : decode cX9_keepAside 51 = .ok (.iconst 1, 1) := by decide +kernel
theorem dX9_keepAside_52 : decode cX9_keepAside 52 = .ok (.iadd, 1) := by decide +kernel
theorem dX9_keepAside_53 : decode cX9_keepAside 53 = .ok (.putfield 68, 3) := by decide +kernel
theorem dX9_keepAside_56 : decode cX9_keepAside 56 = .ok (.return_, 1) := by decide +kernel
theorem dX9_addShortest_0 : decode cX9_addShortest 0 = .ok (.aload_n 0, 1) := by decide +kernel
theorem dX9_addShortest_1 : decode cX9_addShortest 1 = .ok (.iload_n 1, 1) := by decide +kernel
theorem dX9_addShortest_2 : decode cX9_addShortest 2 = .ok (.invokestatic 194, 3) := by decide +kernel
theorem dX9_addShortest_5 : decode cX9_addShortest 5 = .ok (.ifCond .eq 7, 3) := by decide +kernel
theorem dX9_addShortest_8 : decode cX9_addShortest 8 = .ok (.iconst 0, 1) := by decide +kernel
theorem dX9_addShortest_9 : decode cX9_addShortest 9 = .ok (.goto 4, 3) := by decide +kernel
theorem dX9_addShortest_12 : decode cX9_addShortest 12 = .ok (.iconst 1, 1) := by decide +kernel
theorem dX9_addShortest_13 : decode cX9_addShortest 13 = .ok (.putfield 64, 3) := by decide +kernel
theorem dX9_addShortest_16 : decode cX9_addShortest 16 = .ok (.aload_n 0, 1) := by decide +kernel
theorem dX9_addShortest_17 : decode cX9_addShortest 17 = .ok (.getfield 64, 3) := by decide +kernel
theorem dX9_addShortest_20 : decode cX9_addShortest 20 = .ok (.ifCond .eq 5, 3) := by decide +kernel
theorem dX9_addShortest_23 : decode cX9_addShortest 23 = .ok (.iconst 0, 1) := by decide +kernel
theorem dX9_addShortest_24 : decode cX9_addShortest 24 = .ok (.ireturn, 1) := by decide +kernel
theorem dX9_addShortest_25 : decode cX9_addShortest 25 = .ok (.aload_n 0, 1) := by decide +kernel
theorem dX9_addShortest_26 : decode cX9_addShortest 26 = .ok (.iload_n 1, 1) := by decide +kernel
theorem dX9_addShortest_27 : decode cX9_addShortest 27 = .ok (.invokevirtual 197, 3) := by decide +kernel
theorem dX9_addShortest_30 : decode cX9_addShortest 30 = .ok (.ifCond .eq 11, 3) := by decide +kernel
theorem dX9_addShortest_33 : decode cX9_addShortest 33 = .ok (.aload_n 0, 1) := by decide +kernel
theorem dX9_addShortest_34 : decode cX9_addShortest 34 = .ok (.iload_n 1, 1) := by decide +kernel
theorem dX9_addShortest_35 : decode cX9_addShortest 35 = .ok (.invokevirtual 212, 3) := by decide +kernel
theorem dX9_addShortest_38 : decode cX9_addShortest 38 = .ok (.goto 4, 3) := by decide +kernel
theorem dX9_addShortest_41 : decode cX9_addShortest 41 = .ok (.iconst (-1), 1) := by decide +kernel
theorem dX9_addShortest_42 : decode cX9_addShortest 42 = .ok (.istore_n 2, 1) := by decide +kernel
theorem dX9_addShortest_43 : decode cX9_addShortest 43 = .ok (.iload_n 2, 1) := by decide +kernel
theorem dX9_addShortest_44 : decode cX9_addShortest 44 = .ok (.iconst (-1), 1) := by decide +kernel
theorem dX9_addShortest_45 : decode cX9_addShortest 45 = .ok (.if_icmp .ne 10, 3) := by decide +kernel
theorem dX9_addShortest_48 : decode cX9_addShortest 48 = .ok (.aload_n 0, 1) := by decide +kernel
theorem dX9_addShortest_49 : decode cX9_addShortest 49 = .ok (.iconst 2, 1) := by decide +kernel
theorem dX9_addShortest_50 : decode cX9_addShortest 50 = .ok (.putfield 64, 3) := by decide +kernel
theorem dX9_addShortest_53 : decode cX9_addShortest 53 = .ok (.iconst 0, 1) := by decide +kernel
theorem dX9_addShortest_54 : decode cX9_addShortest 54 = .ok (.ireturn, 1) := by decide +kernel
theorem dX9_addShortest_55 : decode cX9_addShortest 55 = .ok (.aload_n 0, 1) := by decide +kernel
theorem dX9_addShortest_56 : decode cX9_addShortest 56 = .ok (.invokevirtual 215, 3) := by decide +kernel
theorem dX9_addShortest_59 : decode cX9_addShortest 59 = .ok (.aload_n 0, 1) := by decide +kernel
theorem dX9_addShortest_60 : decode cX9_addShortest 60 = .ok (.iload_n 1, 1) := by decide +kernel
theorem dX9_addShortest_61 : decode cX9_addShortest 61 = .ok (.iload_n 2, 1) := by decide +kernel
theorem dX9_addShortest_62 : decode cX9_addShortest 62 = .ok (.invokevirtual 218, 3) := by decide +kernel
theorem dX9_addShortest_65 : decode cX9_addShortest 65 = .ok (.aload_n 0, 1) := by decide +kernel
theorem dX9_addShortest_66 : decode cX9_addShortest 66 = .ok (.iload_n 1, 1) := by decide +kernel
theorem dX9_addShortest_67 : decode cX9_addShortest 67 = .ok (.invokevirtual 200, 3) := by decide +kernel
theorem dX9_addShortest_70 : decode cX9_addShortest 70 = .ok (.aload_n 0, 1) := by decide +kernel
theorem dX9_addShortest_71 : decode cX9_addShortest 71 = .ok (.getfield 31, 3) := by decide +kernel
theorem dX9_addShortest_74 : decode cX9_addShortest 74 = .ok (.iload_n 2, 1) := by decide +kernel
theorem dX9_addShortest_75 : decode cX9_addShortest 75 = .ok (.iaload, 1) := by decide +kernel
theorem dX9_addShortest_76 : decode cX9_addShortest 76 = .ok (.ireturn, 1) := by decide +kernel
theorem dX9_delete_0 : decode cX9_delete 0 = .ok (.aload_n 0, 1) := by decide +kernel
theorem dX9_delete_1 : decode cX9_delete 1 = .ok (.iload_n 1, 1) := by decide +kernel
theorem dX9_delete_2 : decode cX9_delete 2 = .ok (.invokestatic 194, 3) := by decide +kernel
theorem dX9_delete_5 : decode cX9_delete 5 = .ok (.ifCond .ne 7, 3) := by decide +kernel
theorem dX9_delete_8 : decode cX9_delete 8 = .ok (.iconst 1, 1) := by decide +kernel
theorem dX9_delete_9 : decode cX9_delete 9 = .ok (.goto 17, 3) := by decide +kernel
theorem dX9_delete_12 : decode cX9_delete 12 = .ok (.aload_n 0, 1) := by decide +kernel
theorem dX9_delete_13 : decode cX9_delete 13 = .ok (.iload_n 1, 1) := by decide +kernel
theorem dX9_delete_14 : decode cX9_delete 14 = .ok (.invokevirtual 169, 3) := by decide +kernel
theorem dX9_delete_17 : decode cX9_delete 17 = .ok (.iconst (-1), 1) := by decide +kernel
theorem dX9_delete_18 : decode cX9_delete 18 = .ok (.if_icmp .ne 7, 3) := by decide +kernel
theorem dX9_delete_21 : decode cX9_delete 21 = .ok (.iconst 2, 1) := by decide +kernel
theorem dX9_delete_22 : decode cX9_delete 22 = .ok (.goto 4, 3) := by decide +kernel
theorem dX9_delete_25 : decode cX9_delete 25 = .ok (.iconst 0, 1) := by decide +kernel
theorem dX9_delete_26 : decode cX9_delete 26 = .ok (.putfield 64, 3) := by decide +kernel
theorem dX9_delete_29 : decode cX9_delete 29 = .ok (.aload_n 0, 1) := by decide +kernel
theorem dX9_delete_30 : decode cX9_delete 30 = .ok (.getfield 64, 3) := by decide +kernel
theorem dX9_delete_33 : decode cX9_delete 33 = .ok (.ifCond .eq 5, 3) := by decide +kernel
theorem dX9_delete_36 : decode cX9_delete 36 = .ok (.iconst 0, 1) := by decide +kernel
theorem dX9_delete_37 : decode cX9_delete 37 = .ok (.ireturn, 1) := by decide +kernel
theorem dX9_delete_38 : decode cX9_delete 38 = .ok (.aload_n 0, 1) := by decide +kernel
theorem dX9_delete_39 : decode cX9_delete 39 = .ok (.invokevirtual 215, 3) := by decide +kernel
theorem dX9_delete_42 : decode cX9_delete 42 = .ok (.aload_n 0, 1) := by decide +kernel
theorem dX9_delete_43 : decode cX9_delete 43 = .ok (.iload_n 1, 1) := by decide +kernel
theorem dX9_delete_44 : decode cX9_delete 44 = .ok (.aload_n 0, 1) := by decide +kernel
theorem dX9_delete_45 : decode cX9_delete 45 = .ok (.iload_n 1, 1) := by decide +kernel
theorem dX9_delete_46 : decode cX9_delete 46 = .ok (.invokevirtual 169, 3) := by decide +kernel
theorem dX9_delete_49 : decode cX9_delete 49 = .ok (.invokevirtual 221, 3) := by decide +kernel
theorem dX9_delete_52 : decode cX9_delete 52 = .ok (.ireturn, 1) := by decide +kernel
theorem dX9_grow_0 : decode cX9_grow 0 = .ok (.aload_n 0, 1) := by decide +kernel
theorem dX9_grow_1 : decode cX9_grow 1 = .ok (.aload_n 0, 1) := by decide +kernel
theorem dX9_grow_2 : decode cX9_grow 2 = .ok (.invokevirtual 224, 3) := by decide +kernel
theorem dX9_grow_5 : decode cX9_grow 5 = .ok (.ifCond .eq 7, 3) := by decide +kernel
theorem dX9_grow_8 : decode cX9_grow 8 = .ok (.iconst 0, 1) := by decide +kernel
theorem dX9_grow_9 : decode cX9_grow 9 = .ok (.goto 4, 3) := by decide +kernel
theorem dX9_grow_12 : decode cX9_grow 12 = .ok (.iconst 1, 1) := by decide +kernel
theorem dX9_grow_13 : decode cX9_grow 13 = .ok (.putfield 64, 3) := by decide +kernel
theorem dX9_grow_16 : decode cX9_grow 16 = .ok (.aload_n 0, 1) := by decide +kernel
theorem dX9_grow_17 : decode cX9_grow 17 = .ok (.getfield 64, 3) := by decide +kernel
theorem dX9_grow_20 : decode cX9_grow 20 = .ok (.ifCond .eq 5, 3) := by decide +kernel
theorem dX9_grow_23 : decode cX9_grow 23 = .ok (.iconst 0, 1) := by decide +kernel
theorem dX9_grow_24 : decode cX9_grow 24 = .ok (.ireturn, 1) := by decide +kernel
theorem dX9_grow_25 : decode cX9_grow 25 = .ok (.aload_n 0, 1) := by decide +kernel
theorem dX9_grow_26 : decode cX9_grow 26 = .ok (.invokevirtual 215, 3) := by decide +kernel
theorem dX9_grow_29 : decode cX9_grow 29 = .ok (.aload_n 0, 1) := by decide +kernel
theorem dX9_grow_30 : decode cX9_grow 30 = .ok (.invokevirtual 228, 3) := by decide +kernel
theorem dX9_grow_33 : decode cX9_grow 33 = .ok (.aload_n 0, 1) := by decide +kernel
theorem dX9_grow_34 : decode cX9_grow 34 = .ok (.invokevirtual 104, 3) := by decide +kernel
theorem dX9_grow_37 : decode cX9_grow 37 = .ok (.ireturn, 1) := by decide +kernel
theorem dX9_areNumbers_0 : decode cX9_areNumbers 0 = .ok (.iload_n 0, 1) := by decide +kernel
theorem dX9_areNumbers_1 : decode cX9_areNumbers 1 = .ok (.iconst 1, 1) := by decide +kernel
theorem dX9_areNumbers_2 : decode cX9_areNumbers 2 = .ok (.bipush 6, 2) := by decide +kernel
theorem dX9_areNumbers_4 : decode cX9_areNumbers 4 = .ok (.invokestatic 78, 3) := by decide +kernel
theorem dX9_areNumbers_7 : decode cX9_areNumbers 7 = .ok (.ifCond .eq 36, 3) := by decide +kernel
theorem dX9_areNumbers_10 : decode cX9_areNumbers 10 = .ok (.iload_n 1, 1) := by decide +kernel
theorem dX9_areNumbers_11 : decode cX9_areNumbers 11 = .ok (.iconst 1, 1) := by decide +kernel
theorem dX9_areNumbers_12 : decode cX9_areNumbers 12 = .ok (.iconst 4, 1) := by decide +kernel
theorem dX9_areNumbers_13 : decode cX9_areNumbers 13 = .ok (.invokestatic 78, 3) := by decide +kernel
theorem dX9_areNumbers_16 : decode cX9_areNumbers 16 = .ok (.ifCond .eq 27, 3) := by decide +kernel
theorem dX9_areNumbers_19 : decode cX9_areNumbers 19 = .ok (.iload_n 2, 1) := by decide +kernel
theorem dX9_areNumbers_20 : decode cX9_areNumbers 20 = .ok (.iconst 1, 1) := by decide +kernel
theorem dX9_areNumbers_21 : decode cX9_areNumbers 21 = .ok (.bipush 8, 2) := by decide +kernel
theorem dX9_areNumbers_23 : decode cX9_areNumbers 23 = .ok (.invokestatic 78, 3) := by decide +kernel
theorem dX9_areNumbers_26 : decode cX9_areNumbers 26 = .ok (.ifCond .eq 17, 3) := by decide +kernel
theorem dX9_areNumbers_29 : decode cX9_areNumbers 29 = .ok (.iload_n 3, 1) := by decide +kernel
theorem dX9_areNumbers_30 : decode cX9_areNumbers 30 = .ok (.iconst 0, 1) := by decide +kernel
theorem dX9_areNumbers_31 : decode cX9_areNumbers 31 = .ok (.bipush 99, 2) := by decide +kernel
theorem dX9_areNumbers_33 : decode cX9_areNumbers 33 = .ok (.invokestatic 78, 3) := by decide +kernel
theorem dX9_areNumbers_36 : decode cX9_areNumbers 36 = .ok (.ifCond .eq 7, 3) := by decide +kernel
theorem dX9_areNumbers_39 : decode cX9_areNumbers 39 = .ok (.iconst 1, 1) := by decide +kernel
theorem dX9_areNumbers_40 : decode cX9_areNumbers 40 = .ok (.goto 4, 3) := by decide +kernel
theorem dX9_areNumbers_43 : decode cX9_areNumbers 43 = .ok (.iconst 0, 1) := by decide +kernel
theorem dX9_areNumbers_44 : decode cX9_areNumbers 44 = .ok (.ireturn, 1) := by decide +kernel
theorem dX9_rebuild_0 : decode cX9_rebuild 0 = .ok (.aload_n 0, 1) := by decide +kernel
theorem dX9_rebuild_1 : decode cX9_rebuild 1 = .ok (.iload_n 1, 1) := by decide +kernel
theorem dX9_rebuild_2 : decode cX9_rebuild 2 = .ok (.iload_n 2, 1) := by decide +kernel
theorem dX9_rebuild_3 : decode cX9_rebuild 3 = .ok (.iload_n 3, 1) := by decide +kernel
theorem dX9_rebuild_4 : decode cX9_rebuild 4 = .ok (.iload 4, 2) := by decide +kernel
theorem dX9_rebuild_6 : decode cX9_rebuild 6 = .ok (.invokestatic 231, 3) := by decide +kernel
theorem dX9_rebuild_9 : decode cX9_rebuild 9 = .ok (.ifCond .eq 7, 3) := by decide +kernel
theorem dX9_rebuild_12 : decode cX9_rebuild 12 = .ok (.iconst 0, 1) := by decide +kernel
theorem dX9_rebuild_13 : decode cX9_rebuild 13 = .ok (.goto 4, 3) := by decide +kernel
theorem dX9_rebuild_16 : decode cX9_rebuild 16 = .ok (.iconst 1, 1) := by decide +kernel
theorem dX9_rebuild_17 : decode cX9_rebuild 17 = .ok (.putfield 64, 3) := by decide +kernel
theorem dX9_rebuild_20 : decode cX9_rebuild 20 = .ok (.aload_n 0, 1) := by decide +kernel
theorem dX9_rebuild_21 : decode cX9_rebuild 21 = .ok (.getfield 64, 3) := by decide +kernel
theorem dX9_rebuild_24 : decode cX9_rebuild 24 = .ok (.ifCond .eq 5, 3) := by decide +kernel
theorem dX9_rebuild_27 : decode cX9_rebuild 27 = .ok (.iconst 0, 1) := by decide +kernel
theorem dX9_rebuild_28 : decode cX9_rebuild 28 = .ok (.ireturn, 1) := by decide +kernel
theorem dX9_rebuild_29 : decode cX9_rebuild 29 = .ok (.aload_n 0, 1) := by decide +kernel
theorem dX9_rebuild_30 : decode cX9_rebuild 30 = .ok (.iconst 4, 1) := by decide +kernel
theorem dX9_rebuild_31 : decode cX9_rebuild 31 = .ok (.invokevirtual 74, 3) := by decide +kernel
theorem dX9_rebuild_34 : decode cX9_rebuild 34 = .ok (.aload_n 0, 1) := by decide +kernel
theorem dX9_rebuild_35 : decode cX9_rebuild 35 = .ok (.iload_n 1, 1) := by decide +kernel
theorem dX9_rebuild_36 : decode cX9_rebuild 36 = .ok (.iload_n 2, 1) := by decide +kernel
theorem dX9_rebuild_37 : decode cX9_rebuild 37 = .ok (.iload_n 3, 1) := by decide +kernel
theorem dX9_rebuild_38 : decode cX9_rebuild 38 = .ok (.iload 4, 2) := by decide +kernel
theorem dX9_rebuild_40 : decode cX9_rebuild 40 = .ok (.invokevirtual 235, 3) := by decide +kernel
theorem dX9_rebuild_43 : decode cX9_rebuild 43 = .ok (.ifCond .ne 15, 3) := by decide +kernel
theorem dX9_rebuild_46 : decode cX9_rebuild 46 = .ok (.aload_n 0, 1) := by decide +kernel
theorem dX9_rebuild_47 : decode cX9_rebuild 47 = .ok (.iconst 4, 1) := by decide +kernel
theorem dX9_rebuild_48 : decode cX9_rebuild 48 = .ok (.invokevirtual 206, 3) := by decide +kernel
theorem dX9_rebuild_51 : decode cX9_rebuild 51 = .ok (.aload_n 0, 1) := by decide +kernel
theorem dX9_rebuild_52 : decode cX9_rebuild 52 = .ok (.iconst 2, 1) := by decide +kernel
theorem dX9_rebuild_53 : decode cX9_rebuild 53 = .ok (.putfield 64, 3) := by decide +kernel
theorem dX9_rebuild_56 : decode cX9_rebuild 56 = .ok (.iconst 0, 1) := by decide +kernel
theorem dX9_rebuild_57 : decode cX9_rebuild 57 = .ok (.ireturn, 1) := by decide +kernel
theorem dX9_rebuild_58 : decode cX9_rebuild 58 = .ok (.aload_n 0, 1) := by decide +kernel
theorem dX9_rebuild_59 : decode cX9_rebuild 59 = .ok (.iconst 4, 1) := by decide +kernel
theorem dX9_rebuild_60 : decode cX9_rebuild 60 = .ok (.invokevirtual 209, 3) := by decide +kernel
theorem dX9_rebuild_63 : decode cX9_rebuild 63 = .ok (.aload_n 0, 1) := by decide +kernel
theorem dX9_rebuild_64 : decode cX9_rebuild 64 = .ok (.getfield 7, 3) := by decide +kernel
theorem dX9_rebuild_67 : decode cX9_rebuild 67 = .ok (.iconst 5, 1) := by decide +kernel
theorem dX9_rebuild_68 : decode cX9_rebuild 68 = .ok (.iaload, 1) := by decide +kernel
theorem dX9_rebuild_69 : decode cX9_rebuild 69 = .ok (.ireturn, 1) := by decide +kernel
theorem dX9_setLimit_0 : decode cX9_setLimit 0 = .ok (.aload_n 0, 1) := by decide +kernel
theorem dX9_setLimit_1 : decode cX9_setLimit 1 = .ok (.iload_n 1, 1) := by decide +kernel
theorem dX9_setLimit_2 : decode cX9_setLimit 2 = .ok (.iconst 0, 1) := by decide +kernel
theorem dX9_setLimit_3 : decode cX9_setLimit 3 = .ok (.bipush 50, 2) := by decide +kernel
theorem dX9_setLimit_5 : decode cX9_setLimit 5 = .ok (.invokestatic 78, 3) := by decide +kernel
theorem dX9_setLimit_8 : decode cX9_setLimit 8 = .ok (.ifCond .eq 7, 3) := by decide +kernel
theorem dX9_setLimit_11 : decode cX9_setLimit 11 = .ok (.iconst 0, 1) := by decide +kernel
theorem dX9_setLimit_12 : decode cX9_setLimit 12 = .ok (.goto 4, 3) := by decide +kernel
theorem dX9_setLimit_15 : decode cX9_setLimit 15 = .ok (.iconst 1, 1) := by decide +kernel
theorem dX9_setLimit_16 : decode cX9_setLimit 16 = .ok (.putfield 64, 3) := by decide +kernel
theorem dX9_setLimit_19 : decode cX9_setLimit 19 = .ok (.aload_n 0, 1) := by decide +kernel
theorem dX9_setLimit_20 : decode cX9_setLimit 20 = .ok (.getfield 64, 3) := by decide +kernel
theorem dX9_setLimit_23 : decode cX9_setLimit 23 = .ok (.ifCond .eq 5, 3) := by decide +kernel
theorem dX9_setLimit_26 : decode cX9_setLimit 26 = .ok (.iconst 0, 1) := by decide +kernel
theorem dX9_setLimit_27 : decode cX9_setLimit 27 = .ok (.ireturn, 1) := by decide +kernel
theorem dX9_setLimit_28 : decode cX9_setLimit 28 = .ok (.aload_n 0, 1) := by decide +kernel
theorem dX9_setLimit_29 : decode cX9_setLimit 29 = .ok (.invokevirtual 215, 3) := by decide +kernel
theorem dX9_setLimit_32 : decode cX9_setLimit 32 = .ok (.aload_n 0, 1) := by decide +kernel
theorem dX9_setLimit_33 : decode cX9_setLimit 33 = .ok (.getfield 7, 3) := by decide +kernel
theorem dX9_setLimit_36 : decode cX9_setLimit 36 = .ok (.iconst 4, 1) := by decide +kernel
theorem dX9_setLimit_37 : decode cX9_setLimit 37 = .ok (.iaload, 1) := by decide +kernel
theorem dX9_setLimit_38 : decode cX9_setLimit 38 = .ok (.istore_n 2, 1) := by decide +kernel
theorem dX9_setLimit_39 : decode cX9_setLimit 39 = .ok (.aload_n 0, 1) := by decide +kernel
theorem dX9_setLimit_40 : decode cX9_setLimit 40 = .ok (.getfield 7, 3) := by decide +kernel
theorem dX9_setLimit_43 : decode cX9_setLimit 43 = .ok (.iconst 4, 1) := by decide +kernel
theorem dX9_setLimit_44 : decode cX9_setLimit 44 = .ok (.iload_n 1, 1) := by decide +kernel
theorem dX9_setLimit_45 : decode cX9_setLimit 45 = .ok (.iastore, 1) := by decide +kernel
theorem dX9_setLimit_46 : decode cX9_setLimit 46 = .ok (.iload_n 2, 1) := by decide +kernel
theorem dX9_setLimit_47 : decode cX9_setLimit 47 = .ok (.ireturn, 1) := by decide +kernel
theorem dX9_setLength_0 : decode cX9_setLength 0 = .ok (.aload_n 0, 1) := by decide +kernel
theorem dX9_setLength_1 : decode cX9_setLength 1 = .ok (.iload_n 1, 1) := by decide +kernel
theorem dX9_setLength_2 : decode cX9_setLength 2 = .ok (.iconst 1, 1) := by decide +kernel
theorem dX9_setLength_3 : decode cX9_setLength 3 = .ok (.bipush 8, 2) := by decide +kernel
theorem dX9_setLength_5 : decode cX9_setLength 5 = .ok (.invokestatic 78, 3) := by decide +kernel
theorem dX9_setLength_8 : decode cX9_setLength 8 = .ok (.ifCond .eq 7, 3) := by decide +kernel
theorem dX9_setLength_11 : decode cX9_setLength 11 = .ok (.iconst 0, 1) := by decide +kernel
theorem dX9_setLength_12 : decode cX9_setLength 12 = .ok (.goto 4, 3) := by decide +kernel
theorem dX9_setLength_15 : decode cX9_setLength 15 = .ok (.iconst 1, 1) := by decide +kernel
theorem dX9_setLength_16 : decode cX9_setLength 16 = .ok (.putfield 64, 3) := by decide +kernel
theorem dX9_setLength_19 : decode cX9_setLength 19 = .ok (.aload_n 0, 1) := by decide +kernel
theorem dX9_setLength_20 : decode cX9_setLength 20 = .ok (.getfield 64, 3) := by decide +kernel
theorem dX9_setLength_23 : decode cX9_setLength 23 = .ok (.ifCond .eq 5, 3) := by decide +kernel
theorem dX9_setLength_26 : decode cX9_setLength 26 = .ok (.iconst 0, 1) := by decide +kernel
theorem dX9_setLength_27 : decode cX9_setLength 27 = .ok (.ireturn, 1) := by decide +kernel
theorem dX9_setLength_28 : decode cX9_setLength 28 = .ok (.aload_n 0, 1) := by decide +kernel
theorem dX9_setLength_29 : decode cX9_setLength 29 = .ok (.invokevirtual 215, 3) := by decide +kernel
theorem dX9_setLength_32 : decode cX9_setLength 32 = .ok (.aload_n 0, 1) := by decide +kernel
theorem dX9_setLength_33 : decode cX9_setLength 33 = .ok (.getfield 7, 3) := by decide +kernel
theorem dX9_setLength_36 : decode cX9_setLength 36 = .ok (.iconst 2, 1) := by decide +kernel
theorem dX9_setLength_37 : decode cX9_setLength 37 = .ok (.iaload, 1) := by decide +kernel
theorem dX9_setLength_38 : decode cX9_setLength 38 = .ok (.istore_n 2, 1) := by decide +kernel
theorem dX9_setLength_39 : decode cX9_setLength 39 = .ok (.aload_n 0, 1) := by decide +kernel
theorem dX9_setLength_40 : decode cX9_setLength 40 = .ok (.getfield 7, 3) := by decide +kernel
theorem dX9_setLength_43 : decode cX9_setLength 43 = .ok (.iconst 2, 1) := by decide +kernel
theorem dX9_setLength_44 : decode cX9_setLength 44 = .ok (.iload_n 1, 1) := by decide +kernel
theorem dX9_setLength_45 : decode cX9_setLength 45 = .ok (.iastore, 1) := by decide +kernel
theorem dX9_setLength_46 : decode cX9_setLength 46 = .ok (.iload_n 2, 1) := by decide +kernel
theorem dX9_setLength_47 : decode cX9_setLength 47 = .ok (.ireturn, 1) := by decide +kernel
theorem dX9_clear_0 : decode cX9_clear 0 = .ok (.aload_n 0, 1) := by decide +kernel
theorem dX9_clear_1 : decode cX9_clear 1 = .ok (.iconst 0, 1) := by decide +kernel
theorem dX9_clear_2 : decode cX9_clear 2 = .ok (.putfield 64, 3) := by decide +kernel
theorem dX9_clear_5 : decode cX9_clear 5 = .ok (.aload_n 0, 1) := by decide +kernel
theorem dX9_clear_6 : decode cX9_clear 6 = .ok (.invokevirtual 215, 3) := by decide +kernel
theorem dX9_clear_9 : decode cX9_clear 9 = .ok (.aload_n 0, 1) := by decide +kernel
theorem dX9_clear_10 : decode cX9_clear 10 = .ok (.getfield 7, 3) := by decide +kernel
theorem dX9_clear_13 : decode cX9_clear 13 = .ok (.sipush 1042, 3) := by decide +kernel
theorem dX9_clear_16 : decode cX9_clear 16 = .ok (.iaload, 1) := by decide +kernel
theorem dX9_clear_17 : decode cX9_clear 17 = .ok (.istore_n 1, 1) := by decide +kernel
theorem dX9_clear_18 : decode cX9_clear 18 = .ok (.aload_n 0, 1) := by decide +kernel
theorem dX9_clear_19 : decode cX9_clear 19 = .ok (.getfield 7, 3) := by decide +kernel
theorem dX9_clear_22 : decode cX9_clear 22 = .ok (.sipush 1042, 3) := by decide +kernel
theorem dX9_clear_25 : decode cX9_clear 25 = .ok (.iconst 0, 1) := by decide +kernel
theorem dX9_clear_26 : decode cX9_clear 26 = .ok (.iastore, 1) := by decide +kernel
theorem dX9_clear_27 : decode cX9_clear 27 = .ok (.aload_n 0, 1) := by decide +kernel
theorem dX9_clear_28 : decode cX9_clear 28 = .ok (.invokevirtual 61, 3) := by decide +kernel
theorem dX9_clear_31 : decode cX9_clear 31 = .ok (.iload_n 1, 1) := by decide +kernel
theorem dX9_clear_32 : decode cX9_clear 32 = .ok (.ireturn, 1) := by decide +kernel
theorem dX9_entries_0 : decode cX9_entries 0 = .ok (.iconst 0, 1) := by decide +kernel
theorem dX9_entries_1 : decode cX9_entries 1 = .ok (.istore_n 2, 1) := by decide +kernel
theorem dX9_entries_2 : decode cX9_entries 2 = .ok (.iconst 0, 1) := by decide +kernel
theorem dX9_entries_3 : decode cX9_entries 3 = .ok (.istore_n 3, 1) := by decide +kernel
theorem dX9_entries_4 : decode cX9_entries 4 = .ok (.iload_n 3, 1) := by decide +kernel
theorem dX9_entries_5 : decode cX9_entries 5 = .ok (.iconst 4, 1) := by decide +kernel
theorem dX9_entries_6 : decode cX9_entries 6 = .ok (.if_icmp .ge 26, 3) := by decide +kernel
theorem dX9_entries_9 : decode cX9_entries 9 = .ok (.iload_n 2, 1) := by decide +kernel
theorem dX9_entries_10 : decode cX9_entries 10 = .ok (.aload_n 0, 1) := by decide +kernel
theorem dX9_entries_11 : decode cX9_entries 11 = .ok (.iload_n 1, 1) := by decide +kernel
theorem dX9_entries_12 : decode cX9_entries 12 = .ok (.iload_n 3, 1) := by decide +kernel
theorem dX9_entries_13 : decode cX9_entries 13 = .ok (.invokevirtual 120, 3) := by decide +kernel
theorem dX9_entries_16 : decode cX9_entries 16 = .ok (.ifCond .eq 7, 3) := by decide +kernel
theorem dX9_entries_19 : decode cX9_entries 19 = .ok (.iconst 0, 1) := by decide +kernel
theorem dX9_entries_20 : decode cX9_entries 20 = .ok (.goto 4, 3) := by decide +kernel
theorem dX9_entries_23 : decode cX9_entries 23 = .ok (.iconst 1, 1) := by decide +kernel
theorem dX9_entries_24 : decode cX9_entries 24 = .ok (.iadd, 1) := by decide +kernel
theorem dX9_entries_25 : decode cX9_entries 25 = .ok (.istore_n 2, 1) := by decide +kernel
theorem dX9_entries_26 : decode cX9_entries 26 = .ok (.iinc 3 1, 3) := by decide +kernel
theorem dX9_entries_29 : decode cX9_entries 29 = .ok (.goto (-25), 3) := by decide +kernel
theorem dX9_entries_32 : decode cX9_entries 32 = .ok (.iload_n 2, 1) := by decide +kernel
theorem dX9_entries_33 : decode cX9_entries 33 = .ok (.ireturn, 1) := by decide +kernel
theorem dX9_infoOf_0 : decode cX9_infoOf 0 = .ok (.iload_n 1, 1) := by decide +kernel
theorem dX9_infoOf_1 : decode cX9_infoOf 1 = .ok (.tableswitch 107 0 8 #[51, 107, 107, 107, 107, 56, 82, 89, 94], 51) := by decide +kernel
theorem dX9_infoOf_52 : decode cX9_infoOf 52 = .ok (.aload_n 0, 1) := by decide +kernel
theorem dX9_infoOf_53 : decode cX9_infoOf 53 = .ok (.invokevirtual 104, 3) := by decide +kernel
theorem dX9_infoOf_56 : decode cX9_infoOf 56 = .ok (.ireturn, 1) := by decide +kernel
theorem dX9_infoOf_57 : decode cX9_infoOf 57 = .ok (.iconst 0, 1) := by decide +kernel
theorem dX9_infoOf_58 : decode cX9_infoOf 58 = .ok (.istore_n 2, 1) := by decide +kernel
theorem dX9_infoOf_59 : decode cX9_infoOf 59 = .ok (.iconst 0, 1) := by decide +kernel
theorem dX9_infoOf_60 : decode cX9_infoOf 60 = .ok (.istore_n 3, 1) := by decide +kernel
theorem dX9_infoOf_61 : decode cX9_infoOf 61 = .ok (.iload_n 3, 1) := by decide +kernel
theorem dX9_infoOf_62 : decode cX9_infoOf 62 = .ok (.bipush 64, 2) := by decide +kernel
theorem dX9_infoOf_64 : decode cX9_infoOf 64 = .ok (.if_icmp .ge 17, 3) := by decide +kernel
theorem dX9_infoOf_67 : decode cX9_infoOf 67 = .ok (.iload_n 2, 1) := by decide +kernel
theorem dX9_infoOf_68 : decode cX9_infoOf 68 = .ok (.aload_n 0, 1) := by decide +kernel
theorem dX9_infoOf_69 : decode cX9_infoOf 69 = .ok (.iload_n 3, 1) := by decide +kernel
theorem dX9_infoOf_70 : decode cX9_infoOf 70 = .ok (.invokevirtual 238, 3) := by decide +kernel
theorem dX9_infoOf_73 : decode cX9_infoOf 73 = .ok (.iadd, 1) := by decide +kernel
theorem dX9_infoOf_74 : decode cX9_infoOf 74 = .ok (.istore_n 2, 1) := by decide +kernel
theorem dX9_infoOf_75 : decode cX9_infoOf 75 = .ok (.iinc 3 1, 3) := by decide +kernel
theorem dX9_infoOf_78 : decode cX9_infoOf 78 = .ok (.goto (-17), 3) := by decide +kernel
theorem dX9_infoOf_81 : decode cX9_infoOf 81 = .ok (.iload_n 2, 1) := by decide +kernel
theorem dX9_infoOf_82 : decode cX9_infoOf 82 = .ok (.ireturn, 1) := by decide +kernel
theorem dX9_infoOf_83 : decode cX9_infoOf 83 = .ok (.aload_n 0, 1) := by decide +kernel
theorem dX9_infoOf_84 : decode cX9_infoOf 84 = .ok (.getfield 7, 3) := by decide +kernel
theorem dX9_infoOf_87 : decode cX9_infoOf 87 = .ok (.iconst 5, 1) := by decide +kernel
theorem dX9_infoOf_88 : decode cX9_infoOf 88 = .ok (.iaload, 1) := by decide +kernel
theorem dX9_infoOf_89 : decode cX9_infoOf 89 = .ok (.ireturn, 1) := by decide +kernel
theorem dX9_infoOf_90 : decode cX9_infoOf 90 = .ok (.aload_n 0, 1) := by decide +kernel
theorem dX9_infoOf_91 : decode cX9_infoOf 91 = .ok (.invokevirtual 188, 3) := by decide +kernel
theorem dX9_infoOf_94 : decode cX9_infoOf 94 = .ok (.ireturn, 1) := by decide +kernel
theorem dX9_infoOf_95 : decode cX9_infoOf 95 = .ok (.aload_n 0, 1) := by decide +kernel
theorem dX9_infoOf_96 : decode cX9_infoOf 96 = .ok (.invokevirtual 224, 3) := by decide +kernel
theorem dX9_infoOf_99 : decode cX9_infoOf 99 = .ok (.ifCond .eq 7, 3) := by decide +kernel
theorem dX9_infoOf_102 : decode cX9_infoOf 102 = .ok (.iconst 1, 1) := by decide +kernel
theorem dX9_infoOf_103 : decode cX9_infoOf 103 = .ok (.goto 4, 3) := by decide +kernel
theorem dX9_infoOf_106 : decode cX9_infoOf 106 = .ok (.iconst 0, 1) := by decide +kernel
theorem dX9_infoOf_107 : decode cX9_infoOf 107 = .ok (.ireturn, 1) := by decide +kernel
theorem dX9_infoOf_108 : decode cX9_infoOf 108 = .ok (.aload_n 0, 1) := by decide +kernel
theorem dX9_infoOf_109 : decode cX9_infoOf 109 = .ok (.getfield 7, 3) := by decide +kernel
theorem dX9_infoOf_112 : decode cX9_infoOf 112 = .ok (.iload_n 1, 1) := by decide +kernel
theorem dX9_infoOf_113 : decode cX9_infoOf 113 = .ok (.iaload, 1) := by decide +kernel
theorem dX9_infoOf_114 : decode cX9_infoOf 114 = .ok (.ireturn, 1) := by decide +kernel
theorem dX9_info_0 : decode cX9_info 0 = .ok (.aload_n 0, 1) := by decide +kernel
theorem dX9_info_1 : decode cX9_info 1 = .ok (.iload_n 1, 1) := by decide +kernel
theorem dX9_info_2 : decode cX9_info 2 = .ok (.iconst 0, 1) := by decide +kernel
theorem dX9_info_3 : decode cX9_info 3 = .ok (.bipush 8, 2) := by decide +kernel
theorem dX9_info_5 : decode cX9_info 5 = .ok (.invokestatic 78, 3) := by decide +kernel
theorem dX9_info_8 : decode cX9_info 8 = .ok (.ifCond .eq 7, 3) := by decide +kernel
theorem dX9_info_11 : decode cX9_info 11 = .ok (.iconst 0, 1) := by decide +kernel
theorem dX9_info_12 : decode cX9_info 12 = .ok (.goto 4, 3) := by decide +kernel
theorem dX9_info_15 : decode cX9_info 15 = .ok (.iconst 1, 1) := by decide +kernel
theorem dX9_info_16 : decode cX9_info 16 = .ok (.putfield 64, 3) := by decide +kernel
theorem dX9_info_19 : decode cX9_info 19 = .ok (.aload_n 0, 1) := by decide +kernel
theorem dX9_info_20 : decode cX9_info 20 = .ok (.getfield 64, 3) := by decide +kernel
theorem dX9_info_23 : decode cX9_info 23 = .ok (.ifCond .eq 7, 3) := by decide +kernel
theorem dX9_info_26 : decode cX9_info 26 = .ok (.iconst 0, 1) := by decide +kernel
theorem dX9_info_27 : decode cX9_info 27 = .ok (.goto 8, 3) := by decide +kernel
theorem dX9_info_30 : decode cX9_info 30 = .ok (.aload_n 0, 1) := by decide +kernel
theorem dX9_info_31 : decode cX9_info 31 = .ok (.iload_n 1, 1) := by decide +kernel
theorem dX9_info_32 : decode cX9_info 32 = .ok (.invokevirtual 241, 3) := by decide +kernel
theorem dX9_info_35 : decode cX9_info 35 = .ok (.ireturn, 1) := by decide +kernel
theorem dX9_isSlot_0 : decode cX9_isSlot 0 = .ok (.iload_n 1, 1) := by decide +kernel
theorem dX9_isSlot_1 : decode cX9_isSlot 1 = .ok (.iconst 0, 1) := by decide +kernel
theorem dX9_isSlot_2 : decode cX9_isSlot 2 = .ok (.aload_n 0, 1) := by decide +kernel
theorem dX9_isSlot_3 : decode cX9_isSlot 3 = .ok (.invokevirtual 104, 3) := by decide +kernel
theorem dX9_isSlot_6 : decode cX9_isSlot 6 = .ok (.iconst 1, 1) := by decide +kernel
theorem dX9_isSlot_7 : decode cX9_isSlot 7 = .ok (.isub, 1) := by decide +kernel
theorem dX9_isSlot_8 : decode cX9_isSlot 8 = .ok (.invokestatic 78, 3) := by decide +kernel
theorem dX9_isSlot_11 : decode cX9_isSlot 11 = .ok (.ifCond .eq 23, 3) := by decide +kernel
theorem dX9_isSlot_14 : decode cX9_isSlot 14 = .ok (.iload_n 2, 1) := by decide +kernel
theorem dX9_isSlot_15 : decode cX9_isSlot 15 = .ok (.iconst 0, 1) := by decide +kernel
theorem dX9_isSlot_16 : decode cX9_isSlot 16 = .ok (.aload_n 0, 1) := by decide +kernel
theorem dX9_isSlot_17 : decode cX9_isSlot 17 = .ok (.getfield 7, 3) := by decide +kernel
theorem dX9_isSlot_20 : decode cX9_isSlot 20 = .ok (.iconst 1, 1) := by decide +kernel
theorem dX9_isSlot_21 : decode cX9_isSlot 21 = .ok (.iaload, 1) := by decide +kernel
theorem dX9_isSlot_22 : decode cX9_isSlot 22 = .ok (.iconst 1, 1) := by decide +kernel
theorem dX9_isSlot_23 : decode cX9_isSlot 23 = .ok (.isub, 1) := by decide +kernel
theorem dX9_isSlot_24 : decode cX9_isSlot 24 = .ok (.invokestatic 78, 3) := by decide +kernel
theorem dX9_isSlot_27 : decode cX9_isSlot 27 = .ok (.ifCond .eq 7, 3) := by decide +kernel
theorem dX9_isSlot_30 : decode cX9_isSlot 30 = .ok (.iconst 1, 1) := by decide +kernel
theorem dX9_isSlot_31 : decode cX9_isSlot 31 = .ok (.goto 4, 3) := by decide +kernel
theorem dX9_isSlot_34 : decode cX9_isSlot 34 = .ok (.iconst 0, 1) := by decide +kernel
theorem dX9_isSlot_35 : decode cX9_isSlot 35 = .ok (.ireturn, 1) := by decide +kernel
theorem dX9_slot_0 : decode cX9_slot 0 = .ok (.aload_n 0, 1) := by decide +kernel
theorem dX9_slot_1 : decode cX9_slot 1 = .ok (.aload_n 0, 1) := by decide +kernel
theorem dX9_slot_2 : decode cX9_slot 2 = .ok (.iload_n 1, 1) := by decide +kernel
theorem dX9_slot_3 : decode cX9_slot 3 = .ok (.iload_n 2, 1) := by decide +kernel
theorem dX9_slot_4 : decode cX9_slot 4 = .ok (.invokevirtual 244, 3) := by decide +kernel
theorem dX9_slot_7 : decode cX9_slot 7 = .ok (.ifCond .ne 7, 3) := by decide +kernel
theorem dX9_slot_10 : decode cX9_slot 10 = .ok (.iconst 1, 1) := by decide +kernel
theorem dX9_slot_11 : decode cX9_slot 11 = .ok (.goto 17, 3) := by decide +kernel
theorem dX9_slot_14 : decode cX9_slot 14 = .ok (.iload_n 3, 1) := by decide +kernel
theorem dX9_slot_15 : decode cX9_slot 15 = .ok (.iconst 0, 1) := by decide +kernel
theorem dX9_slot_16 : decode cX9_slot 16 = .ok (.iconst 3, 1) := by decide +kernel
theorem dX9_slot_17 : decode cX9_slot 17 = .ok (.invokestatic 78, 3) := by decide +kernel
theorem dX9_slot_20 : decode cX9_slot 20 = .ok (.ifCond .ne 7, 3) := by decide +kernel
theorem dX9_slot_23 : decode cX9_slot 23 = .ok (.iconst 2, 1) := by decide +kernel
theorem dX9_slot_24 : decode cX9_slot 24 = .ok (.goto 4, 3) := by decide +kernel
theorem dX9_slot_27 : decode cX9_slot 27 = .ok (.iconst 0, 1) := by decide +kernel
theorem dX9_slot_28 : decode cX9_slot 28 = .ok (.putfield 64, 3) := by decide +kernel
theorem dX9_slot_31 : decode cX9_slot 31 = .ok (.aload_n 0, 1) := by decide +kernel
theorem dX9_slot_32 : decode cX9_slot 32 = .ok (.getfield 64, 3) := by decide +kernel
theorem dX9_slot_35 : decode cX9_slot 35 = .ok (.ifCond .eq 7, 3) := by decide +kernel
theorem dX9_slot_38 : decode cX9_slot 38 = .ok (.iconst 0, 1) := by decide +kernel
theorem dX9_slot_39 : decode cX9_slot 39 = .ok (.goto 15, 3) := by decide +kernel
theorem dX9_slot_42 : decode cX9_slot 42 = .ok (.aload_n 0, 1) := by decide +kernel
theorem dX9_slot_43 : decode cX9_slot 43 = .ok (.getfield 7, 3) := by decide +kernel
theorem dX9_slot_46 : decode cX9_slot 46 = .ok (.iload_n 1, 1) := by decide +kernel
theorem dX9_slot_47 : decode cX9_slot 47 = .ok (.iload_n 2, 1) := by decide +kernel
theorem dX9_slot_48 : decode cX9_slot 48 = .ok (.invokestatic 117, 3) := by decide +kernel
theorem dX9_slot_51 : decode cX9_slot 51 = .ok (.iload_n 3, 1) := by decide +kernel
theorem dX9_slot_52 : decode cX9_slot 52 = .ok (.iadd, 1) := by decide +kernel
theorem dX9_slot_53 : decode cX9_slot 53 = .ok (.iaload, 1) := by decide +kernel
theorem dX9_slot_54 : decode cX9_slot 54 = .ok (.ireturn, 1) := by decide +kernel
theorem dX9_stashed_0 : decode cX9_stashed 0 = .ok (.aload_n 0, 1) := by decide +kernel
theorem dX9_stashed_1 : decode cX9_stashed 1 = .ok (.iload_n 1, 1) := by decide +kernel
theorem dX9_stashed_2 : decode cX9_stashed 2 = .ok (.iconst 0, 1) := by decide +kernel
theorem dX9_stashed_3 : decode cX9_stashed 3 = .ok (.aload_n 0, 1) := by decide +kernel
theorem dX9_stashed_4 : decode cX9_stashed 4 = .ok (.getfield 7, 3) := by decide +kernel
theorem dX9_stashed_7 : decode cX9_stashed 7 = .ok (.iconst 5, 1) := by decide +kernel
theorem dX9_stashed_8 : decode cX9_stashed 8 = .ok (.iaload, 1) := by decide +kernel
theorem dX9_stashed_9 : decode cX9_stashed 9 = .ok (.iconst 1, 1) := by decide +kernel
theorem dX9_stashed_10 : decode cX9_stashed 10 = .ok (.isub, 1) := by decide +kernel
theorem dX9_stashed_11 : decode cX9_stashed 11 = .ok (.invokestatic 78, 3) := by decide +kernel
theorem dX9_stashed_14 : decode cX9_stashed 14 = .ok (.ifCond .ne 7, 3) := by decide +kernel
theorem dX9_stashed_17 : decode cX9_stashed 17 = .ok (.iconst 1, 1) := by decide +kernel
theorem dX9_stashed_18 : decode cX9_stashed 18 = .ok (.goto 17, 3) := by decide +kernel
theorem dX9_stashed_21 : decode cX9_stashed 21 = .ok (.iload_n 2, 1) := by decide +kernel
theorem dX9_stashed_22 : decode cX9_stashed 22 = .ok (.iconst 0, 1) := by decide +kernel
theorem dX9_stashed_23 : decode cX9_stashed 23 = .ok (.iconst 3, 1) := by decide +kernel
theorem dX9_stashed_24 : decode cX9_stashed 24 = .ok (.invokestatic 78, 3) := by decide +kernel
theorem dX9_stashed_27 : decode cX9_stashed 27 = .ok (.ifCond .ne 7, 3) := by decide +kernel
theorem dX9_stashed_30 : decode cX9_stashed 30 = .ok (.iconst 2, 1) := by decide +kernel
theorem dX9_stashed_31 : decode cX9_stashed 31 = .ok (.goto 4, 3) := by decide +kernel
theorem dX9_stashed_34 : decode cX9_stashed 34 = .ok (.iconst 0, 1) := by decide +kernel
theorem dX9_stashed_35 : decode cX9_stashed 35 = .ok (.putfield 64, 3) := by decide +kernel
theorem dX9_stashed_38 : decode cX9_stashed 38 = .ok (.aload_n 0, 1) := by decide +kernel
theorem dX9_stashed_39 : decode cX9_stashed 39 = .ok (.getfield 64, 3) := by decide +kernel
theorem dX9_stashed_42 : decode cX9_stashed 42 = .ok (.ifCond .eq 7, 3) := by decide +kernel
theorem dX9_stashed_45 : decode cX9_stashed 45 = .ok (.iconst 0, 1) := by decide +kernel
theorem dX9_stashed_46 : decode cX9_stashed 46 = .ok (.goto 16, 3) := by decide +kernel
theorem dX9_stashed_49 : decode cX9_stashed 49 = .ok (.aload_n 0, 1) := by decide +kernel
theorem dX9_stashed_50 : decode cX9_stashed 50 = .ok (.getfield 7, 3) := by decide +kernel
theorem dX9_stashed_53 : decode cX9_stashed 53 = .ok (.bipush 6, 2) := by decide +kernel
theorem dX9_stashed_55 : decode cX9_stashed 55 = .ok (.iconst 4, 1) := by decide +kernel
theorem dX9_stashed_56 : decode cX9_stashed 56 = .ok (.iload_n 1, 1) := by decide +kernel
theorem dX9_stashed_57 : decode cX9_stashed 57 = .ok (.imul, 1) := by decide +kernel
theorem dX9_stashed_58 : decode cX9_stashed 58 = .ok (.iadd, 1) := by decide +kernel
theorem dX9_stashed_59 : decode cX9_stashed 59 = .ok (.iload_n 2, 1) := by decide +kernel
theorem dX9_stashed_60 : decode cX9_stashed 60 = .ok (.iadd, 1) := by decide +kernel
theorem dX9_stashed_61 : decode cX9_stashed 61 = .ok (.iaload, 1) := by decide +kernel
theorem dX9_stashed_62 : decode cX9_stashed 62 = .ok (.ireturn, 1) := by decide +kernel
theorem dX9_filled_0 : decode cX9_filled 0 = .ok (.aload_n 0, 1) := by decide +kernel
theorem dX9_filled_1 : decode cX9_filled 1 = .ok (.iload_n 1, 1) := by decide +kernel
theorem dX9_filled_2 : decode cX9_filled 2 = .ok (.iconst 0, 1) := by decide +kernel
theorem dX9_filled_3 : decode cX9_filled 3 = .ok (.iconst 4, 1) := by decide +kernel
theorem dX9_filled_4 : decode cX9_filled 4 = .ok (.invokestatic 78, 3) := by decide +kernel
theorem dX9_filled_7 : decode cX9_filled 7 = .ok (.ifCond .eq 7, 3) := by decide +kernel
theorem dX9_filled_10 : decode cX9_filled 10 = .ok (.iconst 0, 1) := by decide +kernel
theorem dX9_filled_11 : decode cX9_filled 11 = .ok (.goto 4, 3) := by decide +kernel
theorem dX9_filled_14 : decode cX9_filled 14 = .ok (.iconst 1, 1) := by decide +kernel
theorem dX9_filled_15 : decode cX9_filled 15 = .ok (.putfield 64, 3) := by decide +kernel
theorem dX9_filled_18 : decode cX9_filled 18 = .ok (.aload_n 0, 1) := by decide +kernel
theorem dX9_filled_19 : decode cX9_filled 19 = .ok (.getfield 64, 3) := by decide +kernel
theorem dX9_filled_22 : decode cX9_filled 22 = .ok (.ifCond .eq 5, 3) := by decide +kernel
theorem dX9_filled_25 : decode cX9_filled 25 = .ok (.iconst 0, 1) := by decide +kernel
theorem dX9_filled_26 : decode cX9_filled 26 = .ok (.ireturn, 1) := by decide +kernel
theorem dX9_filled_27 : decode cX9_filled 27 = .ok (.iconst 0, 1) := by decide +kernel
theorem dX9_filled_28 : decode cX9_filled 28 = .ok (.istore_n 2, 1) := by decide +kernel
theorem dX9_filled_29 : decode cX9_filled 29 = .ok (.iconst 0, 1) := by decide +kernel
theorem dX9_filled_30 : decode cX9_filled 30 = .ok (.istore_n 3, 1) := by decide +kernel
theorem dX9_filled_31 : decode cX9_filled 31 = .ok (.iload_n 3, 1) := by decide +kernel
theorem dX9_filled_32 : decode cX9_filled 32 = .ok (.aload_n 0, 1) := by decide +kernel
theorem dX9_filled_33 : decode cX9_filled 33 = .ok (.invokevirtual 104, 3) := by decide +kernel
theorem dX9_filled_36 : decode cX9_filled 36 = .ok (.if_icmp .ge 26, 3) := by decide +kernel
theorem dX9_filled_39 : decode cX9_filled 39 = .ok (.iload_n 2, 1) := by decide +kernel
theorem dX9_filled_40 : decode cX9_filled 40 = .ok (.aload_n 0, 1) := by decide +kernel
theorem dX9_filled_41 : decode cX9_filled 41 = .ok (.iload_n 3, 1) := by decide +kernel
theorem dX9_filled_42 : decode cX9_filled 42 = .ok (.invokevirtual 238, 3) := by decide +kernel
theorem dX9_filled_45 : decode cX9_filled 45 = .ok (.iload_n 1, 1) := by decide +kernel
theorem dX9_filled_46 : decode cX9_filled 46 = .ok (.if_icmp .ne 7, 3) := by decide +kernel
theorem dX9_filled_49 : decode cX9_filled 49 = .ok (.iconst 1, 1) := by decide +kernel
theorem dX9_filled_50 : decode cX9_filled 50 = .ok (.goto 4, 3) := by decide +kernel
theorem dX9_filled_53 : decode cX9_filled 53 = .ok (.iconst 0, 1) := by decide +kernel
theorem dX9_filled_54 : decode cX9_filled 54 = .ok (.iadd, 1) := by decide +kernel
theorem dX9_filled_55 : decode cX9_filled 55 = .ok (.istore_n 2, 1) := by decide +kernel
theorem dX9_filled_56 : decode cX9_filled 56 = .ok (.iinc 3 1, 3) := by decide +kernel
theorem dX9_filled_59 : decode cX9_filled 59 = .ok (.goto (-28), 3) := by decide +kernel
theorem dX9_filled_62 : decode cX9_filled 62 = .ok (.iload_n 2, 1) := by decide +kernel
theorem dX9_filled_63 : decode cX9_filled 63 = .ok (.ireturn, 1) := by decide +kernel
theorem dX9_wouldAdd_0 : decode cX9_wouldAdd 0 = .ok (.aload_n 0, 1) := by decide +kernel
theorem dX9_wouldAdd_1 : decode cX9_wouldAdd 1 = .ok (.iconst 4, 1) := by decide +kernel
theorem dX9_wouldAdd_2 : decode cX9_wouldAdd 2 = .ok (.invokevirtual 74, 3) := by decide +kernel
theorem dX9_wouldAdd_5 : decode cX9_wouldAdd 5 = .ok (.aload_n 0, 1) := by decide +kernel
theorem dX9_wouldAdd_6 : decode cX9_wouldAdd 6 = .ok (.iload_n 1, 1) := by decide +kernel
theorem dX9_wouldAdd_7 : decode cX9_wouldAdd 7 = .ok (.invokevirtual 191, 3) := by decide +kernel
theorem dX9_wouldAdd_10 : decode cX9_wouldAdd 10 = .ok (.istore_n 2, 1) := by decide +kernel
theorem dX9_wouldAdd_11 : decode cX9_wouldAdd 11 = .ok (.aload_n 0, 1) := by decide +kernel
theorem dX9_wouldAdd_12 : decode cX9_wouldAdd 12 = .ok (.iconst 4, 1) := by decide +kernel
theorem dX9_wouldAdd_13 : decode cX9_wouldAdd 13 = .ok (.invokevirtual 206, 3) := by decide +kernel
theorem dX9_wouldAdd_16 : decode cX9_wouldAdd 16 = .ok (.iload_n 2, 1) := by decide +kernel
theorem dX9_wouldAdd_17 : decode cX9_wouldAdd 17 = .ok (.ireturn, 1) := by decide +kernel
theorem dX9_walk_0 : decode cX9_walk 0 = .ok (.aload_n 0, 1) := by decide +kernel
theorem dX9_walk_1 : decode cX9_walk 1 = .ok (.iload_n 1, 1) := by decide +kernel
theorem dX9_walk_2 : decode cX9_walk 2 = .ok (.invokestatic 194, 3) := by decide +kernel
theorem dX9_walk_5 : decode cX9_walk 5 = .ok (.ifCond .eq 7, 3) := by decide +kernel
theorem dX9_walk_8 : decode cX9_walk 8 = .ok (.iconst 0, 1) := by decide +kernel
theorem dX9_walk_9 : decode cX9_walk 9 = .ok (.goto 4, 3) := by decide +kernel
theorem dX9_walk_12 : decode cX9_walk 12 = .ok (.iconst 1, 1) := by decide +kernel
theorem dX9_walk_13 : decode cX9_walk 13 = .ok (.putfield 64, 3) := by decide +kernel
theorem dX9_walk_16 : decode cX9_walk 16 = .ok (.aload_n 0, 1) := by decide +kernel
theorem dX9_walk_17 : decode cX9_walk 17 = .ok (.getfield 64, 3) := by decide +kernel
theorem dX9_walk_20 : decode cX9_walk 20 = .ok (.ifCond .eq 7, 3) := by decide +kernel
theorem dX9_walk_23 : decode cX9_walk 23 = .ok (.iconst 0, 1) := by decide +kernel
theorem dX9_walk_24 : decode cX9_walk 24 = .ok (.goto 8, 3) := by decide +kernel
theorem dX9_walk_27 : decode cX9_walk 27 = .ok (.aload_n 0, 1) := by decide +kernel
theorem dX9_walk_28 : decode cX9_walk 28 = .ok (.iload_n 1, 1) := by decide +kernel
theorem dX9_walk_29 : decode cX9_walk 29 = .ok (.invokevirtual 247, 3) := by decide +kernel
theorem dX9_walk_32 : decode cX9_walk 32 = .ok (.ireturn, 1) := by decide +kernel
theorem dX9_walkStep_0 : decode cX9_walkStep 0 = .ok (.aload_n 0, 1) := by decide +kernel
theorem dX9_walkStep_1 : decode cX9_walkStep 1 = .ok (.iload_n 1, 1) := by decide +kernel
theorem dX9_walkStep_2 : decode cX9_walkStep 2 = .ok (.invokestatic 194, 3) := by decide +kernel
theorem dX9_walkStep_5 : decode cX9_walkStep 5 = .ok (.ifCond .eq 7, 3) := by decide +kernel
theorem dX9_walkStep_8 : decode cX9_walkStep 8 = .ok (.iconst 0, 1) := by decide +kernel
theorem dX9_walkStep_9 : decode cX9_walkStep 9 = .ok (.goto 4, 3) := by decide +kernel
theorem dX9_walkStep_12 : decode cX9_walkStep 12 = .ok (.iconst 1, 1) := by decide +kernel
theorem dX9_walkStep_13 : decode cX9_walkStep 13 = .ok (.putfield 64, 3) := by decide +kernel
theorem dX9_walkStep_16 : decode cX9_walkStep 16 = .ok (.aload_n 0, 1) := by decide +kernel
theorem dX9_walkStep_17 : decode cX9_walkStep 17 = .ok (.getfield 64, 3) := by decide +kernel
theorem dX9_walkStep_20 : decode cX9_walkStep 20 = .ok (.ifCond .eq 5, 3) := by decide +kernel
theorem dX9_walkStep_23 : decode cX9_walkStep 23 = .ok (.iconst 0, 1) := by decide +kernel
theorem dX9_walkStep_24 : decode cX9_walkStep 24 = .ok (.ireturn, 1) := by decide +kernel
theorem dX9_walkStep_25 : decode cX9_walkStep 25 = .ok (.aload_n 0, 1) := by decide +kernel
theorem dX9_walkStep_26 : decode cX9_walkStep 26 = .ok (.iload_n 1, 1) := by decide +kernel
theorem dX9_walkStep_27 : decode cX9_walkStep 27 = .ok (.invokevirtual 247, 3) := by decide +kernel
theorem dX9_walkStep_30 : decode cX9_walkStep 30 = .ok (.istore 4, 2) := by decide +kernel
theorem dX9_walkStep_32 : decode cX9_walkStep 32 = .ok (.iload_n 2, 1) := by decide +kernel
theorem dX9_walkStep_33 : decode cX9_walkStep 33 = .ok (.iconst 0, 1) := by decide +kernel
theorem dX9_walkStep_34 : decode cX9_walkStep 34 = .ok (.aload_n 0, 1) := by decide +kernel
theorem dX9_walkStep_35 : decode cX9_walkStep 35 = .ok (.getfield 152, 3) := by decide +kernel
theorem dX9_walkStep_38 : decode cX9_walkStep 38 = .ok (.iconst 1, 1) := by decide +kernel
theorem dX9_walkStep_39 : decode cX9_walkStep 39 = .ok (.isub, 1) := by decide +kernel
theorem dX9_walkStep_40 : decode cX9_walkStep 40 = .ok (.invokestatic 78, 3) := by decide +kernel
theorem dX9_walkStep_43 : decode cX9_walkStep 43 = .ok (.ifCond .ne 5, 3) := by decide +kernel
theorem dX9_walkStep_46 : decode cX9_walkStep 46 = .ok (.iconst (-1), 1) := by decide +kernel
theorem dX9_walkStep_47 : decode cX9_walkStep 47 = .ok (.ireturn, 1) := by decide +kernel
theorem dX9_walkStep_48 : decode cX9_walkStep 48 = .ok (.iload_n 3, 1) := by decide +kernel
theorem dX9_walkStep_49 : decode cX9_walkStep 49 = .ok (.ifCond .eq 12, 3) := by decide +kernel
theorem dX9_walkStep_52 : decode cX9_walkStep 52 = .ok (.aload_n 0, 1) := by decide +kernel
theorem dX9_walkStep_53 : decode cX9_walkStep 53 = .ok (.getfield 22, 3) := by decide +kernel
theorem dX9_walkStep_56 : decode cX9_walkStep 56 = .ok (.iload_n 2, 1) := by decide +kernel
theorem dX9_walkStep_57 : decode cX9_walkStep 57 = .ok (.iaload, 1) := by decide +kernel
theorem dX9_walkStep_58 : decode cX9_walkStep 58 = .ok (.goto 9, 3) := by decide +kernel
theorem dX9_walkStep_61 : decode cX9_walkStep 61 = .ok (.aload_n 0, 1) := by decide +kernel
theorem dX9_walkStep_62 : decode cX9_walkStep 62 = .ok (.getfield 19, 3) := by decide +kernel
theorem dX9_walkStep_65 : decode cX9_walkStep 65 = .ok (.iload_n 2, 1) := by decide +kernel
theorem dX9_walkStep_66 : decode cX9_walkStep 66 = .ok (.iaload, 1) := by decide +kernel
theorem dX9_walkStep_67 : decode cX9_walkStep 67 = .ok (.ireturn, 1) := by decide +kernel
theorem dX9_leastMoves_0 : decode cX9_leastMoves 0 = .ok (.aload_n 0, 1) := by decide +kernel
theorem dX9_leastMoves_1 : decode cX9_leastMoves 1 = .ok (.iload_n 1, 1) := by decide +kernel
theorem dX9_leastMoves_2 : decode cX9_leastMoves 2 = .ok (.invokestatic 194, 3) := by decide +kernel
theorem dX9_leastMoves_5 : decode cX9_leastMoves 5 = .ok (.ifCond .eq 7, 3) := by decide +kernel
theorem dX9_leastMoves_8 : decode cX9_leastMoves 8 = .ok (.iconst 0, 1) := by decide +kernel
theorem dX9_leastMoves_9 : decode cX9_leastMoves 9 = .ok (.goto 4, 3) := by decide +kernel
theorem dX9_leastMoves_12 : decode cX9_leastMoves 12 = .ok (.iconst 1, 1) := by decide +kernel
theorem dX9_leastMoves_13 : decode cX9_leastMoves 13 = .ok (.putfield 64, 3) := by decide +kernel
theorem dX9_leastMoves_16 : decode cX9_leastMoves 16 = .ok (.aload_n 0, 1) := by decide +kernel
theorem dX9_leastMoves_17 : decode cX9_leastMoves 17 = .ok (.getfield 64, 3) := by decide +kernel
theorem dX9_leastMoves_20 : decode cX9_leastMoves 20 = .ok (.ifCond .eq 5, 3) := by decide +kernel
theorem dX9_leastMoves_23 : decode cX9_leastMoves 23 = .ok (.iconst 0, 1) := by decide +kernel
theorem dX9_leastMoves_24 : decode cX9_leastMoves 24 = .ok (.ireturn, 1) := by decide +kernel
theorem dX9_leastMoves_25 : decode cX9_leastMoves 25 = .ok (.aload_n 0, 1) := by decide +kernel
theorem dX9_leastMoves_26 : decode cX9_leastMoves 26 = .ok (.iload_n 1, 1) := by decide +kernel
theorem dX9_leastMoves_27 : decode cX9_leastMoves 27 = .ok (.invokevirtual 212, 3) := by decide +kernel
theorem dX9_leastMoves_30 : decode cX9_leastMoves 30 = .ok (.istore_n 2, 1) := by decide +kernel
theorem dX9_leastMoves_31 : decode cX9_leastMoves 31 = .ok (.iload_n 2, 1) := by decide +kernel
theorem dX9_leastMoves_32 : decode cX9_leastMoves 32 = .ok (.iconst (-1), 1) := by decide +kernel
theorem dX9_leastMoves_33 : decode cX9_leastMoves 33 = .ok (.if_icmp .ne 7, 3) := by decide +kernel
theorem dX9_leastMoves_36 : decode cX9_leastMoves 36 = .ok (.iconst (-1), 1) := by decide +kernel
theorem dX9_leastMoves_37 : decode cX9_leastMoves 37 = .ok (.goto 9, 3) := by decide +kernel
theorem dX9_leastMoves_40 : decode cX9_leastMoves 40 = .ok (.aload_n 0, 1) := by decide +kernel
theorem dX9_leastMoves_41 : decode cX9_leastMoves 41 = .ok (.getfield 31, 3) := by decide +kernel
theorem dX9_leastMoves_44 : decode cX9_leastMoves 44 = .ok (.iload_n 2, 1) := by decide +kernel
theorem dX9_leastMoves_45 : decode cX9_leastMoves 45 = .ok (.iaload, 1) := by decide +kernel
theorem dX9_leastMoves_46 : decode cX9_leastMoves 46 = .ok (.ireturn, 1) := by decide +kernel
theorem dX9_isRange_0 : decode cX9_isRange 0 = .ok (.iload_n 0, 1) := by decide +kernel
theorem dX9_isRange_1 : decode cX9_isRange 1 = .ok (.invokestatic 194, 3) := by decide +kernel
theorem dX9_isRange_4 : decode cX9_isRange 4 = .ok (.ifCond .eq 19, 3) := by decide +kernel
theorem dX9_isRange_7 : decode cX9_isRange 7 = .ok (.iload_n 1, 1) := by decide +kernel
theorem dX9_isRange_8 : decode cX9_isRange 8 = .ok (.invokestatic 194, 3) := by decide +kernel
theorem dX9_isRange_11 : decode cX9_isRange 11 = .ok (.ifCond .eq 12, 3) := by decide +kernel
theorem dX9_isRange_14 : decode cX9_isRange 14 = .ok (.iload_n 0, 1) := by decide +kernel
theorem dX9_isRange_15 : decode cX9_isRange 15 = .ok (.iload_n 1, 1) := by decide +kernel
theorem dX9_isRange_16 : decode cX9_isRange 16 = .ok (.if_icmp .gt 7, 3) := by decide +kernel
theorem dX9_isRange_19 : decode cX9_isRange 19 = .ok (.iconst 1, 1) := by decide +kernel
theorem dX9_isRange_20 : decode cX9_isRange 20 = .ok (.goto 4, 3) := by decide +kernel
theorem dX9_isRange_23 : decode cX9_isRange 23 = .ok (.iconst 0, 1) := by decide +kernel
theorem dX9_isRange_24 : decode cX9_isRange 24 = .ok (.ireturn, 1) := by decide +kernel
theorem dX9_roomFor_0 : decode cX9_roomFor 0 = .ok (.aload_n 0, 1) := by decide +kernel
theorem dX9_roomFor_1 : decode cX9_roomFor 1 = .ok (.iload_n 1, 1) := by decide +kernel
theorem dX9_roomFor_2 : decode cX9_roomFor 2 = .ok (.iload_n 2, 1) := by decide +kernel
theorem dX9_roomFor_3 : decode cX9_roomFor 3 = .ok (.invokestatic 250, 3) := by decide +kernel
theorem dX9_roomFor_6 : decode cX9_roomFor 6 = .ok (.ifCond .eq 7, 3) := by decide +kernel
theorem dX9_roomFor_9 : decode cX9_roomFor 9 = .ok (.iconst 0, 1) := by decide +kernel
theorem dX9_roomFor_10 : decode cX9_roomFor 10 = .ok (.goto 4, 3) := by decide +kernel
theorem dX9_roomFor_13 : decode cX9_roomFor 13 = .ok (.iconst 1, 1) := by decide +kernel
theorem dX9_roomFor_14 : decode cX9_roomFor 14 = .ok (.putfield 64, 3) := by decide +kernel
theorem dX9_roomFor_17 : decode cX9_roomFor 17 = .ok (.aload_n 0, 1) := by decide +kernel
theorem dX9_roomFor_18 : decode cX9_roomFor 18 = .ok (.getfield 64, 3) := by decide +kernel
theorem dX9_roomFor_21 : decode cX9_roomFor 21 = .ok (.ifCond .eq 5, 3) := by decide +kernel
theorem dX9_roomFor_24 : decode cX9_roomFor 24 = .ok (.iconst 0, 1) := by decide +kernel
theorem dX9_roomFor_25 : decode cX9_roomFor 25 = .ok (.ireturn, 1) := by decide +kernel
theorem dX9_roomFor_26 : decode cX9_roomFor 26 = .ok (.aload_n 0, 1) := by decide +kernel
theorem dX9_roomFor_27 : decode cX9_roomFor 27 = .ok (.iconst 4, 1) := by decide +kernel
theorem dX9_roomFor_28 : decode cX9_roomFor 28 = .ok (.invokevirtual 74, 3) := by decide +kernel
theorem dX9_roomFor_31 : decode cX9_roomFor 31 = .ok (.iconst 0, 1) := by decide +kernel
theorem dX9_roomFor_32 : decode cX9_roomFor 32 = .ok (.istore_n 3, 1) := by decide +kernel
theorem dX9_roomFor_33 : decode cX9_roomFor 33 = .ok (.iconst 1, 1) := by decide +kernel
theorem dX9_roomFor_34 : decode cX9_roomFor 34 = .ok (.istore 4, 2) := by decide +kernel
theorem dX9_roomFor_36 : decode cX9_roomFor 36 = .ok (.iload_n 1, 1) := by decide +kernel
theorem dX9_roomFor_37 : decode cX9_roomFor 37 = .ok (.istore 5, 2) := by decide +kernel
theorem dX9_roomFor_39 : decode cX9_roomFor 39 = .ok (.iload 5, 2) := by decide +kernel
theorem dX9_roomFor_41 : decode cX9_roomFor 41 = .ok (.iload_n 2, 1) := by decide +kernel
theorem dX9_roomFor_42 : decode cX9_roomFor 42 = .ok (.if_icmp .gt 54, 3) := by decide +kernel
theorem dX9_roomFor_45 : decode cX9_roomFor 45 = .ok (.iload 4, 2) := by decide +kernel
theorem dX9_roomFor_47 : decode cX9_roomFor 47 = .ok (.ifCond .eq 49, 3) := by decide +kernel
theorem dX9_roomFor_50 : decode cX9_roomFor 50 = .ok (.aload_n 0, 1) := by decide +kernel
theorem dX9_roomFor_51 : decode cX9_roomFor 51 = .ok (.iload 5, 2) := by decide +kernel
theorem dX9_roomFor_53 : decode cX9_roomFor 53 = .ok (.invokevirtual 169, 3) := by decide +kernel
theorem dX9_roomFor_56 : decode cX9_roomFor 56 = .ok (.iconst (-1), 1) := by decide +kernel
theorem dX9_roomFor_57 : decode cX9_roomFor 57 = .ok (.if_icmp .ne 33, 3) := by decide +kernel
theorem dX9_roomFor_60 : decode cX9_roomFor 60 = .ok (.aload_n 0, 1) := by decide +kernel
theorem dX9_roomFor_61 : decode cX9_roomFor 61 = .ok (.iload 5, 2) := by decide +kernel
theorem dX9_roomFor_63 : decode cX9_roomFor 63 = .ok (.invokevirtual 203, 3) := by decide +kernel
theorem dX9_roomFor_66 : decode cX9_roomFor 66 = .ok (.iconst (-1), 1) := by decide +kernel
theorem dX9_roomFor_67 : decode cX9_roomFor 67 = .ok (.if_icmp .eq 7, 3) := by decide +kernel
theorem dX9_roomFor_70 : decode cX9_roomFor 70 = .ok (.iconst 1, 1) := by decide +kernel
theorem dX9_roomFor_71 : decode cX9_roomFor 71 = .ok (.goto 4, 3) := by decide +kernel
theorem dX9_roomFor_74 : decode cX9_roomFor 74 = .ok (.iconst 0, 1) := by decide +kernel
theorem dX9_roomFor_75 : decode cX9_roomFor 75 = .ok (.istore 4, 2) := by decide +kernel
theorem dX9_roomFor_77 : decode cX9_roomFor 77 = .ok (.iload_n 3, 1) := by decide +kernel
theorem dX9_roomFor_78 : decode cX9_roomFor 78 = .ok (.iload 4, 2) := by decide +kernel
theorem dX9_roomFor_80 : decode cX9_roomFor 80 = .ok (.ifCond .eq 7, 3) := by decide +kernel
theorem dX9_roomFor_83 : decode cX9_roomFor 83 = .ok (.iconst 1, 1) := by decide +kernel
theorem dX9_roomFor_84 : decode cX9_roomFor 84 = .ok (.goto 4, 3) := by decide +kernel
theorem dX9_roomFor_87 : decode cX9_roomFor 87 = .ok (.iconst 0, 1) := by decide +kernel
theorem dX9_roomFor_88 : decode cX9_roomFor 88 = .ok (.iadd, 1) := by decide +kernel
theorem dX9_roomFor_89 : decode cX9_roomFor 89 = .ok (.istore_n 3, 1) := by decide +kernel
theorem dX9_roomFor_90 : decode cX9_roomFor 90 = .ok (.iinc 5 1, 3) := by decide +kernel
theorem dX9_roomFor_93 : decode cX9_roomFor 93 = .ok (.goto (-54), 3) := by decide +kernel
theorem dX9_roomFor_96 : decode cX9_roomFor 96 = .ok (.aload_n 0, 1) := by decide +kernel
theorem dX9_roomFor_97 : decode cX9_roomFor 97 = .ok (.iconst 4, 1) := by decide +kernel
theorem dX9_roomFor_98 : decode cX9_roomFor 98 = .ok (.invokevirtual 206, 3) := by decide +kernel
theorem dX9_roomFor_101 : decode cX9_roomFor 101 = .ok (.iload_n 3, 1) := by decide +kernel
theorem dX9_roomFor_102 : decode cX9_roomFor 102 = .ok (.ireturn, 1) := by decide +kernel
theorem dX9_isFalse_0 : decode cX9_isFalse 0 = .ok (.aload_n 0, 1) := by decide +kernel
theorem dX9_isFalse_1 : decode cX9_isFalse 1 = .ok (.iload_n 1, 1) := by decide +kernel
theorem dX9_isFalse_2 : decode cX9_isFalse 2 = .ok (.invokevirtual 182, 3) := by decide +kernel
theorem dX9_isFalse_5 : decode cX9_isFalse 5 = .ok (.iconst (-1), 1) := by decide +kernel
theorem dX9_isFalse_6 : decode cX9_isFalse 6 = .ok (.if_icmp .eq 16, 3) := by decide +kernel
theorem dX9_isFalse_9 : decode cX9_isFalse 9 = .ok (.aload_n 0, 1) := by decide +kernel
theorem dX9_isFalse_10 : decode cX9_isFalse 10 = .ok (.iload_n 1, 1) := by decide +kernel
theorem dX9_isFalse_11 : decode cX9_isFalse 11 = .ok (.invokevirtual 169, 3) := by decide +kernel
theorem dX9_isFalse_14 : decode cX9_isFalse 14 = .ok (.iconst (-1), 1) := by decide +kernel
theorem dX9_isFalse_15 : decode cX9_isFalse 15 = .ok (.if_icmp .ne 7, 3) := by decide +kernel
theorem dX9_isFalse_18 : decode cX9_isFalse 18 = .ok (.iconst 1, 1) := by decide +kernel
theorem dX9_isFalse_19 : decode cX9_isFalse 19 = .ok (.goto 4, 3) := by decide +kernel
theorem dX9_isFalse_22 : decode cX9_isFalse 22 = .ok (.iconst 0, 1) := by decide +kernel
theorem dX9_isFalse_23 : decode cX9_isFalse 23 = .ok (.ireturn, 1) := by decide +kernel
theorem dX9_falseMany_0 : decode cX9_falseMany 0 = .ok (.iconst 0, 1) := by decide +kernel
theorem dX9_falseMany_1 : decode cX9_falseMany 1 = .ok (.istore_n 3, 1) := by decide +kernel
theorem dX9_falseMany_2 : decode cX9_falseMany 2 = .ok (.iload_n 1, 1) := by decide +kernel
theorem dX9_falseMany_3 : decode cX9_falseMany 3 = .ok (.istore 4, 2) := by decide +kernel
theorem dX9_falseMany_5 : decode cX9_falseMany 5 = .ok (.iload 4, 2) := by decide +kernel
theorem dX9_falseMany_7 : decode cX9_falseMany 7 = .ok (.iload_n 2, 1) := by decide +kernel
theorem dX9_falseMany_8 : decode cX9_falseMany 8 = .ok (.if_icmp .gt 26, 3) := by decide +kernel
theorem dX9_falseMany_11 : decode cX9_falseMany 11 = .ok (.iload_n 3, 1) := by decide +kernel
theorem dX9_falseMany_12 : decode cX9_falseMany 12 = .ok (.aload_n 0, 1) := by decide +kernel
theorem dX9_falseMany_13 : decode cX9_falseMany 13 = .ok (.iload 4, 2) := by decide +kernel
theorem dX9_falseMany_15 : decode cX9_falseMany 15 = .ok (.invokevirtual 253, 3) := by decide +kernel
theorem dX9_falseMany_18 : decode cX9_falseMany 18 = .ok (.ifCond .eq 7, 3) := by decide +kernel
theorem dX9_falseMany_21 : decode cX9_falseMany 21 = .ok (.iconst 1, 1) := by decide +kernel
theorem dX9_falseMany_22 : decode cX9_falseMany 22 = .ok (.goto 4, 3) := by decide +kernel
theorem dX9_falseMany_25 : decode cX9_falseMany 25 = .ok (.iconst 0, 1) := by decide +kernel
theorem dX9_falseMany_26 : decode cX9_falseMany 26 = .ok (.iadd, 1) := by decide +kernel
theorem dX9_falseMany_27 : decode cX9_falseMany 27 = .ok (.istore_n 3, 1) := by decide +kernel
theorem dX9_falseMany_28 : decode cX9_falseMany 28 = .ok (.iinc 4 1, 3) := by decide +kernel
theorem dX9_falseMany_31 : decode cX9_falseMany 31 = .ok (.goto (-26), 3) := by decide +kernel
theorem dX9_falseMany_34 : decode cX9_falseMany 34 = .ok (.iload_n 3, 1) := by decide +kernel
theorem dX9_falseMany_35 : decode cX9_falseMany 35 = .ok (.ireturn, 1) := by decide +kernel
theorem dX9_falseKeys_0 : decode cX9_falseKeys 0 = .ok (.aload_n 0, 1) := by decide +kernel
theorem dX9_falseKeys_1 : decode cX9_falseKeys 1 = .ok (.iload_n 1, 1) := by decide +kernel
theorem dX9_falseKeys_2 : decode cX9_falseKeys 2 = .ok (.iload_n 2, 1) := by decide +kernel
theorem dX9_falseKeys_3 : decode cX9_falseKeys 3 = .ok (.invokestatic 250, 3) := by decide +kernel
theorem dX9_falseKeys_6 : decode cX9_falseKeys 6 = .ok (.ifCond .eq 7, 3) := by decide +kernel
theorem dX9_falseKeys_9 : decode cX9_falseKeys 9 = .ok (.iconst 0, 1) := by decide +kernel
theorem dX9_falseKeys_10 : decode cX9_falseKeys 10 = .ok (.goto 4, 3) := by decide +kernel
theorem dX9_falseKeys_13 : decode cX9_falseKeys 13 = .ok (.iconst 1, 1) := by decide +kernel
theorem dX9_falseKeys_14 : decode cX9_falseKeys 14 = .ok (.putfield 64, 3) := by decide +kernel
theorem dX9_falseKeys_17 : decode cX9_falseKeys 17 = .ok (.aload_n 0, 1) := by decide +kernel
theorem dX9_falseKeys_18 : decode cX9_falseKeys 18 = .ok (.getfield 64, 3) := by decide +kernel
theorem dX9_falseKeys_21 : decode cX9_falseKeys 21 = .ok (.ifCond .eq 7, 3) := by decide +kernel
theorem dX9_falseKeys_24 : decode cX9_falseKeys 24 = .ok (.iconst 0, 1) := by decide +kernel
theorem dX9_falseKeys_25 : decode cX9_falseKeys 25 = .ok (.goto 9, 3) := by decide +kernel
theorem dX9_falseKeys_28 : decode cX9_falseKeys 28 = .ok (.aload_n 0, 1) := by decide +kernel
theorem dX9_falseKeys_29 : decode cX9_falseKeys 29 = .ok (.iload_n 1, 1) := by decide +kernel
theorem dX9_falseKeys_30 : decode cX9_falseKeys 30 = .ok (.iload_n 2, 1) := by decide +kernel
theorem dX9_falseKeys_31 : decode cX9_falseKeys 31 = .ok (.invokevirtual 256, 3) := by decide +kernel
theorem dX9_falseKeys_34 : decode cX9_falseKeys 34 = .ok (.ireturn, 1) := by decide +kernel
theorem dX9_falseKey_0 : decode cX9_falseKey 0 = .ok (.aload_n 0, 1) := by decide +kernel
theorem dX9_falseKey_1 : decode cX9_falseKey 1 = .ok (.iconst 0, 1) := by decide +kernel
theorem dX9_falseKey_2 : decode cX9_falseKey 2 = .ok (.putfield 64, 3) := by decide +kernel
theorem dX9_falseKey_5 : decode cX9_falseKey 5 = .ok (.iload_n 1, 1) := by decide +kernel
theorem dX9_falseKey_6 : decode cX9_falseKey 6 = .ok (.istore_n 2, 1) := by decide +kernel
theorem dX9_falseKey_7 : decode cX9_falseKey 7 = .ok (.iconst 0, 1) := by decide +kernel
theorem dX9_falseKey_8 : decode cX9_falseKey 8 = .ok (.istore_n 3, 1) := by decide +kernel
theorem dX9_falseKey_9 : decode cX9_falseKey 9 = .ok (.iload_n 3, 1) := by decide +kernel
theorem dX9_falseKey_10 : decode cX9_falseKey 10 = .ok (.sipush 1000, 3) := by decide +kernel
theorem dX9_falseKey_13 : decode cX9_falseKey 13 = .ok (.if_icmp .ge 30, 3) := by decide +kernel
theorem dX9_falseKey_16 : decode cX9_falseKey 16 = .ok (.iload_n 1, 1) := by decide +kernel
theorem dX9_falseKey_17 : decode cX9_falseKey 17 = .ok (.ifCond .lt 26, 3) := by decide +kernel
theorem dX9_falseKey_20 : decode cX9_falseKey 20 = .ok (.aload_n 0, 1) := by decide +kernel
theorem dX9_falseKey_21 : decode cX9_falseKey 21 = .ok (.iload_n 3, 1) := by decide +kernel
theorem dX9_falseKey_22 : decode cX9_falseKey 22 = .ok (.invokevirtual 253, 3) := by decide +kernel
theorem dX9_falseKey_25 : decode cX9_falseKey 25 = .ok (.ifCond .eq 12, 3) := by decide +kernel
theorem dX9_falseKey_28 : decode cX9_falseKey 28 = .ok (.iload_n 2, 1) := by decide +kernel
theorem dX9_falseKey_29 : decode cX9_falseKey 29 = .ok (.ifCond .ne 5, 3) := by decide +kernel
theorem dX9_falseKey_32 : decode cX9_falseKey 32 = .ok (.iload_n 3, 1) := by decide +kernel
theorem dX9_falseKey_33 : decode cX9_falseKey 33 = .ok (.ireturn, 1) := by decide +kernel
theorem dX9_falseKey_34 : decode cX9_falseKey 34 = .ok (.iinc 2 (-1), 3) := by decide +kernel
theorem dX9_falseKey_37 : decode cX9_falseKey 37 = .ok (.iinc 3 1, 3) := by decide +kernel
theorem dX9_falseKey_40 : decode cX9_falseKey 40 = .ok (.goto (-31), 3) := by decide +kernel
theorem dX9_falseKey_43 : decode cX9_falseKey 43 = .ok (.iconst (-1), 1) := by decide +kernel
theorem dX9_falseKey_44 : decode cX9_falseKey 44 = .ok (.ireturn, 1) := by decide +kernel
theorem dX9_blamed_0 : decode cX9_blamed 0 = .ok (.aload_n 0, 1) := by decide +kernel
theorem dX9_blamed_1 : decode cX9_blamed 1 = .ok (.aload_n 0, 1) := by decide +kernel
theorem dX9_blamed_2 : decode cX9_blamed 2 = .ok (.iload_n 1, 1) := by decide +kernel
theorem dX9_blamed_3 : decode cX9_blamed 3 = .ok (.iload_n 2, 1) := by decide +kernel
theorem dX9_blamed_4 : decode cX9_blamed 4 = .ok (.invokevirtual 244, 3) := by decide +kernel
theorem dX9_blamed_7 : decode cX9_blamed 7 = .ok (.ifCond .eq 7, 3) := by decide +kernel
theorem dX9_blamed_10 : decode cX9_blamed 10 = .ok (.iconst 0, 1) := by decide +kernel
theorem dX9_blamed_11 : decode cX9_blamed 11 = .ok (.goto 4, 3) := by decide +kernel
theorem dX9_blamed_14 : decode cX9_blamed 14 = .ok (.iconst 1, 1) := by decide +kernel
theorem dX9_blamed_15 : decode cX9_blamed 15 = .ok (.putfield 64, 3) := by decide +kernel
theorem dX9_blamed_18 : decode cX9_blamed 18 = .ok (.aload_n 0, 1) := by decide +kernel
theorem dX9_blamed_19 : decode cX9_blamed 19 = .ok (.getfield 64, 3) := by decide +kernel
theorem dX9_blamed_22 : decode cX9_blamed 22 = .ok (.ifCond .eq 5, 3) := by decide +kernel
theorem dX9_blamed_25 : decode cX9_blamed 25 = .ok (.iconst 0, 1) := by decide +kernel
theorem dX9_blamed_26 : decode cX9_blamed 26 = .ok (.ireturn, 1) := by decide +kernel
theorem dX9_blamed_27 : decode cX9_blamed 27 = .ok (.aload_n 0, 1) := by decide +kernel
theorem dX9_blamed_28 : decode cX9_blamed 28 = .ok (.iconst 0, 1) := by decide +kernel
theorem dX9_blamed_29 : decode cX9_blamed 29 = .ok (.sipush 999, 3) := by decide +kernel
theorem dX9_blamed_32 : decode cX9_blamed 32 = .ok (.invokevirtual 256, 3) := by decide +kernel
theorem dX9_blamed_35 : decode cX9_blamed 35 = .ok (.istore_n 3, 1) := by decide +kernel
theorem dX9_blamed_36 : decode cX9_blamed 36 = .ok (.iload_n 1, 1) := by decide +kernel
theorem dX9_blamed_37 : decode cX9_blamed 37 = .ok (.iload_n 2, 1) := by decide +kernel
theorem dX9_blamed_38 : decode cX9_blamed 38 = .ok (.invokestatic 117, 3) := by decide +kernel
theorem dX9_blamed_41 : decode cX9_blamed 41 = .ok (.istore 4, 2) := by decide +kernel
theorem dX9_blamed_43 : decode cX9_blamed 43 = .ok (.aload_n 0, 1) := by decide +kernel
theorem dX9_blamed_44 : decode cX9_blamed 44 = .ok (.getfield 7, 3) := by decide +kernel
theorem dX9_blamed_47 : decode cX9_blamed 47 = .ok (.iload 4, 2) := by decide +kernel
theorem dX9_blamed_49 : decode cX9_blamed 49 = .ok (.iaload, 1) := by decide +kernel
theorem dX9_blamed_50 : decode cX9_blamed 50 = .ok (.istore 5, 2) := by decide +kernel
theorem dX9_blamed_52 : decode cX9_blamed 52 = .ok (.aload_n 0, 1) := by decide +kernel
theorem dX9_blamed_53 : decode cX9_blamed 53 = .ok (.getfield 7, 3) := by decide +kernel
theorem dX9_blamed_56 : decode cX9_blamed 56 = .ok (.iload 4, 2) := by decide +kernel
theorem dX9_blamed_58 : decode cX9_blamed 58 = .ok (.iconst (-1), 1) := by decide +kernel
theorem dX9_blamed_59 : decode cX9_blamed 59 = .ok (.iastore, 1) := by decide +kernel
theorem dX9_blamed_60 : decode cX9_blamed 60 = .ok (.aload_n 0, 1) := by decide +kernel
theorem dX9_blamed_61 : decode cX9_blamed 61 = .ok (.iconst 0, 1) := by decide +kernel
theorem dX9_blamed_62 : decode cX9_blamed 62 = .ok (.sipush 999, 3) := by decide +kernel
theorem dX9_blamed_65 : decode cX9_blamed 65 = .ok (.invokevirtual 256, 3) := by decide +kernel
theorem dX9_blamed_68 : decode cX9_blamed 68 = .ok (.istore 6, 2) := by decide +kernel
theorem dX9_blamed_70 : decode cX9_blamed 70 = .ok (.aload_n 0, 1) := by decide +kernel
theorem dX9_blamed_71 : decode cX9_blamed 71 = .ok (.getfield 7, 3) := by decide +kernel
theorem dX9_blamed_74 : decode cX9_blamed 74 = .ok (.iload 4, 2) := by decide +kernel
theorem dX9_blamed_76 : decode cX9_blamed 76 = .ok (.iload 5, 2) := by decide +kernel
theorem dX9_blamed_78 : decode cX9_blamed 78 = .ok (.iastore, 1) := by decide +kernel
theorem dX9_blamed_79 : decode cX9_blamed 79 = .ok (.iload_n 3, 1) := by decide +kernel
theorem dX9_blamed_80 : decode cX9_blamed 80 = .ok (.iload 6, 2) := by decide +kernel
theorem dX9_blamed_82 : decode cX9_blamed 82 = .ok (.isub, 1) := by decide +kernel
theorem dX9_blamed_83 : decode cX9_blamed 83 = .ok (.ireturn, 1) := by decide +kernel
theorem dX9_twins_0 : decode cX9_twins 0 = .ok (.aload_n 0, 1) := by decide +kernel
theorem dX9_twins_1 : decode cX9_twins 1 = .ok (.iconst 0, 1) := by decide +kernel
theorem dX9_twins_2 : decode cX9_twins 2 = .ok (.putfield 64, 3) := by decide +kernel
theorem dX9_twins_5 : decode cX9_twins 5 = .ok (.iconst 0, 1) := by decide +kernel
theorem dX9_twins_6 : decode cX9_twins 6 = .ok (.istore_n 1, 1) := by decide +kernel
theorem dX9_twins_7 : decode cX9_twins 7 = .ok (.iconst 0, 1) := by decide +kernel
theorem dX9_twins_8 : decode cX9_twins 8 = .ok (.istore_n 2, 1) := by decide +kernel
theorem dX9_twins_9 : decode cX9_twins 9 = .ok (.iload_n 2, 1) := by decide +kernel
theorem dX9_twins_10 : decode cX9_twins 10 = .ok (.aload_n 0, 1) := by decide +kernel
theorem dX9_twins_11 : decode cX9_twins 11 = .ok (.getfield 7, 3) := by decide +kernel
theorem dX9_twins_14 : decode cX9_twins 14 = .ok (.sipush 1042, 3) := by decide +kernel
theorem dX9_twins_17 : decode cX9_twins 17 = .ok (.iaload, 1) := by decide +kernel
theorem dX9_twins_18 : decode cX9_twins 18 = .ok (.if_icmp .ge 111, 3) := by decide +kernel
theorem dX9_twins_21 : decode cX9_twins 21 = .ok (.iconst 0, 1) := by decide +kernel
theorem dX9_twins_22 : decode cX9_twins 22 = .ok (.istore_n 3, 1) := by decide +kernel
theorem dX9_twins_23 : decode cX9_twins 23 = .ok (.iload_n 3, 1) := by decide +kernel
theorem dX9_twins_24 : decode cX9_twins 24 = .ok (.iload_n 2, 1) := by decide +kernel
theorem dX9_twins_25 : decode cX9_twins 25 = .ok (.if_icmp .ge 98, 3) := by decide +kernel
theorem dX9_twins_28 : decode cX9_twins 28 = .ok (.aload_n 0, 1) := by decide +kernel
theorem dX9_twins_29 : decode cX9_twins 29 = .ok (.getfield 7, 3) := by decide +kernel
theorem dX9_twins_32 : decode cX9_twins 32 = .ok (.sipush 1043, 3) := by decide +kernel
theorem dX9_twins_35 : decode cX9_twins 35 = .ok (.iload_n 2, 1) := by decide +kernel
theorem dX9_twins_36 : decode cX9_twins 36 = .ok (.iadd, 1) := by decide +kernel
theorem dX9_twins_37 : decode cX9_twins 37 = .ok (.iaload, 1) := by decide +kernel
theorem dX9_twins_38 : decode cX9_twins 38 = .ok (.istore 4, 2) := by decide +kernel
theorem dX9_twins_40 : decode cX9_twins 40 = .ok (.aload_n 0, 1) := by decide +kernel
theorem dX9_twins_41 : decode cX9_twins 41 = .ok (.getfield 7, 3) := by decide +kernel
theorem dX9_twins_44 : decode cX9_twins 44 = .ok (.sipush 1043, 3) := by decide +kernel
theorem dX9_twins_47 : decode cX9_twins 47 = .ok (.iload_n 3, 1) := by decide +kernel
theorem dX9_twins_48 : decode cX9_twins 48 = .ok (.iadd, 1) := by decide +kernel
theorem dX9_twins_49 : decode cX9_twins 49 = .ok (.iaload, 1) := by decide +kernel
theorem dX9_twins_50 : decode cX9_twins 50 = .ok (.istore 5, 2) := by decide +kernel
theorem dX9_twins_52 : decode cX9_twins 52 = .ok (.iload_n 1, 1) := by decide +kernel
theorem dX9_twins_53 : decode cX9_twins 53 = .ok (.aload_n 0, 1) := by decide +kernel
theorem dX9_twins_54 : decode cX9_twins 54 = .ok (.iload 4, 2) := by decide +kernel
theorem dX9_twins_56 : decode cX9_twins 56 = .ok (.invokevirtual 111, 3) := by decide +kernel
theorem dX9_twins_59 : decode cX9_twins 59 = .ok (.aload_n 0, 1) := by decide +kernel
theorem dX9_twins_60 : decode cX9_twins 60 = .ok (.iload 5, 2) := by decide +kernel
theorem dX9_twins_62 : decode cX9_twins 62 = .ok (.invokevirtual 111, 3) := by decide +kernel
theorem dX9_twins_65 : decode cX9_twins 65 = .ok (.if_icmp .ne 49, 3) := by decide +kernel
theorem dX9_twins_68 : decode cX9_twins 68 = .ok (.aload_n 0, 1) := by decide +kernel
theorem dX9_twins_69 : decode cX9_twins 69 = .ok (.iload 4, 2) := by decide +kernel
theorem dX9_twins_71 : decode cX9_twins 71 = .ok (.invokevirtual 108, 3) := by decide +kernel
theorem dX9_twins_74 : decode cX9_twins 74 = .ok (.aload_n 0, 1) := by decide +kernel
theorem dX9_twins_75 : decode cX9_twins 75 = .ok (.iload 5, 2) := by decide +kernel
theorem dX9_twins_77 : decode cX9_twins 77 = .ok (.invokevirtual 108, 3) := by decide +kernel
theorem dX9_twins_80 : decode cX9_twins 80 = .ok (.if_icmp .ne 34, 3) := by decide +kernel
theorem dX9_twins_83 : decode cX9_twins 83 = .ok (.aload_n 0, 1) := by decide +kernel
theorem dX9_twins_84 : decode cX9_twins 84 = .ok (.iload 4, 2) := by decide +kernel
theorem dX9_twins_86 : decode cX9_twins 86 = .ok (.aload_n 0, 1) := by decide +kernel
theorem dX9_twins_87 : decode cX9_twins 87 = .ok (.getfield 7, 3) := by decide +kernel
theorem dX9_twins_90 : decode cX9_twins 90 = .ok (.iconst 2, 1) := by decide +kernel
theorem dX9_twins_91 : decode cX9_twins 91 = .ok (.iaload, 1) := by decide +kernel
theorem dX9_twins_92 : decode cX9_twins 92 = .ok (.invokevirtual 124, 3) := by decide +kernel
theorem dX9_twins_95 : decode cX9_twins 95 = .ok (.aload_n 0, 1) := by decide +kernel
theorem dX9_twins_96 : decode cX9_twins 96 = .ok (.iload 5, 2) := by decide +kernel
theorem dX9_twins_98 : decode cX9_twins 98 = .ok (.aload_n 0, 1) := by decide +kernel
theorem dX9_twins_99 : decode cX9_twins 99 = .ok (.getfield 7, 3) := by decide +kernel
theorem dX9_twins_102 : decode cX9_twins 102 = .ok (.iconst 2, 1) := by decide +kernel
theorem dX9_twins_103 : decode cX9_twins 103 = .ok (.iaload, 1) := by decide +kernel
theorem dX9_twins_104 : decode cX9_twins 104 = .ok (.invokevirtual 124, 3) := by decide +kernel
theorem dX9_twins_107 : decode cX9_twins 107 = .ok (.if_icmp .ne 7, 3) := by decide +kernel
theorem dX9_twins_110 : decode cX9_twins 110 = .ok (.iconst 1, 1) := by decide +kernel
theorem dX9_twins_111 : decode cX9_twins 111 = .ok (.goto 4, 3) := by decide +kernel
theorem dX9_twins_114 : decode cX9_twins 114 = .ok (.iconst 0, 1) := by decide +kernel
theorem dX9_twins_115 : decode cX9_twins 115 = .ok (.iadd, 1) := by decide +kernel
theorem dX9_twins_116 : decode cX9_twins 116 = .ok (.istore_n 1, 1) := by decide +kernel
theorem dX9_twins_117 : decode cX9_twins 117 = .ok (.iinc 3 1, 3) := by decide +kernel
theorem dX9_twins_120 : decode cX9_twins 120 = .ok (.goto (-97), 3) := by decide +kernel
theorem dX9_twins_123 : decode cX9_twins 123 = .ok (.iinc 2 1, 3) := by decide +kernel
theorem dX9_twins_126 : decode cX9_twins 126 = .ok (.goto (-117), 3) := by decide +kernel
theorem dX9_twins_129 : decode cX9_twins 129 = .ok (.iload_n 1, 1) := by decide +kernel
theorem dX9_twins_130 : decode cX9_twins 130 = .ok (.ireturn, 1) := by decide +kernel
theorem dX9_bestSeed_0 : decode cX9_bestSeed 0 = .ok (.aload_n 0, 1) := by decide +kernel
theorem dX9_bestSeed_1 : decode cX9_bestSeed 1 = .ok (.iload_n 1, 1) := by decide +kernel
theorem dX9_bestSeed_2 : decode cX9_bestSeed 2 = .ok (.iconst 1, 1) := by decide +kernel
theorem dX9_bestSeed_3 : decode cX9_bestSeed 3 = .ok (.bipush 20, 2) := by decide +kernel
theorem dX9_bestSeed_5 : decode cX9_bestSeed 5 = .ok (.invokestatic 78, 3) := by decide +kernel
theorem dX9_bestSeed_8 : decode cX9_bestSeed 8 = .ok (.ifCond .eq 7, 3) := by decide +kernel
theorem dX9_bestSeed_11 : decode cX9_bestSeed 11 = .ok (.iconst 0, 1) := by decide +kernel
theorem dX9_bestSeed_12 : decode cX9_bestSeed 12 = .ok (.goto 4, 3) := by decide +kernel
theorem dX9_bestSeed_15 : decode cX9_bestSeed 15 = .ok (.iconst 1, 1) := by decide +kernel
theorem dX9_bestSeed_16 : decode cX9_bestSeed 16 = .ok (.putfield 64, 3) := by decide +kernel
theorem dX9_bestSeed_19 : decode cX9_bestSeed 19 = .ok (.aload_n 0, 1) := by decide +kernel
theorem dX9_bestSeed_20 : decode cX9_bestSeed 20 = .ok (.getfield 64, 3) := by decide +kernel
theorem dX9_bestSeed_23 : decode cX9_bestSeed 23 = .ok (.ifCond .eq 5, 3) := by decide +kernel
theorem dX9_bestSeed_26 : decode cX9_bestSeed 26 = .ok (.iconst 0, 1) := by decide +kernel
theorem dX9_bestSeed_27 : decode cX9_bestSeed 27 = .ok (.ireturn, 1) := by decide +kernel
theorem dX9_bestSeed_28 : decode cX9_bestSeed 28 = .ok (.aload_n 0, 1) := by decide +kernel
theorem dX9_bestSeed_29 : decode cX9_bestSeed 29 = .ok (.iconst 4, 1) := by decide +kernel
theorem dX9_bestSeed_30 : decode cX9_bestSeed 30 = .ok (.invokevirtual 74, 3) := by decide +kernel
theorem dX9_bestSeed_33 : decode cX9_bestSeed 33 = .ok (.iconst (-1), 1) := by decide +kernel
theorem dX9_bestSeed_34 : decode cX9_bestSeed 34 = .ok (.istore_n 2, 1) := by decide +kernel
theorem dX9_bestSeed_35 : decode cX9_bestSeed 35 = .ok (.sipush 1001, 3) := by decide +kernel
theorem dX9_bestSeed_38 : decode cX9_bestSeed 38 = .ok (.istore_n 3, 1) := by decide +kernel
theorem dX9_bestSeed_39 : decode cX9_bestSeed 39 = .ok (.iconst 0, 1) := by decide +kernel
theorem dX9_bestSeed_40 : decode cX9_bestSeed 40 = .ok (.istore 4, 2) := by decide +kernel
theorem dX9_bestSeed_42 : decode cX9_bestSeed 42 = .ok (.iload 4, 2) := by decide +kernel
theorem dX9_bestSeed_44 : decode cX9_bestSeed 44 = .ok (.iload_n 1, 1) := by decide +kernel
theorem dX9_bestSeed_45 : decode cX9_bestSeed 45 = .ok (.if_icmp .ge 78, 3) := by decide +kernel
theorem dX9_bestSeed_48 : decode cX9_bestSeed 48 = .ok (.aload_n 0, 1) := by decide +kernel
theorem dX9_bestSeed_49 : decode cX9_bestSeed 49 = .ok (.aload_n 0, 1) := by decide +kernel
theorem dX9_bestSeed_50 : decode cX9_bestSeed 50 = .ok (.getfield 7, 3) := by decide +kernel
theorem dX9_bestSeed_53 : decode cX9_bestSeed 53 = .ok (.iconst 0, 1) := by decide +kernel
theorem dX9_bestSeed_54 : decode cX9_bestSeed 54 = .ok (.iaload, 1) := by decide +kernel
theorem dX9_bestSeed_55 : decode cX9_bestSeed 55 = .ok (.aload_n 0, 1) := by decide +kernel
theorem dX9_bestSeed_56 : decode cX9_bestSeed 56 = .ok (.getfield 7, 3) := by decide +kernel
theorem dX9_bestSeed_59 : decode cX9_bestSeed 59 = .ok (.iconst 1, 1) := by decide +kernel
theorem dX9_bestSeed_60 : decode cX9_bestSeed 60 = .ok (.iaload, 1) := by decide +kernel
theorem dX9_bestSeed_61 : decode cX9_bestSeed 61 = .ok (.aload_n 0, 1) := by decide +kernel
theorem dX9_bestSeed_62 : decode cX9_bestSeed 62 = .ok (.getfield 7, 3) := by decide +kernel
theorem dX9_bestSeed_65 : decode cX9_bestSeed 65 = .ok (.iconst 2, 1) := by decide +kernel
theorem dX9_bestSeed_66 : decode cX9_bestSeed 66 = .ok (.iaload, 1) := by decide +kernel
theorem dX9_bestSeed_67 : decode cX9_bestSeed 67 = .ok (.iload 4, 2) := by decide +kernel
theorem dX9_bestSeed_69 : decode cX9_bestSeed 69 = .ok (.invokevirtual 235, 3) := by decide +kernel
theorem dX9_bestSeed_72 : decode cX9_bestSeed 72 = .ok (.ifCond .eq 14, 3) := by decide +kernel
theorem dX9_bestSeed_75 : decode cX9_bestSeed 75 = .ok (.aload_n 0, 1) := by decide +kernel
theorem dX9_bestSeed_76 : decode cX9_bestSeed 76 = .ok (.iconst 0, 1) := by decide +kernel
theorem dX9_bestSeed_77 : decode cX9_bestSeed 77 = .ok (.sipush 999, 3) := by decide +kernel
theorem dX9_bestSeed_80 : decode cX9_bestSeed 80 = .ok (.invokevirtual 256, 3) := by decide +kernel
theorem dX9_bestSeed_83 : decode cX9_bestSeed 83 = .ok (.goto 6, 3) := by decide +kernel
theorem dX9_bestSeed_86 : decode cX9_bestSeed 86 = .ok (.sipush 1001, 3) := by decide +kernel
theorem dX9_bestSeed_89 : decode cX9_bestSeed 89 = .ok (.istore 5, 2) := by decide +kernel
theorem dX9_bestSeed_91 : decode cX9_bestSeed 91 = .ok (.iload 5, 2) := by decide +kernel
theorem dX9_bestSeed_93 : decode cX9_bestSeed 93 = .ok (.iload_n 3, 1) := by decide +kernel
theorem dX9_bestSeed_94 : decode cX9_bestSeed 94 = .ok (.if_icmp .ge 8, 3) := by decide +kernel
theorem dX9_bestSeed_97 : decode cX9_bestSeed 97 = .ok (.iload 4, 2) := by decide +kernel
theorem dX9_bestSeed_99 : decode cX9_bestSeed 99 = .ok (.goto 4, 3) := by decide +kernel
theorem dX9_bestSeed_102 : decode cX9_bestSeed 102 = .ok (.iload_n 2, 1) := by decide +kernel
theorem dX9_bestSeed_103 : decode cX9_bestSeed 103 = .ok (.istore_n 2, 1) := by decide +kernel
theorem dX9_bestSeed_104 : decode cX9_bestSeed 104 = .ok (.iload 5, 2) := by decide +kernel
theorem dX9_bestSeed_106 : decode cX9_bestSeed 106 = .ok (.iload_n 3, 1) := by decide +kernel
theorem dX9_bestSeed_107 : decode cX9_bestSeed 107 = .ok (.if_icmp .ge 8, 3) := by decide +kernel
theorem dX9_bestSeed_110 : decode cX9_bestSeed 110 = .ok (.iload 5, 2) := by decide +kernel
theorem dX9_bestSeed_112 : decode cX9_bestSeed 112 = .ok (.goto 4, 3) := by decide +kernel
theorem dX9_bestSeed_115 : decode cX9_bestSeed 115 = .ok (.iload_n 3, 1) := by decide +kernel
theorem dX9_bestSeed_116 : decode cX9_bestSeed 116 = .ok (.istore_n 3, 1) := by decide +kernel
theorem dX9_bestSeed_117 : decode cX9_bestSeed 117 = .ok (.iinc 4 1, 3) := by decide +kernel
theorem dX9_bestSeed_120 : decode cX9_bestSeed 120 = .ok (.goto (-78), 3) := by decide +kernel
theorem dX9_bestSeed_123 : decode cX9_bestSeed 123 = .ok (.aload_n 0, 1) := by decide +kernel
theorem dX9_bestSeed_124 : decode cX9_bestSeed 124 = .ok (.iconst 4, 1) := by decide +kernel
theorem dX9_bestSeed_125 : decode cX9_bestSeed 125 = .ok (.invokevirtual 206, 3) := by decide +kernel
theorem dX9_bestSeed_128 : decode cX9_bestSeed 128 = .ok (.iload_n 2, 1) := by decide +kernel
theorem dX9_bestSeed_129 : decode cX9_bestSeed 129 = .ok (.ireturn, 1) := by decide +kernel
theorem dX9_leastBits_0 : decode cX9_leastBits 0 = .ok (.aload_n 0, 1) := by decide +kernel
theorem dX9_leastBits_1 : decode cX9_leastBits 1 = .ok (.iload_n 1, 1) := by decide +kernel
theorem dX9_leastBits_2 : decode cX9_leastBits 2 = .ok (.iconst 1, 1) := by decide +kernel
theorem dX9_leastBits_3 : decode cX9_leastBits 3 = .ok (.iconst 4, 1) := by decide +kernel
theorem dX9_leastBits_4 : decode cX9_leastBits 4 = .ok (.invokestatic 78, 3) := by decide +kernel
theorem dX9_leastBits_7 : decode cX9_leastBits 7 = .ok (.ifCond .eq 17, 3) := by decide +kernel
theorem dX9_leastBits_10 : decode cX9_leastBits 10 = .ok (.iload_n 2, 1) := by decide +kernel
theorem dX9_leastBits_11 : decode cX9_leastBits 11 = .ok (.iconst 1, 1) := by decide +kernel
theorem dX9_leastBits_12 : decode cX9_leastBits 12 = .ok (.bipush 8, 2) := by decide +kernel
theorem dX9_leastBits_14 : decode cX9_leastBits 14 = .ok (.invokestatic 78, 3) := by decide +kernel
theorem dX9_leastBits_17 : decode cX9_leastBits 17 = .ok (.ifCond .eq 7, 3) := by decide +kernel
theorem dX9_leastBits_20 : decode cX9_leastBits 20 = .ok (.iconst 0, 1) := by decide +kernel
theorem dX9_leastBits_21 : decode cX9_leastBits 21 = .ok (.goto 4, 3) := by decide +kernel
theorem dX9_leastBits_24 : decode cX9_leastBits 24 = .ok (.iconst 1, 1) := by decide +kernel
theorem dX9_leastBits_25 : decode cX9_leastBits 25 = .ok (.putfield 64, 3) := by decide +kernel
theorem dX9_leastBits_28 : decode cX9_leastBits 28 = .ok (.aload_n 0, 1) := by decide +kernel
theorem dX9_leastBits_29 : decode cX9_leastBits 29 = .ok (.getfield 64, 3) := by decide +kernel
theorem dX9_leastBits_32 : decode cX9_leastBits 32 = .ok (.ifCond .eq 5, 3) := by decide +kernel
theorem dX9_leastBits_35 : decode cX9_leastBits 35 = .ok (.iconst 0, 1) := by decide +kernel
theorem dX9_leastBits_36 : decode cX9_leastBits 36 = .ok (.ireturn, 1) := by decide +kernel
theorem dX9_leastBits_37 : decode cX9_leastBits 37 = .ok (.aload_n 0, 1) := by decide +kernel
theorem dX9_leastBits_38 : decode cX9_leastBits 38 = .ok (.iconst 4, 1) := by decide +kernel
theorem dX9_leastBits_39 : decode cX9_leastBits 39 = .ok (.invokevirtual 74, 3) := by decide +kernel
theorem dX9_leastBits_42 : decode cX9_leastBits 42 = .ok (.iconst 1, 1) := by decide +kernel
theorem dX9_leastBits_43 : decode cX9_leastBits 43 = .ok (.istore_n 3, 1) := by decide +kernel
theorem dX9_leastBits_44 : decode cX9_leastBits 44 = .ok (.iload_n 3, 1) := by decide +kernel
theorem dX9_leastBits_45 : decode cX9_leastBits 45 = .ok (.bipush 7, 2) := by decide +kernel
theorem dX9_leastBits_47 : decode cX9_leastBits 47 = .ok (.if_icmp .ge 25, 3) := by decide +kernel
theorem dX9_leastBits_50 : decode cX9_leastBits 50 = .ok (.aload_n 0, 1) := by decide +kernel
theorem dX9_leastBits_51 : decode cX9_leastBits 51 = .ok (.iload_n 3, 1) := by decide +kernel
theorem dX9_leastBits_52 : decode cX9_leastBits 52 = .ok (.iload_n 1, 1) := by decide +kernel
theorem dX9_leastBits_53 : decode cX9_leastBits 53 = .ok (.iload_n 2, 1) := by decide +kernel
theorem dX9_leastBits_54 : decode cX9_leastBits 54 = .ok (.aload_n 0, 1) := by decide +kernel
theorem dX9_leastBits_55 : decode cX9_leastBits 55 = .ok (.getfield 7, 3) := by decide +kernel
theorem dX9_leastBits_58 : decode cX9_leastBits 58 = .ok (.iconst 3, 1) := by decide +kernel
theorem dX9_leastBits_59 : decode cX9_leastBits 59 = .ok (.iaload, 1) := by decide +kernel
theorem dX9_leastBits_60 : decode cX9_leastBits 60 = .ok (.invokevirtual 235, 3) := by decide +kernel
theorem dX9_leastBits_63 : decode cX9_leastBits 63 = .ok (.ifCond .ne 9, 3) := by decide +kernel
theorem dX9_leastBits_66 : decode cX9_leastBits 66 = .ok (.iinc 3 1, 3) := by decide +kernel
theorem dX9_leastBits_69 : decode cX9_leastBits 69 = .ok (.goto (-25), 3) := by decide +kernel
theorem dX9_leastBits_72 : decode cX9_leastBits 72 = .ok (.aload_n 0, 1) := by decide +kernel
theorem dX9_leastBits_73 : decode cX9_leastBits 73 = .ok (.iconst 4, 1) := by decide +kernel
theorem dX9_leastBits_74 : decode cX9_leastBits 74 = .ok (.invokevirtual 206, 3) := by decide +kernel
theorem dX9_leastBits_77 : decode cX9_leastBits 77 = .ok (.iload_n 3, 1) := by decide +kernel
theorem dX9_leastBits_78 : decode cX9_leastBits 78 = .ok (.bipush 7, 2) := by decide +kernel
theorem dX9_leastBits_80 : decode cX9_leastBits 80 = .ok (.if_icmp .ge 7, 3) := by decide +kernel
theorem dX9_leastBits_83 : decode cX9_leastBits 83 = .ok (.iload_n 3, 1) := by decide +kernel
theorem dX9_leastBits_84 : decode cX9_leastBits 84 = .ok (.goto 4, 3) := by decide +kernel
theorem dX9_leastBits_87 : decode cX9_leastBits 87 = .ok (.iconst (-1), 1) := by decide +kernel
theorem dX9_leastBits_88 : decode cX9_leastBits 88 = .ok (.ireturn, 1) := by decide +kernel
theorem dX9_distributes_0 : decode cX9_distributes 0 = .ok (.iconst 0, 1) := by decide +kernel
theorem dX9_distributes_1 : decode cX9_distributes 1 = .ok (.istore_n 3, 1) := by decide +kernel
theorem dX9_distributes_2 : decode cX9_distributes 2 = .ok (.iload_n 3, 1) := by decide +kernel
theorem dX9_distributes_3 : decode cX9_distributes 3 = .ok (.bipush 64, 2) := by decide +kernel
theorem dX9_distributes_5 : decode cX9_distributes 5 = .ok (.if_icmp .ge 16, 3) := by decide +kernel
theorem dX9_distributes_8 : decode cX9_distributes 8 = .ok (.aload_n 0, 1) := by decide +kernel
theorem dX9_distributes_9 : decode cX9_distributes 9 = .ok (.getfield 52, 3) := by decide +kernel
theorem dX9_distributes_12 : decode cX9_distributes 12 = .ok (.iload_n 3, 1) := by decide +kernel
theorem dX9_distributes_13 : decode cX9_distributes 13 = .ok (.iconst (-1), 1) := by decide +kernel
theorem dX9_distributes_14 : decode cX9_distributes 14 = .ok (.iastore, 1) := by decide +kernel
theorem dX9_distributes_15 : decode cX9_distributes 15 = .ok (.iinc 3 1, 3) := by decide +kernel
theorem dX9_distributes_18 : decode cX9_distributes 18 = .ok (.goto (-16), 3) := by decide +kernel
theorem dX9_distributes_21 : decode cX9_distributes 21 = .ok (.aload_n 0, 1) := by decide +kernel
theorem dX9_distributes_22 : decode cX9_distributes 22 = .ok (.getfield 49, 3) := by decide +kernel
theorem dX9_distributes_25 : decode cX9_distributes 25 = .ok (.iconst 0, 1) := by decide +kernel
theorem dX9_distributes_26 : decode cX9_distributes 26 = .ok (.aload_n 0, 1) := by decide +kernel
theorem dX9_distributes_27 : decode cX9_distributes 27 = .ok (.getfield 37, 3) := by decide +kernel
theorem dX9_distributes_30 : decode cX9_distributes 30 = .ok (.iload_n 1, 1) := by decide +kernel
theorem dX9_distributes_31 : decode cX9_distributes 31 = .ok (.iaload, 1) := by decide +kernel
theorem dX9_distributes_32 : decode cX9_distributes 32 = .ok (.iastore, 1) := by decide +kernel
theorem dX9_distributes_33 : decode cX9_distributes 33 = .ok (.aload_n 0, 1) := by decide +kernel
theorem dX9_distributes_34 : decode cX9_distributes 34 = .ok (.getfield 49, 3) := by decide +kernel
theorem dX9_distributes_37 : decode cX9_distributes 37 = .ok (.iconst 1, 1) := by decide +kernel
theorem dX9_distributes_38 : decode cX9_distributes 38 = .ok (.aload_n 0, 1) := by decide +kernel
theorem dX9_distributes_39 : decode cX9_distributes 39 = .ok (.getfield 40, 3) := by decide +kernel
theorem dX9_distributes_42 : decode cX9_distributes 42 = .ok (.iload_n 1, 1) := by decide +kernel
theorem dX9_distributes_43 : decode cX9_distributes 43 = .ok (.iaload, 1) := by decide +kernel
theorem dX9_distributes_44 : decode cX9_distributes 44 = .ok (.iastore, 1) := by decide +kernel
theorem dX9_distributes_45 : decode cX9_distributes 45 = .ok (.aload_n 0, 1) := by decide +kernel
theorem dX9_distributes_46 : decode cX9_distributes 46 = .ok (.getfield 52, 3) := by decide +kernel
theorem dX9_distributes_49 : decode cX9_distributes 49 = .ok (.aload_n 0, 1) := by decide +kernel
theorem dX9_distributes_50 : decode cX9_distributes 50 = .ok (.getfield 37, 3) := by decide +kernel
theorem dX9_distributes_53 : decode cX9_distributes 53 = .ok (.iload_n 1, 1) := by decide +kernel
theorem dX9_distributes_54 : decode cX9_distributes 54 = .ok (.iaload, 1) := by decide +kernel
theorem dX9_distributes_55 : decode cX9_distributes 55 = .ok (.iload_n 1, 1) := by decide +kernel
theorem dX9_distributes_56 : decode cX9_distributes 56 = .ok (.iastore, 1) := by decide +kernel
theorem dX9_distributes_57 : decode cX9_distributes 57 = .ok (.aload_n 0, 1) := by decide +kernel
theorem dX9_distributes_58 : decode cX9_distributes 58 = .ok (.getfield 52, 3) := by decide +kernel
theorem dX9_distributes_61 : decode cX9_distributes 61 = .ok (.aload_n 0, 1) := by decide +kernel
theorem dX9_distributes_62 : decode cX9_distributes 62 = .ok (.getfield 40, 3) := by decide +kernel
theorem dX9_distributes_65 : decode cX9_distributes 65 = .ok (.iload_n 1, 1) := by decide +kernel
theorem dX9_distributes_66 : decode cX9_distributes 66 = .ok (.iaload, 1) := by decide +kernel
theorem dX9_distributes_67 : decode cX9_distributes 67 = .ok (.iload_n 1, 1) := by decide +kernel
theorem dX9_distributes_68 : decode cX9_distributes 68 = .ok (.iastore, 1) := by decide +kernel
theorem dX9_distributes_69 : decode cX9_distributes 69 = .ok (.iconst 2, 1) := by decide +kernel
theorem dX9_distributes_70 : decode cX9_distributes 70 = .ok (.istore_n 3, 1) := by decide +kernel
theorem dX9_distributes_71 : decode cX9_distributes 71 = .ok (.iconst 0, 1) := by decide +kernel
theorem dX9_distributes_72 : decode cX9_distributes 72 = .ok (.istore 4, 2) := by decide +kernel
theorem dX9_distributes_74 : decode cX9_distributes 74 = .ok (.iload 4, 2) := by decide +kernel
theorem dX9_distributes_76 : decode cX9_distributes 76 = .ok (.iload_n 3, 1) := by decide +kernel
theorem dX9_distributes_77 : decode cX9_distributes 77 = .ok (.if_icmp .ge 127, 3) := by decide +kernel
theorem dX9_distributes_80 : decode cX9_distributes 80 = .ok (.aload_n 0, 1) := by decide +kernel
theorem dX9_distributes_81 : decode cX9_distributes 81 = .ok (.getfield 46, 3) := by decide +kernel
theorem dX9_distributes_84 : decode cX9_distributes 84 = .ok (.aload_n 0, 1) := by decide +kernel
theorem dX9_distributes_85 : decode cX9_distributes 85 = .ok (.getfield 49, 3) := by decide +kernel
theorem dX9_distributes_88 : decode cX9_distributes 88 = .ok (.iload 4, 2) := by decide +kernel
theorem dX9_distributes_90 : decode cX9_distributes 90 = .ok (.iaload, 1) := by decide +kernel
theorem dX9_distributes_91 : decode cX9_distributes 91 = .ok (.iaload, 1) := by decide +kernel
theorem dX9_distributes_92 : decode cX9_distributes 92 = .ok (.iload_n 2, 1) := by decide +kernel
theorem dX9_distributes_93 : decode cX9_distributes 93 = .ok (.if_icmp .ge 17, 3) := by decide +kernel
theorem dX9_distributes_96 : decode cX9_distributes 96 = .ok (.aload_n 0, 1) := by decide +kernel
theorem dX9_distributes_97 : decode cX9_distributes 97 = .ok (.iload_n 1, 1) := by decide +kernel
theorem dX9_distributes_98 : decode cX9_distributes 98 = .ok (.aload_n 0, 1) := by decide +kernel
theorem dX9_distributes_99 : decode cX9_distributes 99 = .ok (.getfield 49, 3) := by decide +kernel
theorem dX9_distributes_102 : decode cX9_distributes 102 = .ok (.iload 4, 2) := by decide +kernel
theorem dX9_distributes_104 : decode cX9_distributes 104 = .ok (.iaload, 1) := by decide +kernel
theorem dX9_distributes_105 : decode cX9_distributes 105 = .ok (.invokevirtual 259, 3) := by decide +kernel
theorem dX9_distributes_108 : decode cX9_distributes 108 = .ok (.iconst 1, 1) := by decide +kernel
theorem dX9_distributes_109 : decode cX9_distributes 109 = .ok (.ireturn, 1) := by decide +kernel
theorem dX9_distributes_110 : decode cX9_distributes 110 = .ok (.iconst 0, 1) := by decide +kernel
theorem dX9_distributes_111 : decode cX9_distributes 111 = .ok (.istore 5, 2) := by decide +kernel
theorem dX9_distributes_113 : decode cX9_distributes 113 = .ok (.iload 5, 2) := by decide +kernel
theorem dX9_distributes_115 : decode cX9_distributes 115 = .ok (.iload_n 1, 1) := by decide +kernel
theorem dX9_distributes_116 : decode cX9_distributes 116 = .ok (.if_icmp .ge 82, 3) := by decide +kernel
theorem dX9_distributes_119 : decode cX9_distributes 119 = .ok (.aload_n 0, 1) := by decide +kernel
theorem dX9_distributes_120 : decode cX9_distributes 120 = .ok (.getfield 37, 3) := by decide +kernel
theorem dX9_distributes_123 : decode cX9_distributes 123 = .ok (.iload 5, 2) := by decide +kernel
theorem dX9_distributes_125 : decode cX9_distributes 125 = .ok (.iaload, 1) := by decide +kernel
theorem dX9_distributes_126 : decode cX9_distributes 126 = .ok (.aload_n 0, 1) := by decide +kernel
theorem dX9_distributes_127 : decode cX9_distributes 127 = .ok (.getfield 40, 3) := by decide +kernel
theorem dX9_distributes_130 : decode cX9_distributes 130 = .ok (.iload 5, 2) := by decide +kernel
theorem dX9_distributes_132 : decode cX9_distributes 132 = .ok (.iaload, 1) := by decide +kernel
theorem dX9_distributes_133 : decode cX9_distributes 133 = .ok (.ixor, 1) := by decide +kernel
theorem dX9_distributes_134 : decode cX9_distributes 134 = .ok (.aload_n 0, 1) := by decide +kernel
theorem dX9_distributes_135 : decode cX9_distributes 135 = .ok (.getfield 43, 3) := by decide +kernel
theorem dX9_distributes_138 : decode cX9_distributes 138 = .ok (.iload 5, 2) := by decide +kernel
theorem dX9_distributes_140 : decode cX9_distributes 140 = .ok (.iaload, 1) := by decide +kernel
theorem dX9_distributes_141 : decode cX9_distributes 141 = .ok (.ixor, 1) := by decide +kernel
theorem dX9_distributes_142 : decode cX9_distributes 142 = .ok (.istore 6, 2) := by decide +kernel
theorem dX9_distributes_144 : decode cX9_distributes 144 = .ok (.aload_n 0, 1) := by decide +kernel
theorem dX9_distributes_145 : decode cX9_distributes 145 = .ok (.getfield 43, 3) := by decide +kernel
theorem dX9_distributes_148 : decode cX9_distributes 148 = .ok (.iload 5, 2) := by decide +kernel
theorem dX9_distributes_150 : decode cX9_distributes 150 = .ok (.iaload, 1) := by decide +kernel
theorem dX9_distributes_151 : decode cX9_distributes 151 = .ok (.aload_n 0, 1) := by decide +kernel
theorem dX9_distributes_152 : decode cX9_distributes 152 = .ok (.getfield 49, 3) := by decide +kernel
theorem dX9_distributes_155 : decode cX9_distributes 155 = .ok (.iload 4, 2) := by decide +kernel
theorem dX9_distributes_157 : decode cX9_distributes 157 = .ok (.iaload, 1) := by decide +kernel
theorem dX9_distributes_158 : decode cX9_distributes 158 = .ok (.if_icmp .ne 34, 3) := by decide +kernel
theorem dX9_distributes_161 : decode cX9_distributes 161 = .ok (.aload_n 0, 1) := by decide +kernel
theorem dX9_distributes_162 : decode cX9_distributes 162 = .ok (.getfield 52, 3) := by decide +kernel
theorem dX9_distributes_165 : decode cX9_distributes 165 = .ok (.iload 6, 2) := by decide +kernel
theorem dX9_distributes_167 : decode cX9_distributes 167 = .ok (.iaload, 1) := by decide +kernel
theorem dX9_distributes_168 : decode cX9_distributes 168 = .ok (.iconst (-1), 1) := by decide +kernel
theorem dX9_distributes_169 : decode cX9_distributes 169 = .ok (.if_icmp .ne 23, 3) := by decide +kernel
theorem dX9_distributes_172 : decode cX9_distributes 172 = .ok (.aload_n 0, 1) := by decide +kernel
theorem dX9_distributes_173 : decode cX9_distributes 173 = .ok (.getfield 52, 3) := by decide +kernel
theorem dX9_distributes_176 : decode cX9_distributes 176 = .ok (.iload 6, 2) := by decide +kernel
theorem dX9_distributes_178 : decode cX9_distributes 178 = .ok (.iload 5, 2) := by decide +kernel
theorem dX9_distributes_180 : decode cX9_distributes 180 = .ok (.iastore, 1) := by decide +kernel
theorem dX9_distributes_181 : decode cX9_distributes 181 = .ok (.aload_n 0, 1) := by decide +kernel
theorem dX9_distributes_182 : decode cX9_distributes 182 = .ok (.getfield 49, 3) := by decide +kernel
theorem dX9_distributes_185 : decode cX9_distributes 185 = .ok (.iload_n 3, 1) := by decide +kernel
theorem dX9_distributes_186 : decode cX9_distributes 186 = .ok (.iload 6, 2) := by decide +kernel
theorem dX9_distributes_188 : decode cX9_distributes 188 = .ok (.iastore, 1) := by decide +kernel
theorem dX9_distributes_189 : decode cX9_distributes 189 = .ok (.iinc 3 1, 3) := by decide +kernel
theorem dX9_distributes_192 : decode cX9_distributes 192 = .ok (.iinc 5 1, 3) := by decide +kernel
theorem dX9_distributes_195 : decode cX9_distributes 195 = .ok (.goto (-82), 3) := by decide +kernel
theorem dX9_distributes_198 : decode cX9_distributes 198 = .ok (.iinc 4 1, 3) := by decide +kernel
theorem dX9_distributes_201 : decode cX9_distributes 201 = .ok (.goto (-127), 3) := by decide +kernel
theorem dX9_distributes_204 : decode cX9_distributes 204 = .ok (.iconst 0, 1) := by decide +kernel
theorem dX9_distributes_205 : decode cX9_distributes 205 = .ok (.ireturn, 1) := by decide +kernel
theorem dX9_shifts_0 : decode cX9_shifts 0 = .ok (.aload_n 0, 1) := by decide +kernel
theorem dX9_shifts_1 : decode cX9_shifts 1 = .ok (.getfield 46, 3) := by decide +kernel
theorem dX9_shifts_4 : decode cX9_shifts 4 = .ok (.iload_n 2, 1) := by decide +kernel
theorem dX9_shifts_5 : decode cX9_shifts 5 = .ok (.dup2, 1) := by decide +kernel
theorem dX9_shifts_6 : decode cX9_shifts 6 = .ok (.iaload, 1) := by decide +kernel
theorem dX9_shifts_7 : decode cX9_shifts 7 = .ok (.iconst 1, 1) := by decide +kernel
theorem dX9_shifts_8 : decode cX9_shifts 8 = .ok (.iadd, 1) := by decide +kernel
theorem dX9_shifts_9 : decode cX9_shifts 9 = .ok (.iastore, 1) := by decide +kernel
theorem dX9_shifts_10 : decode cX9_shifts 10 = .ok (.iload_n 2, 1) := by decide +kernel
theorem dX9_shifts_11 : decode cX9_shifts 11 = .ok (.istore_n 3, 1) := by decide +kernel
theorem dX9_shifts_12 : decode cX9_shifts 12 = .ok (.aload_n 0, 1) := by decide +kernel
theorem dX9_shifts_13 : decode cX9_shifts 13 = .ok (.getfield 52, 3) := by decide +kernel
theorem dX9_shifts_16 : decode cX9_shifts 16 = .ok (.iload_n 3, 1) := by decide +kernel
theorem dX9_shifts_17 : decode cX9_shifts 17 = .ok (.iaload, 1) := by decide +kernel
theorem dX9_shifts_18 : decode cX9_shifts 18 = .ok (.iload_n 1, 1) := by decide +kernel
theorem dX9_shifts_19 : decode cX9_shifts 19 = .ok (.if_icmp .eq 34, 3) := by decide +kernel
theorem dX9_shifts_22 : decode cX9_shifts 22 = .ok (.aload_n 0, 1) := by decide +kernel
theorem dX9_shifts_23 : decode cX9_shifts 23 = .ok (.getfield 52, 3) := by decide +kernel
theorem dX9_shifts_26 : decode cX9_shifts 26 = .ok (.iload_n 3, 1) := by decide +kernel
theorem dX9_shifts_27 : decode cX9_shifts 27 = .ok (.iaload, 1) := by decide +kernel
theorem dX9_shifts_28 : decode cX9_shifts 28 = .ok (.istore 4, 2) := by decide +kernel
theorem dX9_shifts_30 : decode cX9_shifts 30 = .ok (.aload_n 0, 1) := by decide +kernel
theorem dX9_shifts_31 : decode cX9_shifts 31 = .ok (.getfield 43, 3) := by decide +kernel
theorem dX9_shifts_34 : decode cX9_shifts 34 = .ok (.iload 4, 2) := by decide +kernel
theorem dX9_shifts_36 : decode cX9_shifts 36 = .ok (.iaload, 1) := by decide +kernel
theorem dX9_shifts_37 : decode cX9_shifts 37 = .ok (.istore 5, 2) := by decide +kernel
theorem dX9_shifts_39 : decode cX9_shifts 39 = .ok (.aload_n 0, 1) := by decide +kernel
theorem dX9_shifts_40 : decode cX9_shifts 40 = .ok (.getfield 43, 3) := by decide +kernel
theorem dX9_shifts_43 : decode cX9_shifts 43 = .ok (.iload 4, 2) := by decide +kernel
theorem dX9_shifts_45 : decode cX9_shifts 45 = .ok (.iload_n 3, 1) := by decide +kernel
theorem dX9_shifts_46 : decode cX9_shifts 46 = .ok (.iastore, 1) := by decide +kernel
theorem dX9_shifts_47 : decode cX9_shifts 47 = .ok (.iload 5, 2) := by decide +kernel
theorem dX9_shifts_49 : decode cX9_shifts 49 = .ok (.istore_n 3, 1) := by decide +kernel
theorem dX9_shifts_50 : decode cX9_shifts 50 = .ok (.goto (-38), 3) := by decide +kernel
theorem dX9_shifts_53 : decode cX9_shifts 53 = .ok (.aload_n 0, 1) := by decide +kernel
theorem dX9_shifts_54 : decode cX9_shifts 54 = .ok (.getfield 43, 3) := by decide +kernel
theorem dX9_shifts_57 : decode cX9_shifts 57 = .ok (.iload_n 1, 1) := by decide +kernel
theorem dX9_shifts_58 : decode cX9_shifts 58 = .ok (.iload_n 3, 1) := by decide +kernel
theorem dX9_shifts_59 : decode cX9_shifts 59 = .ok (.iastore, 1) := by decide +kernel
theorem dX9_shifts_60 : decode cX9_shifts 60 = .ok (.return_, 1) := by decide +kernel
theorem dX9_couldFit_0 : decode cX9_couldFit 0 = .ok (.aload_n 0, 1) := by decide +kernel
theorem dX9_couldFit_1 : decode cX9_couldFit 1 = .ok (.iload_n 1, 1) := by decide +kernel
theorem dX9_couldFit_2 : decode cX9_couldFit 2 = .ok (.iload_n 2, 1) := by decide +kernel
theorem dX9_couldFit_3 : decode cX9_couldFit 3 = .ok (.iconst 1, 1) := by decide +kernel
theorem dX9_couldFit_4 : decode cX9_couldFit 4 = .ok (.iload_n 3, 1) := by decide +kernel
theorem dX9_couldFit_5 : decode cX9_couldFit 5 = .ok (.invokestatic 231, 3) := by decide +kernel
theorem dX9_couldFit_8 : decode cX9_couldFit 8 = .ok (.ifCond .eq 7, 3) := by decide +kernel
theorem dX9_couldFit_11 : decode cX9_couldFit 11 = .ok (.iconst 0, 1) := by decide +kernel
theorem dX9_couldFit_12 : decode cX9_couldFit 12 = .ok (.goto 4, 3) := by decide +kernel
theorem dX9_couldFit_15 : decode cX9_couldFit 15 = .ok (.iconst 1, 1) := by decide +kernel
theorem dX9_couldFit_16 : decode cX9_couldFit 16 = .ok (.putfield 64, 3) := by decide +kernel
theorem dX9_couldFit_19 : decode cX9_couldFit 19 = .ok (.aload_n 0, 1) := by decide +kernel
theorem dX9_couldFit_20 : decode cX9_couldFit 20 = .ok (.getfield 64, 3) := by decide +kernel
theorem dX9_couldFit_23 : decode cX9_couldFit 23 = .ok (.ifCond .eq 5, 3) := by decide +kernel
theorem dX9_couldFit_26 : decode cX9_couldFit 26 = .ok (.iconst 0, 1) := by decide +kernel
theorem dX9_couldFit_27 : decode cX9_couldFit 27 = .ok (.ireturn, 1) := by decide +kernel
theorem dX9_couldFit_28 : decode cX9_couldFit 28 = .ok (.iconst 0, 1) := by decide +kernel
theorem dX9_couldFit_29 : decode cX9_couldFit 29 = .ok (.istore 4, 2) := by decide +kernel
theorem dX9_couldFit_31 : decode cX9_couldFit 31 = .ok (.iload 4, 2) := by decide +kernel
theorem dX9_couldFit_33 : decode cX9_couldFit 33 = .ok (.bipush 64, 2) := by decide +kernel
theorem dX9_couldFit_35 : decode cX9_couldFit 35 = .ok (.if_icmp .ge 17, 3) := by decide +kernel
theorem dX9_couldFit_38 : decode cX9_couldFit 38 = .ok (.aload_n 0, 1) := by decide +kernel
theorem dX9_couldFit_39 : decode cX9_couldFit 39 = .ok (.getfield 46, 3) := by decide +kernel
theorem dX9_couldFit_42 : decode cX9_couldFit 42 = .ok (.iload 4, 2) := by decide +kernel
theorem dX9_couldFit_44 : decode cX9_couldFit 44 = .ok (.iconst 0, 1) := by decide +kernel
theorem dX9_couldFit_45 : decode cX9_couldFit 45 = .ok (.iastore, 1) := by decide +kernel
theorem dX9_couldFit_46 : decode cX9_couldFit 46 = .ok (.iinc 4 1, 3) := by decide +kernel
theorem dX9_couldFit_49 : decode cX9_couldFit 49 = .ok (.goto (-18), 3) := by decide +kernel
theorem dX9_couldFit_52 : decode cX9_couldFit 52 = .ok (.iconst 0, 1) := by decide +kernel
theorem dX9_couldFit_53 : decode cX9_couldFit 53 = .ok (.istore 4, 2) := by decide +kernel
theorem dX9_couldFit_55 : decode cX9_couldFit 55 = .ok (.iload 4, 2) := by decide +kernel
theorem dX9_couldFit_57 : decode cX9_couldFit 57 = .ok (.aload_n 0, 1) := by decide +kernel
theorem dX9_couldFit_58 : decode cX9_couldFit 58 = .ok (.getfield 7, 3) := by decide +kernel
theorem dX9_couldFit_61 : decode cX9_couldFit 61 = .ok (.sipush 1042, 3) := by decide +kernel
theorem dX9_couldFit_64 : decode cX9_couldFit 64 = .ok (.iaload, 1) := by decide +kernel
theorem dX9_couldFit_65 : decode cX9_couldFit 65 = .ok (.if_icmp .ge 80, 3) := by decide +kernel
theorem dX9_couldFit_68 : decode cX9_couldFit 68 = .ok (.aload_n 0, 1) := by decide +kernel
theorem dX9_couldFit_69 : decode cX9_couldFit 69 = .ok (.getfield 7, 3) := by decide +kernel
theorem dX9_couldFit_72 : decode cX9_couldFit 72 = .ok (.sipush 1043, 3) := by decide +kernel
theorem dX9_couldFit_75 : decode cX9_couldFit 75 = .ok (.iload 4, 2) := by decide +kernel
theorem dX9_couldFit_77 : decode cX9_couldFit 77 = .ok (.iadd, 1) := by decide +kernel
theorem dX9_couldFit_78 : decode cX9_couldFit 78 = .ok (.iaload, 1) := by decide +kernel
theorem dX9_couldFit_79 : decode cX9_couldFit 79 = .ok (.iload_n 3, 1) := by decide +kernel
theorem dX9_couldFit_80 : decode cX9_couldFit 80 = .ok (.invokestatic 96, 3) := by decide +kernel
theorem dX9_couldFit_83 : decode cX9_couldFit 83 = .ok (.istore 5, 2) := by decide +kernel
theorem dX9_couldFit_85 : decode cX9_couldFit 85 = .ok (.aload_n 0, 1) := by decide +kernel
theorem dX9_couldFit_86 : decode cX9_couldFit 86 = .ok (.getfield 37, 3) := by decide +kernel
theorem dX9_couldFit_89 : decode cX9_couldFit 89 = .ok (.iload 4, 2) := by decide +kernel
theorem dX9_couldFit_91 : decode cX9_couldFit 91 = .ok (.iload 5, 2) := by decide +kernel
theorem dX9_couldFit_93 : decode cX9_couldFit 93 = .ok (.sipush 16384, 3) := by decide +kernel
theorem dX9_couldFit_96 : decode cX9_couldFit 96 = .ok (.irem, 1) := by decide +kernel
theorem dX9_couldFit_97 : decode cX9_couldFit 97 = .ok (.iconst 1, 1) := by decide +kernel
theorem dX9_couldFit_98 : decode cX9_couldFit 98 = .ok (.iload_n 1, 1) := by decide +kernel
theorem dX9_couldFit_99 : decode cX9_couldFit 99 = .ok (.ishl, 1) := by decide +kernel
theorem dX9_couldFit_100 : decode cX9_couldFit 100 = .ok (.irem, 1) := by decide +kernel
theorem dX9_couldFit_101 : decode cX9_couldFit 101 = .ok (.iastore, 1) := by decide +kernel
theorem dX9_couldFit_102 : decode cX9_couldFit 102 = .ok (.aload_n 0, 1) := by decide +kernel
theorem dX9_couldFit_103 : decode cX9_couldFit 103 = .ok (.getfield 40, 3) := by decide +kernel
theorem dX9_couldFit_106 : decode cX9_couldFit 106 = .ok (.iload 4, 2) := by decide +kernel
theorem dX9_couldFit_108 : decode cX9_couldFit 108 = .ok (.aload_n 0, 1) := by decide +kernel
theorem dX9_couldFit_109 : decode cX9_couldFit 109 = .ok (.getfield 37, 3) := by decide +kernel
theorem dX9_couldFit_112 : decode cX9_couldFit 112 = .ok (.iload 4, 2) := by decide +kernel
theorem dX9_couldFit_114 : decode cX9_couldFit 114 = .ok (.iaload, 1) := by decide +kernel
theorem dX9_couldFit_115 : decode cX9_couldFit 115 = .ok (.iload 5, 2) := by decide +kernel
theorem dX9_couldFit_117 : decode cX9_couldFit 117 = .ok (.sipush 16384, 3) := by decide +kernel
theorem dX9_couldFit_120 : decode cX9_couldFit 120 = .ok (.idiv, 1) := by decide +kernel
theorem dX9_couldFit_121 : decode cX9_couldFit 121 = .ok (.iload_n 1, 1) := by decide +kernel
theorem dX9_couldFit_122 : decode cX9_couldFit 122 = .ok (.invokestatic 114, 3) := by decide +kernel
theorem dX9_couldFit_125 : decode cX9_couldFit 125 = .ok (.ixor, 1) := by decide +kernel
theorem dX9_couldFit_126 : decode cX9_couldFit 126 = .ok (.iastore, 1) := by decide +kernel
theorem dX9_couldFit_127 : decode cX9_couldFit 127 = .ok (.aload_n 0, 1) := by decide +kernel
theorem dX9_couldFit_128 : decode cX9_couldFit 128 = .ok (.iload 4, 2) := by decide +kernel
theorem dX9_couldFit_130 : decode cX9_couldFit 130 = .ok (.iload_n 2, 1) := by decide +kernel
theorem dX9_couldFit_131 : decode cX9_couldFit 131 = .ok (.invokevirtual 262, 3) := by decide +kernel
theorem dX9_couldFit_134 : decode cX9_couldFit 134 = .ok (.ifCond .ne 5, 3) := by decide +kernel
theorem dX9_couldFit_137 : decode cX9_couldFit 137 = .ok (.iconst 0, 1) := by decide +kernel
theorem dX9_couldFit_138 : decode cX9_couldFit 138 = .ok (.ireturn, 1) := by decide +kernel
theorem dX9_couldFit_139 : decode cX9_couldFit 139 = .ok (.iinc 4 1, 3) := by decide +kernel
theorem dX9_couldFit_142 : decode cX9_couldFit 142 = .ok (.goto (-87), 3) := by decide +kernel
theorem dX9_couldFit_145 : decode cX9_couldFit 145 = .ok (.iconst 1, 1) := by decide +kernel
theorem dX9_couldFit_146 : decode cX9_couldFit 146 = .ok (.ireturn, 1) := by decide +kernel
theorem dX9_rateBits_0 : decode cX9_rateBits 0 = .ok (.aload_n 0, 1) := by decide +kernel
theorem dX9_rateBits_1 : decode cX9_rateBits 1 = .ok (.iconst 0, 1) := by decide +kernel
theorem dX9_rateBits_2 : decode cX9_rateBits 2 = .ok (.putfield 64, 3) := by decide +kernel
theorem dX9_rateBits_5 : decode cX9_rateBits 5 = .ok (.aload_n 0, 1) := by decide +kernel
theorem dX9_rateBits_6 : decode cX9_rateBits 6 = .ok (.iconst 0, 1) := by decide +kernel
theorem dX9_rateBits_7 : decode cX9_rateBits 7 = .ok (.sipush 999, 3) := by decide +kernel
theorem dX9_rateBits_10 : decode cX9_rateBits 10 = .ok (.invokevirtual 256, 3) := by decide +kernel
theorem dX9_rateBits_13 : decode cX9_rateBits 13 = .ok (.i2f, 1) := by decide +kernel
theorem dX9_rateBits_14 : decode cX9_rateBits 14 = .ok (.sipush 1000, 3) := by decide +kernel
theorem dX9_rateBits_17 : decode cX9_rateBits 17 = .ok (.aload_n 0, 1) := by decide +kernel
theorem dX9_rateBits_18 : decode cX9_rateBits 18 = .ok (.getfield 7, 3) := by decide +kernel
theorem dX9_rateBits_21 : decode cX9_rateBits 21 = .ok (.sipush 1042, 3) := by decide +kernel
theorem dX9_rateBits_24 : decode cX9_rateBits 24 = .ok (.iaload, 1) := by decide +kernel
theorem dX9_rateBits_25 : decode cX9_rateBits 25 = .ok (.isub, 1) := by decide +kernel
theorem dX9_rateBits_26 : decode cX9_rateBits 26 = .ok (.i2f, 1) := by decide +kernel
theorem dX9_rateBits_27 : decode cX9_rateBits 27 = .ok (.fdiv, 1) := by decide +kernel
theorem dX9_rateBits_28 : decode cX9_rateBits 28 = .ok (.invokestatic 265, 3) := by decide +kernel
theorem dX9_rateBits_31 : decode cX9_rateBits 31 = .ok (.ireturn, 1) := by decide +kernel
theorem dX9_append_0 : decode cX9_append 0 = .ok (.aload_n 0, 1) := by decide +kernel
theorem dX9_append_1 : decode cX9_append 1 = .ok (.iload_n 1, 1) := by decide +kernel
theorem dX9_append_2 : decode cX9_append 2 = .ok (.iconst 0, 1) := by decide +kernel
theorem dX9_append_3 : decode cX9_append 3 = .ok (.bipush 127, 2) := by decide +kernel
theorem dX9_append_5 : decode cX9_append 5 = .ok (.invokestatic 78, 3) := by decide +kernel
theorem dX9_append_8 : decode cX9_append 8 = .ok (.ifCond .ne 7, 3) := by decide +kernel
theorem dX9_append_11 : decode cX9_append 11 = .ok (.iconst 1, 1) := by decide +kernel
theorem dX9_append_12 : decode cX9_append 12 = .ok (.goto 17, 3) := by decide +kernel
theorem dX9_append_15 : decode cX9_append 15 = .ok (.aload_n 0, 1) := by decide +kernel
theorem dX9_append_16 : decode cX9_append 16 = .ok (.getfield 271, 3) := by decide +kernel
theorem dX9_append_19 : decode cX9_append 19 = .ok (.bipush 100, 2) := by decide +kernel
theorem dX9_append_21 : decode cX9_append 21 = .ok (.if_icmp .ne 7, 3) := by decide +kernel
theorem dX9_append_24 : decode cX9_append 24 = .ok (.iconst 2, 1) := by decide +kernel
theorem dX9_append_25 : decode cX9_append 25 = .ok (.goto 4, 3) := by decide +kernel
theorem dX9_append_28 : decode cX9_append 28 = .ok (.iconst 0, 1) := by decide +kernel
theorem dX9_append_29 : decode cX9_append 29 = .ok (.putfield 64, 3) := by decide +kernel
theorem dX9_append_32 : decode cX9_append 32 = .ok (.aload_n 0, 1) := by decide +kernel
theorem dX9_append_33 : decode cX9_append 33 = .ok (.getfield 64, 3) := by decide +kernel
theorem dX9_append_36 : decode cX9_append 36 = .ok (.ifCond .eq 5, 3) := by decide +kernel
theorem dX9_append_39 : decode cX9_append 39 = .ok (.iconst 0, 1) := by decide +kernel
theorem dX9_append_40 : decode cX9_append 40 = .ok (.ireturn, 1) := by decide +kernel
theorem dX9_append_41 : decode cX9_append 41 = .ok (.aload_n 0, 1) := by decide +kernel
theorem dX9_append_42 : decode cX9_append 42 = .ok (.getfield 16, 3) := by decide +kernel
theorem dX9_append_45 : decode cX9_append 45 = .ok (.aload_n 0, 1) := by decide +kernel
theorem dX9_append_46 : decode cX9_append 46 = .ok (.getfield 271, 3) := by decide +kernel
theorem dX9_append_49 : decode cX9_append 49 = .ok (.iload_n 1, 1) := by decide +kernel
theorem dX9_append_50 : decode cX9_append 50 = .ok (.iastore, 1) := by decide +kernel
theorem dX9_append_51 : decode cX9_append 51 = .ok (.aload_n 0, 1) := by decide +kernel
theorem dX9_append_52 : decode cX9_append 52 = .ok (.dup, 1) := by decide +kernel
theorem dX9_append_53 : decode cX9_append 53 = .ok (.getfield 271, 3) := by decide +kernel
theorem dX9_append_56 : decode cX9_append 56 = .ok (.iconst 1, 1) := by decide +kernel
theorem dX9_append_57 : decode cX9_append 57 = .ok (.iadd, 1) := by decide +kernel
theorem dX9_append_58 : decode cX9_append 58 = .ok (.putfield 271, 3) := by decide +kernel
theorem dX9_append_61 : decode cX9_append 61 = .ok (.aload_n 0, 1) := by decide +kernel
theorem dX9_append_62 : decode cX9_append 62 = .ok (.getfield 271, 3) := by decide +kernel
theorem dX9_append_65 : decode cX9_append 65 = .ok (.ireturn, 1) := by decide +kernel
theorem dX9_clearText_0 : decode cX9_clearText 0 = .ok (.aload_n 0, 1) := by decide +kernel
theorem dX9_clearText_1 : decode cX9_clearText 1 = .ok (.iconst 0, 1) := by decide +kernel
theorem dX9_clearText_2 : decode cX9_clearText 2 = .ok (.putfield 64, 3) := by decide +kernel
theorem dX9_clearText_5 : decode cX9_clearText 5 = .ok (.aload_n 0, 1) := by decide +kernel
theorem dX9_clearText_6 : decode cX9_clearText 6 = .ok (.getfield 271, 3) := by decide +kernel
theorem dX9_clearText_9 : decode cX9_clearText 9 = .ok (.istore_n 1, 1) := by decide +kernel
theorem dX9_clearText_10 : decode cX9_clearText 10 = .ok (.aload_n 0, 1) := by decide +kernel
theorem dX9_clearText_11 : decode cX9_clearText 11 = .ok (.iconst 0, 1) := by decide +kernel
theorem dX9_clearText_12 : decode cX9_clearText 12 = .ok (.putfield 271, 3) := by decide +kernel
theorem dX9_clearText_15 : decode cX9_clearText 15 = .ok (.iload_n 1, 1) := by decide +kernel
theorem dX9_clearText_16 : decode cX9_clearText 16 = .ok (.ireturn, 1) := by decide +kernel
theorem dX9_here_0 : decode cX9_here 0 = .ok (.aload_n 0, 1) := by decide +kernel
theorem dX9_here_1 : decode cX9_here 1 = .ok (.getfield 274, 3) := by decide +kernel
theorem dX9_here_4 : decode cX9_here 4 = .ok (.aload_n 0, 1) := by decide +kernel
theorem dX9_here_5 : decode cX9_here 5 = .ok (.getfield 271, 3) := by decide +kernel
theorem dX9_here_8 : decode cX9_here 8 = .ok (.if_icmp .ge 15, 3) := by decide +kernel
theorem dX9_here_11 : decode cX9_here 11 = .ok (.aload_n 0, 1) := by decide +kernel
theorem dX9_here_12 : decode cX9_here 12 = .ok (.getfield 16, 3) := by decide +kernel
theorem dX9_here_15 : decode cX9_here 15 = .ok (.aload_n 0, 1) := by decide +kernel
theorem dX9_here_16 : decode cX9_here 16 = .ok (.getfield 274, 3) := by decide +kernel
theorem dX9_here_19 : decode cX9_here 19 = .ok (.iaload, 1) := by decide +kernel
theorem dX9_here_20 : decode cX9_here 20 = .ok (.goto 4, 3) := by decide +kernel
theorem dX9_here_23 : decode cX9_here 23 = .ok (.iconst (-1), 1) := by decide +kernel
theorem dX9_here_24 : decode cX9_here 24 = .ok (.ireturn, 1) := by decide +kernel
theorem dX9_readCommand_0 : decode cX9_readCommand 0 = .ok (.aload_n 0, 1) := by decide +kernel
theorem dX9_readCommand_1 : decode cX9_readCommand 1 = .ok (.invokevirtual 277, 3) := by decide +kernel
theorem dX9_readCommand_4 : decode cX9_readCommand 4 = .ok (.istore_n 1, 1) := by decide +kernel
theorem dX9_readCommand_5 : decode cX9_readCommand 5 = .ok (.iload_n 1, 1) := by decide +kernel
theorem dX9_readCommand_6 : decode cX9_readCommand 6 = .ok (.bipush 43, 2) := by decide +kernel
theorem dX9_readCommand_8 : decode cX9_readCommand 8 = .ok (.if_icmp .eq 17, 3) := by decide +kernel
theorem dX9_readCommand_11 : decode cX9_readCommand 11 = .ok (.iload_n 1, 1) := by decide +kernel
theorem dX9_readCommand_12 : decode cX9_readCommand 12 = .ok (.bipush 45, 2) := by decide +kernel
theorem dX9_readCommand_14 : decode cX9_readCommand 14 = .ok (.if_icmp .eq 11, 3) := by decide +kernel
theorem dX9_readCommand_17 : decode cX9_readCommand 17 = .ok (.iload_n 1, 1) := by decide +kernel
theorem dX9_readCommand_18 : decode cX9_readCommand 18 = .ok (.bipush 42, 2) := by decide +kernel
theorem dX9_readCommand_20 : decode cX9_readCommand 20 = .ok (.if_icmp .eq 5, 3) := by decide +kernel
theorem dX9_readCommand_23 : decode cX9_readCommand 23 = .ok (.iconst 0, 1) := by decide +kernel
theorem dX9_readCommand_24 : decode cX9_readCommand 24 = .ok (.ireturn, 1) := by decide +kernel
theorem dX9_readCommand_25 : decode cX9_readCommand 25 = .ok (.aload_n 0, 1) := by decide +kernel
theorem dX9_readCommand_26 : decode cX9_readCommand 26 = .ok (.dup, 1) := by decide +kernel
theorem dX9_readCommand_27 : decode cX9_readCommand 27 = .ok (.getfield 274, 3) := by decide +kernel
theorem dX9_readCommand_30 : decode cX9_readCommand 30 = .ok (.iconst 1, 1) := by decide +kernel
theorem dX9_readCommand_31 : decode cX9_readCommand 31 = .ok (.iadd, 1) := by decide +kernel
theorem dX9_readCommand_32 : decode cX9_readCommand 32 = .ok (.putfield 274, 3) := by decide +kernel
theorem dX9_readCommand_35 : decode cX9_readCommand 35 = .ok (.aload_n 0, 1) := by decide +kernel
theorem dX9_readCommand_36 : decode cX9_readCommand 36 = .ok (.getfield 274, 3) := by decide +kernel
theorem dX9_readCommand_39 : decode cX9_readCommand 39 = .ok (.istore_n 2, 1) := by decide +kernel
theorem dX9_readCommand_40 : decode cX9_readCommand 40 = .ok (.iconst 0, 1) := by decide +kernel
theorem dX9_readCommand_41 : decode cX9_readCommand 41 = .ok (.istore_n 3, 1) := by decide +kernel
theorem dX9_readCommand_42 : decode cX9_readCommand 42 = .ok (.iload_n 1, 1) := by decide +kernel
theorem dX9_readCommand_43 : decode cX9_readCommand 43 = .ok (.bipush 42, 2) := by decide +kernel
theorem dX9_readCommand_45 : decode cX9_readCommand 45 = .ok (.if_icmp .eq 53, 3) := by decide +kernel
theorem dX9_readCommand_48 : decode cX9_readCommand 48 = .ok (.aload_n 0, 1) := by decide +kernel
theorem dX9_readCommand_49 : decode cX9_readCommand 49 = .ok (.getfield 274, 3) := by decide +kernel
theorem dX9_readCommand_52 : decode cX9_readCommand 52 = .ok (.iload_n 2, 1) := by decide +kernel
theorem dX9_readCommand_53 : decode cX9_readCommand 53 = .ok (.iconst 3, 1) := by decide +kernel
theorem dX9_readCommand_54 : decode cX9_readCommand 54 = .ok (.iadd, 1) := by decide +kernel
theorem dX9_readCommand_55 : decode cX9_readCommand 55 = .ok (.if_icmp .ge 43, 3) := by decide +kernel
theorem dX9_readCommand_58 : decode cX9_readCommand 58 = .ok (.aload_n 0, 1) := by decide +kernel
theorem dX9_readCommand_59 : decode cX9_readCommand 59 = .ok (.invokevirtual 277, 3) := by decide +kernel
theorem dX9_readCommand_62 : decode cX9_readCommand 62 = .ok (.bipush 48, 2) := by decide +kernel
theorem dX9_readCommand_64 : decode cX9_readCommand 64 = .ok (.bipush 57, 2) := by decide +kernel
theorem dX9_readCommand_66 : decode cX9_readCommand 66 = .ok (.invokestatic 78, 3) := by decide +kernel
theorem dX9_readCommand_69 : decode cX9_readCommand 69 = .ok (.ifCond .eq 29, 3) := by decide +kernel
theorem dX9_readCommand_72 : decode cX9_readCommand 72 = .ok (.bipush 10, 2) := by decide +kernel
theorem dX9_readCommand_74 : decode cX9_readCommand 74 = .ok (.iload_n 3, 1) := by decide +kernel
theorem dX9_readCommand_75 : decode cX9_readCommand 75 = .ok (.imul, 1) := by decide +kernel
theorem dX9_readCommand_76 : decode cX9_readCommand 76 = .ok (.aload_n 0, 1) := by decide +kernel
theorem dX9_readCommand_77 : decode cX9_readCommand 77 = .ok (.invokevirtual 277, 3) := by decide +kernel
theorem dX9_readCommand_80 : decode cX9_readCommand 80 = .ok (.iadd, 1) := by decide +kernel
theorem dX9_readCommand_81 : decode cX9_readCommand 81 = .ok (.bipush 48, 2) := by decide +kernel
theorem dX9_readCommand_83 : decode cX9_readCommand 83 = .ok (.isub, 1) := by decide +kernel
theorem dX9_readCommand_84 : decode cX9_readCommand 84 = .ok (.istore_n 3, 1) := by decide +kernel
theorem dX9_readCommand_85 : decode cX9_readCommand 85 = .ok (.aload_n 0, 1) := by decide +kernel
theorem dX9_readCommand_86 : decode cX9_readCommand 86 = .ok (.dup, 1) := by decide +kernel
theorem dX9_readCommand_87 : decode cX9_readCommand 87 = .ok (.getfield 274, 3) := by decide +kernel
theorem dX9_readCommand_90 : decode cX9_readCommand 90 = .ok (.iconst 1, 1) := by decide +kernel
theorem dX9_readCommand_91 : decode cX9_readCommand 91 = .ok (.iadd, 1) := by decide +kernel
theorem dX9_readCommand_92 : decode cX9_readCommand 92 = .ok (.putfield 274, 3) := by decide +kernel
theorem dX9_readCommand_95 : decode cX9_readCommand 95 = .ok (.goto (-53), 3) := by decide +kernel
theorem dX9_readCommand_98 : decode cX9_readCommand 98 = .ok (.iload_n 1, 1) := by decide +kernel
theorem dX9_readCommand_99 : decode cX9_readCommand 99 = .ok (.bipush 42, 2) := by decide +kernel
theorem dX9_readCommand_101 : decode cX9_readCommand 101 = .ok (.if_icmp .eq 11, 3) := by decide +kernel
theorem dX9_readCommand_104 : decode cX9_readCommand 104 = .ok (.aload_n 0, 1) := by decide +kernel
theorem dX9_readCommand_105 : decode cX9_readCommand 105 = .ok (.getfield 274, 3) := by decide +kernel
theorem dX9_readCommand_108 : decode cX9_readCommand 108 = .ok (.iload_n 2, 1) := by decide +kernel
theorem dX9_readCommand_109 : decode cX9_readCommand 109 = .ok (.if_icmp .eq 12, 3) := by decide +kernel
theorem dX9_readCommand_112 : decode cX9_readCommand 112 = .ok (.aload_n 0, 1) := by decide +kernel
theorem dX9_readCommand_113 : decode cX9_readCommand 113 = .ok (.invokevirtual 277, 3) := by decide +kernel
theorem dX9_readCommand_116 : decode cX9_readCommand 116 = .ok (.bipush 59, 2) := by decide +kernel
theorem dX9_readCommand_118 : decode cX9_readCommand 118 = .ok (.if_icmp .eq 5, 3) := by decide +kernel
theorem dX9_readCommand_121 : decode cX9_readCommand 121 = .ok (.iconst 0, 1) := by decide +kernel
theorem dX9_readCommand_122 : decode cX9_readCommand 122 = .ok (.ireturn, 1) := by decide +kernel
theorem dX9_readCommand_123 : decode cX9_readCommand 123 = .ok (.aload_n 0, 1) := by decide +kernel
theorem dX9_readCommand_124 : decode cX9_readCommand 124 = .ok (.dup, 1) := by decide +kernel
theorem dX9_readCommand_125 : decode cX9_readCommand 125 = .ok (.getfield 274, 3) := by decide +kernel
theorem dX9_readCommand_128 : decode cX9_readCommand 128 = .ok (.iconst 1, 1) := by decide +kernel
theorem dX9_readCommand_129 : decode cX9_readCommand 129 = .ok (.iadd, 1) := by decide +kernel
theorem dX9_readCommand_130 : decode cX9_readCommand 130 = .ok (.putfield 274, 3) := by decide +kernel
theorem dX9_readCommand_133 : decode cX9_readCommand 133 = .ok (.aload_n 0, 1) := by decide +kernel
theorem dX9_readCommand_134 : decode cX9_readCommand 134 = .ok (.getfield 55, 3) := by decide +kernel
theorem dX9_readCommand_137 : decode cX9_readCommand 137 = .ok (.aload_n 0, 1) := by decide +kernel
theorem dX9_readCommand_138 : decode cX9_readCommand 138 = .ok (.getfield 280, 3) := by decide +kernel
theorem dX9_readCommand_141 : decode cX9_readCommand 141 = .ok (.iload_n 1, 1) := by decide +kernel
theorem dX9_readCommand_142 : decode cX9_readCommand 142 = .ok (.iastore, 1) := by decide +kernel
theorem dX9_readCommand_143 : decode cX9_readCommand 143 = .ok (.aload_n 0, 1) := by decide +kernel
theorem dX9_readCommand_144 : decode cX9_readCommand 144 = .ok (.getfield 58, 3) := by decide +kernel
theorem dX9_readCommand_147 : decode cX9_readCommand 147 = .ok (.aload_n 0, 1) := by decide +kernel
theorem dX9_readCommand_148 : decode cX9_readCommand 148 = .ok (.getfield 280, 3) := by decide +kernel
theorem dX9_readCommand_151 : decode cX9_readCommand 151 = .ok (.iload_n 3, 1) := by decide +kernel
theorem dX9_readCommand_152 : decode cX9_readCommand 152 = .ok (.iastore, 1) := by decide +kernel
theorem dX9_readCommand_153 : decode cX9_readCommand 153 = .ok (.aload_n 0, 1) := by decide +kernel
theorem dX9_readCommand_154 : decode cX9_readCommand 154 = .ok (.dup, 1) := by decide +kernel
theorem dX9_readCommand_155 : decode cX9_readCommand 155 = .ok (.getfield 280, 3) := by decide +kernel
theorem dX9_readCommand_158 : decode cX9_readCommand 158 = .ok (.iconst 1, 1) := by decide +kernel
theorem dX9_readCommand_159 : decode cX9_readCommand 159 = .ok (.iadd, 1) := by decide +kernel
theorem dX9_readCommand_160 : decode cX9_readCommand 160 = .ok (.putfield 280, 3) := by decide +kernel
theorem dX9_readCommand_163 : decode cX9_readCommand 163 = .ok (.iconst 1, 1) := by decide +kernel
theorem dX9_readCommand_164 : decode cX9_readCommand 164 = .ok (.ireturn, 1) := by decide +kernel
theorem dX9_readAll_0 : decode cX9_readAll 0 = .ok (.aload_n 0, 1) := by decide +kernel
theorem dX9_readAll_1 : decode cX9_readAll 1 = .ok (.iconst 0, 1) := by decide +kernel
theorem dX9_readAll_2 : decode cX9_readAll 2 = .ok (.putfield 274, 3) := by decide +kernel
theorem dX9_readAll_5 : decode cX9_readAll 5 = .ok (.aload_n 0, 1) := by decide +kernel
theorem dX9_readAll_6 : decode cX9_readAll 6 = .ok (.iconst 0, 1) := by decide +kernel
theorem dX9_readAll_7 : decode cX9_readAll 7 = .ok (.putfield 280, 3) := by decide +kernel
theorem dX9_readAll_10 : decode cX9_readAll 10 = .ok (.iconst 1, 1) := by decide +kernel
theorem dX9_readAll_11 : decode cX9_readAll 11 = .ok (.istore_n 1, 1) := by decide +kernel
theorem dX9_readAll_12 : decode cX9_readAll 12 = .ok (.iload_n 1, 1) := by decide +kernel
theorem dX9_readAll_13 : decode cX9_readAll 13 = .ok (.ifCond .eq 22, 3) := by decide +kernel
theorem dX9_readAll_16 : decode cX9_readAll 16 = .ok (.aload_n 0, 1) := by decide +kernel
theorem dX9_readAll_17 : decode cX9_readAll 17 = .ok (.getfield 274, 3) := by decide +kernel
theorem dX9_readAll_20 : decode cX9_readAll 20 = .ok (.aload_n 0, 1) := by decide +kernel
theorem dX9_readAll_21 : decode cX9_readAll 21 = .ok (.getfield 271, 3) := by decide +kernel
theorem dX9_readAll_24 : decode cX9_readAll 24 = .ok (.if_icmp .ge 11, 3) := by decide +kernel
theorem dX9_readAll_27 : decode cX9_readAll 27 = .ok (.aload_n 0, 1) := by decide +kernel
theorem dX9_readAll_28 : decode cX9_readAll 28 = .ok (.invokevirtual 283, 3) := by decide +kernel
theorem dX9_readAll_31 : decode cX9_readAll 31 = .ok (.istore_n 1, 1) := by decide +kernel
theorem dX9_readAll_32 : decode cX9_readAll 32 = .ok (.goto (-20), 3) := by decide +kernel
theorem dX9_readAll_35 : decode cX9_readAll 35 = .ok (.iload_n 1, 1) := by decide +kernel
theorem dX9_readAll_36 : decode cX9_readAll 36 = .ok (.ireturn, 1) := by decide +kernel
theorem dX9_does_0 : decode cX9_does 0 = .ok (.aload_n 0, 1) := by decide +kernel
theorem dX9_does_1 : decode cX9_does 1 = .ok (.getfield 58, 3) := by decide +kernel
theorem dX9_does_4 : decode cX9_does 4 = .ok (.iload_n 1, 1) := by decide +kernel
theorem dX9_does_5 : decode cX9_does 5 = .ok (.iaload, 1) := by decide +kernel
theorem dX9_does_6 : decode cX9_does 6 = .ok (.istore_n 2, 1) := by decide +kernel
theorem dX9_does_7 : decode cX9_does 7 = .ok (.aload_n 0, 1) := by decide +kernel
theorem dX9_does_8 : decode cX9_does 8 = .ok (.getfield 55, 3) := by decide +kernel
theorem dX9_does_11 : decode cX9_does 11 = .ok (.iload_n 1, 1) := by decide +kernel
theorem dX9_does_12 : decode cX9_does 12 = .ok (.iaload, 1) := by decide +kernel
theorem dX9_does_13 : decode cX9_does 13 = .ok (.bipush 43, 2) := by decide +kernel
theorem dX9_does_15 : decode cX9_does 15 = .ok (.if_icmp .ne 18, 3) := by decide +kernel
theorem dX9_does_18 : decode cX9_does 18 = .ok (.aload_n 0, 1) := by decide +kernel
theorem dX9_does_19 : decode cX9_does 19 = .ok (.iload_n 2, 1) := by decide +kernel
theorem dX9_does_20 : decode cX9_does 20 = .ok (.invokevirtual 203, 3) := by decide +kernel
theorem dX9_does_23 : decode cX9_does 23 = .ok (.iconst (-1), 1) := by decide +kernel
theorem dX9_does_24 : decode cX9_does 24 = .ok (.if_icmp .eq 7, 3) := by decide +kernel
theorem dX9_does_27 : decode cX9_does 27 = .ok (.iconst 1, 1) := by decide +kernel
theorem dX9_does_28 : decode cX9_does 28 = .ok (.goto 4, 3) := by decide +kernel
theorem dX9_does_31 : decode cX9_does 31 = .ok (.iconst 0, 1) := by decide +kernel
theorem dX9_does_32 : decode cX9_does 32 = .ok (.ireturn, 1) := by decide +kernel
theorem dX9_does_33 : decode cX9_does 33 = .ok (.aload_n 0, 1) := by decide +kernel
theorem dX9_does_34 : decode cX9_does 34 = .ok (.getfield 55, 3) := by decide +kernel
theorem dX9_does_37 : decode cX9_does 37 = .ok (.iload_n 1, 1) := by decide +kernel
theorem dX9_does_38 : decode cX9_does 38 = .ok (.iaload, 1) := by decide +kernel
theorem dX9_does_39 : decode cX9_does 39 = .ok (.bipush 42, 2) := by decide +kernel
theorem dX9_does_41 : decode cX9_does 41 = .ok (.if_icmp .ne 18, 3) := by decide +kernel
theorem dX9_does_44 : decode cX9_does 44 = .ok (.aload_n 0, 1) := by decide +kernel
theorem dX9_does_45 : decode cX9_does 45 = .ok (.invokevirtual 224, 3) := by decide +kernel
theorem dX9_does_48 : decode cX9_does 48 = .ok (.istore_n 3, 1) := by decide +kernel
theorem dX9_does_49 : decode cX9_does 49 = .ok (.iload_n 3, 1) := by decide +kernel
theorem dX9_does_50 : decode cX9_does 50 = .ok (.ifCond .eq 7, 3) := by decide +kernel
theorem dX9_does_53 : decode cX9_does 53 = .ok (.aload_n 0, 1) := by decide +kernel
theorem dX9_does_54 : decode cX9_does 54 = .ok (.invokevirtual 228, 3) := by decide +kernel
theorem dX9_does_57 : decode cX9_does 57 = .ok (.iload_n 3, 1) := by decide +kernel
theorem dX9_does_58 : decode cX9_does 58 = .ok (.ireturn, 1) := by decide +kernel
theorem dX9_does_59 : decode cX9_does 59 = .ok (.aload_n 0, 1) := by decide +kernel
theorem dX9_does_60 : decode cX9_does 60 = .ok (.iload_n 2, 1) := by decide +kernel
theorem dX9_does_61 : decode cX9_does 61 = .ok (.invokevirtual 169, 3) := by decide +kernel
theorem dX9_does_64 : decode cX9_does 64 = .ok (.istore_n 3, 1) := by decide +kernel
theorem dX9_does_65 : decode cX9_does 65 = .ok (.iload_n 3, 1) := by decide +kernel
theorem dX9_does_66 : decode cX9_does 66 = .ok (.iconst (-1), 1) := by decide +kernel
theorem dX9_does_67 : decode cX9_does 67 = .ok (.if_icmp .eq 16, 3) := by decide +kernel
theorem dX9_does_70 : decode cX9_does 70 = .ok (.aload_n 0, 1) := by decide +kernel
theorem dX9_does_71 : decode cX9_does 71 = .ok (.iload_n 2, 1) := by decide +kernel
theorem dX9_does_72 : decode cX9_does 72 = .ok (.iload_n 3, 1) := by decide +kernel
theorem dX9_does_73 : decode cX9_does 73 = .ok (.invokevirtual 221, 3) := by decide +kernel
theorem dX9_does_76 : decode cX9_does 76 = .ok (.ifCond .lt 7, 3) := by decide +kernel
theorem dX9_does_79 : decode cX9_does 79 = .ok (.iconst 1, 1) := by decide +kernel
theorem dX9_does_80 : decode cX9_does 80 = .ok (.goto 4, 3) := by decide +kernel
theorem dX9_does_83 : decode cX9_does 83 = .ok (.iconst 0, 1) := by decide +kernel
theorem dX9_does_84 : decode cX9_does 84 = .ok (.ireturn, 1) := by decide +kernel
theorem dX9_execute_0 : decode cX9_execute 0 = .ok (.aload_n 0, 1) := by decide +kernel
theorem dX9_execute_1 : decode cX9_execute 1 = .ok (.iconst 0, 1) := by decide +kernel
theorem dX9_execute_2 : decode cX9_execute 2 = .ok (.putfield 64, 3) := by decide +kernel
theorem dX9_execute_5 : decode cX9_execute 5 = .ok (.aload_n 0, 1) := by decide +kernel
theorem dX9_execute_6 : decode cX9_execute 6 = .ok (.invokevirtual 286, 3) := by decide +kernel
theorem dX9_execute_9 : decode cX9_execute 9 = .ok (.ifCond .ne 11, 3) := by decide +kernel
theorem dX9_execute_12 : decode cX9_execute 12 = .ok (.bipush (-10), 2) := by decide +kernel
theorem dX9_execute_14 : decode cX9_execute 14 = .ok (.aload_n 0, 1) := by decide +kernel
theorem dX9_execute_15 : decode cX9_execute 15 = .ok (.getfield 274, 3) := by decide +kernel
theorem dX9_execute_18 : decode cX9_execute 18 = .ok (.isub, 1) := by decide +kernel
theorem dX9_execute_19 : decode cX9_execute 19 = .ok (.ireturn, 1) := by decide +kernel
theorem dX9_execute_20 : decode cX9_execute 20 = .ok (.aload_n 0, 1) := by decide +kernel
theorem dX9_execute_21 : decode cX9_execute 21 = .ok (.iconst 5, 1) := by decide +kernel
theorem dX9_execute_22 : decode cX9_execute 22 = .ok (.invokevirtual 74, 3) := by decide +kernel
theorem dX9_execute_25 : decode cX9_execute 25 = .ok (.iconst 0, 1) := by decide +kernel
theorem dX9_execute_26 : decode cX9_execute 26 = .ok (.istore_n 1, 1) := by decide +kernel
theorem dX9_execute_27 : decode cX9_execute 27 = .ok (.iload_n 1, 1) := by decide +kernel
theorem dX9_execute_28 : decode cX9_execute 28 = .ok (.aload_n 0, 1) := by decide +kernel
theorem dX9_execute_29 : decode cX9_execute 29 = .ok (.getfield 280, 3) := by decide +kernel
theorem dX9_execute_32 : decode cX9_execute 32 = .ok (.if_icmp .ge 28, 3) := by decide +kernel
theorem dX9_execute_35 : decode cX9_execute 35 = .ok (.aload_n 0, 1) := by decide +kernel
theorem dX9_execute_36 : decode cX9_execute 36 = .ok (.iload_n 1, 1) := by decide +kernel
theorem dX9_execute_37 : decode cX9_execute 37 = .ok (.invokevirtual 289, 3) := by decide +kernel
theorem dX9_execute_40 : decode cX9_execute 40 = .ok (.ifCond .ne 14, 3) := by decide +kernel
theorem dX9_execute_43 : decode cX9_execute 43 = .ok (.aload_n 0, 1) := by decide +kernel
theorem dX9_execute_44 : decode cX9_execute 44 = .ok (.iconst 5, 1) := by decide +kernel
theorem dX9_execute_45 : decode cX9_execute 45 = .ok (.invokevirtual 206, 3) := by decide +kernel
theorem dX9_execute_48 : decode cX9_execute 48 = .ok (.sipush (-1000), 3) := by decide +kernel
theorem dX9_execute_51 : decode cX9_execute 51 = .ok (.iload_n 1, 1) := by decide +kernel
theorem dX9_execute_52 : decode cX9_execute 52 = .ok (.isub, 1) := by decide +kernel
theorem dX9_execute_53 : decode cX9_execute 53 = .ok (.ireturn, 1) := by decide +kernel
theorem dX9_execute_54 : decode cX9_execute 54 = .ok (.iinc 1 1, 3) := by decide +kernel
theorem dX9_execute_57 : decode cX9_execute 57 = .ok (.goto (-30), 3) := by decide +kernel
theorem dX9_execute_60 : decode cX9_execute 60 = .ok (.aload_n 0, 1) := by decide +kernel
theorem dX9_execute_61 : decode cX9_execute 61 = .ok (.iconst 5, 1) := by decide +kernel
theorem dX9_execute_62 : decode cX9_execute 62 = .ok (.invokevirtual 209, 3) := by decide +kernel
theorem dX9_execute_65 : decode cX9_execute 65 = .ok (.aload_n 0, 1) := by decide +kernel
theorem dX9_execute_66 : decode cX9_execute 66 = .ok (.getfield 280, 3) := by decide +kernel
theorem dX9_execute_69 : decode cX9_execute 69 = .ok (.ireturn, 1) := by decide +kernel
theorem dX9_undo_0 : decode cX9_undo 0 = .ok (.aload_n 0, 1) := by decide +kernel
theorem dX9_undo_1 : decode cX9_undo 1 = .ok (.aload_n 0, 1) := by decide +kernel
theorem dX9_undo_2 : decode cX9_undo 2 = .ok (.getfield 68, 3) := by decide +kernel
theorem dX9_undo_5 : decode cX9_undo 5 = .ok (.ifCond .ne 7, 3) := by decide +kernel
theorem dX9_undo_8 : decode cX9_undo 8 = .ok (.iconst 1, 1) := by decide +kernel
theorem dX9_undo_9 : decode cX9_undo 9 = .ok (.goto 4, 3) := by decide +kernel
theorem dX9_undo_12 : decode cX9_undo 12 = .ok (.iconst 0, 1) := by decide +kernel
theorem dX9_undo_13 : decode cX9_undo 13 = .ok (.putfield 64, 3) := by decide +kernel
theorem dX9_undo_16 : decode cX9_undo 16 = .ok (.aload_n 0, 1) := by decide +kernel
theorem dX9_undo_17 : decode cX9_undo 17 = .ok (.getfield 64, 3) := by decide +kernel
theorem dX9_undo_20 : decode cX9_undo 20 = .ok (.ifCond .eq 5, 3) := by decide +kernel
theorem dX9_undo_23 : decode cX9_undo 23 = .ok (.iconst 0, 1) := by decide +kernel
theorem dX9_undo_24 : decode cX9_undo 24 = .ok (.ireturn, 1) := by decide +kernel
theorem dX9_undo_25 : decode cX9_undo 25 = .ok (.aload_n 0, 1) := by decide +kernel
theorem dX9_undo_26 : decode cX9_undo 26 = .ok (.dup, 1) := by decide +kernel
theorem dX9_undo_27 : decode cX9_undo 27 = .ok (.getfield 68, 3) := by decide +kernel
theorem dX9_undo_30 : decode cX9_undo 30 = .ok (.iconst 1, 1) := by decide +kernel
theorem dX9_undo_31 : decode cX9_undo 31 = .ok (.isub, 1) := by decide +kernel
theorem dX9_undo_32 : decode cX9_undo 32 = .ok (.putfield 68, 3) := by decide +kernel
theorem dX9_undo_35 : decode cX9_undo 35 = .ok (.aload_n 0, 1) := by decide +kernel
theorem dX9_undo_36 : decode cX9_undo 36 = .ok (.aload_n 0, 1) := by decide +kernel
theorem dX9_undo_37 : decode cX9_undo 37 = .ok (.getfield 68, 3) := by decide +kernel
theorem dX9_undo_40 : decode cX9_undo 40 = .ok (.invokevirtual 206, 3) := by decide +kernel
theorem dX9_undo_43 : decode cX9_undo 43 = .ok (.aload_n 0, 1) := by decide +kernel
theorem dX9_undo_44 : decode cX9_undo 44 = .ok (.getfield 68, 3) := by decide +kernel
theorem dX9_undo_47 : decode cX9_undo 47 = .ok (.ireturn, 1) := by decide +kernel
theorem dX9_mix_0 : decode cX9_mix 0 = .ok (.aload_n 0, 1) := by decide +kernel
theorem dX9_mix_1 : decode cX9_mix 1 = .ok (.ldc2_w 292, 3) := by decide +kernel
theorem dX9_mix_4 : decode cX9_mix 4 = .ok (.aload_n 0, 1) := by decide +kernel
theorem dX9_mix_5 : decode cX9_mix 5 = .ok (.getfield 294, 3) := by decide +kernel
theorem dX9_mix_8 : decode cX9_mix 8 = .ok (.lmul, 1) := by decide +kernel
theorem dX9_mix_9 : decode cX9_mix 9 = .ok (.lload_n 1, 1) := by decide +kernel
theorem dX9_mix_10 : decode cX9_mix 10 = .ok (.ladd, 1) := by decide +kernel
theorem dX9_mix_11 : decode cX9_mix 11 = .ok (.putfield 294, 3) := by decide +kernel
theorem dX9_mix_14 : decode cX9_mix 14 = .ok (.return_, 1) := by decide +kernel
theorem dX9_digest_0 : decode cX9_digest 0 = .ok (.aload_n 0, 1) := by decide +kernel
theorem dX9_digest_1 : decode cX9_digest 1 = .ok (.iconst 0, 1) := by decide +kernel
theorem dX9_digest_2 : decode cX9_digest 2 = .ok (.putfield 64, 3) := by decide +kernel
theorem dX9_digest_5 : decode cX9_digest 5 = .ok (.aload_n 0, 1) := by decide +kernel
theorem dX9_digest_6 : decode cX9_digest 6 = .ok (.ldc2_w 298, 3) := by decide +kernel
theorem dX9_digest_9 : decode cX9_digest 9 = .ok (.putfield 294, 3) := by decide +kernel
theorem dX9_digest_12 : decode cX9_digest 12 = .ok (.iconst 0, 1) := by decide +kernel
theorem dX9_digest_13 : decode cX9_digest 13 = .ok (.istore_n 1, 1) := by decide +kernel
theorem dX9_digest_14 : decode cX9_digest 14 = .ok (.iload_n 1, 1) := by decide +kernel
theorem dX9_digest_15 : decode cX9_digest 15 = .ok (.bipush 9, 2) := by decide +kernel
theorem dX9_digest_17 : decode cX9_digest 17 = .ok (.if_icmp .ge 19, 3) := by decide +kernel
theorem dX9_digest_20 : decode cX9_digest 20 = .ok (.aload_n 0, 1) := by decide +kernel
theorem dX9_digest_21 : decode cX9_digest 21 = .ok (.aload_n 0, 1) := by decide +kernel
theorem dX9_digest_22 : decode cX9_digest 22 = .ok (.iload_n 1, 1) := by decide +kernel
theorem dX9_digest_23 : decode cX9_digest 23 = .ok (.invokevirtual 241, 3) := by decide +kernel
theorem dX9_digest_26 : decode cX9_digest 26 = .ok (.i2l, 1) := by decide +kernel
theorem dX9_digest_27 : decode cX9_digest 27 = .ok (.invokevirtual 300, 3) := by decide +kernel
theorem dX9_digest_30 : decode cX9_digest 30 = .ok (.iinc 1 1, 3) := by decide +kernel
theorem dX9_digest_33 : decode cX9_digest 33 = .ok (.goto (-19), 3) := by decide +kernel
theorem dX9_digest_36 : decode cX9_digest 36 = .ok (.iconst 0, 1) := by decide +kernel
theorem dX9_digest_37 : decode cX9_digest 37 = .ok (.istore_n 1, 1) := by decide +kernel
theorem dX9_digest_38 : decode cX9_digest 38 = .ok (.iload_n 1, 1) := by decide +kernel
theorem dX9_digest_39 : decode cX9_digest 39 = .ok (.aload_n 0, 1) := by decide +kernel
theorem dX9_digest_40 : decode cX9_digest 40 = .ok (.invokevirtual 104, 3) := by decide +kernel
theorem dX9_digest_43 : decode cX9_digest 43 = .ok (.if_icmp .ge 46, 3) := by decide +kernel
theorem dX9_digest_46 : decode cX9_digest 46 = .ok (.iconst 0, 1) := by decide +kernel
theorem dX9_digest_47 : decode cX9_digest 47 = .ok (.istore_n 2, 1) := by decide +kernel
theorem dX9_digest_48 : decode cX9_digest 48 = .ok (.iload_n 2, 1) := by decide +kernel
theorem dX9_digest_49 : decode cX9_digest 49 = .ok (.iconst 4, 1) := by decide +kernel
theorem dX9_digest_50 : decode cX9_digest 50 = .ok (.aload_n 0, 1) := by decide +kernel
theorem dX9_digest_51 : decode cX9_digest 51 = .ok (.getfield 7, 3) := by decide +kernel
theorem dX9_digest_54 : decode cX9_digest 54 = .ok (.iconst 1, 1) := by decide +kernel
theorem dX9_digest_55 : decode cX9_digest 55 = .ok (.iaload, 1) := by decide +kernel
theorem dX9_digest_56 : decode cX9_digest 56 = .ok (.imul, 1) := by decide +kernel
theorem dX9_digest_57 : decode cX9_digest 57 = .ok (.if_icmp .ge 26, 3) := by decide +kernel
theorem dX9_digest_60 : decode cX9_digest 60 = .ok (.aload_n 0, 1) := by decide +kernel
theorem dX9_digest_61 : decode cX9_digest 61 = .ok (.aload_n 0, 1) := by decide +kernel
theorem dX9_digest_62 : decode cX9_digest 62 = .ok (.getfield 7, 3) := by decide +kernel
theorem dX9_digest_65 : decode cX9_digest 65 = .ok (.iload_n 1, 1) := by decide +kernel
theorem dX9_digest_66 : decode cX9_digest 66 = .ok (.iconst 0, 1) := by decide +kernel
theorem dX9_digest_67 : decode cX9_digest 67 = .ok (.invokestatic 117, 3) := by decide +kernel
theorem dX9_digest_70 : decode cX9_digest 70 = .ok (.iload_n 2, 1) := by decide +kernel
theorem dX9_digest_71 : decode cX9_digest 71 = .ok (.iadd, 1) := by decide +kernel
theorem dX9_digest_72 : decode cX9_digest 72 = .ok (.iaload, 1) := by decide +kernel
theorem dX9_digest_73 : decode cX9_digest 73 = .ok (.i2l, 1) := by decide +kernel
theorem dX9_digest_74 : decode cX9_digest 74 = .ok (.invokevirtual 300, 3) := by decide +kernel
theorem dX9_digest_77 : decode cX9_digest 77 = .ok (.iinc 2 1, 3) := by decide +kernel
theorem dX9_digest_80 : decode cX9_digest 80 = .ok (.goto (-32), 3) := by decide +kernel
theorem dX9_digest_83 : decode cX9_digest 83 = .ok (.iinc 1 1, 3) := by decide +kernel
theorem dX9_digest_86 : decode cX9_digest 86 = .ok (.goto (-48), 3) := by decide +kernel
theorem dX9_digest_89 : decode cX9_digest 89 = .ok (.iconst 0, 1) := by decide +kernel
theorem dX9_digest_90 : decode cX9_digest 90 = .ok (.istore_n 1, 1) := by decide +kernel
theorem dX9_digest_91 : decode cX9_digest 91 = .ok (.iload_n 1, 1) := by decide +kernel
theorem dX9_digest_92 : decode cX9_digest 92 = .ok (.iconst 4, 1) := by decide +kernel
theorem dX9_digest_93 : decode cX9_digest 93 = .ok (.aload_n 0, 1) := by decide +kernel
theorem dX9_digest_94 : decode cX9_digest 94 = .ok (.getfield 7, 3) := by decide +kernel
theorem dX9_digest_97 : decode cX9_digest 97 = .ok (.iconst 5, 1) := by decide +kernel
theorem dX9_digest_98 : decode cX9_digest 98 = .ok (.iaload, 1) := by decide +kernel
theorem dX9_digest_99 : decode cX9_digest 99 = .ok (.imul, 1) := by decide +kernel
theorem dX9_digest_100 : decode cX9_digest 100 = .ok (.if_icmp .ge 23, 3) := by decide +kernel
theorem dX9_digest_103 : decode cX9_digest 103 = .ok (.aload_n 0, 1) := by decide +kernel
theorem dX9_digest_104 : decode cX9_digest 104 = .ok (.aload_n 0, 1) := by decide +kernel
theorem dX9_digest_105 : decode cX9_digest 105 = .ok (.getfield 7, 3) := by decide +kernel
theorem dX9_digest_108 : decode cX9_digest 108 = .ok (.bipush 6, 2) := by decide +kernel
theorem dX9_digest_110 : decode cX9_digest 110 = .ok (.iload_n 1, 1) := by decide +kernel
theorem dX9_digest_111 : decode cX9_digest 111 = .ok (.iadd, 1) := by decide +kernel
theorem dX9_digest_112 : decode cX9_digest 112 = .ok (.iaload, 1) := by decide +kernel
theorem dX9_digest_113 : decode cX9_digest 113 = .ok (.i2l, 1) := by decide +kernel
theorem dX9_digest_114 : decode cX9_digest 114 = .ok (.invokevirtual 300, 3) := by decide +kernel
theorem dX9_digest_117 : decode cX9_digest 117 = .ok (.iinc 1 1, 3) := by decide +kernel
theorem dX9_digest_120 : decode cX9_digest 120 = .ok (.goto (-29), 3) := by decide +kernel
theorem dX9_digest_123 : decode cX9_digest 123 = .ok (.aload_n 0, 1) := by decide +kernel
theorem dX9_digest_124 : decode cX9_digest 124 = .ok (.aload_n 0, 1) := by decide +kernel
theorem dX9_digest_125 : decode cX9_digest 125 = .ok (.getfield 7, 3) := by decide +kernel
theorem dX9_digest_128 : decode cX9_digest 128 = .ok (.sipush 1042, 3) := by decide +kernel
theorem dX9_digest_131 : decode cX9_digest 131 = .ok (.iaload, 1) := by decide +kernel
theorem dX9_digest_132 : decode cX9_digest 132 = .ok (.i2l, 1) := by decide +kernel
theorem dX9_digest_133 : decode cX9_digest 133 = .ok (.invokevirtual 300, 3) := by decide +kernel
theorem dX9_digest_136 : decode cX9_digest 136 = .ok (.iconst 0, 1) := by decide +kernel
theorem dX9_digest_137 : decode cX9_digest 137 = .ok (.istore_n 1, 1) := by decide +kernel
theorem dX9_digest_138 : decode cX9_digest 138 = .ok (.iload_n 1, 1) := by decide +kernel
theorem dX9_digest_139 : decode cX9_digest 139 = .ok (.aload_n 0, 1) := by decide +kernel
theorem dX9_digest_140 : decode cX9_digest 140 = .ok (.getfield 7, 3) := by decide +kernel
theorem dX9_digest_143 : decode cX9_digest 143 = .ok (.sipush 1042, 3) := by decide +kernel
theorem dX9_digest_146 : decode cX9_digest 146 = .ok (.iaload, 1) := by decide +kernel
theorem dX9_digest_147 : decode cX9_digest 147 = .ok (.if_icmp .ge 24, 3) := by decide +kernel
theorem dX9_digest_150 : decode cX9_digest 150 = .ok (.aload_n 0, 1) := by decide +kernel
theorem dX9_digest_151 : decode cX9_digest 151 = .ok (.aload_n 0, 1) := by decide +kernel
theorem dX9_digest_152 : decode cX9_digest 152 = .ok (.getfield 7, 3) := by decide +kernel
theorem dX9_digest_155 : decode cX9_digest 155 = .ok (.sipush 1043, 3) := by decide +kernel
theorem dX9_digest_158 : decode cX9_digest 158 = .ok (.iload_n 1, 1) := by decide +kernel
theorem dX9_digest_159 : decode cX9_digest 159 = .ok (.iadd, 1) := by decide +kernel
theorem dX9_digest_160 : decode cX9_digest 160 = .ok (.iaload, 1) := by decide +kernel
theorem dX9_digest_161 : decode cX9_digest 161 = .ok (.i2l, 1) := by decide +kernel
theorem dX9_digest_162 : decode cX9_digest 162 = .ok (.invokevirtual 300, 3) := by decide +kernel
theorem dX9_digest_165 : decode cX9_digest 165 = .ok (.iinc 1 1, 3) := by decide +kernel
theorem dX9_digest_168 : decode cX9_digest 168 = .ok (.goto (-30), 3) := by decide +kernel
theorem dX9_digest_171 : decode cX9_digest 171 = .ok (.aload_n 0, 1) := by decide +kernel
theorem dX9_digest_172 : decode cX9_digest 172 = .ok (.aload_n 0, 1) := by decide +kernel
theorem dX9_digest_173 : decode cX9_digest 173 = .ok (.iconst 0, 1) := by decide +kernel
theorem dX9_digest_174 : decode cX9_digest 174 = .ok (.sipush 999, 3) := by decide +kernel
theorem dX9_digest_177 : decode cX9_digest 177 = .ok (.invokevirtual 256, 3) := by decide +kernel
theorem dX9_digest_180 : decode cX9_digest 180 = .ok (.i2l, 1) := by decide +kernel
theorem dX9_digest_181 : decode cX9_digest 181 = .ok (.invokevirtual 300, 3) := by decide +kernel
theorem dX9_digest_184 : decode cX9_digest 184 = .ok (.aload_n 0, 1) := by decide +kernel
theorem dX9_digest_185 : decode cX9_digest 185 = .ok (.aload_n 0, 1) := by decide +kernel
theorem dX9_digest_186 : decode cX9_digest 186 = .ok (.getfield 271, 3) := by decide +kernel
theorem dX9_digest_189 : decode cX9_digest 189 = .ok (.i2l, 1) := by decide +kernel
theorem dX9_digest_190 : decode cX9_digest 190 = .ok (.invokevirtual 300, 3) := by decide +kernel
theorem dX9_digest_193 : decode cX9_digest 193 = .ok (.aload_n 0, 1) := by decide +kernel
theorem dX9_digest_194 : decode cX9_digest 194 = .ok (.aload_n 0, 1) := by decide +kernel
theorem dX9_digest_195 : decode cX9_digest 195 = .ok (.getfield 68, 3) := by decide +kernel
theorem dX9_digest_198 : decode cX9_digest 198 = .ok (.i2l, 1) := by decide +kernel
theorem dX9_digest_199 : decode cX9_digest 199 = .ok (.invokevirtual 300, 3) := by decide +kernel
theorem dX9_digest_202 : decode cX9_digest 202 = .ok (.aload_n 0, 1) := by decide +kernel
theorem dX9_digest_203 : decode cX9_digest 203 = .ok (.getfield 294, 3) := by decide +kernel
theorem dX9_digest_206 : decode cX9_digest 206 = .ok (.lreturn, 1) := by decide +kernel
