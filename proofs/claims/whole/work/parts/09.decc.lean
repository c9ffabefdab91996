theorem dX6_init_0 : decode cX6_init 0 = .ok (.aload_n 0, 1) := by decide +kernel
theorem dX6_init_1 : decode cX6_init 1 = .ok (.invokespecial 1, 3) := by decide +kernel
theorem dX6_init_4 : decode cX6_init 4 = .ok (.aload_n 0, 1) := by decide +kernel
theorem dX6_init_5 : decode cX6_init 5 = .ok (.iconst 3, 1) := by decide +kernel
theorem dX6_init_6 : decode cX6_init 6 = .ok (.newarray .int, 2) := by decide +kernel
theorem dX6_init_8 : decode cX6_init 8 = .ok (.putfield 7, 3) := by decide +kernel
theorem dX6_init_11 : decode cX6_init 11 = .ok (.aload_n 0, 1) := by decide +kernel
theorem dX6_init_12 : decode cX6_init 12 = .ok (.bipush 117, 2) := by decide +kernel
theorem dX6_init_14 : decode cX6_init 14 = .ok (.newarray .int, 2) := by decide +kernel
theorem dX6_init_16 : decode cX6_init 16 = .ok (.putfield 13, 3) := by decide +kernel
theorem dX6_init_19 : decode cX6_init 19 = .ok (.aload_n 0, 1) := by decide +kernel
theorem dX6_init_20 : decode cX6_init 20 = .ok (.bipush 26, 2) := by decide +kernel
theorem dX6_init_22 : decode cX6_init 22 = .ok (.newarray .boolean, 2) := by decide +kernel
theorem dX6_init_24 : decode cX6_init 24 = .ok (.putfield 16, 3) := by decide +kernel
theorem dX6_init_27 : decode cX6_init 27 = .ok (.aload_n 0, 1) := by decide +kernel
theorem dX6_init_28 : decode cX6_init 28 = .ok (.bipush 12, 2) := by decide +kernel
theorem dX6_init_30 : decode cX6_init 30 = .ok (.newarray .int, 2) := by decide +kernel
theorem dX6_init_32 : decode cX6_init 32 = .ok (.putfield 20, 3) := by decide +kernel
theorem dX6_init_35 : decode cX6_init 35 = .ok (.aload_n 0, 1) := by decide +kernel
theorem dX6_init_36 : decode cX6_init 36 = .ok (.bipush 12, 2) := by decide +kernel
theorem dX6_init_38 : decode cX6_init 38 = .ok (.newarray .int, 2) := by decide +kernel
theorem dX6_init_40 : decode cX6_init 40 = .ok (.putfield 23, 3) := by decide +kernel
theorem dX6_init_43 : decode cX6_init 43 = .ok (.aload_n 0, 1) := by decide +kernel
theorem dX6_init_44 : decode cX6_init 44 = .ok (.bipush 9, 2) := by decide +kernel
theorem dX6_init_46 : decode cX6_init 46 = .ok (.newarray .int, 2) := by decide +kernel
theorem dX6_init_48 : decode cX6_init 48 = .ok (.putfield 26, 3) := by decide +kernel
theorem dX6_init_51 : decode cX6_init 51 = .ok (.aload_n 0, 1) := by decide +kernel
theorem dX6_init_52 : decode cX6_init 52 = .ok (.bipush 9, 2) := by decide +kernel
theorem dX6_init_54 : decode cX6_init 54 = .ok (.newarray .int, 2) := by decide +kernel
theorem dX6_init_56 : decode cX6_init 56 = .ok (.putfield 29, 3) := by decide +kernel
theorem dX6_init_59 : decode cX6_init 59 = .ok (.aload_n 0, 1) := by decide +kernel
theorem dX6_init_60 : decode cX6_init 60 = .ok (.bipush 9, 2) := by decide +kernel
theorem dX6_init_62 : decode cX6_init 62 = .ok (.newarray .int, 2) := by decide +kernel
theorem dX6_init_64 : decode cX6_init 64 = .ok (.putfield 32, 3) := by decide +kernel
theorem dX6_init_67 : decode cX6_init 67 = .ok (.aload_n 0, 1) := by decide +kernel
theorem dX6_init_68 : decode cX6_init 68 = .ok (.bipush 104, 2) := by decide +kernel
theorem dX6_init_70 : decode cX6_init 70 = .ok (.newarray .int, 2) := by decide +kernel
theorem dX6_init_72 : decode cX6_init 72 = .ok (.putfield 35, 3) := by decide +kernel
theorem dX6_init_75 : decode cX6_init 75 = .ok (.aload_n 0, 1) := by decide +kernel
theorem dX6_init_76 : decode cX6_init 76 = .ok (.bipush 8, 2) := by decide +kernel
theorem dX6_init_78 : decode cX6_init 78 = .ok (.newarray .int, 2) := by decide +kernel
theorem dX6_init_80 : decode cX6_init 80 = .ok (.putfield 38, 3) := by decide +kernel
theorem dX6_init_83 : decode cX6_init 83 = .ok (.aload_n 0, 1) := by decide +kernel
theorem dX6_init_84 : decode cX6_init 84 = .ok (.bipush 8, 2) := by decide +kernel
theorem dX6_init_86 : decode cX6_init 86 = .ok (.newarray .boolean, 2) := by decide +kernel
theorem dX6_init_88 : decode cX6_init 88 = .ok (.putfield 41, 3) := by decide +kernel
theorem dX6_init_91 : decode cX6_init 91 = .ok (.aload_n 0, 1) := by decide +kernel
theorem dX6_init_92 : decode cX6_init 92 = .ok (.bipush 8, 2) := by decide +kernel
theorem dX6_init_94 : decode cX6_init 94 = .ok (.newarray .boolean, 2) := by decide +kernel
theorem dX6_init_96 : decode cX6_init 96 = .ok (.putfield 44, 3) := by decide +kernel
theorem dX6_init_99 : decode cX6_init 99 = .ok (.aload_n 0, 1) := by decide +kernel
theorem dX6_init_100 : decode cX6_init 100 = .ok (.bipush 12, 2) := by decide +kernel
theorem dX6_init_102 : decode cX6_init 102 = .ok (.newarray .int, 2) := by decide +kernel
theorem dX6_init_104 : decode cX6_init 104 = .ok (.putfield 47, 3) := by decide +kernel
theorem dX6_init_107 : decode cX6_init 107 = .ok (.aload_n 0, 1) := by decide +kernel
theorem dX6_init_108 : decode cX6_init 108 = .ok (.bipush 8, 2) := by decide +kernel
theorem dX6_init_110 : decode cX6_init 110 = .ok (.newarray .int, 2) := by decide +kernel
theorem dX6_init_112 : decode cX6_init 112 = .ok (.putfield 50, 3) := by decide +kernel
theorem dX6_init_115 : decode cX6_init 115 = .ok (.aload_n 0, 1) := by decide +kernel
theorem dX6_init_116 : decode cX6_init 116 = .ok (.bipush 8, 2) := by decide +kernel
theorem dX6_init_118 : decode cX6_init 118 = .ok (.newarray .int, 2) := by decide +kernel
theorem dX6_init_120 : decode cX6_init 120 = .ok (.putfield 53, 3) := by decide +kernel
theorem dX6_init_123 : decode cX6_init 123 = .ok (.aload_n 0, 1) := by decide +kernel
theorem dX6_init_124 : decode cX6_init 124 = .ok (.bipush 40, 2) := by decide +kernel
theorem dX6_init_126 : decode cX6_init 126 = .ok (.newarray .boolean, 2) := by decide +kernel
theorem dX6_init_128 : decode cX6_init 128 = .ok (.putfield 56, 3) := by decide +kernel
theorem dX6_init_131 : decode cX6_init 131 = .ok (.aload_n 0, 1) := by decide +kernel
theorem dX6_init_132 : decode cX6_init 132 = .ok (.sipush 480, 3) := by decide +kernel
theorem dX6_init_135 : decode cX6_init 135 = .ok (.newarray .int, 2) := by decide +kernel
theorem dX6_init_137 : decode cX6_init 137 = .ok (.putfield 59, 3) := by decide +kernel
theorem dX6_init_140 : decode cX6_init 140 = .ok (.aload_n 0, 1) := by decide +kernel
theorem dX6_init_141 : decode cX6_init 141 = .ok (.bipush 12, 2) := by decide +kernel
theorem dX6_init_143 : decode cX6_init 143 = .ok (.newarray .int, 2) := by decide +kernel
theorem dX6_init_145 : decode cX6_init 145 = .ok (.putfield 62, 3) := by decide +kernel
theorem dX6_init_148 : decode cX6_init 148 = .ok (.aload_n 0, 1) := by decide +kernel
theorem dX6_init_149 : decode cX6_init 149 = .ok (.iconst 4, 1) := by decide +kernel
theorem dX6_init_150 : decode cX6_init 150 = .ok (.newarray .boolean, 2) := by decide +kernel
theorem dX6_init_152 : decode cX6_init 152 = .ok (.putfield 65, 3) := by decide +kernel
theorem dX6_init_155 : decode cX6_init 155 = .ok (.aload_n 0, 1) := by decide +kernel
theorem dX6_init_156 : decode cX6_init 156 = .ok (.iconst 4, 1) := by decide +kernel
theorem dX6_init_157 : decode cX6_init 157 = .ok (.newarray .int, 2) := by decide +kernel
theorem dX6_init_159 : decode cX6_init 159 = .ok (.putfield 68, 3) := by decide +kernel
theorem dX6_init_162 : decode cX6_init 162 = .ok (.aload_n 0, 1) := by decide +kernel
theorem dX6_init_163 : decode cX6_init 163 = .ok (.iconst 4, 1) := by decide +kernel
theorem dX6_init_164 : decode cX6_init 164 = .ok (.newarray .int, 2) := by decide +kernel
theorem dX6_init_166 : decode cX6_init 166 = .ok (.putfield 71, 3) := by decide +kernel
theorem dX6_init_169 : decode cX6_init 169 = .ok (.aload_n 0, 1) := by decide +kernel
theorem dX6_init_170 : decode cX6_init 170 = .ok (.sipush 240, 3) := by decide +kernel
theorem dX6_init_173 : decode cX6_init 173 = .ok (.newarray .int, 2) := by decide +kernel
theorem dX6_init_175 : decode cX6_init 175 = .ok (.putfield 74, 3) := by decide +kernel
theorem dX6_init_178 : decode cX6_init 178 = .ok (.aload_n 0, 1) := by decide +kernel
theorem dX6_init_179 : decode cX6_init 179 = .ok (.bipush 60, 2) := by decide +kernel
theorem dX6_init_181 : decode cX6_init 181 = .ok (.newarray .int, 2) := by decide +kernel
theorem dX6_init_183 : decode cX6_init 183 = .ok (.putfield 77, 3) := by decide +kernel
theorem dX6_init_186 : decode cX6_init 186 = .ok (.return_, 1) := by decide +kernel
theorem dX6_within_0 : decode cX6_within 0 = .ok (.iload_n 0, 1) := by decide +kernel
theorem dX6_within_1 : decode cX6_within 1 = .ok (.iload_n 1, 1) := by decide +kernel
theorem dX6_within_2 : decode cX6_within 2 = .ok (.if_icmp .lt 12, 3) := by decide +kernel
theorem dX6_within_5 : decode cX6_within 5 = .ok (.iload_n 0, 1) := by decide +kernel
theorem dX6_within_6 : decode cX6_within 6 = .ok (.iload_n 2, 1) := by decide +kernel
theorem dX6_within_7 : decode cX6_within 7 = .ok (.if_icmp .gt 7, 3) := by decide +kernel
theorem dX6_within_10 : decode cX6_within 10 = .ok (.iconst 1, 1) := by decide +kernel
theorem dX6_within_11 : decode cX6_within 11 = .ok (.goto 4, 3) := by decide +kernel
theorem dX6_within_14 : decode cX6_within 14 = .ok (.iconst 0, 1) := by decide +kernel
theorem dX6_within_15 : decode cX6_within 15 = .ok (.ireturn, 1) := by decide +kernel
theorem dX6_isIn_0 : decode cX6_isIn 0 = .ok (.iload_n 0, 1) := by decide +kernel
theorem dX6_isIn_1 : decode cX6_isIn 1 = .ok (.iload_n 1, 1) := by decide +kernel
theorem dX6_isIn_2 : decode cX6_isIn 2 = .ok (.ishr, 1) := by decide +kernel
theorem dX6_isIn_3 : decode cX6_isIn 3 = .ok (.iconst 1, 1) := by decide +kernel
theorem dX6_isIn_4 : decode cX6_isIn 4 = .ok (.iand, 1) := by decide +kernel
theorem dX6_isIn_5 : decode cX6_isIn 5 = .ok (.iconst 1, 1) := by decide +kernel
theorem dX6_isIn_6 : decode cX6_isIn 6 = .ok (.if_icmp .ne 7, 3) := by decide +kernel
theorem dX6_isIn_9 : decode cX6_isIn 9 = .ok (.iconst 1, 1) := by decide +kernel
theorem dX6_isIn_10 : decode cX6_isIn 10 = .ok (.goto 4, 3) := by decide +kernel
theorem dX6_isIn_13 : decode cX6_isIn 13 = .ok (.iconst 0, 1) := by decide +kernel
theorem dX6_isIn_14 : decode cX6_isIn 14 = .ok (.ireturn, 1) := by decide +kernel
theorem dX6_no_0 : decode cX6_no 0 = .ok (.ldc2_w 80, 3) := by decide +kernel
theorem dX6_no_3 : decode cX6_no 3 = .ok (.iload_n 0, 1) := by decide +kernel
theorem dX6_no_4 : decode cX6_no 4 = .ok (.i2l, 1) := by decide +kernel
theorem dX6_no_5 : decode cX6_no 5 = .ok (.lsub, 1) := by decide +kernel
theorem dX6_no_6 : decode cX6_no 6 = .ok (.lreturn, 1) := by decide +kernel
theorem dX6_lowest_0 : decode cX6_lowest 0 = .ok (.lload_n 0, 1) := by decide +kernel
theorem dX6_lowest_1 : decode cX6_lowest 1 = .ok (.lstore 5, 2) := by decide +kernel
theorem dX6_lowest_3 : decode cX6_lowest 3 = .ok (.lload_n 2, 1) := by decide +kernel
theorem dX6_lowest_4 : decode cX6_lowest 4 = .ok (.lstore 7, 2) := by decide +kernel
theorem dX6_lowest_6 : decode cX6_lowest 6 = .ok (.lload 7, 2) := by decide +kernel
theorem dX6_lowest_8 : decode cX6_lowest 8 = .ok (.lconst 0, 1) := by decide +kernel
theorem dX6_lowest_9 : decode cX6_lowest 9 = .ok (.lcmp, 1) := by decide +kernel
theorem dX6_lowest_10 : decode cX6_lowest 10 = .ok (.ifCond .eq 21, 3) := by decide +kernel
theorem dX6_lowest_13 : decode cX6_lowest 13 = .ok (.lload 5, 2) := by decide +kernel
theorem dX6_lowest_15 : decode cX6_lowest 15 = .ok (.lload 7, 2) := by decide +kernel
theorem dX6_lowest_17 : decode cX6_lowest 17 = .ok (.lrem, 1) := by decide +kernel
theorem dX6_lowest_18 : decode cX6_lowest 18 = .ok (.lstore 9, 2) := by decide +kernel
theorem dX6_lowest_20 : decode cX6_lowest 20 = .ok (.lload 7, 2) := by decide +kernel
theorem dX6_lowest_22 : decode cX6_lowest 22 = .ok (.lstore 5, 2) := by decide +kernel
theorem dX6_lowest_24 : decode cX6_lowest 24 = .ok (.lload 9, 2) := by decide +kernel
theorem dX6_lowest_26 : decode cX6_lowest 26 = .ok (.lstore 7, 2) := by decide +kernel
theorem dX6_lowest_28 : decode cX6_lowest 28 = .ok (.goto (-22), 3) := by decide +kernel
theorem dX6_lowest_31 : decode cX6_lowest 31 = .ok (.iload 4, 2) := by decide +kernel
theorem dX6_lowest_33 : decode cX6_lowest 33 = .ok (.ifCond .ne 10, 3) := by decide +kernel
theorem dX6_lowest_36 : decode cX6_lowest 36 = .ok (.lload_n 0, 1) := by decide +kernel
theorem dX6_lowest_37 : decode cX6_lowest 37 = .ok (.lload 5, 2) := by decide +kernel
theorem dX6_lowest_39 : decode cX6_lowest 39 = .ok (.ldiv, 1) := by decide +kernel
theorem dX6_lowest_40 : decode cX6_lowest 40 = .ok (.goto 7, 3) := by decide +kernel
theorem dX6_lowest_43 : decode cX6_lowest 43 = .ok (.lload_n 2, 1) := by decide +kernel
theorem dX6_lowest_44 : decode cX6_lowest 44 = .ok (.lload 5, 2) := by decide +kernel
theorem dX6_lowest_46 : decode cX6_lowest 46 = .ok (.ldiv, 1) := by decide +kernel
theorem dX6_lowest_47 : decode cX6_lowest 47 = .ok (.lreturn, 1) := by decide +kernel
theorem dX6_isText_0 : decode cX6_isText 0 = .ok (.iload_n 0, 1) := by decide +kernel
theorem dX6_isText_1 : decode cX6_isText 1 = .ok (.iconst 0, 1) := by decide +kernel
theorem dX6_isText_2 : decode cX6_isText 2 = .ok (.iconst 2, 1) := by decide +kernel
theorem dX6_isText_3 : decode cX6_isText 3 = .ok (.invokestatic 82, 3) := by decide +kernel
theorem dX6_isText_6 : decode cX6_isText 6 = .ok (.ireturn, 1) := by decide +kernel
theorem dX6_type_0 : decode cX6_type 0 = .ok (.iload_n 1, 1) := by decide +kernel
theorem dX6_type_1 : decode cX6_type 1 = .ok (.invokestatic 86, 3) := by decide +kernel
theorem dX6_type_4 : decode cX6_type 4 = .ok (.ifCond .eq 14, 3) := by decide +kernel
theorem dX6_type_7 : decode cX6_type 7 = .ok (.iload_n 2, 1) := by decide +kernel
theorem dX6_type_8 : decode cX6_type 8 = .ok (.iconst 0, 1) := by decide +kernel
theorem dX6_type_9 : decode cX6_type 9 = .ok (.sipush 255, 3) := by decide +kernel
theorem dX6_type_12 : decode cX6_type 12 = .ok (.invokestatic 82, 3) := by decide +kernel
theorem dX6_type_15 : decode cX6_type 15 = .ok (.ifCond .ne 6, 3) := by decide +kernel
theorem dX6_type_18 : decode cX6_type 18 = .ok (.bipush (-2), 2) := by decide +kernel
theorem dX6_type_20 : decode cX6_type 20 = .ok (.ireturn, 1) := by decide +kernel
theorem dX6_type_21 : decode cX6_type 21 = .ok (.aload_n 0, 1) := by decide +kernel
theorem dX6_type_22 : decode cX6_type 22 = .ok (.getfield 7, 3) := by decide +kernel
theorem dX6_type_25 : decode cX6_type 25 = .ok (.iload_n 1, 1) := by decide +kernel
theorem dX6_type_26 : decode cX6_type 26 = .ok (.iaload, 1) := by decide +kernel
theorem dX6_type_27 : decode cX6_type 27 = .ok (.iload_n 1, 1) := by decide +kernel
theorem dX6_type_28 : decode cX6_type 28 = .ok (.ifCond .ne 8, 3) := by decide +kernel
theorem dX6_type_31 : decode cX6_type 31 = .ok (.bipush 29, 2) := by decide +kernel
theorem dX6_type_33 : decode cX6_type 33 = .ok (.goto 15, 3) := by decide +kernel
theorem dX6_type_36 : decode cX6_type 36 = .ok (.iload_n 1, 1) := by decide +kernel
theorem dX6_type_37 : decode cX6_type 37 = .ok (.iconst 1, 1) := by decide +kernel
theorem dX6_type_38 : decode cX6_type 38 = .ok (.if_icmp .ne 8, 3) := by decide +kernel
theorem dX6_type_41 : decode cX6_type 41 = .ok (.bipush 24, 2) := by decide +kernel
theorem dX6_type_43 : decode cX6_type 43 = .ok (.goto 5, 3) := by decide +kernel
theorem dX6_type_46 : decode cX6_type 46 = .ok (.bipush 39, 2) := by decide +kernel
theorem dX6_type_48 : decode cX6_type 48 = .ok (.if_icmp .ne 6, 3) := by decide +kernel
theorem dX6_type_51 : decode cX6_type 51 = .ok (.bipush (-4), 2) := by decide +kernel
theorem dX6_type_53 : decode cX6_type 53 = .ok (.ireturn, 1) := by decide +kernel
theorem dX6_type_54 : decode cX6_type 54 = .ok (.aload_n 0, 1) := by decide +kernel
theorem dX6_type_55 : decode cX6_type 55 = .ok (.getfield 13, 3) := by decide +kernel
theorem dX6_type_58 : decode cX6_type 58 = .ok (.bipush 39, 2) := by decide +kernel
theorem dX6_type_60 : decode cX6_type 60 = .ok (.iload_n 1, 1) := by decide +kernel
theorem dX6_type_61 : decode cX6_type 61 = .ok (.imul, 1) := by decide +kernel
theorem dX6_type_62 : decode cX6_type 62 = .ok (.aload_n 0, 1) := by decide +kernel
theorem dX6_type_63 : decode cX6_type 63 = .ok (.getfield 7, 3) := by decide +kernel
theorem dX6_type_66 : decode cX6_type 66 = .ok (.iload_n 1, 1) := by decide +kernel
theorem dX6_type_67 : decode cX6_type 67 = .ok (.iaload, 1) := by decide +kernel
theorem dX6_type_68 : decode cX6_type 68 = .ok (.iadd, 1) := by decide +kernel
theorem dX6_type_69 : decode cX6_type 69 = .ok (.iload_n 2, 1) := by decide +kernel
theorem dX6_type_70 : decode cX6_type 70 = .ok (.iastore, 1) := by decide +kernel
theorem dX6_type_71 : decode cX6_type 71 = .ok (.aload_n 0, 1) := by decide +kernel
theorem dX6_type_72 : decode cX6_type 72 = .ok (.getfield 7, 3) := by decide +kernel
theorem dX6_type_75 : decode cX6_type 75 = .ok (.iload_n 1, 1) := by decide +kernel
theorem dX6_type_76 : decode cX6_type 76 = .ok (.dup2, 1) := by decide +kernel
theorem dX6_type_77 : decode cX6_type 77 = .ok (.iaload, 1) := by decide +kernel
theorem dX6_type_78 : decode cX6_type 78 = .ok (.iconst 1, 1) := by decide +kernel
theorem dX6_type_79 : decode cX6_type 79 = .ok (.iadd, 1) := by decide +kernel
theorem dX6_type_80 : decode cX6_type 80 = .ok (.iastore, 1) := by decide +kernel
theorem dX6_type_81 : decode cX6_type 81 = .ok (.aload_n 0, 1) := by decide +kernel
theorem dX6_type_82 : decode cX6_type 82 = .ok (.getfield 7, 3) := by decide +kernel
theorem dX6_type_85 : decode cX6_type 85 = .ok (.iload_n 1, 1) := by decide +kernel
theorem dX6_type_86 : decode cX6_type 86 = .ok (.iaload, 1) := by decide +kernel
theorem dX6_type_87 : decode cX6_type 87 = .ok (.ireturn, 1) := by decide +kernel
theorem dX6_wipe_0 : decode cX6_wipe 0 = .ok (.iload_n 1, 1) := by decide +kernel
theorem dX6_wipe_1 : decode cX6_wipe 1 = .ok (.invokestatic 86, 3) := by decide +kernel
theorem dX6_wipe_4 : decode cX6_wipe 4 = .ok (.ifCond .ne 6, 3) := by decide +kernel
theorem dX6_wipe_7 : decode cX6_wipe 7 = .ok (.bipush (-2), 2) := by decide +kernel
theorem dX6_wipe_9 : decode cX6_wipe 9 = .ok (.ireturn, 1) := by decide +kernel
theorem dX6_wipe_10 : decode cX6_wipe 10 = .ok (.aload_n 0, 1) := by decide +kernel
theorem dX6_wipe_11 : decode cX6_wipe 11 = .ok (.getfield 7, 3) := by decide +kernel
theorem dX6_wipe_14 : decode cX6_wipe 14 = .ok (.iload_n 1, 1) := by decide +kernel
theorem dX6_wipe_15 : decode cX6_wipe 15 = .ok (.iaload, 1) := by decide +kernel
theorem dX6_wipe_16 : decode cX6_wipe 16 = .ok (.istore_n 2, 1) := by decide +kernel
theorem dX6_wipe_17 : decode cX6_wipe 17 = .ok (.aload_n 0, 1) := by decide +kernel
theorem dX6_wipe_18 : decode cX6_wipe 18 = .ok (.getfield 7, 3) := by decide +kernel
theorem dX6_wipe_21 : decode cX6_wipe 21 = .ok (.iload_n 1, 1) := by decide +kernel
theorem dX6_wipe_22 : decode cX6_wipe 22 = .ok (.iconst 0, 1) := by decide +kernel
theorem dX6_wipe_23 : decode cX6_wipe 23 = .ok (.iastore, 1) := by decide +kernel
theorem dX6_wipe_24 : decode cX6_wipe 24 = .ok (.iload_n 2, 1) := by decide +kernel
theorem dX6_wipe_25 : decode cX6_wipe 25 = .ok (.ireturn, 1) := by decide +kernel
theorem dX6_undo_0 : decode cX6_undo 0 = .ok (.iload_n 1, 1) := by decide +kernel
theorem dX6_undo_1 : decode cX6_undo 1 = .ok (.invokestatic 86, 3) := by decide +kernel
theorem dX6_undo_4 : decode cX6_undo 4 = .ok (.ifCond .ne 6, 3) := by decide +kernel
theorem dX6_undo_7 : decode cX6_undo 7 = .ok (.bipush (-2), 2) := by decide +kernel
theorem dX6_undo_9 : decode cX6_undo 9 = .ok (.ireturn, 1) := by decide +kernel
theorem dX6_undo_10 : decode cX6_undo 10 = .ok (.aload_n 0, 1) := by decide +kernel
theorem dX6_undo_11 : decode cX6_undo 11 = .ok (.getfield 7, 3) := by decide +kernel
theorem dX6_undo_14 : decode cX6_undo 14 = .ok (.iload_n 1, 1) := by decide +kernel
theorem dX6_undo_15 : decode cX6_undo 15 = .ok (.iaload, 1) := by decide +kernel
theorem dX6_undo_16 : decode cX6_undo 16 = .ok (.ifCond .ne 6, 3) := by decide +kernel
theorem dX6_undo_19 : decode cX6_undo 19 = .ok (.bipush (-3), 2) := by decide +kernel
theorem dX6_undo_21 : decode cX6_undo 21 = .ok (.ireturn, 1) := by decide +kernel
theorem dX6_undo_22 : decode cX6_undo 22 = .ok (.aload_n 0, 1) := by decide +kernel
theorem dX6_undo_23 : decode cX6_undo 23 = .ok (.getfield 7, 3) := by decide +kernel
theorem dX6_undo_26 : decode cX6_undo 26 = .ok (.iload_n 1, 1) := by decide +kernel
theorem dX6_undo_27 : decode cX6_undo 27 = .ok (.dup2, 1) := by decide +kernel
theorem dX6_undo_28 : decode cX6_undo 28 = .ok (.iaload, 1) := by decide +kernel
theorem dX6_undo_29 : decode cX6_undo 29 = .ok (.iconst 1, 1) := by decide +kernel
theorem dX6_undo_30 : decode cX6_undo 30 = .ok (.isub, 1) := by decide +kernel
theorem dX6_undo_31 : decode cX6_undo 31 = .ok (.iastore, 1) := by decide +kernel
theorem dX6_undo_32 : decode cX6_undo 32 = .ok (.aload_n 0, 1) := by decide +kernel
theorem dX6_undo_33 : decode cX6_undo 33 = .ok (.getfield 7, 3) := by decide +kernel
theorem dX6_undo_36 : decode cX6_undo 36 = .ok (.iload_n 1, 1) := by decide +kernel
theorem dX6_undo_37 : decode cX6_undo 37 = .ok (.iaload, 1) := by decide +kernel
theorem dX6_undo_38 : decode cX6_undo 38 = .ok (.ireturn, 1) := by decide +kernel
theorem dX6_byteAt_0 : decode cX6_byteAt 0 = .ok (.iload_n 2, 1) := by decide +kernel
theorem dX6_byteAt_1 : decode cX6_byteAt 1 = .ok (.aload_n 0, 1) := by decide +kernel
theorem dX6_byteAt_2 : decode cX6_byteAt 2 = .ok (.getfield 7, 3) := by decide +kernel
theorem dX6_byteAt_5 : decode cX6_byteAt 5 = .ok (.iload_n 1, 1) := by decide +kernel
theorem dX6_byteAt_6 : decode cX6_byteAt 6 = .ok (.iaload, 1) := by decide +kernel
theorem dX6_byteAt_7 : decode cX6_byteAt 7 = .ok (.if_icmp .ge 17, 3) := by decide +kernel
theorem dX6_byteAt_10 : decode cX6_byteAt 10 = .ok (.aload_n 0, 1) := by decide +kernel
theorem dX6_byteAt_11 : decode cX6_byteAt 11 = .ok (.getfield 13, 3) := by decide +kernel
theorem dX6_byteAt_14 : decode cX6_byteAt 14 = .ok (.bipush 39, 2) := by decide +kernel
theorem dX6_byteAt_16 : decode cX6_byteAt 16 = .ok (.iload_n 1, 1) := by decide +kernel
theorem dX6_byteAt_17 : decode cX6_byteAt 17 = .ok (.imul, 1) := by decide +kernel
theorem dX6_byteAt_18 : decode cX6_byteAt 18 = .ok (.iload_n 2, 1) := by decide +kernel
theorem dX6_byteAt_19 : decode cX6_byteAt 19 = .ok (.iadd, 1) := by decide +kernel
theorem dX6_byteAt_20 : decode cX6_byteAt 20 = .ok (.iaload, 1) := by decide +kernel
theorem dX6_byteAt_21 : decode cX6_byteAt 21 = .ok (.goto 4, 3) := by decide +kernel
theorem dX6_byteAt_24 : decode cX6_byteAt 24 = .ok (.iconst (-1), 1) := by decide +kernel
theorem dX6_byteAt_25 : decode cX6_byteAt 25 = .ok (.ireturn, 1) := by decide +kernel
theorem dX6_figureAt_0 : decode cX6_figureAt 0 = .ok (.aload_n 0, 1) := by decide +kernel
theorem dX6_figureAt_1 : decode cX6_figureAt 1 = .ok (.iload_n 1, 1) := by decide +kernel
theorem dX6_figureAt_2 : decode cX6_figureAt 2 = .ok (.iload_n 2, 1) := by decide +kernel
theorem dX6_figureAt_3 : decode cX6_figureAt 3 = .ok (.invokevirtual 90, 3) := by decide +kernel
theorem dX6_figureAt_6 : decode cX6_figureAt 6 = .ok (.bipush 48, 2) := by decide +kernel
theorem dX6_figureAt_8 : decode cX6_figureAt 8 = .ok (.isub, 1) := by decide +kernel
theorem dX6_figureAt_9 : decode cX6_figureAt 9 = .ok (.istore 5, 2) := by decide +kernel
theorem dX6_figureAt_11 : decode cX6_figureAt 11 = .ok (.iload 5, 2) := by decide +kernel
theorem dX6_figureAt_13 : decode cX6_figureAt 13 = .ok (.iload_n 3, 1) := by decide +kernel
theorem dX6_figureAt_14 : decode cX6_figureAt 14 = .ok (.iload 4, 2) := by decide +kernel
theorem dX6_figureAt_16 : decode cX6_figureAt 16 = .ok (.invokestatic 82, 3) := by decide +kernel
theorem dX6_figureAt_19 : decode cX6_figureAt 19 = .ok (.ifCond .eq 8, 3) := by decide +kernel
theorem dX6_figureAt_22 : decode cX6_figureAt 22 = .ok (.iload 5, 2) := by decide +kernel
theorem dX6_figureAt_24 : decode cX6_figureAt 24 = .ok (.goto 4, 3) := by decide +kernel
theorem dX6_figureAt_27 : decode cX6_figureAt 27 = .ok (.iconst (-1), 1) := by decide +kernel
theorem dX6_figureAt_28 : decode cX6_figureAt 28 = .ok (.ireturn, 1) := by decide +kernel
theorem dX6_readsCorner_0 : decode cX6_readsCorner 0 = .ok (.iconst 0, 1) := by decide +kernel
theorem dX6_readsCorner_1 : decode cX6_readsCorner 1 = .ok (.istore_n 1, 1) := by decide +kernel
theorem dX6_readsCorner_2 : decode cX6_readsCorner 2 = .ok (.iconst 0, 1) := by decide +kernel
theorem dX6_readsCorner_3 : decode cX6_readsCorner 3 = .ok (.istore_n 2, 1) := by decide +kernel
theorem dX6_readsCorner_4 : decode cX6_readsCorner 4 = .ok (.iconst 0, 1) := by decide +kernel
theorem dX6_readsCorner_5 : decode cX6_readsCorner 5 = .ok (.istore_n 3, 1) := by decide +kernel
theorem dX6_readsCorner_6 : decode cX6_readsCorner 6 = .ok (.iconst 5, 1) := by decide +kernel
theorem dX6_readsCorner_7 : decode cX6_readsCorner 7 = .ok (.istore 4, 2) := by decide +kernel
theorem dX6_readsCorner_9 : decode cX6_readsCorner 9 = .ok (.aload_n 0, 1) := by decide +kernel
theorem dX6_readsCorner_10 : decode cX6_readsCorner 10 = .ok (.iconst 0, 1) := by decide +kernel
theorem dX6_readsCorner_11 : decode cX6_readsCorner 11 = .ok (.putfield 94, 3) := by decide +kernel
theorem dX6_readsCorner_14 : decode cX6_readsCorner 14 = .ok (.aload_n 0, 1) := by decide +kernel
theorem dX6_readsCorner_15 : decode cX6_readsCorner 15 = .ok (.iconst 1, 1) := by decide +kernel
theorem dX6_readsCorner_16 : decode cX6_readsCorner 16 = .ok (.putfield 98, 3) := by decide +kernel
theorem dX6_readsCorner_19 : decode cX6_readsCorner 19 = .ok (.iconst 0, 1) := by decide +kernel
theorem dX6_readsCorner_20 : decode cX6_readsCorner 20 = .ok (.istore 5, 2) := by decide +kernel
theorem dX6_readsCorner_22 : decode cX6_readsCorner 22 = .ok (.iload 5, 2) := by decide +kernel
theorem dX6_readsCorner_24 : decode cX6_readsCorner 24 = .ok (.aload_n 0, 1) := by decide +kernel
theorem dX6_readsCorner_25 : decode cX6_readsCorner 25 = .ok (.getfield 7, 3) := by decide +kernel
theorem dX6_readsCorner_28 : decode cX6_readsCorner 28 = .ok (.iconst 0, 1) := by decide +kernel
theorem dX6_readsCorner_29 : decode cX6_readsCorner 29 = .ok (.iaload, 1) := by decide +kernel
theorem dX6_readsCorner_30 : decode cX6_readsCorner 30 = .ok (.if_icmp .ge 117, 3) := by decide +kernel
theorem dX6_readsCorner_33 : decode cX6_readsCorner 33 = .ok (.aload_n 0, 1) := by decide +kernel
theorem dX6_readsCorner_34 : decode cX6_readsCorner 34 = .ok (.iconst 0, 1) := by decide +kernel
theorem dX6_readsCorner_35 : decode cX6_readsCorner 35 = .ok (.iload 5, 2) := by decide +kernel
theorem dX6_readsCorner_37 : decode cX6_readsCorner 37 = .ok (.invokevirtual 90, 3) := by decide +kernel
theorem dX6_readsCorner_40 : decode cX6_readsCorner 40 = .ok (.istore 6, 2) := by decide +kernel
theorem dX6_readsCorner_42 : decode cX6_readsCorner 42 = .ok (.iload_n 1, 1) := by decide +kernel
theorem dX6_readsCorner_43 : decode cX6_readsCorner 43 = .ok (.iconst 5, 1) := by decide +kernel
theorem dX6_readsCorner_44 : decode cX6_readsCorner 44 = .ok (.if_icmp .ne 6, 3) := by decide +kernel
theorem dX6_readsCorner_47 : decode cX6_readsCorner 47 = .ok (.iload 5, 2) := by decide +kernel
theorem dX6_readsCorner_49 : decode cX6_readsCorner 49 = .ok (.ireturn, 1) := by decide +kernel
theorem dX6_readsCorner_50 : decode cX6_readsCorner 50 = .ok (.iload 6, 2) := by decide +kernel
theorem dX6_readsCorner_52 : decode cX6_readsCorner 52 = .ok (.bipush 59, 2) := by decide +kernel
theorem dX6_readsCorner_54 : decode cX6_readsCorner 54 = .ok (.if_icmp .ne 40, 3) := by decide +kernel
theorem dX6_readsCorner_57 : decode cX6_readsCorner 57 = .ok (.iload_n 2, 1) := by decide +kernel
theorem dX6_readsCorner_58 : decode cX6_readsCorner 58 = .ok (.ifCond .eq 13, 3) := by decide +kernel
theorem dX6_readsCorner_61 : decode cX6_readsCorner 61 = .ok (.iload_n 1, 1) := by decide +kernel
theorem dX6_readsCorner_62 : decode cX6_readsCorner 62 = .ok (.ifCond .le 12, 3) := by decide +kernel
theorem dX6_readsCorner_65 : decode cX6_readsCorner 65 = .ok (.iload_n 2, 1) := by decide +kernel
theorem dX6_readsCorner_66 : decode cX6_readsCorner 66 = .ok (.iload 4, 2) := by decide +kernel
theorem dX6_readsCorner_68 : decode cX6_readsCorner 68 = .ok (.if_icmp .ge 6, 3) := by decide +kernel
theorem dX6_readsCorner_71 : decode cX6_readsCorner 71 = .ok (.iload 5, 2) := by decide +kernel
theorem dX6_readsCorner_73 : decode cX6_readsCorner 73 = .ok (.ireturn, 1) := by decide +kernel
theorem dX6_readsCorner_74 : decode cX6_readsCorner 74 = .ok (.iload_n 1, 1) := by decide +kernel
theorem dX6_readsCorner_75 : decode cX6_readsCorner 75 = .ok (.ifCond .ne 7, 3) := by decide +kernel
theorem dX6_readsCorner_78 : decode cX6_readsCorner 78 = .ok (.iload_n 2, 1) := by decide +kernel
theorem dX6_readsCorner_79 : decode cX6_readsCorner 79 = .ok (.goto 5, 3) := by decide +kernel
theorem dX6_readsCorner_82 : decode cX6_readsCorner 82 = .ok (.iload 4, 2) := by decide +kernel
theorem dX6_readsCorner_84 : decode cX6_readsCorner 84 = .ok (.istore 4, 2) := by decide +kernel
theorem dX6_readsCorner_86 : decode cX6_readsCorner 86 = .ok (.iinc 1 1, 3) := by decide +kernel
theorem dX6_readsCorner_89 : decode cX6_readsCorner 89 = .ok (.iconst 0, 1) := by decide +kernel
theorem dX6_readsCorner_90 : decode cX6_readsCorner 90 = .ok (.istore_n 2, 1) := by decide +kernel
theorem dX6_readsCorner_91 : decode cX6_readsCorner 91 = .ok (.goto 50, 3) := by decide +kernel
theorem dX6_readsCorner_94 : decode cX6_readsCorner 94 = .ok (.iload 6, 2) := by decide +kernel
theorem dX6_readsCorner_96 : decode cX6_readsCorner 96 = .ok (.bipush 46, 2) := by decide +kernel
theorem dX6_readsCorner_98 : decode cX6_readsCorner 98 = .ok (.if_icmp .eq 10, 3) := by decide +kernel
theorem dX6_readsCorner_101 : decode cX6_readsCorner 101 = .ok (.iload 6, 2) := by decide +kernel
theorem dX6_readsCorner_103 : decode cX6_readsCorner 103 = .ok (.bipush 35, 2) := by decide +kernel
theorem dX6_readsCorner_105 : decode cX6_readsCorner 105 = .ok (.if_icmp .ne 9, 3) := by decide +kernel
theorem dX6_readsCorner_108 : decode cX6_readsCorner 108 = .ok (.iload_n 2, 1) := by decide +kernel
theorem dX6_readsCorner_109 : decode cX6_readsCorner 109 = .ok (.iload 4, 2) := by decide +kernel
theorem dX6_readsCorner_111 : decode cX6_readsCorner 111 = .ok (.if_icmp .ne 6, 3) := by decide +kernel
theorem dX6_readsCorner_114 : decode cX6_readsCorner 114 = .ok (.iload 5, 2) := by decide +kernel
theorem dX6_readsCorner_116 : decode cX6_readsCorner 116 = .ok (.ireturn, 1) := by decide +kernel
theorem dX6_readsCorner_117 : decode cX6_readsCorner 117 = .ok (.aload_n 0, 1) := by decide +kernel
theorem dX6_readsCorner_118 : decode cX6_readsCorner 118 = .ok (.getfield 16, 3) := by decide +kernel
theorem dX6_readsCorner_121 : decode cX6_readsCorner 121 = .ok (.iload_n 3, 1) := by decide +kernel
theorem dX6_readsCorner_122 : decode cX6_readsCorner 122 = .ok (.iload 6, 2) := by decide +kernel
theorem dX6_readsCorner_124 : decode cX6_readsCorner 124 = .ok (.bipush 35, 2) := by decide +kernel
theorem dX6_readsCorner_126 : decode cX6_readsCorner 126 = .ok (.if_icmp .ne 7, 3) := by decide +kernel
theorem dX6_readsCorner_129 : decode cX6_readsCorner 129 = .ok (.iconst 1, 1) := by decide +kernel
theorem dX6_readsCorner_130 : decode cX6_readsCorner 130 = .ok (.goto 4, 3) := by decide +kernel
theorem dX6_readsCorner_133 : decode cX6_readsCorner 133 = .ok (.iconst 0, 1) := by decide +kernel
theorem dX6_readsCorner_134 : decode cX6_readsCorner 134 = .ok (.bastore, 1) := by decide +kernel
theorem dX6_readsCorner_135 : decode cX6_readsCorner 135 = .ok (.iinc 3 1, 3) := by decide +kernel
theorem dX6_readsCorner_138 : decode cX6_readsCorner 138 = .ok (.iinc 2 1, 3) := by decide +kernel
theorem dX6_readsCorner_141 : decode cX6_readsCorner 141 = .ok (.iinc 5 1, 3) := by decide +kernel
theorem dX6_readsCorner_144 : decode cX6_readsCorner 144 = .ok (.goto (-122), 3) := by decide +kernel
theorem dX6_readsCorner_147 : decode cX6_readsCorner 147 = .ok (.aload_n 0, 1) := by decide +kernel
theorem dX6_readsCorner_148 : decode cX6_readsCorner 148 = .ok (.getfield 7, 3) := by decide +kernel
theorem dX6_readsCorner_151 : decode cX6_readsCorner 151 = .ok (.iconst 0, 1) := by decide +kernel
theorem dX6_readsCorner_152 : decode cX6_readsCorner 152 = .ok (.iaload, 1) := by decide +kernel
theorem dX6_readsCorner_153 : decode cX6_readsCorner 153 = .ok (.ifCond .le 24, 3) := by decide +kernel
theorem dX6_readsCorner_156 : decode cX6_readsCorner 156 = .ok (.iload_n 2, 1) := by decide +kernel
theorem dX6_readsCorner_157 : decode cX6_readsCorner 157 = .ok (.ifCond .eq 13, 3) := by decide +kernel
theorem dX6_readsCorner_160 : decode cX6_readsCorner 160 = .ok (.iload_n 1, 1) := by decide +kernel
theorem dX6_readsCorner_161 : decode cX6_readsCorner 161 = .ok (.ifCond .le 16, 3) := by decide +kernel
theorem dX6_readsCorner_164 : decode cX6_readsCorner 164 = .ok (.iload_n 2, 1) := by decide +kernel
theorem dX6_readsCorner_165 : decode cX6_readsCorner 165 = .ok (.iload 4, 2) := by decide +kernel
theorem dX6_readsCorner_167 : decode cX6_readsCorner 167 = .ok (.if_icmp .ge 10, 3) := by decide +kernel
theorem dX6_readsCorner_170 : decode cX6_readsCorner 170 = .ok (.aload_n 0, 1) := by decide +kernel
theorem dX6_readsCorner_171 : decode cX6_readsCorner 171 = .ok (.getfield 7, 3) := by decide +kernel
theorem dX6_readsCorner_174 : decode cX6_readsCorner 174 = .ok (.iconst 0, 1) := by decide +kernel
theorem dX6_readsCorner_175 : decode cX6_readsCorner 175 = .ok (.iaload, 1) := by decide +kernel
theorem dX6_readsCorner_176 : decode cX6_readsCorner 176 = .ok (.ireturn, 1) := by decide +kernel
theorem dX6_readsCorner_177 : decode cX6_readsCorner 177 = .ok (.aload_n 0, 1) := by decide +kernel
theorem dX6_readsCorner_178 : decode cX6_readsCorner 178 = .ok (.iload_n 1, 1) := by decide +kernel
theorem dX6_readsCorner_179 : decode cX6_readsCorner 179 = .ok (.ifCond .ne 11, 3) := by decide +kernel
theorem dX6_readsCorner_182 : decode cX6_readsCorner 182 = .ok (.iload_n 2, 1) := by decide +kernel
theorem dX6_readsCorner_183 : decode cX6_readsCorner 183 = .ok (.ifCond .le 7, 3) := by decide +kernel
theorem dX6_readsCorner_186 : decode cX6_readsCorner 186 = .ok (.iload_n 2, 1) := by decide +kernel
theorem dX6_readsCorner_187 : decode cX6_readsCorner 187 = .ok (.goto 13, 3) := by decide +kernel
theorem dX6_readsCorner_190 : decode cX6_readsCorner 190 = .ok (.iload_n 1, 1) := by decide +kernel
theorem dX6_readsCorner_191 : decode cX6_readsCorner 191 = .ok (.ifCond .le 8, 3) := by decide +kernel
theorem dX6_readsCorner_194 : decode cX6_readsCorner 194 = .ok (.iload 4, 2) := by decide +kernel
theorem dX6_readsCorner_196 : decode cX6_readsCorner 196 = .ok (.goto 4, 3) := by decide +kernel
theorem dX6_readsCorner_199 : decode cX6_readsCorner 199 = .ok (.iconst 1, 1) := by decide +kernel
theorem dX6_readsCorner_200 : decode cX6_readsCorner 200 = .ok (.putfield 98, 3) := by decide +kernel
theorem dX6_readsCorner_203 : decode cX6_readsCorner 203 = .ok (.aload_n 0, 1) := by decide +kernel
theorem dX6_readsCorner_204 : decode cX6_readsCorner 204 = .ok (.iload_n 3, 1) := by decide +kernel
theorem dX6_readsCorner_205 : decode cX6_readsCorner 205 = .ok (.putfield 94, 3) := by decide +kernel
theorem dX6_readsCorner_208 : decode cX6_readsCorner 208 = .ok (.iconst (-1), 1) := by decide +kernel
theorem dX6_readsCorner_209 : decode cX6_readsCorner 209 = .ok (.ireturn, 1) := by decide +kernel
theorem dX6_wayOf_0 : decode cX6_wayOf 0 = .ok (.iload_n 0, 1) := by decide +kernel
theorem dX6_wayOf_1 : decode cX6_wayOf 1 = .ok (.bipush 110, 2) := by decide +kernel
theorem dX6_wayOf_3 : decode cX6_wayOf 3 = .ok (.if_icmp .ne 7, 3) := by decide +kernel
theorem dX6_wayOf_6 : decode cX6_wayOf 6 = .ok (.iconst 0, 1) := by decide +kernel
theorem dX6_wayOf_7 : decode cX6_wayOf 7 = .ok (.goto 34, 3) := by decide +kernel
theorem dX6_wayOf_10 : decode cX6_wayOf 10 = .ok (.iload_n 0, 1) := by decide +kernel
theorem dX6_wayOf_11 : decode cX6_wayOf 11 = .ok (.bipush 101, 2) := by decide +kernel
theorem dX6_wayOf_13 : decode cX6_wayOf 13 = .ok (.if_icmp .ne 7, 3) := by decide +kernel
theorem dX6_wayOf_16 : decode cX6_wayOf 16 = .ok (.iconst 1, 1) := by decide +kernel
theorem dX6_wayOf_17 : decode cX6_wayOf 17 = .ok (.goto 24, 3) := by decide +kernel
theorem dX6_wayOf_20 : decode cX6_wayOf 20 = .ok (.iload_n 0, 1) := by decide +kernel
theorem dX6_wayOf_21 : decode cX6_wayOf 21 = .ok (.bipush 115, 2) := by decide +kernel
theorem dX6_wayOf_23 : decode cX6_wayOf 23 = .ok (.if_icmp .ne 7, 3) := by decide +kernel
theorem dX6_wayOf_26 : decode cX6_wayOf 26 = .ok (.iconst 2, 1) := by decide +kernel
theorem dX6_wayOf_27 : decode cX6_wayOf 27 = .ok (.goto 14, 3) := by decide +kernel
theorem dX6_wayOf_30 : decode cX6_wayOf 30 = .ok (.iload_n 0, 1) := by decide +kernel
theorem dX6_wayOf_31 : decode cX6_wayOf 31 = .ok (.bipush 119, 2) := by decide +kernel
theorem dX6_wayOf_33 : decode cX6_wayOf 33 = .ok (.if_icmp .ne 7, 3) := by decide +kernel
theorem dX6_wayOf_36 : decode cX6_wayOf 36 = .ok (.iconst 3, 1) := by decide +kernel
theorem dX6_wayOf_37 : decode cX6_wayOf 37 = .ok (.goto 4, 3) := by decide +kernel
theorem dX6_wayOf_40 : decode cX6_wayOf 40 = .ok (.iconst (-1), 1) := by decide +kernel
theorem dX6_wayOf_41 : decode cX6_wayOf 41 = .ok (.ireturn, 1) := by decide +kernel
theorem dX6_readsGusts_0 : decode cX6_readsGusts 0 = .ok (.aload_n 0, 1) := by decide +kernel
theorem dX6_readsGusts_1 : decode cX6_readsGusts 1 = .ok (.iconst 0, 1) := by decide +kernel
theorem dX6_readsGusts_2 : decode cX6_readsGusts 2 = .ok (.putfield 101, 3) := by decide +kernel
theorem dX6_readsGusts_5 : decode cX6_readsGusts 5 = .ok (.iconst 0, 1) := by decide +kernel
theorem dX6_readsGusts_6 : decode cX6_readsGusts 6 = .ok (.istore_n 1, 1) := by decide +kernel
theorem dX6_readsGusts_7 : decode cX6_readsGusts 7 = .ok (.iload_n 1, 1) := by decide +kernel
theorem dX6_readsGusts_8 : decode cX6_readsGusts 8 = .ok (.aload_n 0, 1) := by decide +kernel
theorem dX6_readsGusts_9 : decode cX6_readsGusts 9 = .ok (.getfield 7, 3) := by decide +kernel
theorem dX6_readsGusts_12 : decode cX6_readsGusts 12 = .ok (.iconst 1, 1) := by decide +kernel
theorem dX6_readsGusts_13 : decode cX6_readsGusts 13 = .ok (.iaload, 1) := by decide +kernel
theorem dX6_readsGusts_14 : decode cX6_readsGusts 14 = .ok (.if_icmp .ge 77, 3) := by decide +kernel
theorem dX6_readsGusts_17 : decode cX6_readsGusts 17 = .ok (.aload_n 0, 1) := by decide +kernel
theorem dX6_readsGusts_18 : decode cX6_readsGusts 18 = .ok (.iconst 1, 1) := by decide +kernel
theorem dX6_readsGusts_19 : decode cX6_readsGusts 19 = .ok (.iload_n 1, 1) := by decide +kernel
theorem dX6_readsGusts_20 : decode cX6_readsGusts 20 = .ok (.invokevirtual 90, 3) := by decide +kernel
theorem dX6_readsGusts_23 : decode cX6_readsGusts 23 = .ok (.invokestatic 104, 3) := by decide +kernel
theorem dX6_readsGusts_26 : decode cX6_readsGusts 26 = .ok (.istore_n 2, 1) := by decide +kernel
theorem dX6_readsGusts_27 : decode cX6_readsGusts 27 = .ok (.aload_n 0, 1) := by decide +kernel
theorem dX6_readsGusts_28 : decode cX6_readsGusts 28 = .ok (.iconst 1, 1) := by decide +kernel
theorem dX6_readsGusts_29 : decode cX6_readsGusts 29 = .ok (.iload_n 1, 1) := by decide +kernel
theorem dX6_readsGusts_30 : decode cX6_readsGusts 30 = .ok (.iconst 0, 1) := by decide +kernel
theorem dX6_readsGusts_31 : decode cX6_readsGusts 31 = .ok (.bipush 9, 2) := by decide +kernel
theorem dX6_readsGusts_33 : decode cX6_readsGusts 33 = .ok (.invokevirtual 108, 3) := by decide +kernel
theorem dX6_readsGusts_36 : decode cX6_readsGusts 36 = .ok (.istore_n 3, 1) := by decide +kernel
theorem dX6_readsGusts_37 : decode cX6_readsGusts 37 = .ok (.iload_n 1, 1) := by decide +kernel
theorem dX6_readsGusts_38 : decode cX6_readsGusts 38 = .ok (.iconst 2, 1) := by decide +kernel
theorem dX6_readsGusts_39 : decode cX6_readsGusts 39 = .ok (.irem, 1) := by decide +kernel
theorem dX6_readsGusts_40 : decode cX6_readsGusts 40 = .ok (.ifCond .ne 11, 3) := by decide +kernel
theorem dX6_readsGusts_43 : decode cX6_readsGusts 43 = .ok (.iload_n 2, 1) := by decide +kernel
theorem dX6_readsGusts_44 : decode cX6_readsGusts 44 = .ok (.iconst (-1), 1) := by decide +kernel
theorem dX6_readsGusts_45 : decode cX6_readsGusts 45 = .ok (.if_icmp .ne 13, 3) := by decide +kernel
theorem dX6_readsGusts_48 : decode cX6_readsGusts 48 = .ok (.goto 8, 3) := by decide +kernel
theorem dX6_readsGusts_51 : decode cX6_readsGusts 51 = .ok (.iload_n 3, 1) := by decide +kernel
theorem dX6_readsGusts_52 : decode cX6_readsGusts 52 = .ok (.iconst (-1), 1) := by decide +kernel
theorem dX6_readsGusts_53 : decode cX6_readsGusts 53 = .ok (.if_icmp .ne 5, 3) := by decide +kernel
theorem dX6_readsGusts_56 : decode cX6_readsGusts 56 = .ok (.iload_n 1, 1) := by decide +kernel
theorem dX6_readsGusts_57 : decode cX6_readsGusts 57 = .ok (.ireturn, 1) := by decide +kernel
theorem dX6_readsGusts_58 : decode cX6_readsGusts 58 = .ok (.iload_n 1, 1) := by decide +kernel
theorem dX6_readsGusts_59 : decode cX6_readsGusts 59 = .ok (.iconst 2, 1) := by decide +kernel
theorem dX6_readsGusts_60 : decode cX6_readsGusts 60 = .ok (.irem, 1) := by decide +kernel
theorem dX6_readsGusts_61 : decode cX6_readsGusts 61 = .ok (.ifCond .ne 15, 3) := by decide +kernel
theorem dX6_readsGusts_64 : decode cX6_readsGusts 64 = .ok (.aload_n 0, 1) := by decide +kernel
theorem dX6_readsGusts_65 : decode cX6_readsGusts 65 = .ok (.getfield 20, 3) := by decide +kernel
theorem dX6_readsGusts_68 : decode cX6_readsGusts 68 = .ok (.iload_n 1, 1) := by decide +kernel
theorem dX6_readsGusts_69 : decode cX6_readsGusts 69 = .ok (.iconst 2, 1) := by decide +kernel
theorem dX6_readsGusts_70 : decode cX6_readsGusts 70 = .ok (.idiv, 1) := by decide +kernel
theorem dX6_readsGusts_71 : decode cX6_readsGusts 71 = .ok (.iload_n 2, 1) := by decide +kernel
theorem dX6_readsGusts_72 : decode cX6_readsGusts 72 = .ok (.iastore, 1) := by decide +kernel
theorem dX6_readsGusts_73 : decode cX6_readsGusts 73 = .ok (.goto 12, 3) := by decide +kernel
theorem dX6_readsGusts_76 : decode cX6_readsGusts 76 = .ok (.aload_n 0, 1) := by decide +kernel
theorem dX6_readsGusts_77 : decode cX6_readsGusts 77 = .ok (.getfield 23, 3) := by decide +kernel
theorem dX6_readsGusts_80 : decode cX6_readsGusts 80 = .ok (.iload_n 1, 1) := by decide +kernel
theorem dX6_readsGusts_81 : decode cX6_readsGusts 81 = .ok (.iconst 2, 1) := by decide +kernel
theorem dX6_readsGusts_82 : decode cX6_readsGusts 82 = .ok (.idiv, 1) := by decide +kernel
theorem dX6_readsGusts_83 : decode cX6_readsGusts 83 = .ok (.iload_n 3, 1) := by decide +kernel
theorem dX6_readsGusts_84 : decode cX6_readsGusts 84 = .ok (.iastore, 1) := by decide +kernel
theorem dX6_readsGusts_85 : decode cX6_readsGusts 85 = .ok (.iinc 1 1, 3) := by decide +kernel
theorem dX6_readsGusts_88 : decode cX6_readsGusts 88 = .ok (.goto (-81), 3) := by decide +kernel
theorem dX6_readsGusts_91 : decode cX6_readsGusts 91 = .ok (.aload_n 0, 1) := by decide +kernel
theorem dX6_readsGusts_92 : decode cX6_readsGusts 92 = .ok (.getfield 7, 3) := by decide +kernel
theorem dX6_readsGusts_95 : decode cX6_readsGusts 95 = .ok (.iconst 1, 1) := by decide +kernel
theorem dX6_readsGusts_96 : decode cX6_readsGusts 96 = .ok (.iaload, 1) := by decide +kernel
theorem dX6_readsGusts_97 : decode cX6_readsGusts 97 = .ok (.iconst 2, 1) := by decide +kernel
theorem dX6_readsGusts_98 : decode cX6_readsGusts 98 = .ok (.irem, 1) := by decide +kernel
theorem dX6_readsGusts_99 : decode cX6_readsGusts 99 = .ok (.iconst 1, 1) := by decide +kernel
theorem dX6_readsGusts_100 : decode cX6_readsGusts 100 = .ok (.if_icmp .ne 10, 3) := by decide +kernel
theorem dX6_readsGusts_103 : decode cX6_readsGusts 103 = .ok (.aload_n 0, 1) := by decide +kernel
theorem dX6_readsGusts_104 : decode cX6_readsGusts 104 = .ok (.getfield 7, 3) := by decide +kernel
theorem dX6_readsGusts_107 : decode cX6_readsGusts 107 = .ok (.iconst 1, 1) := by decide +kernel
theorem dX6_readsGusts_108 : decode cX6_readsGusts 108 = .ok (.iaload, 1) := by decide +kernel
theorem dX6_readsGusts_109 : decode cX6_readsGusts 109 = .ok (.ireturn, 1) := by decide +kernel
theorem dX6_readsGusts_110 : decode cX6_readsGusts 110 = .ok (.aload_n 0, 1) := by decide +kernel
theorem dX6_readsGusts_111 : decode cX6_readsGusts 111 = .ok (.aload_n 0, 1) := by decide +kernel
theorem dX6_readsGusts_112 : decode cX6_readsGusts 112 = .ok (.getfield 7, 3) := by decide +kernel
theorem dX6_readsGusts_115 : decode cX6_readsGusts 115 = .ok (.iconst 1, 1) := by decide +kernel
theorem dX6_readsGusts_116 : decode cX6_readsGusts 116 = .ok (.iaload, 1) := by decide +kernel
theorem dX6_readsGusts_117 : decode cX6_readsGusts 117 = .ok (.iconst 2, 1) := by decide +kernel
theorem dX6_readsGusts_118 : decode cX6_readsGusts 118 = .ok (.idiv, 1) := by decide +kernel
theorem dX6_readsGusts_119 : decode cX6_readsGusts 119 = .ok (.putfield 101, 3) := by decide +kernel
theorem dX6_readsGusts_122 : decode cX6_readsGusts 122 = .ok (.iconst (-1), 1) := by decide +kernel
theorem dX6_readsGusts_123 : decode cX6_readsGusts 123 = .ok (.ireturn, 1) := by decide +kernel
theorem dX6_readsCandidate_0 : decode cX6_readsCandidate 0 = .ok (.aload_n 0, 1) := by decide +kernel
theorem dX6_readsCandidate_1 : decode cX6_readsCandidate 1 = .ok (.iconst 2, 1) := by decide +kernel
theorem dX6_readsCandidate_2 : decode cX6_readsCandidate 2 = .ok (.iload_n 2, 1) := by decide +kernel
theorem dX6_readsCandidate_3 : decode cX6_readsCandidate 3 = .ok (.iconst 0, 1) := by decide +kernel
theorem dX6_readsCandidate_4 : decode cX6_readsCandidate 4 = .ok (.iconst 2, 1) := by decide +kernel
theorem dX6_readsCandidate_5 : decode cX6_readsCandidate 5 = .ok (.invokevirtual 108, 3) := by decide +kernel
theorem dX6_readsCandidate_8 : decode cX6_readsCandidate 8 = .ok (.istore_n 3, 1) := by decide +kernel
theorem dX6_readsCandidate_9 : decode cX6_readsCandidate 9 = .ok (.aload_n 0, 1) := by decide +kernel
theorem dX6_readsCandidate_10 : decode cX6_readsCandidate 10 = .ok (.iconst 2, 1) := by decide +kernel
theorem dX6_readsCandidate_11 : decode cX6_readsCandidate 11 = .ok (.iload_n 2, 1) := by decide +kernel
theorem dX6_readsCandidate_12 : decode cX6_readsCandidate 12 = .ok (.iconst 1, 1) := by decide +kernel
theorem dX6_readsCandidate_13 : decode cX6_readsCandidate 13 = .ok (.iadd, 1) := by decide +kernel
theorem dX6_readsCandidate_14 : decode cX6_readsCandidate 14 = .ok (.iconst 0, 1) := by decide +kernel
theorem dX6_readsCandidate_15 : decode cX6_readsCandidate 15 = .ok (.bipush 9, 2) := by decide +kernel
theorem dX6_readsCandidate_17 : decode cX6_readsCandidate 17 = .ok (.invokevirtual 108, 3) := by decide +kernel
theorem dX6_readsCandidate_20 : decode cX6_readsCandidate 20 = .ok (.istore 4, 2) := by decide +kernel
theorem dX6_readsCandidate_22 : decode cX6_readsCandidate 22 = .ok (.aload_n 0, 1) := by decide +kernel
theorem dX6_readsCandidate_23 : decode cX6_readsCandidate 23 = .ok (.iconst 2, 1) := by decide +kernel
theorem dX6_readsCandidate_24 : decode cX6_readsCandidate 24 = .ok (.iload_n 2, 1) := by decide +kernel
theorem dX6_readsCandidate_25 : decode cX6_readsCandidate 25 = .ok (.iconst 2, 1) := by decide +kernel
theorem dX6_readsCandidate_26 : decode cX6_readsCandidate 26 = .ok (.iadd, 1) := by decide +kernel
theorem dX6_readsCandidate_27 : decode cX6_readsCandidate 27 = .ok (.iconst 1, 1) := by decide +kernel
theorem dX6_readsCandidate_28 : decode cX6_readsCandidate 28 = .ok (.bipush 9, 2) := by decide +kernel
theorem dX6_readsCandidate_30 : decode cX6_readsCandidate 30 = .ok (.invokevirtual 108, 3) := by decide +kernel
theorem dX6_readsCandidate_33 : decode cX6_readsCandidate 33 = .ok (.istore 5, 2) := by decide +kernel
theorem dX6_readsCandidate_35 : decode cX6_readsCandidate 35 = .ok (.aload_n 0, 1) := by decide +kernel
theorem dX6_readsCandidate_36 : decode cX6_readsCandidate 36 = .ok (.iconst 2, 1) := by decide +kernel
theorem dX6_readsCandidate_37 : decode cX6_readsCandidate 37 = .ok (.iload_n 2, 1) := by decide +kernel
theorem dX6_readsCandidate_38 : decode cX6_readsCandidate 38 = .ok (.iconst 3, 1) := by decide +kernel
theorem dX6_readsCandidate_39 : decode cX6_readsCandidate 39 = .ok (.iadd, 1) := by decide +kernel
theorem dX6_readsCandidate_40 : decode cX6_readsCandidate 40 = .ok (.invokevirtual 90, 3) := by decide +kernel
theorem dX6_readsCandidate_43 : decode cX6_readsCandidate 43 = .ok (.istore 6, 2) := by decide +kernel
theorem dX6_readsCandidate_45 : decode cX6_readsCandidate 45 = .ok (.iload 6, 2) := by decide +kernel
theorem dX6_readsCandidate_47 : decode cX6_readsCandidate 47 = .ok (.bipush 104, 2) := by decide +kernel
theorem dX6_readsCandidate_49 : decode cX6_readsCandidate 49 = .ok (.if_icmp .ne 7, 3) := by decide +kernel
theorem dX6_readsCandidate_52 : decode cX6_readsCandidate 52 = .ok (.iconst 0, 1) := by decide +kernel
theorem dX6_readsCandidate_53 : decode cX6_readsCandidate 53 = .ok (.goto 26, 3) := by decide +kernel
theorem dX6_readsCandidate_56 : decode cX6_readsCandidate 56 = .ok (.iload 6, 2) := by decide +kernel
theorem dX6_readsCandidate_58 : decode cX6_readsCandidate 58 = .ok (.bipush 111, 2) := by decide +kernel
theorem dX6_readsCandidate_60 : decode cX6_readsCandidate 60 = .ok (.if_icmp .ne 7, 3) := by decide +kernel
theorem dX6_readsCandidate_63 : decode cX6_readsCandidate 63 = .ok (.iconst 1, 1) := by decide +kernel
theorem dX6_readsCandidate_64 : decode cX6_readsCandidate 64 = .ok (.goto 15, 3) := by decide +kernel
theorem dX6_readsCandidate_67 : decode cX6_readsCandidate 67 = .ok (.iload 6, 2) := by decide +kernel
theorem dX6_readsCandidate_69 : decode cX6_readsCandidate 69 = .ok (.bipush 120, 2) := by decide +kernel
theorem dX6_readsCandidate_71 : decode cX6_readsCandidate 71 = .ok (.if_icmp .ne 7, 3) := by decide +kernel
theorem dX6_readsCandidate_74 : decode cX6_readsCandidate 74 = .ok (.iconst 2, 1) := by decide +kernel
theorem dX6_readsCandidate_75 : decode cX6_readsCandidate 75 = .ok (.goto 4, 3) := by decide +kernel
theorem dX6_readsCandidate_78 : decode cX6_readsCandidate 78 = .ok (.iconst (-1), 1) := by decide +kernel
theorem dX6_readsCandidate_79 : decode cX6_readsCandidate 79 = .ok (.istore 7, 2) := by decide +kernel
theorem dX6_readsCandidate_81 : decode cX6_readsCandidate 81 = .ok (.iload_n 3, 1) := by decide +kernel
theorem dX6_readsCandidate_82 : decode cX6_readsCandidate 82 = .ok (.iconst (-1), 1) := by decide +kernel
theorem dX6_readsCandidate_83 : decode cX6_readsCandidate 83 = .ok (.if_icmp .ne 5, 3) := by decide +kernel
theorem dX6_readsCandidate_86 : decode cX6_readsCandidate 86 = .ok (.iconst 0, 1) := by decide +kernel
theorem dX6_readsCandidate_87 : decode cX6_readsCandidate 87 = .ok (.ireturn, 1) := by decide +kernel
theorem dX6_readsCandidate_88 : decode cX6_readsCandidate 88 = .ok (.iload 4, 2) := by decide +kernel
theorem dX6_readsCandidate_90 : decode cX6_readsCandidate 90 = .ok (.iconst (-1), 1) := by decide +kernel
theorem dX6_readsCandidate_91 : decode cX6_readsCandidate 91 = .ok (.if_icmp .ne 5, 3) := by decide +kernel
theorem dX6_readsCandidate_94 : decode cX6_readsCandidate 94 = .ok (.iconst 1, 1) := by decide +kernel
theorem dX6_readsCandidate_95 : decode cX6_readsCandidate 95 = .ok (.ireturn, 1) := by decide +kernel
theorem dX6_readsCandidate_96 : decode cX6_readsCandidate 96 = .ok (.iload 5, 2) := by decide +kernel
theorem dX6_readsCandidate_98 : decode cX6_readsCandidate 98 = .ok (.iconst (-1), 1) := by decide +kernel
theorem dX6_readsCandidate_99 : decode cX6_readsCandidate 99 = .ok (.if_icmp .ne 5, 3) := by decide +kernel
theorem dX6_readsCandidate_102 : decode cX6_readsCandidate 102 = .ok (.iconst 2, 1) := by decide +kernel
theorem dX6_readsCandidate_103 : decode cX6_readsCandidate 103 = .ok (.ireturn, 1) := by decide +kernel
theorem dX6_readsCandidate_104 : decode cX6_readsCandidate 104 = .ok (.iload 7, 2) := by decide +kernel
theorem dX6_readsCandidate_106 : decode cX6_readsCandidate 106 = .ok (.iconst (-1), 1) := by decide +kernel
theorem dX6_readsCandidate_107 : decode cX6_readsCandidate 107 = .ok (.if_icmp .ne 5, 3) := by decide +kernel
theorem dX6_readsCandidate_110 : decode cX6_readsCandidate 110 = .ok (.iconst 3, 1) := by decide +kernel
theorem dX6_readsCandidate_111 : decode cX6_readsCandidate 111 = .ok (.ireturn, 1) := by decide +kernel
theorem dX6_readsCandidate_112 : decode cX6_readsCandidate 112 = .ok (.aload_n 0, 1) := by decide +kernel
theorem dX6_readsCandidate_113 : decode cX6_readsCandidate 113 = .ok (.getfield 26, 3) := by decide +kernel
theorem dX6_readsCandidate_116 : decode cX6_readsCandidate 116 = .ok (.iload_n 1, 1) := by decide +kernel
theorem dX6_readsCandidate_117 : decode cX6_readsCandidate 117 = .ok (.bipush 10, 2) := by decide +kernel
theorem dX6_readsCandidate_119 : decode cX6_readsCandidate 119 = .ok (.iload_n 3, 1) := by decide +kernel
theorem dX6_readsCandidate_120 : decode cX6_readsCandidate 120 = .ok (.imul, 1) := by decide +kernel
theorem dX6_readsCandidate_121 : decode cX6_readsCandidate 121 = .ok (.iload 4, 2) := by decide +kernel
theorem dX6_readsCandidate_123 : decode cX6_readsCandidate 123 = .ok (.iadd, 1) := by decide +kernel
theorem dX6_readsCandidate_124 : decode cX6_readsCandidate 124 = .ok (.iastore, 1) := by decide +kernel
theorem dX6_readsCandidate_125 : decode cX6_readsCandidate 125 = .ok (.aload_n 0, 1) := by decide +kernel
theorem dX6_readsCandidate_126 : decode cX6_readsCandidate 126 = .ok (.getfield 29, 3) := by decide +kernel
theorem dX6_readsCandidate_129 : decode cX6_readsCandidate 129 = .ok (.iload_n 1, 1) := by decide +kernel
theorem dX6_readsCandidate_130 : decode cX6_readsCandidate 130 = .ok (.iload 5, 2) := by decide +kernel
theorem dX6_readsCandidate_132 : decode cX6_readsCandidate 132 = .ok (.iastore, 1) := by decide +kernel
theorem dX6_readsCandidate_133 : decode cX6_readsCandidate 133 = .ok (.aload_n 0, 1) := by decide +kernel
theorem dX6_readsCandidate_134 : decode cX6_readsCandidate 134 = .ok (.getfield 32, 3) := by decide +kernel
theorem dX6_readsCandidate_137 : decode cX6_readsCandidate 137 = .ok (.iload_n 1, 1) := by decide +kernel
theorem dX6_readsCandidate_138 : decode cX6_readsCandidate 138 = .ok (.iload 7, 2) := by decide +kernel
theorem dX6_readsCandidate_140 : decode cX6_readsCandidate 140 = .ok (.iastore, 1) := by decide +kernel
theorem dX6_readsCandidate_141 : decode cX6_readsCandidate 141 = .ok (.iconst 4, 1) := by decide +kernel
theorem dX6_readsCandidate_142 : decode cX6_readsCandidate 142 = .ok (.ireturn, 1) := by decide +kernel
theorem dX6_readsCandidates_0 : decode cX6_readsCandidates 0 = .ok (.iconst 0, 1) := by decide +kernel
theorem dX6_readsCandidates_1 : decode cX6_readsCandidates 1 = .ok (.istore_n 1, 1) := by decide +kernel
theorem dX6_readsCandidates_2 : decode cX6_readsCandidates 2 = .ok (.iconst 0, 1) := by decide +kernel
theorem dX6_readsCandidates_3 : decode cX6_readsCandidates 3 = .ok (.istore_n 2, 1) := by decide +kernel
theorem dX6_readsCandidates_4 : decode cX6_readsCandidates 4 = .ok (.aload_n 0, 1) := by decide +kernel
theorem dX6_readsCandidates_5 : decode cX6_readsCandidates 5 = .ok (.iconst 0, 1) := by decide +kernel
theorem dX6_readsCandidates_6 : decode cX6_readsCandidates 6 = .ok (.putfield 112, 3) := by decide +kernel
theorem dX6_readsCandidates_9 : decode cX6_readsCandidates 9 = .ok (.iload_n 2, 1) := by decide +kernel
theorem dX6_readsCandidates_10 : decode cX6_readsCandidates 10 = .ok (.aload_n 0, 1) := by decide +kernel
theorem dX6_readsCandidates_11 : decode cX6_readsCandidates 11 = .ok (.getfield 7, 3) := by decide +kernel
theorem dX6_readsCandidates_14 : decode cX6_readsCandidates 14 = .ok (.iconst 2, 1) := by decide +kernel
theorem dX6_readsCandidates_15 : decode cX6_readsCandidates 15 = .ok (.iaload, 1) := by decide +kernel
theorem dX6_readsCandidates_16 : decode cX6_readsCandidates 16 = .ok (.if_icmp .lt 7, 3) := by decide +kernel
theorem dX6_readsCandidates_19 : decode cX6_readsCandidates 19 = .ok (.iload_n 2, 1) := by decide +kernel
theorem dX6_readsCandidates_20 : decode cX6_readsCandidates 20 = .ok (.ifCond .le 71, 3) := by decide +kernel
theorem dX6_readsCandidates_23 : decode cX6_readsCandidates 23 = .ok (.iload_n 1, 1) := by decide +kernel
theorem dX6_readsCandidates_24 : decode cX6_readsCandidates 24 = .ok (.bipush 8, 2) := by decide +kernel
theorem dX6_readsCandidates_26 : decode cX6_readsCandidates 26 = .ok (.if_icmp .ne 7, 3) := by decide +kernel
theorem dX6_readsCandidates_29 : decode cX6_readsCandidates 29 = .ok (.iconst 0, 1) := by decide +kernel
theorem dX6_readsCandidates_30 : decode cX6_readsCandidates 30 = .ok (.goto 9, 3) := by decide +kernel
theorem dX6_readsCandidates_33 : decode cX6_readsCandidates 33 = .ok (.aload_n 0, 1) := by decide +kernel
theorem dX6_readsCandidates_34 : decode cX6_readsCandidates 34 = .ok (.iload_n 1, 1) := by decide +kernel
theorem dX6_readsCandidates_35 : decode cX6_readsCandidates 35 = .ok (.iload_n 2, 1) := by decide +kernel
theorem dX6_readsCandidates_36 : decode cX6_readsCandidates 36 = .ok (.invokevirtual 115, 3) := by decide +kernel
theorem dX6_readsCandidates_39 : decode cX6_readsCandidates 39 = .ok (.istore_n 3, 1) := by decide +kernel
theorem dX6_readsCandidates_40 : decode cX6_readsCandidates 40 = .ok (.iload_n 3, 1) := by decide +kernel
theorem dX6_readsCandidates_41 : decode cX6_readsCandidates 41 = .ok (.iconst 4, 1) := by decide +kernel
theorem dX6_readsCandidates_42 : decode cX6_readsCandidates 42 = .ok (.if_icmp .ge 7, 3) := by decide +kernel
theorem dX6_readsCandidates_45 : decode cX6_readsCandidates 45 = .ok (.iload_n 2, 1) := by decide +kernel
theorem dX6_readsCandidates_46 : decode cX6_readsCandidates 46 = .ok (.iload_n 3, 1) := by decide +kernel
theorem dX6_readsCandidates_47 : decode cX6_readsCandidates 47 = .ok (.iadd, 1) := by decide +kernel
theorem dX6_readsCandidates_48 : decode cX6_readsCandidates 48 = .ok (.ireturn, 1) := by decide +kernel
theorem dX6_readsCandidates_49 : decode cX6_readsCandidates 49 = .ok (.iinc 1 1, 3) := by decide +kernel
theorem dX6_readsCandidates_52 : decode cX6_readsCandidates 52 = .ok (.iinc 2 4, 3) := by decide +kernel
theorem dX6_readsCandidates_55 : decode cX6_readsCandidates 55 = .ok (.iload_n 2, 1) := by decide +kernel
theorem dX6_readsCandidates_56 : decode cX6_readsCandidates 56 = .ok (.aload_n 0, 1) := by decide +kernel
theorem dX6_readsCandidates_57 : decode cX6_readsCandidates 57 = .ok (.getfield 7, 3) := by decide +kernel
theorem dX6_readsCandidates_60 : decode cX6_readsCandidates 60 = .ok (.iconst 2, 1) := by decide +kernel
theorem dX6_readsCandidates_61 : decode cX6_readsCandidates 61 = .ok (.iaload, 1) := by decide +kernel
theorem dX6_readsCandidates_62 : decode cX6_readsCandidates 62 = .ok (.if_icmp .ne 10, 3) := by decide +kernel
theorem dX6_readsCandidates_65 : decode cX6_readsCandidates 65 = .ok (.aload_n 0, 1) := by decide +kernel
theorem dX6_readsCandidates_66 : decode cX6_readsCandidates 66 = .ok (.iload_n 1, 1) := by decide +kernel
theorem dX6_readsCandidates_67 : decode cX6_readsCandidates 67 = .ok (.putfield 112, 3) := by decide +kernel
theorem dX6_readsCandidates_70 : decode cX6_readsCandidates 70 = .ok (.iconst (-1), 1) := by decide +kernel
theorem dX6_readsCandidates_71 : decode cX6_readsCandidates 71 = .ok (.ireturn, 1) := by decide +kernel
theorem dX6_readsCandidates_72 : decode cX6_readsCandidates 72 = .ok (.aload_n 0, 1) := by decide +kernel
theorem dX6_readsCandidates_73 : decode cX6_readsCandidates 73 = .ok (.iconst 2, 1) := by decide +kernel
theorem dX6_readsCandidates_74 : decode cX6_readsCandidates 74 = .ok (.iload_n 2, 1) := by decide +kernel
theorem dX6_readsCandidates_75 : decode cX6_readsCandidates 75 = .ok (.invokevirtual 90, 3) := by decide +kernel
theorem dX6_readsCandidates_78 : decode cX6_readsCandidates 78 = .ok (.bipush 59, 2) := by decide +kernel
theorem dX6_readsCandidates_80 : decode cX6_readsCandidates 80 = .ok (.if_icmp .eq 5, 3) := by decide +kernel
theorem dX6_readsCandidates_83 : decode cX6_readsCandidates 83 = .ok (.iload_n 2, 1) := by decide +kernel
theorem dX6_readsCandidates_84 : decode cX6_readsCandidates 84 = .ok (.ireturn, 1) := by decide +kernel
theorem dX6_readsCandidates_85 : decode cX6_readsCandidates 85 = .ok (.iinc 2 1, 3) := by decide +kernel
theorem dX6_readsCandidates_88 : decode cX6_readsCandidates 88 = .ok (.goto (-79), 3) := by decide +kernel
theorem dX6_readsCandidates_91 : decode cX6_readsCandidates 91 = .ok (.iconst (-1), 1) := by decide +kernel
theorem dX6_readsCandidates_92 : decode cX6_readsCandidates 92 = .ok (.ireturn, 1) := by decide +kernel
theorem dX6_faultOf_0 : decode cX6_faultOf 0 = .ok (.aload_n 0, 1) := by decide +kernel
theorem dX6_faultOf_1 : decode cX6_faultOf 1 = .ok (.invokevirtual 118, 3) := by decide +kernel
theorem dX6_faultOf_4 : decode cX6_faultOf 4 = .ok (.istore_n 2, 1) := by decide +kernel
theorem dX6_faultOf_5 : decode cX6_faultOf 5 = .ok (.aload_n 0, 1) := by decide +kernel
theorem dX6_faultOf_6 : decode cX6_faultOf 6 = .ok (.invokevirtual 122, 3) := by decide +kernel
theorem dX6_faultOf_9 : decode cX6_faultOf 9 = .ok (.istore_n 3, 1) := by decide +kernel
theorem dX6_faultOf_10 : decode cX6_faultOf 10 = .ok (.aload_n 0, 1) := by decide +kernel
theorem dX6_faultOf_11 : decode cX6_faultOf 11 = .ok (.invokevirtual 125, 3) := by decide +kernel
theorem dX6_faultOf_14 : decode cX6_faultOf 14 = .ok (.istore 4, 2) := by decide +kernel
theorem dX6_faultOf_16 : decode cX6_faultOf 16 = .ok (.iload_n 1, 1) := by decide +kernel
theorem dX6_faultOf_17 : decode cX6_faultOf 17 = .ok (.ifCond .ne 7, 3) := by decide +kernel
theorem dX6_faultOf_20 : decode cX6_faultOf 20 = .ok (.iload_n 2, 1) := by decide +kernel
theorem dX6_faultOf_21 : decode cX6_faultOf 21 = .ok (.goto 14, 3) := by decide +kernel
theorem dX6_faultOf_24 : decode cX6_faultOf 24 = .ok (.iload_n 1, 1) := by decide +kernel
theorem dX6_faultOf_25 : decode cX6_faultOf 25 = .ok (.iconst 1, 1) := by decide +kernel
theorem dX6_faultOf_26 : decode cX6_faultOf 26 = .ok (.if_icmp .ne 7, 3) := by decide +kernel
theorem dX6_faultOf_29 : decode cX6_faultOf 29 = .ok (.iload_n 3, 1) := by decide +kernel
theorem dX6_faultOf_30 : decode cX6_faultOf 30 = .ok (.goto 5, 3) := by decide +kernel
theorem dX6_faultOf_33 : decode cX6_faultOf 33 = .ok (.iload 4, 2) := by decide +kernel
theorem dX6_faultOf_35 : decode cX6_faultOf 35 = .ok (.ireturn, 1) := by decide +kernel
theorem dX6_reads_0 : decode cX6_reads 0 = .ok (.aload_n 0, 1) := by decide +kernel
theorem dX6_reads_1 : decode cX6_reads 1 = .ok (.iconst 0, 1) := by decide +kernel
theorem dX6_reads_2 : decode cX6_reads 2 = .ok (.invokevirtual 128, 3) := by decide +kernel
theorem dX6_reads_5 : decode cX6_reads 5 = .ok (.istore_n 1, 1) := by decide +kernel
theorem dX6_reads_6 : decode cX6_reads 6 = .ok (.return_, 1) := by decide +kernel
theorem dX6_fault_0 : decode cX6_fault 0 = .ok (.iload_n 1, 1) := by decide +kernel
theorem dX6_fault_1 : decode cX6_fault 1 = .ok (.invokestatic 86, 3) := by decide +kernel
theorem dX6_fault_4 : decode cX6_fault 4 = .ok (.ifCond .eq 11, 3) := by decide +kernel
theorem dX6_fault_7 : decode cX6_fault 7 = .ok (.aload_n 0, 1) := by decide +kernel
theorem dX6_fault_8 : decode cX6_fault 8 = .ok (.iload_n 1, 1) := by decide +kernel
theorem dX6_fault_9 : decode cX6_fault 9 = .ok (.invokevirtual 128, 3) := by decide +kernel
theorem dX6_fault_12 : decode cX6_fault 12 = .ok (.goto 5, 3) := by decide +kernel
theorem dX6_fault_15 : decode cX6_fault 15 = .ok (.bipush (-2), 2) := by decide +kernel
theorem dX6_fault_17 : decode cX6_fault 17 = .ok (.ireturn, 1) := by decide +kernel
theorem dX6_isMinute_0 : decode cX6_isMinute 0 = .ok (.aload_n 0, 1) := by decide +kernel
theorem dX6_isMinute_1 : decode cX6_isMinute 1 = .ok (.invokevirtual 131, 3) := by decide +kernel
theorem dX6_isMinute_4 : decode cX6_isMinute 4 = .ok (.iload_n 1, 1) := by decide +kernel
theorem dX6_isMinute_5 : decode cX6_isMinute 5 = .ok (.iconst 0, 1) := by decide +kernel
theorem dX6_isMinute_6 : decode cX6_isMinute 6 = .ok (.aload_n 0, 1) := by decide +kernel
theorem dX6_isMinute_7 : decode cX6_isMinute 7 = .ok (.getfield 101, 3) := by decide +kernel
theorem dX6_isMinute_10 : decode cX6_isMinute 10 = .ok (.iconst 1, 1) := by decide +kernel
theorem dX6_isMinute_11 : decode cX6_isMinute 11 = .ok (.isub, 1) := by decide +kernel
theorem dX6_isMinute_12 : decode cX6_isMinute 12 = .ok (.invokestatic 82, 3) := by decide +kernel
theorem dX6_isMinute_15 : decode cX6_isMinute 15 = .ok (.ireturn, 1) := by decide +kernel
theorem dX6_isCell_0 : decode cX6_isCell 0 = .ok (.aload_n 0, 1) := by decide +kernel
theorem dX6_isCell_1 : decode cX6_isCell 1 = .ok (.invokevirtual 131, 3) := by decide +kernel
theorem dX6_isCell_4 : decode cX6_isCell 4 = .ok (.iload_n 1, 1) := by decide +kernel
theorem dX6_isCell_5 : decode cX6_isCell 5 = .ok (.iconst 0, 1) := by decide +kernel
theorem dX6_isCell_6 : decode cX6_isCell 6 = .ok (.aload_n 0, 1) := by decide +kernel
theorem dX6_isCell_7 : decode cX6_isCell 7 = .ok (.getfield 94, 3) := by decide +kernel
theorem dX6_isCell_10 : decode cX6_isCell 10 = .ok (.iconst 1, 1) := by decide +kernel
theorem dX6_isCell_11 : decode cX6_isCell 11 = .ok (.isub, 1) := by decide +kernel
theorem dX6_isCell_12 : decode cX6_isCell 12 = .ok (.invokestatic 82, 3) := by decide +kernel
theorem dX6_isCell_15 : decode cX6_isCell 15 = .ok (.ireturn, 1) := by decide +kernel
theorem dX6_isCandidate_0 : decode cX6_isCandidate 0 = .ok (.aload_n 0, 1) := by decide +kernel
theorem dX6_isCandidate_1 : decode cX6_isCandidate 1 = .ok (.invokevirtual 131, 3) := by decide +kernel
theorem dX6_isCandidate_4 : decode cX6_isCandidate 4 = .ok (.iload_n 1, 1) := by decide +kernel
theorem dX6_isCandidate_5 : decode cX6_isCandidate 5 = .ok (.iconst 0, 1) := by decide +kernel
theorem dX6_isCandidate_6 : decode cX6_isCandidate 6 = .ok (.aload_n 0, 1) := by decide +kernel
theorem dX6_isCandidate_7 : decode cX6_isCandidate 7 = .ok (.getfield 112, 3) := by decide +kernel
theorem dX6_isCandidate_10 : decode cX6_isCandidate 10 = .ok (.iconst 1, 1) := by decide +kernel
theorem dX6_isCandidate_11 : decode cX6_isCandidate 11 = .ok (.isub, 1) := by decide +kernel
theorem dX6_isCandidate_12 : decode cX6_isCandidate 12 = .ok (.invokestatic 82, 3) := by decide +kernel
theorem dX6_isCandidate_15 : decode cX6_isCandidate 15 = .ok (.ireturn, 1) := by decide +kernel
theorem dX6_cell_0 : decode cX6_cell 0 = .ok (.iload_n 1, 1) := by decide +kernel
theorem dX6_cell_1 : decode cX6_cell 1 = .ok (.iconst 0, 1) := by decide +kernel
theorem dX6_cell_2 : decode cX6_cell 2 = .ok (.bipush 24, 2) := by decide +kernel
theorem dX6_cell_4 : decode cX6_cell 4 = .ok (.invokestatic 82, 3) := by decide +kernel
theorem dX6_cell_7 : decode cX6_cell 7 = .ok (.ifCond .eq 32, 3) := by decide +kernel
theorem dX6_cell_10 : decode cX6_cell 10 = .ok (.aload_n 0, 1) := by decide +kernel
theorem dX6_cell_11 : decode cX6_cell 11 = .ok (.iload_n 1, 1) := by decide +kernel
theorem dX6_cell_12 : decode cX6_cell 12 = .ok (.invokevirtual 134, 3) := by decide +kernel
theorem dX6_cell_15 : decode cX6_cell 15 = .ok (.ifCond .eq 20, 3) := by decide +kernel
theorem dX6_cell_18 : decode cX6_cell 18 = .ok (.aload_n 0, 1) := by decide +kernel
theorem dX6_cell_19 : decode cX6_cell 19 = .ok (.getfield 16, 3) := by decide +kernel
theorem dX6_cell_22 : decode cX6_cell 22 = .ok (.iload_n 1, 1) := by decide +kernel
theorem dX6_cell_23 : decode cX6_cell 23 = .ok (.baload, 1) := by decide +kernel
theorem dX6_cell_24 : decode cX6_cell 24 = .ok (.ifCond .eq 7, 3) := by decide +kernel
theorem dX6_cell_27 : decode cX6_cell 27 = .ok (.iconst 1, 1) := by decide +kernel
theorem dX6_cell_28 : decode cX6_cell 28 = .ok (.goto 13, 3) := by decide +kernel
theorem dX6_cell_31 : decode cX6_cell 31 = .ok (.iconst 0, 1) := by decide +kernel
theorem dX6_cell_32 : decode cX6_cell 32 = .ok (.goto 9, 3) := by decide +kernel
theorem dX6_cell_35 : decode cX6_cell 35 = .ok (.iconst (-1), 1) := by decide +kernel
theorem dX6_cell_36 : decode cX6_cell 36 = .ok (.goto 5, 3) := by decide +kernel
theorem dX6_cell_39 : decode cX6_cell 39 = .ok (.bipush (-2), 2) := by decide +kernel
theorem dX6_cell_41 : decode cX6_cell 41 = .ok (.ireturn, 1) := by decide +kernel
theorem dX6_gust_0 : decode cX6_gust 0 = .ok (.aload_n 0, 1) := by decide +kernel
theorem dX6_gust_1 : decode cX6_gust 1 = .ok (.iload_n 1, 1) := by decide +kernel
theorem dX6_gust_2 : decode cX6_gust 2 = .ok (.invokevirtual 137, 3) := by decide +kernel
theorem dX6_gust_5 : decode cX6_gust 5 = .ok (.ifCond .eq 34, 3) := by decide +kernel
theorem dX6_gust_8 : decode cX6_gust 8 = .ok (.iload_n 2, 1) := by decide +kernel
theorem dX6_gust_9 : decode cX6_gust 9 = .ok (.iconst 0, 1) := by decide +kernel
theorem dX6_gust_10 : decode cX6_gust 10 = .ok (.iconst 1, 1) := by decide +kernel
theorem dX6_gust_11 : decode cX6_gust 11 = .ok (.invokestatic 82, 3) := by decide +kernel
theorem dX6_gust_14 : decode cX6_gust 14 = .ok (.ifCond .eq 25, 3) := by decide +kernel
theorem dX6_gust_17 : decode cX6_gust 17 = .ok (.iload_n 2, 1) := by decide +kernel
theorem dX6_gust_18 : decode cX6_gust 18 = .ok (.ifCond .ne 12, 3) := by decide +kernel
theorem dX6_gust_21 : decode cX6_gust 21 = .ok (.aload_n 0, 1) := by decide +kernel
theorem dX6_gust_22 : decode cX6_gust 22 = .ok (.getfield 20, 3) := by decide +kernel
theorem dX6_gust_25 : decode cX6_gust 25 = .ok (.iload_n 1, 1) := by decide +kernel
theorem dX6_gust_26 : decode cX6_gust 26 = .ok (.iaload, 1) := by decide +kernel
theorem dX6_gust_27 : decode cX6_gust 27 = .ok (.goto 14, 3) := by decide +kernel
theorem dX6_gust_30 : decode cX6_gust 30 = .ok (.aload_n 0, 1) := by decide +kernel
theorem dX6_gust_31 : decode cX6_gust 31 = .ok (.getfield 23, 3) := by decide +kernel
theorem dX6_gust_34 : decode cX6_gust 34 = .ok (.iload_n 1, 1) := by decide +kernel
theorem dX6_gust_35 : decode cX6_gust 35 = .ok (.iaload, 1) := by decide +kernel
theorem dX6_gust_36 : decode cX6_gust 36 = .ok (.goto 5, 3) := by decide +kernel
theorem dX6_gust_39 : decode cX6_gust 39 = .ok (.bipush (-2), 2) := by decide +kernel
theorem dX6_gust_41 : decode cX6_gust 41 = .ok (.ireturn, 1) := by decide +kernel
theorem dX6_isSomewhere_0 : decode cX6_isSomewhere 0 = .ok (.aload_n 0, 1) := by decide +kernel
theorem dX6_isSomewhere_1 : decode cX6_isSomewhere 1 = .ok (.getfield 26, 3) := by decide +kernel
theorem dX6_isSomewhere_4 : decode cX6_isSomewhere 4 = .ok (.iload_n 1, 1) := by decide +kernel
theorem dX6_isSomewhere_5 : decode cX6_isSomewhere 5 = .ok (.iaload, 1) := by decide +kernel
theorem dX6_isSomewhere_6 : decode cX6_isSomewhere 6 = .ok (.aload_n 0, 1) := by decide +kernel
theorem dX6_isSomewhere_7 : decode cX6_isSomewhere 7 = .ok (.getfield 94, 3) := by decide +kernel
theorem dX6_isSomewhere_10 : decode cX6_isSomewhere 10 = .ok (.if_icmp .ge 21, 3) := by decide +kernel
theorem dX6_isSomewhere_13 : decode cX6_isSomewhere 13 = .ok (.aload_n 0, 1) := by decide +kernel
theorem dX6_isSomewhere_14 : decode cX6_isSomewhere 14 = .ok (.getfield 16, 3) := by decide +kernel
theorem dX6_isSomewhere_17 : decode cX6_isSomewhere 17 = .ok (.aload_n 0, 1) := by decide +kernel
theorem dX6_isSomewhere_18 : decode cX6_isSomewhere 18 = .ok (.getfield 26, 3) := by decide +kernel
theorem dX6_isSomewhere_21 : decode cX6_isSomewhere 21 = .ok (.iload_n 1, 1) := by decide +kernel
theorem dX6_isSomewhere_22 : decode cX6_isSomewhere 22 = .ok (.iaload, 1) := by decide +kernel
theorem dX6_isSomewhere_23 : decode cX6_isSomewhere 23 = .ok (.baload, 1) := by decide +kernel
theorem dX6_isSomewhere_24 : decode cX6_isSomewhere 24 = .ok (.ifCond .ne 7, 3) := by decide +kernel
theorem dX6_isSomewhere_27 : decode cX6_isSomewhere 27 = .ok (.iconst 1, 1) := by decide +kernel
theorem dX6_isSomewhere_28 : decode cX6_isSomewhere 28 = .ok (.goto 4, 3) := by decide +kernel
theorem dX6_isSomewhere_31 : decode cX6_isSomewhere 31 = .ok (.iconst 0, 1) := by decide +kernel
theorem dX6_isSomewhere_32 : decode cX6_isSomewhere 32 = .ok (.ireturn, 1) := by decide +kernel
theorem dX6_candidateOf_0 : decode cX6_candidateOf 0 = .ok (.iload_n 2, 1) := by decide +kernel
theorem dX6_candidateOf_1 : decode cX6_candidateOf 1 = .ok (.ifCond .ne 12, 3) := by decide +kernel
theorem dX6_candidateOf_4 : decode cX6_candidateOf 4 = .ok (.aload_n 0, 1) := by decide +kernel
theorem dX6_candidateOf_5 : decode cX6_candidateOf 5 = .ok (.getfield 26, 3) := by decide +kernel
theorem dX6_candidateOf_8 : decode cX6_candidateOf 8 = .ok (.iload_n 1, 1) := by decide +kernel
theorem dX6_candidateOf_9 : decode cX6_candidateOf 9 = .ok (.iaload, 1) := by decide +kernel
theorem dX6_candidateOf_10 : decode cX6_candidateOf 10 = .ok (.goto 44, 3) := by decide +kernel
theorem dX6_candidateOf_13 : decode cX6_candidateOf 13 = .ok (.iload_n 2, 1) := by decide +kernel
theorem dX6_candidateOf_14 : decode cX6_candidateOf 14 = .ok (.iconst 1, 1) := by decide +kernel
theorem dX6_candidateOf_15 : decode cX6_candidateOf 15 = .ok (.if_icmp .ne 12, 3) := by decide +kernel
theorem dX6_candidateOf_18 : decode cX6_candidateOf 18 = .ok (.aload_n 0, 1) := by decide +kernel
theorem dX6_candidateOf_19 : decode cX6_candidateOf 19 = .ok (.getfield 29, 3) := by decide +kernel
theorem dX6_candidateOf_22 : decode cX6_candidateOf 22 = .ok (.iload_n 1, 1) := by decide +kernel
theorem dX6_candidateOf_23 : decode cX6_candidateOf 23 = .ok (.iaload, 1) := by decide +kernel
theorem dX6_candidateOf_24 : decode cX6_candidateOf 24 = .ok (.goto 30, 3) := by decide +kernel
theorem dX6_candidateOf_27 : decode cX6_candidateOf 27 = .ok (.iload_n 2, 1) := by decide +kernel
theorem dX6_candidateOf_28 : decode cX6_candidateOf 28 = .ok (.iconst 2, 1) := by decide +kernel
theorem dX6_candidateOf_29 : decode cX6_candidateOf 29 = .ok (.if_icmp .ne 12, 3) := by decide +kernel
theorem dX6_candidateOf_32 : decode cX6_candidateOf 32 = .ok (.aload_n 0, 1) := by decide +kernel
theorem dX6_candidateOf_33 : decode cX6_candidateOf 33 = .ok (.getfield 32, 3) := by decide +kernel
theorem dX6_candidateOf_36 : decode cX6_candidateOf 36 = .ok (.iload_n 1, 1) := by decide +kernel
theorem dX6_candidateOf_37 : decode cX6_candidateOf 37 = .ok (.iaload, 1) := by decide +kernel
theorem dX6_candidateOf_38 : decode cX6_candidateOf 38 = .ok (.goto 16, 3) := by decide +kernel
theorem dX6_candidateOf_41 : decode cX6_candidateOf 41 = .ok (.aload_n 0, 1) := by decide +kernel
theorem dX6_candidateOf_42 : decode cX6_candidateOf 42 = .ok (.iload_n 1, 1) := by decide +kernel
theorem dX6_candidateOf_43 : decode cX6_candidateOf 43 = .ok (.invokevirtual 140, 3) := by decide +kernel
theorem dX6_candidateOf_46 : decode cX6_candidateOf 46 = .ok (.ifCond .eq 7, 3) := by decide +kernel
theorem dX6_candidateOf_49 : decode cX6_candidateOf 49 = .ok (.iconst 1, 1) := by decide +kernel
theorem dX6_candidateOf_50 : decode cX6_candidateOf 50 = .ok (.goto 4, 3) := by decide +kernel
theorem dX6_candidateOf_53 : decode cX6_candidateOf 53 = .ok (.iconst 0, 1) := by decide +kernel
theorem dX6_candidateOf_54 : decode cX6_candidateOf 54 = .ok (.ireturn, 1) := by decide +kernel
theorem dX6_candidate_0 : decode cX6_candidate 0 = .ok (.aload_n 0, 1) := by decide +kernel
theorem dX6_candidate_1 : decode cX6_candidate 1 = .ok (.iload_n 1, 1) := by decide +kernel
theorem dX6_candidate_2 : decode cX6_candidate 2 = .ok (.invokevirtual 143, 3) := by decide +kernel
theorem dX6_candidate_5 : decode cX6_candidate 5 = .ok (.ifCond .eq 21, 3) := by decide +kernel
theorem dX6_candidate_8 : decode cX6_candidate 8 = .ok (.iload_n 2, 1) := by decide +kernel
theorem dX6_candidate_9 : decode cX6_candidate 9 = .ok (.iconst 0, 1) := by decide +kernel
theorem dX6_candidate_10 : decode cX6_candidate 10 = .ok (.iconst 3, 1) := by decide +kernel
theorem dX6_candidate_11 : decode cX6_candidate 11 = .ok (.invokestatic 82, 3) := by decide +kernel
theorem dX6_candidate_14 : decode cX6_candidate 14 = .ok (.ifCond .eq 12, 3) := by decide +kernel
theorem dX6_candidate_17 : decode cX6_candidate 17 = .ok (.aload_n 0, 1) := by decide +kernel
theorem dX6_candidate_18 : decode cX6_candidate 18 = .ok (.iload_n 1, 1) := by decide +kernel
theorem dX6_candidate_19 : decode cX6_candidate 19 = .ok (.iload_n 2, 1) := by decide +kernel
theorem dX6_candidate_20 : decode cX6_candidate 20 = .ok (.invokevirtual 146, 3) := by decide +kernel
theorem dX6_candidate_23 : decode cX6_candidate 23 = .ok (.goto 5, 3) := by decide +kernel
theorem dX6_candidate_26 : decode cX6_candidate 26 = .ok (.bipush (-2), 2) := by decide +kernel
theorem dX6_candidate_28 : decode cX6_candidate 28 = .ok (.ireturn, 1) := by decide +kernel
theorem dX6_beside_0 : decode cX6_beside 0 = .ok (.iload_n 2, 1) := by decide +kernel
theorem dX6_beside_1 : decode cX6_beside 1 = .ok (.ifCond .ne 12, 3) := by decide +kernel
theorem dX6_beside_4 : decode cX6_beside 4 = .ok (.iload_n 1, 1) := by decide +kernel
theorem dX6_beside_5 : decode cX6_beside 5 = .ok (.aload_n 0, 1) := by decide +kernel
theorem dX6_beside_6 : decode cX6_beside 6 = .ok (.getfield 98, 3) := by decide +kernel
theorem dX6_beside_9 : decode cX6_beside 9 = .ok (.isub, 1) := by decide +kernel
theorem dX6_beside_10 : decode cX6_beside 10 = .ok (.goto 63, 3) := by decide +kernel
theorem dX6_beside_13 : decode cX6_beside 13 = .ok (.iload_n 2, 1) := by decide +kernel
theorem dX6_beside_14 : decode cX6_beside 14 = .ok (.iconst 1, 1) := by decide +kernel
theorem dX6_beside_15 : decode cX6_beside 15 = .ok (.if_icmp .ne 28, 3) := by decide +kernel
theorem dX6_beside_18 : decode cX6_beside 18 = .ok (.iload_n 1, 1) := by decide +kernel
theorem dX6_beside_19 : decode cX6_beside 19 = .ok (.aload_n 0, 1) := by decide +kernel
theorem dX6_beside_20 : decode cX6_beside 20 = .ok (.getfield 98, 3) := by decide +kernel
theorem dX6_beside_23 : decode cX6_beside 23 = .ok (.irem, 1) := by decide +kernel
theorem dX6_beside_24 : decode cX6_beside 24 = .ok (.aload_n 0, 1) := by decide +kernel
theorem dX6_beside_25 : decode cX6_beside 25 = .ok (.getfield 98, 3) := by decide +kernel
theorem dX6_beside_28 : decode cX6_beside 28 = .ok (.iconst 1, 1) := by decide +kernel
theorem dX6_beside_29 : decode cX6_beside 29 = .ok (.isub, 1) := by decide +kernel
theorem dX6_beside_30 : decode cX6_beside 30 = .ok (.if_icmp .ge 9, 3) := by decide +kernel
theorem dX6_beside_33 : decode cX6_beside 33 = .ok (.iload_n 1, 1) := by decide +kernel
theorem dX6_beside_34 : decode cX6_beside 34 = .ok (.iconst 1, 1) := by decide +kernel
theorem dX6_beside_35 : decode cX6_beside 35 = .ok (.iadd, 1) := by decide +kernel
theorem dX6_beside_36 : decode cX6_beside 36 = .ok (.goto 37, 3) := by decide +kernel
theorem dX6_beside_39 : decode cX6_beside 39 = .ok (.iconst (-1), 1) := by decide +kernel
theorem dX6_beside_40 : decode cX6_beside 40 = .ok (.goto 33, 3) := by decide +kernel
theorem dX6_beside_43 : decode cX6_beside 43 = .ok (.iload_n 2, 1) := by decide +kernel
theorem dX6_beside_44 : decode cX6_beside 44 = .ok (.iconst 2, 1) := by decide +kernel
theorem dX6_beside_45 : decode cX6_beside 45 = .ok (.if_icmp .ne 12, 3) := by decide +kernel
theorem dX6_beside_48 : decode cX6_beside 48 = .ok (.iload_n 1, 1) := by decide +kernel
theorem dX6_beside_49 : decode cX6_beside 49 = .ok (.aload_n 0, 1) := by decide +kernel
theorem dX6_beside_50 : decode cX6_beside 50 = .ok (.getfield 98, 3) := by decide +kernel
theorem dX6_beside_53 : decode cX6_beside 53 = .ok (.iadd, 1) := by decide +kernel
theorem dX6_beside_54 : decode cX6_beside 54 = .ok (.goto 19, 3) := by decide +kernel
theorem dX6_beside_57 : decode cX6_beside 57 = .ok (.iload_n 1, 1) := by decide +kernel
theorem dX6_beside_58 : decode cX6_beside 58 = .ok (.aload_n 0, 1) := by decide +kernel
theorem dX6_beside_59 : decode cX6_beside 59 = .ok (.getfield 98, 3) := by decide +kernel
theorem dX6_beside_62 : decode cX6_beside 62 = .ok (.irem, 1) := by decide +kernel
theorem dX6_beside_63 : decode cX6_beside 63 = .ok (.ifCond .le 9, 3) := by decide +kernel
theorem dX6_beside_66 : decode cX6_beside 66 = .ok (.iload_n 1, 1) := by decide +kernel
theorem dX6_beside_67 : decode cX6_beside 67 = .ok (.iconst 1, 1) := by decide +kernel
theorem dX6_beside_68 : decode cX6_beside 68 = .ok (.isub, 1) := by decide +kernel
theorem dX6_beside_69 : decode cX6_beside 69 = .ok (.goto 4, 3) := by decide +kernel
theorem dX6_beside_72 : decode cX6_beside 72 = .ok (.iconst (-1), 1) := by decide +kernel
theorem dX6_beside_73 : decode cX6_beside 73 = .ok (.istore_n 3, 1) := by decide +kernel
theorem dX6_beside_74 : decode cX6_beside 74 = .ok (.iload_n 3, 1) := by decide +kernel
theorem dX6_beside_75 : decode cX6_beside 75 = .ok (.iconst 0, 1) := by decide +kernel
theorem dX6_beside_76 : decode cX6_beside 76 = .ok (.aload_n 0, 1) := by decide +kernel
theorem dX6_beside_77 : decode cX6_beside 77 = .ok (.getfield 94, 3) := by decide +kernel
theorem dX6_beside_80 : decode cX6_beside 80 = .ok (.iconst 1, 1) := by decide +kernel
theorem dX6_beside_81 : decode cX6_beside 81 = .ok (.isub, 1) := by decide +kernel
theorem dX6_beside_82 : decode cX6_beside 82 = .ok (.invokestatic 82, 3) := by decide +kernel
theorem dX6_beside_85 : decode cX6_beside 85 = .ok (.ifCond .eq 7, 3) := by decide +kernel
theorem dX6_beside_88 : decode cX6_beside 88 = .ok (.iload_n 3, 1) := by decide +kernel
theorem dX6_beside_89 : decode cX6_beside 89 = .ok (.goto 4, 3) := by decide +kernel
theorem dX6_beside_92 : decode cX6_beside 92 = .ok (.iconst (-1), 1) := by decide +kernel
theorem dX6_beside_93 : decode cX6_beside 93 = .ok (.ireturn, 1) := by decide +kernel
theorem dX6_isWallAt_0 : decode cX6_isWallAt 0 = .ok (.iload_n 1, 1) := by decide +kernel
theorem dX6_isWallAt_1 : decode cX6_isWallAt 1 = .ok (.iconst (-1), 1) := by decide +kernel
theorem dX6_isWallAt_2 : decode cX6_isWallAt 2 = .ok (.if_icmp .eq 16, 3) := by decide +kernel
theorem dX6_isWallAt_5 : decode cX6_isWallAt 5 = .ok (.aload_n 0, 1) := by decide +kernel
theorem dX6_isWallAt_6 : decode cX6_isWallAt 6 = .ok (.getfield 16, 3) := by decide +kernel
theorem dX6_isWallAt_9 : decode cX6_isWallAt 9 = .ok (.iload_n 1, 1) := by decide +kernel
theorem dX6_isWallAt_10 : decode cX6_isWallAt 10 = .ok (.baload, 1) := by decide +kernel
theorem dX6_isWallAt_11 : decode cX6_isWallAt 11 = .ok (.ifCond .eq 7, 3) := by decide +kernel
theorem dX6_isWallAt_14 : decode cX6_isWallAt 14 = .ok (.iconst 1, 1) := by decide +kernel
theorem dX6_isWallAt_15 : decode cX6_isWallAt 15 = .ok (.goto 4, 3) := by decide +kernel
theorem dX6_isWallAt_18 : decode cX6_isWallAt 18 = .ok (.iconst 0, 1) := by decide +kernel
theorem dX6_isWallAt_19 : decode cX6_isWallAt 19 = .ok (.ireturn, 1) := by decide +kernel
theorem dX6_isLee_0 : decode cX6_isLee 0 = .ok (.iconst 0, 1) := by decide +kernel
theorem dX6_isLee_1 : decode cX6_isLee 1 = .ok (.istore_n 3, 1) := by decide +kernel
theorem dX6_isLee_2 : decode cX6_isLee 2 = .ok (.iconst 0, 1) := by decide +kernel
theorem dX6_isLee_3 : decode cX6_isLee 3 = .ok (.istore 4, 2) := by decide +kernel
theorem dX6_isLee_5 : decode cX6_isLee 5 = .ok (.iload 4, 2) := by decide +kernel
theorem dX6_isLee_7 : decode cX6_isLee 7 = .ok (.aload_n 0, 1) := by decide +kernel
theorem dX6_isLee_8 : decode cX6_isLee 8 = .ok (.getfield 112, 3) := by decide +kernel
theorem dX6_isLee_11 : decode cX6_isLee 11 = .ok (.if_icmp .ge 66, 3) := by decide +kernel
theorem dX6_isLee_14 : decode cX6_isLee 14 = .ok (.iload_n 3, 1) := by decide +kernel
theorem dX6_isLee_15 : decode cX6_isLee 15 = .ok (.ifCond .ne 50, 3) := by decide +kernel
theorem dX6_isLee_18 : decode cX6_isLee 18 = .ok (.iload_n 2, 1) := by decide +kernel
theorem dX6_isLee_19 : decode cX6_isLee 19 = .ok (.iconst (-1), 1) := by decide +kernel
theorem dX6_isLee_20 : decode cX6_isLee 20 = .ok (.if_icmp .eq 49, 3) := by decide +kernel
theorem dX6_isLee_23 : decode cX6_isLee 23 = .ok (.aload_n 0, 1) := by decide +kernel
theorem dX6_isLee_24 : decode cX6_isLee 24 = .ok (.getfield 26, 3) := by decide +kernel
theorem dX6_isLee_27 : decode cX6_isLee 27 = .ok (.iload 4, 2) := by decide +kernel
theorem dX6_isLee_29 : decode cX6_isLee 29 = .ok (.iaload, 1) := by decide +kernel
theorem dX6_isLee_30 : decode cX6_isLee 30 = .ok (.iload_n 2, 1) := by decide +kernel
theorem dX6_isLee_31 : decode cX6_isLee 31 = .ok (.if_icmp .ne 38, 3) := by decide +kernel
theorem dX6_isLee_34 : decode cX6_isLee 34 = .ok (.aload_n 0, 1) := by decide +kernel
theorem dX6_isLee_35 : decode cX6_isLee 35 = .ok (.getfield 16, 3) := by decide +kernel
theorem dX6_isLee_38 : decode cX6_isLee 38 = .ok (.iload_n 2, 1) := by decide +kernel
theorem dX6_isLee_39 : decode cX6_isLee 39 = .ok (.baload, 1) := by decide +kernel
theorem dX6_isLee_40 : decode cX6_isLee 40 = .ok (.ifCond .ne 29, 3) := by decide +kernel
theorem dX6_isLee_43 : decode cX6_isLee 43 = .ok (.aload_n 0, 1) := by decide +kernel
theorem dX6_isLee_44 : decode cX6_isLee 44 = .ok (.getfield 38, 3) := by decide +kernel
theorem dX6_isLee_47 : decode cX6_isLee 47 = .ok (.iload 4, 2) := by decide +kernel
theorem dX6_isLee_49 : decode cX6_isLee 49 = .ok (.iaload, 1) := by decide +kernel
theorem dX6_isLee_50 : decode cX6_isLee 50 = .ok (.iconst (-1), 1) := by decide +kernel
theorem dX6_isLee_51 : decode cX6_isLee 51 = .ok (.if_icmp .eq 14, 3) := by decide +kernel
theorem dX6_isLee_54 : decode cX6_isLee 54 = .ok (.aload_n 0, 1) := by decide +kernel
theorem dX6_isLee_55 : decode cX6_isLee 55 = .ok (.getfield 38, 3) := by decide +kernel
theorem dX6_isLee_58 : decode cX6_isLee 58 = .ok (.iload 4, 2) := by decide +kernel
theorem dX6_isLee_60 : decode cX6_isLee 60 = .ok (.iaload, 1) := by decide +kernel
theorem dX6_isLee_61 : decode cX6_isLee 61 = .ok (.iload_n 1, 1) := by decide +kernel
theorem dX6_isLee_62 : decode cX6_isLee 62 = .ok (.if_icmp .lt 7, 3) := by decide +kernel
theorem dX6_isLee_65 : decode cX6_isLee 65 = .ok (.iconst 1, 1) := by decide +kernel
theorem dX6_isLee_66 : decode cX6_isLee 66 = .ok (.goto 4, 3) := by decide +kernel
theorem dX6_isLee_69 : decode cX6_isLee 69 = .ok (.iconst 0, 1) := by decide +kernel
theorem dX6_isLee_70 : decode cX6_isLee 70 = .ok (.istore_n 3, 1) := by decide +kernel
theorem dX6_isLee_71 : decode cX6_isLee 71 = .ok (.iinc 4 1, 3) := by decide +kernel
theorem dX6_isLee_74 : decode cX6_isLee 74 = .ok (.goto (-69), 3) := by decide +kernel
theorem dX6_isLee_77 : decode cX6_isLee 77 = .ok (.iload_n 3, 1) := by decide +kernel
theorem dX6_isLee_78 : decode cX6_isLee 78 = .ok (.ireturn, 1) := by decide +kernel
theorem dX6_windNow_0 : decode cX6_windNow 0 = .ok (.aload_n 0, 1) := by decide +kernel
theorem dX6_windNow_1 : decode cX6_windNow 1 = .ok (.getfield 20, 3) := by decide +kernel
theorem dX6_windNow_4 : decode cX6_windNow 4 = .ok (.iload_n 1, 1) := by decide +kernel
theorem dX6_windNow_5 : decode cX6_windNow 5 = .ok (.iaload, 1) := by decide +kernel
theorem dX6_windNow_6 : decode cX6_windNow 6 = .ok (.istore_n 3, 1) := by decide +kernel
theorem dX6_windNow_7 : decode cX6_windNow 7 = .ok (.aload_n 0, 1) := by decide +kernel
theorem dX6_windNow_8 : decode cX6_windNow 8 = .ok (.iload_n 2, 1) := by decide +kernel
theorem dX6_windNow_9 : decode cX6_windNow 9 = .ok (.iload_n 3, 1) := by decide +kernel
theorem dX6_windNow_10 : decode cX6_windNow 10 = .ok (.invokevirtual 149, 3) := by decide +kernel
theorem dX6_windNow_13 : decode cX6_windNow 13 = .ok (.istore 4, 2) := by decide +kernel
theorem dX6_windNow_15 : decode cX6_windNow 15 = .ok (.iload 4, 2) := by decide +kernel
theorem dX6_windNow_17 : decode cX6_windNow 17 = .ok (.iconst (-1), 1) := by decide +kernel
theorem dX6_windNow_18 : decode cX6_windNow 18 = .ok (.if_icmp .ne 7, 3) := by decide +kernel
theorem dX6_windNow_21 : decode cX6_windNow 21 = .ok (.iconst (-1), 1) := by decide +kernel
theorem dX6_windNow_22 : decode cX6_windNow 22 = .ok (.goto 10, 3) := by decide +kernel
theorem dX6_windNow_25 : decode cX6_windNow 25 = .ok (.aload_n 0, 1) := by decide +kernel
theorem dX6_windNow_26 : decode cX6_windNow 26 = .ok (.iload 4, 2) := by decide +kernel
theorem dX6_windNow_28 : decode cX6_windNow 28 = .ok (.iload_n 3, 1) := by decide +kernel
theorem dX6_windNow_29 : decode cX6_windNow 29 = .ok (.invokevirtual 149, 3) := by decide +kernel
theorem dX6_windNow_32 : decode cX6_windNow 32 = .ok (.istore 5, 2) := by decide +kernel
theorem dX6_windNow_34 : decode cX6_windNow 34 = .ok (.aload_n 0, 1) := by decide +kernel
theorem dX6_windNow_35 : decode cX6_windNow 35 = .ok (.getfield 16, 3) := by decide +kernel
theorem dX6_windNow_38 : decode cX6_windNow 38 = .ok (.iload_n 2, 1) := by decide +kernel
theorem dX6_windNow_39 : decode cX6_windNow 39 = .ok (.baload, 1) := by decide +kernel
theorem dX6_windNow_40 : decode cX6_windNow 40 = .ok (.ifCond .ne 12, 3) := by decide +kernel
theorem dX6_windNow_43 : decode cX6_windNow 43 = .ok (.aload_n 0, 1) := by decide +kernel
theorem dX6_windNow_44 : decode cX6_windNow 44 = .ok (.iload 4, 2) := by decide +kernel
theorem dX6_windNow_46 : decode cX6_windNow 46 = .ok (.invokevirtual 152, 3) := by decide +kernel
theorem dX6_windNow_49 : decode cX6_windNow 49 = .ok (.ifCond .eq 7, 3) := by decide +kernel
theorem dX6_windNow_52 : decode cX6_windNow 52 = .ok (.iconst 0, 1) := by decide +kernel
theorem dX6_windNow_53 : decode cX6_windNow 53 = .ok (.goto 29, 3) := by decide +kernel
theorem dX6_windNow_56 : decode cX6_windNow 56 = .ok (.aload_n 0, 1) := by decide +kernel
theorem dX6_windNow_57 : decode cX6_windNow 57 = .ok (.iload 5, 2) := by decide +kernel
theorem dX6_windNow_59 : decode cX6_windNow 59 = .ok (.invokevirtual 152, 3) := by decide +kernel
theorem dX6_windNow_62 : decode cX6_windNow 62 = .ok (.ifCond .eq 14, 3) := by decide +kernel
theorem dX6_windNow_65 : decode cX6_windNow 65 = .ok (.aload_n 0, 1) := by decide +kernel
theorem dX6_windNow_66 : decode cX6_windNow 66 = .ok (.getfield 23, 3) := by decide +kernel
theorem dX6_windNow_69 : decode cX6_windNow 69 = .ok (.iload_n 1, 1) := by decide +kernel
theorem dX6_windNow_70 : decode cX6_windNow 70 = .ok (.iaload, 1) := by decide +kernel
theorem dX6_windNow_71 : decode cX6_windNow 71 = .ok (.iconst 2, 1) := by decide +kernel
theorem dX6_windNow_72 : decode cX6_windNow 72 = .ok (.idiv, 1) := by decide +kernel
theorem dX6_windNow_73 : decode cX6_windNow 73 = .ok (.goto 9, 3) := by decide +kernel
theorem dX6_windNow_76 : decode cX6_windNow 76 = .ok (.aload_n 0, 1) := by decide +kernel
theorem dX6_windNow_77 : decode cX6_windNow 77 = .ok (.getfield 23, 3) := by decide +kernel
theorem dX6_windNow_80 : decode cX6_windNow 80 = .ok (.iload_n 1, 1) := by decide +kernel
theorem dX6_windNow_81 : decode cX6_windNow 81 = .ok (.iaload, 1) := by decide +kernel
theorem dX6_windNow_82 : decode cX6_windNow 82 = .ok (.istore 6, 2) := by decide +kernel
theorem dX6_windNow_84 : decode cX6_windNow 84 = .ok (.aload_n 0, 1) := by decide +kernel
theorem dX6_windNow_85 : decode cX6_windNow 85 = .ok (.aload_n 0, 1) := by decide +kernel
theorem dX6_windNow_86 : decode cX6_windNow 86 = .ok (.iload_n 2, 1) := by decide +kernel
theorem dX6_windNow_87 : decode cX6_windNow 87 = .ok (.iload_n 3, 1) := by decide +kernel
theorem dX6_windNow_88 : decode cX6_windNow 88 = .ok (.iconst 1, 1) := by decide +kernel
theorem dX6_windNow_89 : decode cX6_windNow 89 = .ok (.iadd, 1) := by decide +kernel
theorem dX6_windNow_90 : decode cX6_windNow 90 = .ok (.iconst 4, 1) := by decide +kernel
theorem dX6_windNow_91 : decode cX6_windNow 91 = .ok (.irem, 1) := by decide +kernel
theorem dX6_windNow_92 : decode cX6_windNow 92 = .ok (.invokevirtual 149, 3) := by decide +kernel
theorem dX6_windNow_95 : decode cX6_windNow 95 = .ok (.invokevirtual 152, 3) := by decide +kernel
theorem dX6_windNow_98 : decode cX6_windNow 98 = .ok (.ifCond .eq 24, 3) := by decide +kernel
theorem dX6_windNow_101 : decode cX6_windNow 101 = .ok (.aload_n 0, 1) := by decide +kernel
theorem dX6_windNow_102 : decode cX6_windNow 102 = .ok (.aload_n 0, 1) := by decide +kernel
theorem dX6_windNow_103 : decode cX6_windNow 103 = .ok (.iload_n 2, 1) := by decide +kernel
theorem dX6_windNow_104 : decode cX6_windNow 104 = .ok (.iload_n 3, 1) := by decide +kernel
theorem dX6_windNow_105 : decode cX6_windNow 105 = .ok (.iconst 3, 1) := by decide +kernel
theorem dX6_windNow_106 : decode cX6_windNow 106 = .ok (.iadd, 1) := by decide +kernel
theorem dX6_windNow_107 : decode cX6_windNow 107 = .ok (.iconst 4, 1) := by decide +kernel
theorem dX6_windNow_108 : decode cX6_windNow 108 = .ok (.irem, 1) := by decide +kernel
theorem dX6_windNow_109 : decode cX6_windNow 109 = .ok (.invokevirtual 149, 3) := by decide +kernel
theorem dX6_windNow_112 : decode cX6_windNow 112 = .ok (.invokevirtual 152, 3) := by decide +kernel
theorem dX6_windNow_115 : decode cX6_windNow 115 = .ok (.ifCond .eq 7, 3) := by decide +kernel
theorem dX6_windNow_118 : decode cX6_windNow 118 = .ok (.iconst 1, 1) := by decide +kernel
theorem dX6_windNow_119 : decode cX6_windNow 119 = .ok (.goto 4, 3) := by decide +kernel
theorem dX6_windNow_122 : decode cX6_windNow 122 = .ok (.iconst 0, 1) := by decide +kernel
theorem dX6_windNow_123 : decode cX6_windNow 123 = .ok (.istore 7, 2) := by decide +kernel
theorem dX6_windNow_125 : decode cX6_windNow 125 = .ok (.iload 6, 2) := by decide +kernel
theorem dX6_windNow_127 : decode cX6_windNow 127 = .ok (.iload 6, 2) := by decide +kernel
theorem dX6_windNow_129 : decode cX6_windNow 129 = .ok (.ifCond .le 12, 3) := by decide +kernel
theorem dX6_windNow_132 : decode cX6_windNow 132 = .ok (.iload 7, 2) := by decide +kernel
theorem dX6_windNow_134 : decode cX6_windNow 134 = .ok (.ifCond .eq 7, 3) := by decide +kernel
theorem dX6_windNow_137 : decode cX6_windNow 137 = .ok (.iconst 3, 1) := by decide +kernel
theorem dX6_windNow_138 : decode cX6_windNow 138 = .ok (.goto 4, 3) := by decide +kernel
theorem dX6_windNow_141 : decode cX6_windNow 141 = .ok (.iconst 0, 1) := by decide +kernel
theorem dX6_windNow_142 : decode cX6_windNow 142 = .ok (.iadd, 1) := by decide +kernel
theorem dX6_windNow_143 : decode cX6_windNow 143 = .ok (.istore 6, 2) := by decide +kernel
theorem dX6_windNow_145 : decode cX6_windNow 145 = .ok (.aload_n 0, 1) := by decide +kernel
theorem dX6_windNow_146 : decode cX6_windNow 146 = .ok (.iload_n 1, 1) := by decide +kernel
theorem dX6_windNow_147 : decode cX6_windNow 147 = .ok (.iload 4, 2) := by decide +kernel
theorem dX6_windNow_149 : decode cX6_windNow 149 = .ok (.invokevirtual 155, 3) := by decide +kernel
theorem dX6_windNow_152 : decode cX6_windNow 152 = .ok (.ifCond .eq 10, 3) := by decide +kernel
theorem dX6_windNow_155 : decode cX6_windNow 155 = .ok (.iload 6, 2) := by decide +kernel
theorem dX6_windNow_157 : decode cX6_windNow 157 = .ok (.iconst 2, 1) := by decide +kernel
theorem dX6_windNow_158 : decode cX6_windNow 158 = .ok (.idiv, 1) := by decide +kernel
theorem dX6_windNow_159 : decode cX6_windNow 159 = .ok (.goto 5, 3) := by decide +kernel
theorem dX6_windNow_162 : decode cX6_windNow 162 = .ok (.iload 6, 2) := by decide +kernel
theorem dX6_windNow_164 : decode cX6_windNow 164 = .ok (.ireturn, 1) := by decide +kernel
theorem dX6_strain_0 : decode cX6_strain 0 = .ok (.aload_n 0, 1) := by decide +kernel
theorem dX6_strain_1 : decode cX6_strain 1 = .ok (.getfield 32, 3) := by decide +kernel
theorem dX6_strain_4 : decode cX6_strain 4 = .ok (.iload_n 1, 1) := by decide +kernel
theorem dX6_strain_5 : decode cX6_strain 5 = .ok (.iaload, 1) := by decide +kernel
theorem dX6_strain_6 : decode cX6_strain 6 = .ok (.ifCond .ne 9, 3) := by decide +kernel
theorem dX6_strain_9 : decode cX6_strain 9 = .ok (.iload_n 2, 1) := by decide +kernel
theorem dX6_strain_10 : decode cX6_strain 10 = .ok (.iconst 2, 1) := by decide +kernel
theorem dX6_strain_11 : decode cX6_strain 11 = .ok (.idiv, 1) := by decide +kernel
theorem dX6_strain_12 : decode cX6_strain 12 = .ok (.goto 20, 3) := by decide +kernel
theorem dX6_strain_15 : decode cX6_strain 15 = .ok (.aload_n 0, 1) := by decide +kernel
theorem dX6_strain_16 : decode cX6_strain 16 = .ok (.getfield 32, 3) := by decide +kernel
theorem dX6_strain_19 : decode cX6_strain 19 = .ok (.iload_n 1, 1) := by decide +kernel
theorem dX6_strain_20 : decode cX6_strain 20 = .ok (.iaload, 1) := by decide +kernel
theorem dX6_strain_21 : decode cX6_strain 21 = .ok (.iconst 1, 1) := by decide +kernel
theorem dX6_strain_22 : decode cX6_strain 22 = .ok (.if_icmp .ne 7, 3) := by decide +kernel
theorem dX6_strain_25 : decode cX6_strain 25 = .ok (.iload_n 2, 1) := by decide +kernel
theorem dX6_strain_26 : decode cX6_strain 26 = .ok (.goto 6, 3) := by decide +kernel
theorem dX6_strain_29 : decode cX6_strain 29 = .ok (.iconst 2, 1) := by decide +kernel
theorem dX6_strain_30 : decode cX6_strain 30 = .ok (.iload_n 2, 1) := by decide +kernel
theorem dX6_strain_31 : decode cX6_strain 31 = .ok (.imul, 1) := by decide +kernel
theorem dX6_strain_32 : decode cX6_strain 32 = .ok (.ireturn, 1) := by decide +kernel
theorem dX6_elects_0 : decode cX6_elects 0 = .ok (.iconst (-1), 1) := by decide +kernel
theorem dX6_elects_1 : decode cX6_elects 1 = .ok (.istore_n 2, 1) := by decide +kernel
theorem dX6_elects_2 : decode cX6_elects 2 = .ok (.iconst 0, 1) := by decide +kernel
theorem dX6_elects_3 : decode cX6_elects 3 = .ok (.istore_n 3, 1) := by decide +kernel
theorem dX6_elects_4 : decode cX6_elects 4 = .ok (.iload_n 3, 1) := by decide +kernel
theorem dX6_elects_5 : decode cX6_elects 5 = .ok (.aload_n 0, 1) := by decide +kernel
theorem dX6_elects_6 : decode cX6_elects 6 = .ok (.getfield 112, 3) := by decide +kernel
theorem dX6_elects_9 : decode cX6_elects 9 = .ok (.if_icmp .ge 113, 3) := by decide +kernel
theorem dX6_elects_12 : decode cX6_elects 12 = .ok (.aload_n 0, 1) := by decide +kernel
theorem dX6_elects_13 : decode cX6_elects 13 = .ok (.getfield 38, 3) := by decide +kernel
theorem dX6_elects_16 : decode cX6_elects 16 = .ok (.iload_n 3, 1) := by decide +kernel
theorem dX6_elects_17 : decode cX6_elects 17 = .ok (.iaload, 1) := by decide +kernel
theorem dX6_elects_18 : decode cX6_elects 18 = .ok (.iload_n 1, 1) := by decide +kernel
theorem dX6_elects_19 : decode cX6_elects 19 = .ok (.if_icmp .ne 97, 3) := by decide +kernel
theorem dX6_elects_22 : decode cX6_elects 22 = .ok (.aload_n 0, 1) := by decide +kernel
theorem dX6_elects_23 : decode cX6_elects 23 = .ok (.getfield 41, 3) := by decide +kernel
theorem dX6_elects_26 : decode cX6_elects 26 = .ok (.iload_n 3, 1) := by decide +kernel
theorem dX6_elects_27 : decode cX6_elects 27 = .ok (.iload_n 1, 1) := by decide +kernel
theorem dX6_elects_28 : decode cX6_elects 28 = .ok (.iconst 1, 1) := by decide +kernel
theorem dX6_elects_29 : decode cX6_elects 29 = .ok (.iadd, 1) := by decide +kernel
theorem dX6_elects_30 : decode cX6_elects 30 = .ok (.aload_n 0, 1) := by decide +kernel
theorem dX6_elects_31 : decode cX6_elects 31 = .ok (.getfield 101, 3) := by decide +kernel
theorem dX6_elects_34 : decode cX6_elects 34 = .ok (.if_icmp .ge 23, 3) := by decide +kernel
theorem dX6_elects_37 : decode cX6_elects 37 = .ok (.aload_n 0, 1) := by decide +kernel
theorem dX6_elects_38 : decode cX6_elects 38 = .ok (.iload_n 1, 1) := by decide +kernel
theorem dX6_elects_39 : decode cX6_elects 39 = .ok (.iconst 1, 1) := by decide +kernel
theorem dX6_elects_40 : decode cX6_elects 40 = .ok (.iadd, 1) := by decide +kernel
theorem dX6_elects_41 : decode cX6_elects 41 = .ok (.aload_n 0, 1) := by decide +kernel
theorem dX6_elects_42 : decode cX6_elects 42 = .ok (.getfield 26, 3) := by decide +kernel
theorem dX6_elects_45 : decode cX6_elects 45 = .ok (.iload_n 3, 1) := by decide +kernel
theorem dX6_elects_46 : decode cX6_elects 46 = .ok (.iaload, 1) := by decide +kernel
theorem dX6_elects_47 : decode cX6_elects 47 = .ok (.invokevirtual 159, 3) := by decide +kernel
theorem dX6_elects_50 : decode cX6_elects 50 = .ok (.ifCond .ne 7, 3) := by decide +kernel
theorem dX6_elects_53 : decode cX6_elects 53 = .ok (.iconst 1, 1) := by decide +kernel
theorem dX6_elects_54 : decode cX6_elects 54 = .ok (.goto 4, 3) := by decide +kernel
theorem dX6_elects_57 : decode cX6_elects 57 = .ok (.iconst 0, 1) := by decide +kernel
theorem dX6_elects_58 : decode cX6_elects 58 = .ok (.bastore, 1) := by decide +kernel
theorem dX6_elects_59 : decode cX6_elects 59 = .ok (.aload_n 0, 1) := by decide +kernel
theorem dX6_elects_60 : decode cX6_elects 60 = .ok (.getfield 41, 3) := by decide +kernel
theorem dX6_elects_63 : decode cX6_elects 63 = .ok (.iload_n 3, 1) := by decide +kernel
theorem dX6_elects_64 : decode cX6_elects 64 = .ok (.baload, 1) := by decide +kernel
theorem dX6_elects_65 : decode cX6_elects 65 = .ok (.ifCond .ne 37, 3) := by decide +kernel
theorem dX6_elects_68 : decode cX6_elects 68 = .ok (.iload_n 2, 1) := by decide +kernel
theorem dX6_elects_69 : decode cX6_elects 69 = .ok (.iconst (-1), 1) := by decide +kernel
theorem dX6_elects_70 : decode cX6_elects 70 = .ok (.if_icmp .eq 28, 3) := by decide +kernel
theorem dX6_elects_73 : decode cX6_elects 73 = .ok (.aload_n 0, 1) := by decide +kernel
theorem dX6_elects_74 : decode cX6_elects 74 = .ok (.getfield 35, 3) := by decide +kernel
theorem dX6_elects_77 : decode cX6_elects 77 = .ok (.bipush 8, 2) := by decide +kernel
theorem dX6_elects_79 : decode cX6_elects 79 = .ok (.iload_n 1, 1) := by decide +kernel
theorem dX6_elects_80 : decode cX6_elects 80 = .ok (.imul, 1) := by decide +kernel
theorem dX6_elects_81 : decode cX6_elects 81 = .ok (.iload_n 3, 1) := by decide +kernel
theorem dX6_elects_82 : decode cX6_elects 82 = .ok (.iadd, 1) := by decide +kernel
theorem dX6_elects_83 : decode cX6_elects 83 = .ok (.iaload, 1) := by decide +kernel
theorem dX6_elects_84 : decode cX6_elects 84 = .ok (.aload_n 0, 1) := by decide +kernel
theorem dX6_elects_85 : decode cX6_elects 85 = .ok (.getfield 35, 3) := by decide +kernel
theorem dX6_elects_88 : decode cX6_elects 88 = .ok (.bipush 8, 2) := by decide +kernel
theorem dX6_elects_90 : decode cX6_elects 90 = .ok (.iload_n 1, 1) := by decide +kernel
theorem dX6_elects_91 : decode cX6_elects 91 = .ok (.imul, 1) := by decide +kernel
theorem dX6_elects_92 : decode cX6_elects 92 = .ok (.iload_n 2, 1) := by decide +kernel
theorem dX6_elects_93 : decode cX6_elects 93 = .ok (.iadd, 1) := by decide +kernel
theorem dX6_elects_94 : decode cX6_elects 94 = .ok (.iaload, 1) := by decide +kernel
theorem dX6_elects_95 : decode cX6_elects 95 = .ok (.if_icmp .ge 7, 3) := by decide +kernel
theorem dX6_elects_98 : decode cX6_elects 98 = .ok (.iconst 1, 1) := by decide +kernel
theorem dX6_elects_99 : decode cX6_elects 99 = .ok (.goto 4, 3) := by decide +kernel
theorem dX6_elects_102 : decode cX6_elects 102 = .ok (.iconst 0, 1) := by decide +kernel
theorem dX6_elects_103 : decode cX6_elects 103 = .ok (.istore 4, 2) := by decide +kernel
theorem dX6_elects_105 : decode cX6_elects 105 = .ok (.iload 4, 2) := by decide +kernel
theorem dX6_elects_107 : decode cX6_elects 107 = .ok (.ifCond .eq 7, 3) := by decide +kernel
theorem dX6_elects_110 : decode cX6_elects 110 = .ok (.iload_n 3, 1) := by decide +kernel
theorem dX6_elects_111 : decode cX6_elects 111 = .ok (.goto 4, 3) := by decide +kernel
theorem dX6_elects_114 : decode cX6_elects 114 = .ok (.iload_n 2, 1) := by decide +kernel
theorem dX6_elects_115 : decode cX6_elects 115 = .ok (.istore_n 2, 1) := by decide +kernel
theorem dX6_elects_116 : decode cX6_elects 116 = .ok (.iinc 3 1, 3) := by decide +kernel
theorem dX6_elects_119 : decode cX6_elects 119 = .ok (.goto (-115), 3) := by decide +kernel
theorem dX6_elects_122 : decode cX6_elects 122 = .ok (.aload_n 0, 1) := by decide +kernel
theorem dX6_elects_123 : decode cX6_elects 123 = .ok (.getfield 47, 3) := by decide +kernel
theorem dX6_elects_126 : decode cX6_elects 126 = .ok (.iload_n 1, 1) := by decide +kernel
theorem dX6_elects_127 : decode cX6_elects 127 = .ok (.iload_n 1, 1) := by decide +kernel
theorem dX6_elects_128 : decode cX6_elects 128 = .ok (.ifCond .ne 7, 3) := by decide +kernel
theorem dX6_elects_131 : decode cX6_elects 131 = .ok (.iconst (-1), 1) := by decide +kernel
theorem dX6_elects_132 : decode cX6_elects 132 = .ok (.goto 11, 3) := by decide +kernel
theorem dX6_elects_135 : decode cX6_elects 135 = .ok (.aload_n 0, 1) := by decide +kernel
theorem dX6_elects_136 : decode cX6_elects 136 = .ok (.getfield 47, 3) := by decide +kernel
theorem dX6_elects_139 : decode cX6_elects 139 = .ok (.iload_n 1, 1) := by decide +kernel
theorem dX6_elects_140 : decode cX6_elects 140 = .ok (.iconst 1, 1) := by decide +kernel
theorem dX6_elects_141 : decode cX6_elects 141 = .ok (.isub, 1) := by decide +kernel
theorem dX6_elects_142 : decode cX6_elects 142 = .ok (.iaload, 1) := by decide +kernel
theorem dX6_elects_143 : decode cX6_elects 143 = .ok (.iastore, 1) := by decide +kernel
theorem dX6_elects_144 : decode cX6_elects 144 = .ok (.iload_n 2, 1) := by decide +kernel
theorem dX6_elects_145 : decode cX6_elects 145 = .ok (.iconst (-1), 1) := by decide +kernel
theorem dX6_elects_146 : decode cX6_elects 146 = .ok (.if_icmp .eq 17, 3) := by decide +kernel
theorem dX6_elects_149 : decode cX6_elects 149 = .ok (.aload_n 0, 1) := by decide +kernel
theorem dX6_elects_150 : decode cX6_elects 150 = .ok (.getfield 44, 3) := by decide +kernel
theorem dX6_elects_153 : decode cX6_elects 153 = .ok (.iload_n 2, 1) := by decide +kernel
theorem dX6_elects_154 : decode cX6_elects 154 = .ok (.iconst 1, 1) := by decide +kernel
theorem dX6_elects_155 : decode cX6_elects 155 = .ok (.bastore, 1) := by decide +kernel
theorem dX6_elects_156 : decode cX6_elects 156 = .ok (.aload_n 0, 1) := by decide +kernel
theorem dX6_elects_157 : decode cX6_elects 157 = .ok (.getfield 47, 3) := by decide +kernel
theorem dX6_elects_160 : decode cX6_elects 160 = .ok (.iload_n 1, 1) := by decide +kernel
theorem dX6_elects_161 : decode cX6_elects 161 = .ok (.iload_n 2, 1) := by decide +kernel
theorem dX6_elects_162 : decode cX6_elects 162 = .ok (.iastore, 1) := by decide +kernel
theorem dX6_elects_163 : decode cX6_elects 163 = .ok (.return_, 1) := by decide +kernel
theorem dX6_goesBy_0 : decode cX6_goesBy 0 = .ok (.iconst 0, 1) := by decide +kernel
theorem dX6_goesBy_1 : decode cX6_goesBy 1 = .ok (.istore_n 2, 1) := by decide +kernel
theorem dX6_goesBy_2 : decode cX6_goesBy 2 = .ok (.iload_n 2, 1) := by decide +kernel
theorem dX6_goesBy_3 : decode cX6_goesBy 3 = .ok (.aload_n 0, 1) := by decide +kernel
theorem dX6_goesBy_4 : decode cX6_goesBy 4 = .ok (.getfield 112, 3) := by decide +kernel
theorem dX6_goesBy_7 : decode cX6_goesBy 7 = .ok (.if_icmp .ge 121, 3) := by decide +kernel
theorem dX6_goesBy_10 : decode cX6_goesBy 10 = .ok (.aload_n 0, 1) := by decide +kernel
theorem dX6_goesBy_11 : decode cX6_goesBy 11 = .ok (.getfield 35, 3) := by decide +kernel
theorem dX6_goesBy_14 : decode cX6_goesBy 14 = .ok (.bipush 8, 2) := by decide +kernel
theorem dX6_goesBy_16 : decode cX6_goesBy 16 = .ok (.iload_n 1, 1) := by decide +kernel
theorem dX6_goesBy_17 : decode cX6_goesBy 17 = .ok (.imul, 1) := by decide +kernel
theorem dX6_goesBy_18 : decode cX6_goesBy 18 = .ok (.iload_n 2, 1) := by decide +kernel
theorem dX6_goesBy_19 : decode cX6_goesBy 19 = .ok (.iadd, 1) := by decide +kernel
theorem dX6_goesBy_20 : decode cX6_goesBy 20 = .ok (.iaload, 1) := by decide +kernel
theorem dX6_goesBy_21 : decode cX6_goesBy 21 = .ok (.istore_n 3, 1) := by decide +kernel
theorem dX6_goesBy_22 : decode cX6_goesBy 22 = .ok (.aload_n 0, 1) := by decide +kernel
theorem dX6_goesBy_23 : decode cX6_goesBy 23 = .ok (.getfield 35, 3) := by decide +kernel
theorem dX6_goesBy_26 : decode cX6_goesBy 26 = .ok (.bipush 8, 2) := by decide +kernel
theorem dX6_goesBy_28 : decode cX6_goesBy 28 = .ok (.iload_n 1, 1) := by decide +kernel
theorem dX6_goesBy_29 : decode cX6_goesBy 29 = .ok (.imul, 1) := by decide +kernel
theorem dX6_goesBy_30 : decode cX6_goesBy 30 = .ok (.bipush 8, 2) := by decide +kernel
theorem dX6_goesBy_32 : decode cX6_goesBy 32 = .ok (.iadd, 1) := by decide +kernel
theorem dX6_goesBy_33 : decode cX6_goesBy 33 = .ok (.iload_n 2, 1) := by decide +kernel
theorem dX6_goesBy_34 : decode cX6_goesBy 34 = .ok (.iadd, 1) := by decide +kernel
theorem dX6_goesBy_35 : decode cX6_goesBy 35 = .ok (.iload_n 3, 1) := by decide +kernel
theorem dX6_goesBy_36 : decode cX6_goesBy 36 = .ok (.iastore, 1) := by decide +kernel
theorem dX6_goesBy_37 : decode cX6_goesBy 37 = .ok (.aload_n 0, 1) := by decide +kernel
theorem dX6_goesBy_38 : decode cX6_goesBy 38 = .ok (.iload_n 2, 1) := by decide +kernel
theorem dX6_goesBy_39 : decode cX6_goesBy 39 = .ok (.invokevirtual 140, 3) := by decide +kernel
theorem dX6_goesBy_42 : decode cX6_goesBy 42 = .ok (.ifCond .eq 80, 3) := by decide +kernel
theorem dX6_goesBy_45 : decode cX6_goesBy 45 = .ok (.aload_n 0, 1) := by decide +kernel
theorem dX6_goesBy_46 : decode cX6_goesBy 46 = .ok (.getfield 38, 3) := by decide +kernel
theorem dX6_goesBy_49 : decode cX6_goesBy 49 = .ok (.iload_n 2, 1) := by decide +kernel
theorem dX6_goesBy_50 : decode cX6_goesBy 50 = .ok (.iaload, 1) := by decide +kernel
theorem dX6_goesBy_51 : decode cX6_goesBy 51 = .ok (.iconst (-1), 1) := by decide +kernel
theorem dX6_goesBy_52 : decode cX6_goesBy 52 = .ok (.if_icmp .ne 70, 3) := by decide +kernel
theorem dX6_goesBy_55 : decode cX6_goesBy 55 = .ok (.aload_n 0, 1) := by decide +kernel
theorem dX6_goesBy_56 : decode cX6_goesBy 56 = .ok (.iload_n 2, 1) := by decide +kernel
theorem dX6_goesBy_57 : decode cX6_goesBy 57 = .ok (.aload_n 0, 1) := by decide +kernel
theorem dX6_goesBy_58 : decode cX6_goesBy 58 = .ok (.iload_n 1, 1) := by decide +kernel
theorem dX6_goesBy_59 : decode cX6_goesBy 59 = .ok (.aload_n 0, 1) := by decide +kernel
theorem dX6_goesBy_60 : decode cX6_goesBy 60 = .ok (.getfield 26, 3) := by decide +kernel
theorem dX6_goesBy_63 : decode cX6_goesBy 63 = .ok (.iload_n 2, 1) := by decide +kernel
theorem dX6_goesBy_64 : decode cX6_goesBy 64 = .ok (.iaload, 1) := by decide +kernel
theorem dX6_goesBy_65 : decode cX6_goesBy 65 = .ok (.invokevirtual 159, 3) := by decide +kernel
theorem dX6_goesBy_68 : decode cX6_goesBy 68 = .ok (.invokevirtual 162, 3) := by decide +kernel
theorem dX6_goesBy_71 : decode cX6_goesBy 71 = .ok (.istore 4, 2) := by decide +kernel
theorem dX6_goesBy_73 : decode cX6_goesBy 73 = .ok (.aload_n 0, 1) := by decide +kernel
theorem dX6_goesBy_74 : decode cX6_goesBy 74 = .ok (.getfield 38, 3) := by decide +kernel
theorem dX6_goesBy_77 : decode cX6_goesBy 77 = .ok (.iload_n 2, 1) := by decide +kernel
theorem dX6_goesBy_78 : decode cX6_goesBy 78 = .ok (.iload 4, 2) := by decide +kernel
theorem dX6_goesBy_80 : decode cX6_goesBy 80 = .ok (.iload_n 3, 1) := by decide +kernel
theorem dX6_goesBy_81 : decode cX6_goesBy 81 = .ok (.if_icmp .le 7, 3) := by decide +kernel
theorem dX6_goesBy_84 : decode cX6_goesBy 84 = .ok (.iload_n 1, 1) := by decide +kernel
theorem dX6_goesBy_85 : decode cX6_goesBy 85 = .ok (.goto 4, 3) := by decide +kernel
theorem dX6_goesBy_88 : decode cX6_goesBy 88 = .ok (.iconst (-1), 1) := by decide +kernel
theorem dX6_goesBy_89 : decode cX6_goesBy 89 = .ok (.iastore, 1) := by decide +kernel
theorem dX6_goesBy_90 : decode cX6_goesBy 90 = .ok (.aload_n 0, 1) := by decide +kernel
theorem dX6_goesBy_91 : decode cX6_goesBy 91 = .ok (.getfield 35, 3) := by decide +kernel
theorem dX6_goesBy_94 : decode cX6_goesBy 94 = .ok (.bipush 8, 2) := by decide +kernel
theorem dX6_goesBy_96 : decode cX6_goesBy 96 = .ok (.iload_n 1, 1) := by decide +kernel
theorem dX6_goesBy_97 : decode cX6_goesBy 97 = .ok (.imul, 1) := by decide +kernel
theorem dX6_goesBy_98 : decode cX6_goesBy 98 = .ok (.bipush 8, 2) := by decide +kernel
theorem dX6_goesBy_100 : decode cX6_goesBy 100 = .ok (.iadd, 1) := by decide +kernel
theorem dX6_goesBy_101 : decode cX6_goesBy 101 = .ok (.iload_n 2, 1) := by decide +kernel
theorem dX6_goesBy_102 : decode cX6_goesBy 102 = .ok (.iadd, 1) := by decide +kernel
theorem dX6_goesBy_103 : decode cX6_goesBy 103 = .ok (.iload 4, 2) := by decide +kernel
theorem dX6_goesBy_105 : decode cX6_goesBy 105 = .ok (.iload_n 3, 1) := by decide +kernel
theorem dX6_goesBy_106 : decode cX6_goesBy 106 = .ok (.if_icmp .ne 14, 3) := by decide +kernel
theorem dX6_goesBy_109 : decode cX6_goesBy 109 = .ok (.iload_n 3, 1) := by decide +kernel
theorem dX6_goesBy_110 : decode cX6_goesBy 110 = .ok (.iconst 1, 1) := by decide +kernel
theorem dX6_goesBy_111 : decode cX6_goesBy 111 = .ok (.if_icmp .le 9, 3) := by decide +kernel
theorem dX6_goesBy_114 : decode cX6_goesBy 114 = .ok (.iload_n 3, 1) := by decide +kernel
theorem dX6_goesBy_115 : decode cX6_goesBy 115 = .ok (.iconst 1, 1) := by decide +kernel
theorem dX6_goesBy_116 : decode cX6_goesBy 116 = .ok (.isub, 1) := by decide +kernel
theorem dX6_goesBy_117 : decode cX6_goesBy 117 = .ok (.goto 4, 3) := by decide +kernel
theorem dX6_goesBy_120 : decode cX6_goesBy 120 = .ok (.iload_n 3, 1) := by decide +kernel
theorem dX6_goesBy_121 : decode cX6_goesBy 121 = .ok (.iastore, 1) := by decide +kernel
theorem dX6_goesBy_122 : decode cX6_goesBy 122 = .ok (.iinc 2 1, 3) := by decide +kernel
theorem dX6_goesBy_125 : decode cX6_goesBy 125 = .ok (.goto (-123), 3) := by decide +kernel
theorem dX6_goesBy_128 : decode cX6_goesBy 128 = .ok (.aload_n 0, 1) := by decide +kernel
theorem dX6_goesBy_129 : decode cX6_goesBy 129 = .ok (.iload_n 1, 1) := by decide +kernel
theorem dX6_goesBy_130 : decode cX6_goesBy 130 = .ok (.invokevirtual 165, 3) := by decide +kernel
theorem dX6_goesBy_133 : decode cX6_goesBy 133 = .ok (.return_, 1) := by decide +kernel
theorem dX6_runs_0 : decode cX6_runs 0 = .ok (.iconst 0, 1) := by decide +kernel
theorem dX6_runs_1 : decode cX6_runs 1 = .ok (.istore_n 1, 1) := by decide +kernel
theorem dX6_runs_2 : decode cX6_runs 2 = .ok (.iload_n 1, 1) := by decide +kernel
theorem dX6_runs_3 : decode cX6_runs 3 = .ok (.bipush 8, 2) := by decide +kernel
theorem dX6_runs_5 : decode cX6_runs 5 = .ok (.if_icmp .ge 42, 3) := by decide +kernel
theorem dX6_runs_8 : decode cX6_runs 8 = .ok (.aload_n 0, 1) := by decide +kernel
theorem dX6_runs_9 : decode cX6_runs 9 = .ok (.getfield 38, 3) := by decide +kernel
theorem dX6_runs_12 : decode cX6_runs 12 = .ok (.iload_n 1, 1) := by decide +kernel
theorem dX6_runs_13 : decode cX6_runs 13 = .ok (.iconst (-1), 1) := by decide +kernel
theorem dX6_runs_14 : decode cX6_runs 14 = .ok (.iastore, 1) := by decide +kernel
theorem dX6_runs_15 : decode cX6_runs 15 = .ok (.aload_n 0, 1) := by decide +kernel
theorem dX6_runs_16 : decode cX6_runs 16 = .ok (.getfield 41, 3) := by decide +kernel
theorem dX6_runs_19 : decode cX6_runs 19 = .ok (.iload_n 1, 1) := by decide +kernel
theorem dX6_runs_20 : decode cX6_runs 20 = .ok (.iconst 0, 1) := by decide +kernel
theorem dX6_runs_21 : decode cX6_runs 21 = .ok (.bastore, 1) := by decide +kernel
theorem dX6_runs_22 : decode cX6_runs 22 = .ok (.aload_n 0, 1) := by decide +kernel
theorem dX6_runs_23 : decode cX6_runs 23 = .ok (.getfield 44, 3) := by decide +kernel
theorem dX6_runs_26 : decode cX6_runs 26 = .ok (.iload_n 1, 1) := by decide +kernel
theorem dX6_runs_27 : decode cX6_runs 27 = .ok (.iconst 0, 1) := by decide +kernel
theorem dX6_runs_28 : decode cX6_runs 28 = .ok (.bastore, 1) := by decide +kernel
theorem dX6_runs_29 : decode cX6_runs 29 = .ok (.aload_n 0, 1) := by decide +kernel
theorem dX6_runs_30 : decode cX6_runs 30 = .ok (.getfield 35, 3) := by decide +kernel
theorem dX6_runs_33 : decode cX6_runs 33 = .ok (.iload_n 1, 1) := by decide +kernel
theorem dX6_runs_34 : decode cX6_runs 34 = .ok (.aload_n 0, 1) := by decide +kernel
theorem dX6_runs_35 : decode cX6_runs 35 = .ok (.getfield 29, 3) := by decide +kernel
theorem dX6_runs_38 : decode cX6_runs 38 = .ok (.iload_n 1, 1) := by decide +kernel
theorem dX6_runs_39 : decode cX6_runs 39 = .ok (.iaload, 1) := by decide +kernel
theorem dX6_runs_40 : decode cX6_runs 40 = .ok (.iastore, 1) := by decide +kernel
theorem dX6_runs_41 : decode cX6_runs 41 = .ok (.iinc 1 1, 3) := by decide +kernel
theorem dX6_runs_44 : decode cX6_runs 44 = .ok (.goto (-42), 3) := by decide +kernel
theorem dX6_runs_47 : decode cX6_runs 47 = .ok (.iconst 0, 1) := by decide +kernel
theorem dX6_runs_48 : decode cX6_runs 48 = .ok (.istore_n 1, 1) := by decide +kernel
theorem dX6_runs_49 : decode cX6_runs 49 = .ok (.iload_n 1, 1) := by decide +kernel
theorem dX6_runs_50 : decode cX6_runs 50 = .ok (.aload_n 0, 1) := by decide +kernel
theorem dX6_runs_51 : decode cX6_runs 51 = .ok (.getfield 101, 3) := by decide +kernel
theorem dX6_runs_54 : decode cX6_runs 54 = .ok (.if_icmp .ge 14, 3) := by decide +kernel
theorem dX6_runs_57 : decode cX6_runs 57 = .ok (.aload_n 0, 1) := by decide +kernel
theorem dX6_runs_58 : decode cX6_runs 58 = .ok (.iload_n 1, 1) := by decide +kernel
theorem dX6_runs_59 : decode cX6_runs 59 = .ok (.invokevirtual 169, 3) := by decide +kernel
theorem dX6_runs_62 : decode cX6_runs 62 = .ok (.iinc 1 1, 3) := by decide +kernel
theorem dX6_runs_65 : decode cX6_runs 65 = .ok (.goto (-16), 3) := by decide +kernel
theorem dX6_runs_68 : decode cX6_runs 68 = .ok (.return_, 1) := by decide +kernel
theorem dX6_runsTold_0 : decode cX6_runsTold 0 = .ok (.aload_n 0, 1) := by decide +kernel
theorem dX6_runsTold_1 : decode cX6_runsTold 1 = .ok (.invokevirtual 131, 3) := by decide +kernel
theorem dX6_runsTold_4 : decode cX6_runsTold 4 = .ok (.aload_n 0, 1) := by decide +kernel
theorem dX6_runsTold_5 : decode cX6_runsTold 5 = .ok (.invokevirtual 172, 3) := by decide +kernel
theorem dX6_runsTold_8 : decode cX6_runsTold 8 = .ok (.return_, 1) := by decide +kernel
theorem dX6_windOf_0 : decode cX6_windOf 0 = .ok (.aload_n 0, 1) := by decide +kernel
theorem dX6_windOf_1 : decode cX6_windOf 1 = .ok (.invokevirtual 175, 3) := by decide +kernel
theorem dX6_windOf_4 : decode cX6_windOf 4 = .ok (.aload_n 0, 1) := by decide +kernel
theorem dX6_windOf_5 : decode cX6_windOf 5 = .ok (.iload_n 1, 1) := by decide +kernel
theorem dX6_windOf_6 : decode cX6_windOf 6 = .ok (.iload_n 2, 1) := by decide +kernel
theorem dX6_windOf_7 : decode cX6_windOf 7 = .ok (.invokevirtual 159, 3) := by decide +kernel
theorem dX6_windOf_10 : decode cX6_windOf 10 = .ok (.ireturn, 1) := by decide +kernel
theorem dX6_wind_0 : decode cX6_wind 0 = .ok (.aload_n 0, 1) := by decide +kernel
theorem dX6_wind_1 : decode cX6_wind 1 = .ok (.iload_n 1, 1) := by decide +kernel
theorem dX6_wind_2 : decode cX6_wind 2 = .ok (.invokevirtual 137, 3) := by decide +kernel
theorem dX6_wind_5 : decode cX6_wind 5 = .ok (.ifCond .eq 20, 3) := by decide +kernel
theorem dX6_wind_8 : decode cX6_wind 8 = .ok (.aload_n 0, 1) := by decide +kernel
theorem dX6_wind_9 : decode cX6_wind 9 = .ok (.iload_n 2, 1) := by decide +kernel
theorem dX6_wind_10 : decode cX6_wind 10 = .ok (.invokevirtual 134, 3) := by decide +kernel
theorem dX6_wind_13 : decode cX6_wind 13 = .ok (.ifCond .eq 12, 3) := by decide +kernel
theorem dX6_wind_16 : decode cX6_wind 16 = .ok (.aload_n 0, 1) := by decide +kernel
theorem dX6_wind_17 : decode cX6_wind 17 = .ok (.iload_n 1, 1) := by decide +kernel
theorem dX6_wind_18 : decode cX6_wind 18 = .ok (.iload_n 2, 1) := by decide +kernel
theorem dX6_wind_19 : decode cX6_wind 19 = .ok (.invokevirtual 178, 3) := by decide +kernel
theorem dX6_wind_22 : decode cX6_wind 22 = .ok (.goto 5, 3) := by decide +kernel
theorem dX6_wind_25 : decode cX6_wind 25 = .ok (.bipush (-2), 2) := by decide +kernel
theorem dX6_wind_27 : decode cX6_wind 27 = .ok (.ireturn, 1) := by decide +kernel
theorem dX6_ribsOf_0 : decode cX6_ribsOf 0 = .ok (.aload_n 0, 1) := by decide +kernel
theorem dX6_ribsOf_1 : decode cX6_ribsOf 1 = .ok (.invokevirtual 175, 3) := by decide +kernel
theorem dX6_ribsOf_4 : decode cX6_ribsOf 4 = .ok (.aload_n 0, 1) := by decide +kernel
theorem dX6_ribsOf_5 : decode cX6_ribsOf 5 = .ok (.getfield 35, 3) := by decide +kernel
theorem dX6_ribsOf_8 : decode cX6_ribsOf 8 = .ok (.bipush 8, 2) := by decide +kernel
theorem dX6_ribsOf_10 : decode cX6_ribsOf 10 = .ok (.iload_n 1, 1) := by decide +kernel
theorem dX6_ribsOf_11 : decode cX6_ribsOf 11 = .ok (.imul, 1) := by decide +kernel
theorem dX6_ribsOf_12 : decode cX6_ribsOf 12 = .ok (.iload_n 2, 1) := by decide +kernel
theorem dX6_ribsOf_13 : decode cX6_ribsOf 13 = .ok (.iadd, 1) := by decide +kernel
theorem dX6_ribsOf_14 : decode cX6_ribsOf 14 = .ok (.iaload, 1) := by decide +kernel
theorem dX6_ribsOf_15 : decode cX6_ribsOf 15 = .ok (.ireturn, 1) := by decide +kernel
theorem dX6_ribs_0 : decode cX6_ribs 0 = .ok (.aload_n 0, 1) := by decide +kernel
theorem dX6_ribs_1 : decode cX6_ribs 1 = .ok (.iload_n 1, 1) := by decide +kernel
theorem dX6_ribs_2 : decode cX6_ribs 2 = .ok (.invokevirtual 137, 3) := by decide +kernel
theorem dX6_ribs_5 : decode cX6_ribs 5 = .ok (.ifCond .eq 20, 3) := by decide +kernel
theorem dX6_ribs_8 : decode cX6_ribs 8 = .ok (.aload_n 0, 1) := by decide +kernel
theorem dX6_ribs_9 : decode cX6_ribs 9 = .ok (.iload_n 2, 1) := by decide +kernel
theorem dX6_ribs_10 : decode cX6_ribs 10 = .ok (.invokevirtual 143, 3) := by decide +kernel
theorem dX6_ribs_13 : decode cX6_ribs 13 = .ok (.ifCond .eq 12, 3) := by decide +kernel
theorem dX6_ribs_16 : decode cX6_ribs 16 = .ok (.aload_n 0, 1) := by decide +kernel
theorem dX6_ribs_17 : decode cX6_ribs 17 = .ok (.iload_n 1, 1) := by decide +kernel
theorem dX6_ribs_18 : decode cX6_ribs 18 = .ok (.iload_n 2, 1) := by decide +kernel
theorem dX6_ribs_19 : decode cX6_ribs 19 = .ok (.invokevirtual 181, 3) := by decide +kernel
theorem dX6_ribs_22 : decode cX6_ribs 22 = .ok (.goto 5, 3) := by decide +kernel
theorem dX6_ribs_25 : decode cX6_ribs 25 = .ok (.bipush (-2), 2) := by decide +kernel
theorem dX6_ribs_27 : decode cX6_ribs 27 = .ok (.ireturn, 1) := by decide +kernel
theorem dX6_turnsOf_0 : decode cX6_turnsOf 0 = .ok (.aload_n 0, 1) := by decide +kernel
theorem dX6_turnsOf_1 : decode cX6_turnsOf 1 = .ok (.invokevirtual 175, 3) := by decide +kernel
theorem dX6_turnsOf_4 : decode cX6_turnsOf 4 = .ok (.iconst 0, 1) := by decide +kernel
theorem dX6_turnsOf_5 : decode cX6_turnsOf 5 = .ok (.istore_n 3, 1) := by decide +kernel
theorem dX6_turnsOf_6 : decode cX6_turnsOf 6 = .ok (.iconst 0, 1) := by decide +kernel
theorem dX6_turnsOf_7 : decode cX6_turnsOf 7 = .ok (.istore 4, 2) := by decide +kernel
theorem dX6_turnsOf_9 : decode cX6_turnsOf 9 = .ok (.iload 4, 2) := by decide +kernel
theorem dX6_turnsOf_11 : decode cX6_turnsOf 11 = .ok (.aload_n 0, 1) := by decide +kernel
theorem dX6_turnsOf_12 : decode cX6_turnsOf 12 = .ok (.getfield 101, 3) := by decide +kernel
theorem dX6_turnsOf_15 : decode cX6_turnsOf 15 = .ok (.if_icmp .ge 28, 3) := by decide +kernel
theorem dX6_turnsOf_18 : decode cX6_turnsOf 18 = .ok (.iload_n 3, 1) := by decide +kernel
theorem dX6_turnsOf_19 : decode cX6_turnsOf 19 = .ok (.aload_n 0, 1) := by decide +kernel
theorem dX6_turnsOf_20 : decode cX6_turnsOf 20 = .ok (.getfield 47, 3) := by decide +kernel
theorem dX6_turnsOf_23 : decode cX6_turnsOf 23 = .ok (.iload 4, 2) := by decide +kernel
theorem dX6_turnsOf_25 : decode cX6_turnsOf 25 = .ok (.iaload, 1) := by decide +kernel
theorem dX6_turnsOf_26 : decode cX6_turnsOf 26 = .ok (.iload_n 1, 1) := by decide +kernel
theorem dX6_turnsOf_27 : decode cX6_turnsOf 27 = .ok (.if_icmp .ne 7, 3) := by decide +kernel
theorem dX6_turnsOf_30 : decode cX6_turnsOf 30 = .ok (.iconst 1, 1) := by decide +kernel
theorem dX6_turnsOf_31 : decode cX6_turnsOf 31 = .ok (.goto 4, 3) := by decide +kernel
theorem dX6_turnsOf_34 : decode cX6_turnsOf 34 = .ok (.iconst 0, 1) := by decide +kernel
theorem dX6_turnsOf_35 : decode cX6_turnsOf 35 = .ok (.iadd, 1) := by decide +kernel
theorem dX6_turnsOf_36 : decode cX6_turnsOf 36 = .ok (.istore_n 3, 1) := by decide +kernel
theorem dX6_turnsOf_37 : decode cX6_turnsOf 37 = .ok (.iinc 4 1, 3) := by decide +kernel
theorem dX6_turnsOf_40 : decode cX6_turnsOf 40 = .ok (.goto (-31), 3) := by decide +kernel
theorem dX6_turnsOf_43 : decode cX6_turnsOf 43 = .ok (.iload_n 2, 1) := by decide +kernel
theorem dX6_turnsOf_44 : decode cX6_turnsOf 44 = .ok (.ifCond .ne 12, 3) := by decide +kernel
theorem dX6_turnsOf_47 : decode cX6_turnsOf 47 = .ok (.aload_n 0, 1) := by decide +kernel
theorem dX6_turnsOf_48 : decode cX6_turnsOf 48 = .ok (.getfield 38, 3) := by decide +kernel
theorem dX6_turnsOf_51 : decode cX6_turnsOf 51 = .ok (.iload_n 1, 1) := by decide +kernel
theorem dX6_turnsOf_52 : decode cX6_turnsOf 52 = .ok (.iaload, 1) := by decide +kernel
theorem dX6_turnsOf_53 : decode cX6_turnsOf 53 = .ok (.goto 48, 3) := by decide +kernel
theorem dX6_turnsOf_56 : decode cX6_turnsOf 56 = .ok (.iload_n 2, 1) := by decide +kernel
theorem dX6_turnsOf_57 : decode cX6_turnsOf 57 = .ok (.iconst 1, 1) := by decide +kernel
theorem dX6_turnsOf_58 : decode cX6_turnsOf 58 = .ok (.if_icmp .ne 20, 3) := by decide +kernel
theorem dX6_turnsOf_61 : decode cX6_turnsOf 61 = .ok (.aload_n 0, 1) := by decide +kernel
theorem dX6_turnsOf_62 : decode cX6_turnsOf 62 = .ok (.getfield 41, 3) := by decide +kernel
theorem dX6_turnsOf_65 : decode cX6_turnsOf 65 = .ok (.iload_n 1, 1) := by decide +kernel
theorem dX6_turnsOf_66 : decode cX6_turnsOf 66 = .ok (.baload, 1) := by decide +kernel
theorem dX6_turnsOf_67 : decode cX6_turnsOf 67 = .ok (.ifCond .eq 7, 3) := by decide +kernel
theorem dX6_turnsOf_70 : decode cX6_turnsOf 70 = .ok (.iconst 1, 1) := by decide +kernel
theorem dX6_turnsOf_71 : decode cX6_turnsOf 71 = .ok (.goto 30, 3) := by decide +kernel
theorem dX6_turnsOf_74 : decode cX6_turnsOf 74 = .ok (.iconst 0, 1) := by decide +kernel
theorem dX6_turnsOf_75 : decode cX6_turnsOf 75 = .ok (.goto 26, 3) := by decide +kernel
theorem dX6_turnsOf_78 : decode cX6_turnsOf 78 = .ok (.iload_n 2, 1) := by decide +kernel
theorem dX6_turnsOf_79 : decode cX6_turnsOf 79 = .ok (.iconst 2, 1) := by decide +kernel
theorem dX6_turnsOf_80 : decode cX6_turnsOf 80 = .ok (.if_icmp .ne 20, 3) := by decide +kernel
theorem dX6_turnsOf_83 : decode cX6_turnsOf 83 = .ok (.aload_n 0, 1) := by decide +kernel
theorem dX6_turnsOf_84 : decode cX6_turnsOf 84 = .ok (.getfield 44, 3) := by decide +kernel
theorem dX6_turnsOf_87 : decode cX6_turnsOf 87 = .ok (.iload_n 1, 1) := by decide +kernel
theorem dX6_turnsOf_88 : decode cX6_turnsOf 88 = .ok (.baload, 1) := by decide +kernel
theorem dX6_turnsOf_89 : decode cX6_turnsOf 89 = .ok (.ifCond .eq 7, 3) := by decide +kernel
theorem dX6_turnsOf_92 : decode cX6_turnsOf 92 = .ok (.iconst 1, 1) := by decide +kernel
theorem dX6_turnsOf_93 : decode cX6_turnsOf 93 = .ok (.goto 8, 3) := by decide +kernel
theorem dX6_turnsOf_96 : decode cX6_turnsOf 96 = .ok (.iconst 0, 1) := by decide +kernel
theorem dX6_turnsOf_97 : decode cX6_turnsOf 97 = .ok (.goto 4, 3) := by decide +kernel
theorem dX6_turnsOf_100 : decode cX6_turnsOf 100 = .ok (.iload_n 3, 1) := by decide +kernel
theorem dX6_turnsOf_101 : decode cX6_turnsOf 101 = .ok (.ireturn, 1) := by decide +kernel
theorem dX6_overturns_0 : decode cX6_overturns 0 = .ok (.aload_n 0, 1) := by decide +kernel
theorem dX6_overturns_1 : decode cX6_overturns 1 = .ok (.iload_n 1, 1) := by decide +kernel
theorem dX6_overturns_2 : decode cX6_overturns 2 = .ok (.invokevirtual 143, 3) := by decide +kernel
theorem dX6_overturns_5 : decode cX6_overturns 5 = .ok (.ifCond .eq 21, 3) := by decide +kernel
theorem dX6_overturns_8 : decode cX6_overturns 8 = .ok (.iload_n 2, 1) := by decide +kernel
theorem dX6_overturns_9 : decode cX6_overturns 9 = .ok (.iconst 0, 1) := by decide +kernel
theorem dX6_overturns_10 : decode cX6_overturns 10 = .ok (.iconst 3, 1) := by decide +kernel
theorem dX6_overturns_11 : decode cX6_overturns 11 = .ok (.invokestatic 82, 3) := by decide +kernel
theorem dX6_overturns_14 : decode cX6_overturns 14 = .ok (.ifCond .eq 12, 3) := by decide +kernel
theorem dX6_overturns_17 : decode cX6_overturns 17 = .ok (.aload_n 0, 1) := by decide +kernel
theorem dX6_overturns_18 : decode cX6_overturns 18 = .ok (.iload_n 1, 1) := by decide +kernel
theorem dX6_overturns_19 : decode cX6_overturns 19 = .ok (.iload_n 2, 1) := by decide +kernel
theorem dX6_overturns_20 : decode cX6_overturns 20 = .ok (.invokevirtual 184, 3) := by decide +kernel
theorem dX6_overturns_23 : decode cX6_overturns 23 = .ok (.goto 5, 3) := by decide +kernel
theorem dX6_overturns_26 : decode cX6_overturns 26 = .ok (.bipush (-2), 2) := by decide +kernel
theorem dX6_overturns_28 : decode cX6_overturns 28 = .ok (.ireturn, 1) := by decide +kernel
theorem dX6_inOf_0 : decode cX6_inOf 0 = .ok (.aload_n 0, 1) := by decide +kernel
theorem dX6_inOf_1 : decode cX6_inOf 1 = .ok (.invokevirtual 175, 3) := by decide +kernel
theorem dX6_inOf_4 : decode cX6_inOf 4 = .ok (.aload_n 0, 1) := by decide +kernel
theorem dX6_inOf_5 : decode cX6_inOf 5 = .ok (.getfield 47, 3) := by decide +kernel
theorem dX6_inOf_8 : decode cX6_inOf 8 = .ok (.iload_n 1, 1) := by decide +kernel
theorem dX6_inOf_9 : decode cX6_inOf 9 = .ok (.iaload, 1) := by decide +kernel
theorem dX6_inOf_10 : decode cX6_inOf 10 = .ok (.ireturn, 1) := by decide +kernel
theorem dX6_in_0 : decode cX6_in 0 = .ok (.aload_n 0, 1) := by decide +kernel
theorem dX6_in_1 : decode cX6_in 1 = .ok (.iload_n 1, 1) := by decide +kernel
theorem dX6_in_2 : decode cX6_in 2 = .ok (.invokevirtual 137, 3) := by decide +kernel
theorem dX6_in_5 : decode cX6_in 5 = .ok (.ifCond .eq 11, 3) := by decide +kernel
theorem dX6_in_8 : decode cX6_in 8 = .ok (.aload_n 0, 1) := by decide +kernel
theorem dX6_in_9 : decode cX6_in 9 = .ok (.iload_n 1, 1) := by decide +kernel
theorem dX6_in_10 : decode cX6_in 10 = .ok (.invokevirtual 187, 3) := by decide +kernel
theorem dX6_in_13 : decode cX6_in 13 = .ok (.goto 5, 3) := by decide +kernel
theorem dX6_in_16 : decode cX6_in 16 = .ok (.bipush (-2), 2) := by decide +kernel
theorem dX6_in_18 : decode cX6_in 18 = .ok (.ireturn, 1) := by decide +kernel
theorem dX6_firstOf_0 : decode cX6_firstOf 0 = .ok (.aload_n 0, 1) := by decide +kernel
theorem dX6_firstOf_1 : decode cX6_firstOf 1 = .ok (.invokevirtual 175, 3) := by decide +kernel
theorem dX6_firstOf_4 : decode cX6_firstOf 4 = .ok (.iconst 0, 1) := by decide +kernel
theorem dX6_firstOf_5 : decode cX6_firstOf 5 = .ok (.istore_n 2, 1) := by decide +kernel
theorem dX6_firstOf_6 : decode cX6_firstOf 6 = .ok (.iload_n 2, 1) := by decide +kernel
theorem dX6_firstOf_7 : decode cX6_firstOf 7 = .ok (.aload_n 0, 1) := by decide +kernel
theorem dX6_firstOf_8 : decode cX6_firstOf 8 = .ok (.getfield 101, 3) := by decide +kernel
theorem dX6_firstOf_11 : decode cX6_firstOf 11 = .ok (.if_icmp .ge 34, 3) := by decide +kernel
theorem dX6_firstOf_14 : decode cX6_firstOf 14 = .ok (.aload_n 0, 1) := by decide +kernel
theorem dX6_firstOf_15 : decode cX6_firstOf 15 = .ok (.getfield 47, 3) := by decide +kernel
theorem dX6_firstOf_18 : decode cX6_firstOf 18 = .ok (.iload_n 2, 1) := by decide +kernel
theorem dX6_firstOf_19 : decode cX6_firstOf 19 = .ok (.iaload, 1) := by decide +kernel
theorem dX6_firstOf_20 : decode cX6_firstOf 20 = .ok (.iconst (-1), 1) := by decide +kernel
theorem dX6_firstOf_21 : decode cX6_firstOf 21 = .ok (.if_icmp .eq 18, 3) := by decide +kernel
theorem dX6_firstOf_24 : decode cX6_firstOf 24 = .ok (.iload_n 1, 1) := by decide +kernel
theorem dX6_firstOf_25 : decode cX6_firstOf 25 = .ok (.ifCond .ne 7, 3) := by decide +kernel
theorem dX6_firstOf_28 : decode cX6_firstOf 28 = .ok (.iload_n 2, 1) := by decide +kernel
theorem dX6_firstOf_29 : decode cX6_firstOf 29 = .ok (.goto 9, 3) := by decide +kernel
theorem dX6_firstOf_32 : decode cX6_firstOf 32 = .ok (.aload_n 0, 1) := by decide +kernel
theorem dX6_firstOf_33 : decode cX6_firstOf 33 = .ok (.getfield 47, 3) := by decide +kernel
theorem dX6_firstOf_36 : decode cX6_firstOf 36 = .ok (.iload_n 2, 1) := by decide +kernel
theorem dX6_firstOf_37 : decode cX6_firstOf 37 = .ok (.iaload, 1) := by decide +kernel
theorem dX6_firstOf_38 : decode cX6_firstOf 38 = .ok (.ireturn, 1) := by decide +kernel
theorem dX6_firstOf_39 : decode cX6_firstOf 39 = .ok (.iinc 2 1, 3) := by decide +kernel
theorem dX6_firstOf_42 : decode cX6_firstOf 42 = .ok (.goto (-36), 3) := by decide +kernel
theorem dX6_firstOf_45 : decode cX6_firstOf 45 = .ok (.iconst (-1), 1) := by decide +kernel
theorem dX6_firstOf_46 : decode cX6_firstOf 46 = .ok (.ireturn, 1) := by decide +kernel
theorem dX6_first_0 : decode cX6_first 0 = .ok (.iload_n 1, 1) := by decide +kernel
theorem dX6_first_1 : decode cX6_first 1 = .ok (.iconst 0, 1) := by decide +kernel
theorem dX6_first_2 : decode cX6_first 2 = .ok (.iconst 1, 1) := by decide +kernel
theorem dX6_first_3 : decode cX6_first 3 = .ok (.invokestatic 82, 3) := by decide +kernel
theorem dX6_first_6 : decode cX6_first 6 = .ok (.ifCond .eq 11, 3) := by decide +kernel
theorem dX6_first_9 : decode cX6_first 9 = .ok (.aload_n 0, 1) := by decide +kernel
theorem dX6_first_10 : decode cX6_first 10 = .ok (.iload_n 1, 1) := by decide +kernel
theorem dX6_first_11 : decode cX6_first 11 = .ok (.invokevirtual 190, 3) := by decide +kernel
theorem dX6_first_14 : decode cX6_first 14 = .ok (.goto 5, 3) := by decide +kernel
theorem dX6_first_17 : decode cX6_first 17 = .ok (.bipush (-2), 2) := by decide +kernel
theorem dX6_first_19 : decode cX6_first 19 = .ok (.ireturn, 1) := by decide +kernel
theorem dX6_lullsNow_0 : decode cX6_lullsNow 0 = .ok (.aload_n 0, 1) := by decide +kernel
theorem dX6_lullsNow_1 : decode cX6_lullsNow 1 = .ok (.invokevirtual 175, 3) := by decide +kernel
theorem dX6_lullsNow_4 : decode cX6_lullsNow 4 = .ok (.iconst 0, 1) := by decide +kernel
theorem dX6_lullsNow_5 : decode cX6_lullsNow 5 = .ok (.istore_n 1, 1) := by decide +kernel
theorem dX6_lullsNow_6 : decode cX6_lullsNow 6 = .ok (.iconst 0, 1) := by decide +kernel
theorem dX6_lullsNow_7 : decode cX6_lullsNow 7 = .ok (.istore_n 2, 1) := by decide +kernel
theorem dX6_lullsNow_8 : decode cX6_lullsNow 8 = .ok (.iload_n 2, 1) := by decide +kernel
theorem dX6_lullsNow_9 : decode cX6_lullsNow 9 = .ok (.aload_n 0, 1) := by decide +kernel
theorem dX6_lullsNow_10 : decode cX6_lullsNow 10 = .ok (.getfield 101, 3) := by decide +kernel
theorem dX6_lullsNow_13 : decode cX6_lullsNow 13 = .ok (.if_icmp .ge 27, 3) := by decide +kernel
theorem dX6_lullsNow_16 : decode cX6_lullsNow 16 = .ok (.iload_n 1, 1) := by decide +kernel
theorem dX6_lullsNow_17 : decode cX6_lullsNow 17 = .ok (.aload_n 0, 1) := by decide +kernel
theorem dX6_lullsNow_18 : decode cX6_lullsNow 18 = .ok (.getfield 47, 3) := by decide +kernel
theorem dX6_lullsNow_21 : decode cX6_lullsNow 21 = .ok (.iload_n 2, 1) := by decide +kernel
theorem dX6_lullsNow_22 : decode cX6_lullsNow 22 = .ok (.iaload, 1) := by decide +kernel
theorem dX6_lullsNow_23 : decode cX6_lullsNow 23 = .ok (.iconst (-1), 1) := by decide +kernel
theorem dX6_lullsNow_24 : decode cX6_lullsNow 24 = .ok (.if_icmp .ne 7, 3) := by decide +kernel
theorem dX6_lullsNow_27 : decode cX6_lullsNow 27 = .ok (.iconst 1, 1) := by decide +kernel
theorem dX6_lullsNow_28 : decode cX6_lullsNow 28 = .ok (.goto 4, 3) := by decide +kernel
theorem dX6_lullsNow_31 : decode cX6_lullsNow 31 = .ok (.iconst 0, 1) := by decide +kernel
theorem dX6_lullsNow_32 : decode cX6_lullsNow 32 = .ok (.iadd, 1) := by decide +kernel
theorem dX6_lullsNow_33 : decode cX6_lullsNow 33 = .ok (.istore_n 1, 1) := by decide +kernel
theorem dX6_lullsNow_34 : decode cX6_lullsNow 34 = .ok (.iinc 2 1, 3) := by decide +kernel
theorem dX6_lullsNow_37 : decode cX6_lullsNow 37 = .ok (.goto (-29), 3) := by decide +kernel
theorem dX6_lullsNow_40 : decode cX6_lullsNow 40 = .ok (.iload_n 1, 1) := by decide +kernel
theorem dX6_lullsNow_41 : decode cX6_lullsNow 41 = .ok (.ireturn, 1) := by decide +kernel
theorem dX6_lulls_0 : decode cX6_lulls 0 = .ok (.aload_n 0, 1) := by decide +kernel
theorem dX6_lulls_1 : decode cX6_lulls 1 = .ok (.invokevirtual 193, 3) := by decide +kernel
theorem dX6_lulls_4 : decode cX6_lulls 4 = .ok (.ireturn, 1) := by decide +kernel
theorem dX6_isTaken_0 : decode cX6_isTaken 0 = .ok (.iconst 0, 1) := by decide +kernel
theorem dX6_isTaken_1 : decode cX6_isTaken 1 = .ok (.istore_n 3, 1) := by decide +kernel
theorem dX6_isTaken_2 : decode cX6_isTaken 2 = .ok (.iconst 0, 1) := by decide +kernel
theorem dX6_isTaken_3 : decode cX6_isTaken 3 = .ok (.istore 4, 2) := by decide +kernel
theorem dX6_isTaken_5 : decode cX6_isTaken 5 = .ok (.iload 4, 2) := by decide +kernel
theorem dX6_isTaken_7 : decode cX6_isTaken 7 = .ok (.aload_n 0, 1) := by decide +kernel
theorem dX6_isTaken_8 : decode cX6_isTaken 8 = .ok (.getfield 112, 3) := by decide +kernel
theorem dX6_isTaken_11 : decode cX6_isTaken 11 = .ok (.if_icmp .ge 36, 3) := by decide +kernel
theorem dX6_isTaken_14 : decode cX6_isTaken 14 = .ok (.iload_n 3, 1) := by decide +kernel
theorem dX6_isTaken_15 : decode cX6_isTaken 15 = .ok (.ifCond .ne 20, 3) := by decide +kernel
theorem dX6_isTaken_18 : decode cX6_isTaken 18 = .ok (.iload 4, 2) := by decide +kernel
theorem dX6_isTaken_20 : decode cX6_isTaken 20 = .ok (.iload_n 2, 1) := by decide +kernel
theorem dX6_isTaken_21 : decode cX6_isTaken 21 = .ok (.if_icmp .eq 18, 3) := by decide +kernel
theorem dX6_isTaken_24 : decode cX6_isTaken 24 = .ok (.aload_n 0, 1) := by decide +kernel
theorem dX6_isTaken_25 : decode cX6_isTaken 25 = .ok (.getfield 26, 3) := by decide +kernel
theorem dX6_isTaken_28 : decode cX6_isTaken 28 = .ok (.iload 4, 2) := by decide +kernel
theorem dX6_isTaken_30 : decode cX6_isTaken 30 = .ok (.iaload, 1) := by decide +kernel
theorem dX6_isTaken_31 : decode cX6_isTaken 31 = .ok (.iload_n 1, 1) := by decide +kernel
theorem dX6_isTaken_32 : decode cX6_isTaken 32 = .ok (.if_icmp .ne 7, 3) := by decide +kernel
theorem dX6_isTaken_35 : decode cX6_isTaken 35 = .ok (.iconst 1, 1) := by decide +kernel
theorem dX6_isTaken_36 : decode cX6_isTaken 36 = .ok (.goto 4, 3) := by decide +kernel
theorem dX6_isTaken_39 : decode cX6_isTaken 39 = .ok (.iconst 0, 1) := by decide +kernel
theorem dX6_isTaken_40 : decode cX6_isTaken 40 = .ok (.istore_n 3, 1) := by decide +kernel
theorem dX6_isTaken_41 : decode cX6_isTaken 41 = .ok (.iinc 4 1, 3) := by decide +kernel
theorem dX6_isTaken_44 : decode cX6_isTaken 44 = .ok (.goto (-39), 3) := by decide +kernel
theorem dX6_isTaken_47 : decode cX6_isTaken 47 = .ok (.iload_n 3, 1) := by decide +kernel
theorem dX6_isTaken_48 : decode cX6_isTaken 48 = .ok (.ireturn, 1) := by decide +kernel
theorem dX6_standOf_0 : decode cX6_standOf 0 = .ok (.aload_n 0, 1) := by decide +kernel
theorem dX6_standOf_1 : decode cX6_standOf 1 = .ok (.invokevirtual 131, 3) := by decide +kernel
theorem dX6_standOf_4 : decode cX6_standOf 4 = .ok (.aload_n 0, 1) := by decide +kernel
theorem dX6_standOf_5 : decode cX6_standOf 5 = .ok (.getfield 26, 3) := by decide +kernel
theorem dX6_standOf_8 : decode cX6_standOf 8 = .ok (.iload_n 1, 1) := by decide +kernel
theorem dX6_standOf_9 : decode cX6_standOf 9 = .ok (.iaload, 1) := by decide +kernel
theorem dX6_standOf_10 : decode cX6_standOf 10 = .ok (.istore_n 3, 1) := by decide +kernel
theorem dX6_standOf_11 : decode cX6_standOf 11 = .ok (.iconst (-1), 1) := by decide +kernel
theorem dX6_standOf_12 : decode cX6_standOf 12 = .ok (.istore 4, 2) := by decide +kernel
theorem dX6_standOf_14 : decode cX6_standOf 14 = .ok (.iconst (-1), 1) := by decide +kernel
theorem dX6_standOf_15 : decode cX6_standOf 15 = .ok (.istore 5, 2) := by decide +kernel
theorem dX6_standOf_17 : decode cX6_standOf 17 = .ok (.iconst 0, 1) := by decide +kernel
theorem dX6_standOf_18 : decode cX6_standOf 18 = .ok (.istore 6, 2) := by decide +kernel
theorem dX6_standOf_20 : decode cX6_standOf 20 = .ok (.iload 6, 2) := by decide +kernel
theorem dX6_standOf_22 : decode cX6_standOf 22 = .ok (.aload_n 0, 1) := by decide +kernel
theorem dX6_standOf_23 : decode cX6_standOf 23 = .ok (.getfield 94, 3) := by decide +kernel
theorem dX6_standOf_26 : decode cX6_standOf 26 = .ok (.if_icmp .ge 107, 3) := by decide +kernel
theorem dX6_standOf_29 : decode cX6_standOf 29 = .ok (.aload_n 0, 1) := by decide +kernel
theorem dX6_standOf_30 : decode cX6_standOf 30 = .ok (.getfield 16, 3) := by decide +kernel
theorem dX6_standOf_33 : decode cX6_standOf 33 = .ok (.iload 6, 2) := by decide +kernel
theorem dX6_standOf_35 : decode cX6_standOf 35 = .ok (.baload, 1) := by decide +kernel
theorem dX6_standOf_36 : decode cX6_standOf 36 = .ok (.ifCond .ne 91, 3) := by decide +kernel
theorem dX6_standOf_39 : decode cX6_standOf 39 = .ok (.aload_n 0, 1) := by decide +kernel
theorem dX6_standOf_40 : decode cX6_standOf 40 = .ok (.iload 6, 2) := by decide +kernel
theorem dX6_standOf_42 : decode cX6_standOf 42 = .ok (.iload_n 1, 1) := by decide +kernel
theorem dX6_standOf_43 : decode cX6_standOf 43 = .ok (.invokevirtual 196, 3) := by decide +kernel
theorem dX6_standOf_46 : decode cX6_standOf 46 = .ok (.ifCond .ne 81, 3) := by decide +kernel
theorem dX6_standOf_49 : decode cX6_standOf 49 = .ok (.aload_n 0, 1) := by decide +kernel
theorem dX6_standOf_50 : decode cX6_standOf 50 = .ok (.getfield 26, 3) := by decide +kernel
theorem dX6_standOf_53 : decode cX6_standOf 53 = .ok (.iload_n 1, 1) := by decide +kernel
theorem dX6_standOf_54 : decode cX6_standOf 54 = .ok (.iload 6, 2) := by decide +kernel
theorem dX6_standOf_56 : decode cX6_standOf 56 = .ok (.iastore, 1) := by decide +kernel
theorem dX6_standOf_57 : decode cX6_standOf 57 = .ok (.aload_n 0, 1) := by decide +kernel
theorem dX6_standOf_58 : decode cX6_standOf 58 = .ok (.invokevirtual 172, 3) := by decide +kernel
theorem dX6_standOf_61 : decode cX6_standOf 61 = .ok (.aload_n 0, 1) := by decide +kernel
theorem dX6_standOf_62 : decode cX6_standOf 62 = .ok (.getfield 38, 3) := by decide +kernel
theorem dX6_standOf_65 : decode cX6_standOf 65 = .ok (.iload_n 1, 1) := by decide +kernel
theorem dX6_standOf_66 : decode cX6_standOf 66 = .ok (.iaload, 1) := by decide +kernel
theorem dX6_standOf_67 : decode cX6_standOf 67 = .ok (.iconst (-1), 1) := by decide +kernel
theorem dX6_standOf_68 : decode cX6_standOf 68 = .ok (.if_icmp .eq 24, 3) := by decide +kernel
theorem dX6_standOf_71 : decode cX6_standOf 71 = .ok (.iload 4, 2) := by decide +kernel
theorem dX6_standOf_73 : decode cX6_standOf 73 = .ok (.iconst (-1), 1) := by decide +kernel
theorem dX6_standOf_74 : decode cX6_standOf 74 = .ok (.if_icmp .eq 14, 3) := by decide +kernel
theorem dX6_standOf_77 : decode cX6_standOf 77 = .ok (.aload_n 0, 1) := by decide +kernel
theorem dX6_standOf_78 : decode cX6_standOf 78 = .ok (.getfield 38, 3) := by decide +kernel
theorem dX6_standOf_81 : decode cX6_standOf 81 = .ok (.iload_n 1, 1) := by decide +kernel
theorem dX6_standOf_82 : decode cX6_standOf 82 = .ok (.iaload, 1) := by decide +kernel
theorem dX6_standOf_83 : decode cX6_standOf 83 = .ok (.iload 5, 2) := by decide +kernel
theorem dX6_standOf_85 : decode cX6_standOf 85 = .ok (.if_icmp .ge 7, 3) := by decide +kernel
theorem dX6_standOf_88 : decode cX6_standOf 88 = .ok (.iconst 1, 1) := by decide +kernel
theorem dX6_standOf_89 : decode cX6_standOf 89 = .ok (.goto 4, 3) := by decide +kernel
theorem dX6_standOf_92 : decode cX6_standOf 92 = .ok (.iconst 0, 1) := by decide +kernel
theorem dX6_standOf_93 : decode cX6_standOf 93 = .ok (.istore 7, 2) := by decide +kernel
theorem dX6_standOf_95 : decode cX6_standOf 95 = .ok (.iload 7, 2) := by decide +kernel
theorem dX6_standOf_97 : decode cX6_standOf 97 = .ok (.ifCond .eq 8, 3) := by decide +kernel
theorem dX6_standOf_100 : decode cX6_standOf 100 = .ok (.iload 6, 2) := by decide +kernel
theorem dX6_standOf_102 : decode cX6_standOf 102 = .ok (.goto 5, 3) := by decide +kernel
theorem dX6_standOf_105 : decode cX6_standOf 105 = .ok (.iload 4, 2) := by decide +kernel
theorem dX6_standOf_107 : decode cX6_standOf 107 = .ok (.istore 4, 2) := by decide +kernel
theorem dX6_standOf_109 : decode cX6_standOf 109 = .ok (.iload 7, 2) := by decide +kernel
theorem dX6_standOf_111 : decode cX6_standOf 111 = .ok (.ifCond .eq 12, 3) := by decide +kernel
theorem dX6_standOf_114 : decode cX6_standOf 114 = .ok (.aload_n 0, 1) := by decide +kernel
theorem dX6_standOf_115 : decode cX6_standOf 115 = .ok (.getfield 38, 3) := by decide +kernel
theorem dX6_standOf_118 : decode cX6_standOf 118 = .ok (.iload_n 1, 1) := by decide +kernel
theorem dX6_standOf_119 : decode cX6_standOf 119 = .ok (.iaload, 1) := by decide +kernel
theorem dX6_standOf_120 : decode cX6_standOf 120 = .ok (.goto 5, 3) := by decide +kernel
theorem dX6_standOf_123 : decode cX6_standOf 123 = .ok (.iload 5, 2) := by decide +kernel
theorem dX6_standOf_125 : decode cX6_standOf 125 = .ok (.istore 5, 2) := by decide +kernel
theorem dX6_standOf_127 : decode cX6_standOf 127 = .ok (.iinc 6 1, 3) := by decide +kernel
theorem dX6_standOf_130 : decode cX6_standOf 130 = .ok (.goto (-110), 3) := by decide +kernel
theorem dX6_standOf_133 : decode cX6_standOf 133 = .ok (.aload_n 0, 1) := by decide +kernel
theorem dX6_standOf_134 : decode cX6_standOf 134 = .ok (.getfield 26, 3) := by decide +kernel
theorem dX6_standOf_137 : decode cX6_standOf 137 = .ok (.iload_n 1, 1) := by decide +kernel
theorem dX6_standOf_138 : decode cX6_standOf 138 = .ok (.iload_n 3, 1) := by decide +kernel
theorem dX6_standOf_139 : decode cX6_standOf 139 = .ok (.iastore, 1) := by decide +kernel
theorem dX6_standOf_140 : decode cX6_standOf 140 = .ok (.iload_n 2, 1) := by decide +kernel
theorem dX6_standOf_141 : decode cX6_standOf 141 = .ok (.ifCond .ne 8, 3) := by decide +kernel
theorem dX6_standOf_144 : decode cX6_standOf 144 = .ok (.iload 4, 2) := by decide +kernel
theorem dX6_standOf_146 : decode cX6_standOf 146 = .ok (.goto 5, 3) := by decide +kernel
theorem dX6_standOf_149 : decode cX6_standOf 149 = .ok (.iload 5, 2) := by decide +kernel
theorem dX6_standOf_151 : decode cX6_standOf 151 = .ok (.ireturn, 1) := by decide +kernel
theorem dX6_stand_0 : decode cX6_stand 0 = .ok (.aload_n 0, 1) := by decide +kernel
theorem dX6_stand_1 : decode cX6_stand 1 = .ok (.iload_n 1, 1) := by decide +kernel
theorem dX6_stand_2 : decode cX6_stand 2 = .ok (.invokevirtual 143, 3) := by decide +kernel
theorem dX6_stand_5 : decode cX6_stand 5 = .ok (.ifCond .eq 21, 3) := by decide +kernel
theorem dX6_stand_8 : decode cX6_stand 8 = .ok (.iload_n 2, 1) := by decide +kernel
theorem dX6_stand_9 : decode cX6_stand 9 = .ok (.iconst 0, 1) := by decide +kernel
theorem dX6_stand_10 : decode cX6_stand 10 = .ok (.iconst 1, 1) := by decide +kernel
theorem dX6_stand_11 : decode cX6_stand 11 = .ok (.invokestatic 82, 3) := by decide +kernel
theorem dX6_stand_14 : decode cX6_stand 14 = .ok (.ifCond .eq 12, 3) := by decide +kernel
theorem dX6_stand_17 : decode cX6_stand 17 = .ok (.aload_n 0, 1) := by decide +kernel
theorem dX6_stand_18 : decode cX6_stand 18 = .ok (.iload_n 1, 1) := by decide +kernel
theorem dX6_stand_19 : decode cX6_stand 19 = .ok (.iload_n 2, 1) := by decide +kernel
theorem dX6_stand_20 : decode cX6_stand 20 = .ok (.invokevirtual 199, 3) := by decide +kernel
theorem dX6_stand_23 : decode cX6_stand 23 = .ok (.goto 5, 3) := by decide +kernel
theorem dX6_stand_26 : decode cX6_stand 26 = .ok (.bipush (-2), 2) := by decide +kernel
theorem dX6_stand_28 : decode cX6_stand 28 = .ok (.ireturn, 1) := by decide +kernel
theorem dX6_doesStay_0 : decode cX6_doesStay 0 = .ok (.aload_n 0, 1) := by decide +kernel
theorem dX6_doesStay_1 : decode cX6_doesStay 1 = .ok (.getfield 26, 3) := by decide +kernel
theorem dX6_doesStay_4 : decode cX6_doesStay 4 = .ok (.iload_n 2, 1) := by decide +kernel
theorem dX6_doesStay_5 : decode cX6_doesStay 5 = .ok (.iaload, 1) := by decide +kernel
theorem dX6_doesStay_6 : decode cX6_doesStay 6 = .ok (.istore 4, 2) := by decide +kernel
theorem dX6_doesStay_8 : decode cX6_doesStay 8 = .ok (.aload_n 0, 1) := by decide +kernel
theorem dX6_doesStay_9 : decode cX6_doesStay 9 = .ok (.getfield 26, 3) := by decide +kernel
theorem dX6_doesStay_12 : decode cX6_doesStay 12 = .ok (.iload_n 2, 1) := by decide +kernel
theorem dX6_doesStay_13 : decode cX6_doesStay 13 = .ok (.iload_n 3, 1) := by decide +kernel
theorem dX6_doesStay_14 : decode cX6_doesStay 14 = .ok (.iastore, 1) := by decide +kernel
theorem dX6_doesStay_15 : decode cX6_doesStay 15 = .ok (.aload_n 0, 1) := by decide +kernel
theorem dX6_doesStay_16 : decode cX6_doesStay 16 = .ok (.invokevirtual 172, 3) := by decide +kernel
theorem dX6_doesStay_19 : decode cX6_doesStay 19 = .ok (.aload_n 0, 1) := by decide +kernel
theorem dX6_doesStay_20 : decode cX6_doesStay 20 = .ok (.getfield 26, 3) := by decide +kernel
theorem dX6_doesStay_23 : decode cX6_doesStay 23 = .ok (.iload_n 2, 1) := by decide +kernel
theorem dX6_doesStay_24 : decode cX6_doesStay 24 = .ok (.iload 4, 2) := by decide +kernel
theorem dX6_doesStay_26 : decode cX6_doesStay 26 = .ok (.iastore, 1) := by decide +kernel
theorem dX6_doesStay_27 : decode cX6_doesStay 27 = .ok (.aload_n 0, 1) := by decide +kernel
theorem dX6_doesStay_28 : decode cX6_doesStay 28 = .ok (.getfield 38, 3) := by decide +kernel
theorem dX6_doesStay_31 : decode cX6_doesStay 31 = .ok (.iload_n 1, 1) := by decide +kernel
theorem dX6_doesStay_32 : decode cX6_doesStay 32 = .ok (.iaload, 1) := by decide +kernel
theorem dX6_doesStay_33 : decode cX6_doesStay 33 = .ok (.iconst (-1), 1) := by decide +kernel
theorem dX6_doesStay_34 : decode cX6_doesStay 34 = .ok (.if_icmp .ne 7, 3) := by decide +kernel
theorem dX6_doesStay_37 : decode cX6_doesStay 37 = .ok (.iconst 1, 1) := by decide +kernel
theorem dX6_doesStay_38 : decode cX6_doesStay 38 = .ok (.goto 4, 3) := by decide +kernel
theorem dX6_doesStay_41 : decode cX6_doesStay 41 = .ok (.iconst 0, 1) := by decide +kernel
theorem dX6_doesStay_42 : decode cX6_doesStay 42 = .ok (.ireturn, 1) := by decide +kernel
theorem dX6_shieldOf_0 : decode cX6_shieldOf 0 = .ok (.aload_n 0, 1) := by decide +kernel
theorem dX6_shieldOf_1 : decode cX6_shieldOf 1 = .ok (.invokevirtual 175, 3) := by decide +kernel
theorem dX6_shieldOf_4 : decode cX6_shieldOf 4 = .ok (.aload_n 0, 1) := by decide +kernel
theorem dX6_shieldOf_5 : decode cX6_shieldOf 5 = .ok (.getfield 38, 3) := by decide +kernel
theorem dX6_shieldOf_8 : decode cX6_shieldOf 8 = .ok (.iload_n 1, 1) := by decide +kernel
theorem dX6_shieldOf_9 : decode cX6_shieldOf 9 = .ok (.iaload, 1) := by decide +kernel
theorem dX6_shieldOf_10 : decode cX6_shieldOf 10 = .ok (.iconst (-1), 1) := by decide +kernel
theorem dX6_shieldOf_11 : decode cX6_shieldOf 11 = .ok (.if_icmp .ne 6, 3) := by decide +kernel
theorem dX6_shieldOf_14 : decode cX6_shieldOf 14 = .ok (.bipush (-3), 2) := by decide +kernel
theorem dX6_shieldOf_16 : decode cX6_shieldOf 16 = .ok (.ireturn, 1) := by decide +kernel
theorem dX6_shieldOf_17 : decode cX6_shieldOf 17 = .ok (.iconst 0, 1) := by decide +kernel
theorem dX6_shieldOf_18 : decode cX6_shieldOf 18 = .ok (.istore_n 2, 1) := by decide +kernel
theorem dX6_shieldOf_19 : decode cX6_shieldOf 19 = .ok (.iload_n 2, 1) := by decide +kernel
theorem dX6_shieldOf_20 : decode cX6_shieldOf 20 = .ok (.aload_n 0, 1) := by decide +kernel
theorem dX6_shieldOf_21 : decode cX6_shieldOf 21 = .ok (.getfield 112, 3) := by decide +kernel
theorem dX6_shieldOf_24 : decode cX6_shieldOf 24 = .ok (.if_icmp .ge 65, 3) := by decide +kernel
theorem dX6_shieldOf_27 : decode cX6_shieldOf 27 = .ok (.iconst 0, 1) := by decide +kernel
theorem dX6_shieldOf_28 : decode cX6_shieldOf 28 = .ok (.istore_n 3, 1) := by decide +kernel
theorem dX6_shieldOf_29 : decode cX6_shieldOf 29 = .ok (.iload_n 3, 1) := by decide +kernel
theorem dX6_shieldOf_30 : decode cX6_shieldOf 30 = .ok (.aload_n 0, 1) := by decide +kernel
theorem dX6_shieldOf_31 : decode cX6_shieldOf 31 = .ok (.getfield 94, 3) := by decide +kernel
theorem dX6_shieldOf_34 : decode cX6_shieldOf 34 = .ok (.if_icmp .ge 49, 3) := by decide +kernel
theorem dX6_shieldOf_37 : decode cX6_shieldOf 37 = .ok (.iload_n 2, 1) := by decide +kernel
theorem dX6_shieldOf_38 : decode cX6_shieldOf 38 = .ok (.iload_n 1, 1) := by decide +kernel
theorem dX6_shieldOf_39 : decode cX6_shieldOf 39 = .ok (.if_icmp .eq 38, 3) := by decide +kernel
theorem dX6_shieldOf_42 : decode cX6_shieldOf 42 = .ok (.aload_n 0, 1) := by decide +kernel
theorem dX6_shieldOf_43 : decode cX6_shieldOf 43 = .ok (.getfield 16, 3) := by decide +kernel
theorem dX6_shieldOf_46 : decode cX6_shieldOf 46 = .ok (.iload_n 3, 1) := by decide +kernel
theorem dX6_shieldOf_47 : decode cX6_shieldOf 47 = .ok (.baload, 1) := by decide +kernel
theorem dX6_shieldOf_48 : decode cX6_shieldOf 48 = .ok (.ifCond .ne 29, 3) := by decide +kernel
theorem dX6_shieldOf_51 : decode cX6_shieldOf 51 = .ok (.aload_n 0, 1) := by decide +kernel
theorem dX6_shieldOf_52 : decode cX6_shieldOf 52 = .ok (.iload_n 3, 1) := by decide +kernel
theorem dX6_shieldOf_53 : decode cX6_shieldOf 53 = .ok (.iconst (-1), 1) := by decide +kernel
theorem dX6_shieldOf_54 : decode cX6_shieldOf 54 = .ok (.invokevirtual 196, 3) := by decide +kernel
theorem dX6_shieldOf_57 : decode cX6_shieldOf 57 = .ok (.ifCond .ne 20, 3) := by decide +kernel
theorem dX6_shieldOf_60 : decode cX6_shieldOf 60 = .ok (.aload_n 0, 1) := by decide +kernel
theorem dX6_shieldOf_61 : decode cX6_shieldOf 61 = .ok (.iload_n 1, 1) := by decide +kernel
theorem dX6_shieldOf_62 : decode cX6_shieldOf 62 = .ok (.iload_n 2, 1) := by decide +kernel
theorem dX6_shieldOf_63 : decode cX6_shieldOf 63 = .ok (.iload_n 3, 1) := by decide +kernel
theorem dX6_shieldOf_64 : decode cX6_shieldOf 64 = .ok (.invokevirtual 202, 3) := by decide +kernel
theorem dX6_shieldOf_67 : decode cX6_shieldOf 67 = .ok (.ifCond .eq 10, 3) := by decide +kernel
theorem dX6_shieldOf_70 : decode cX6_shieldOf 70 = .ok (.bipush 32, 2) := by decide +kernel
theorem dX6_shieldOf_72 : decode cX6_shieldOf 72 = .ok (.iload_n 2, 1) := by decide +kernel
theorem dX6_shieldOf_73 : decode cX6_shieldOf 73 = .ok (.imul, 1) := by decide +kernel
theorem dX6_shieldOf_74 : decode cX6_shieldOf 74 = .ok (.iload_n 3, 1) := by decide +kernel
theorem dX6_shieldOf_75 : decode cX6_shieldOf 75 = .ok (.iadd, 1) := by decide +kernel
theorem dX6_shieldOf_76 : decode cX6_shieldOf 76 = .ok (.ireturn, 1) := by decide +kernel
theorem dX6_shieldOf_77 : decode cX6_shieldOf 77 = .ok (.iinc 3 1, 3) := by decide +kernel
theorem dX6_shieldOf_80 : decode cX6_shieldOf 80 = .ok (.goto (-51), 3) := by decide +kernel
theorem dX6_shieldOf_83 : decode cX6_shieldOf 83 = .ok (.iinc 2 1, 3) := by decide +kernel
theorem dX6_shieldOf_86 : decode cX6_shieldOf 86 = .ok (.goto (-67), 3) := by decide +kernel
theorem dX6_shieldOf_89 : decode cX6_shieldOf 89 = .ok (.iconst (-1), 1) := by decide +kernel
theorem dX6_shieldOf_90 : decode cX6_shieldOf 90 = .ok (.ireturn, 1) := by decide +kernel
theorem dX6_shield_0 : decode cX6_shield 0 = .ok (.aload_n 0, 1) := by decide +kernel
theorem dX6_shield_1 : decode cX6_shield 1 = .ok (.iload_n 1, 1) := by decide +kernel
theorem dX6_shield_2 : decode cX6_shield 2 = .ok (.invokevirtual 143, 3) := by decide +kernel
theorem dX6_shield_5 : decode cX6_shield 5 = .ok (.ifCond .eq 11, 3) := by decide +kernel
theorem dX6_shield_8 : decode cX6_shield 8 = .ok (.aload_n 0, 1) := by decide +kernel
theorem dX6_shield_9 : decode cX6_shield 9 = .ok (.iload_n 1, 1) := by decide +kernel
theorem dX6_shield_10 : decode cX6_shield 10 = .ok (.invokevirtual 205, 3) := by decide +kernel
theorem dX6_shield_13 : decode cX6_shield 13 = .ok (.goto 5, 3) := by decide +kernel
theorem dX6_shield_16 : decode cX6_shield 16 = .ok (.bipush (-2), 2) := by decide +kernel
theorem dX6_shield_18 : decode cX6_shield 18 = .ok (.ireturn, 1) := by decide +kernel
theorem dX6_lastIn_0 : decode cX6_lastIn 0 = .ok (.aload_n 0, 1) := by decide +kernel
theorem dX6_lastIn_1 : decode cX6_lastIn 1 = .ok (.getfield 101, 3) := by decide +kernel
theorem dX6_lastIn_4 : decode cX6_lastIn 4 = .ok (.ifCond .ne 7, 3) := by decide +kernel
theorem dX6_lastIn_7 : decode cX6_lastIn 7 = .ok (.iconst (-1), 1) := by decide +kernel
theorem dX6_lastIn_8 : decode cX6_lastIn 8 = .ok (.goto 14, 3) := by decide +kernel
theorem dX6_lastIn_11 : decode cX6_lastIn 11 = .ok (.aload_n 0, 1) := by decide +kernel
theorem dX6_lastIn_12 : decode cX6_lastIn 12 = .ok (.getfield 47, 3) := by decide +kernel
theorem dX6_lastIn_15 : decode cX6_lastIn 15 = .ok (.aload_n 0, 1) := by decide +kernel
theorem dX6_lastIn_16 : decode cX6_lastIn 16 = .ok (.getfield 101, 3) := by decide +kernel
theorem dX6_lastIn_19 : decode cX6_lastIn 19 = .ok (.iconst 1, 1) := by decide +kernel
theorem dX6_lastIn_20 : decode cX6_lastIn 20 = .ok (.isub, 1) := by decide +kernel
theorem dX6_lastIn_21 : decode cX6_lastIn 21 = .ok (.iaload, 1) := by decide +kernel
theorem dX6_lastIn_22 : decode cX6_lastIn 22 = .ok (.ireturn, 1) := by decide +kernel
theorem dX6_moveOf_0 : decode cX6_moveOf 0 = .ok (.aload_n 0, 1) := by decide +kernel
theorem dX6_moveOf_1 : decode cX6_moveOf 1 = .ok (.invokevirtual 175, 3) := by decide +kernel
theorem dX6_moveOf_4 : decode cX6_moveOf 4 = .ok (.aload_n 0, 1) := by decide +kernel
theorem dX6_moveOf_5 : decode cX6_moveOf 5 = .ok (.invokevirtual 208, 3) := by decide +kernel
theorem dX6_moveOf_8 : decode cX6_moveOf 8 = .ok (.istore_n 2, 1) := by decide +kernel
theorem dX6_moveOf_9 : decode cX6_moveOf 9 = .ok (.iconst 0, 1) := by decide +kernel
theorem dX6_moveOf_10 : decode cX6_moveOf 10 = .ok (.istore_n 3, 1) := by decide +kernel
theorem dX6_moveOf_11 : decode cX6_moveOf 11 = .ok (.iconst (-1), 1) := by decide +kernel
theorem dX6_moveOf_12 : decode cX6_moveOf 12 = .ok (.istore 4, 2) := by decide +kernel
theorem dX6_moveOf_14 : decode cX6_moveOf 14 = .ok (.iconst 0, 1) := by decide +kernel
theorem dX6_moveOf_15 : decode cX6_moveOf 15 = .ok (.istore 5, 2) := by decide +kernel
theorem dX6_moveOf_17 : decode cX6_moveOf 17 = .ok (.iload 5, 2) := by decide +kernel
theorem dX6_moveOf_19 : decode cX6_moveOf 19 = .ok (.aload_n 0, 1) := by decide +kernel
theorem dX6_moveOf_20 : decode cX6_moveOf 20 = .ok (.getfield 94, 3) := by decide +kernel
theorem dX6_moveOf_23 : decode cX6_moveOf 23 = .ok (.if_icmp .ge 159, 3) := by decide +kernel
theorem dX6_moveOf_26 : decode cX6_moveOf 26 = .ok (.iconst 0, 1) := by decide +kernel
theorem dX6_moveOf_27 : decode cX6_moveOf 27 = .ok (.istore 6, 2) := by decide +kernel
theorem dX6_moveOf_29 : decode cX6_moveOf 29 = .ok (.iload 6, 2) := by decide +kernel
theorem dX6_moveOf_31 : decode cX6_moveOf 31 = .ok (.iconst 4, 1) := by decide +kernel
theorem dX6_moveOf_32 : decode cX6_moveOf 32 = .ok (.if_icmp .ge 144, 3) := by decide +kernel
theorem dX6_moveOf_35 : decode cX6_moveOf 35 = .ok (.aload_n 0, 1) := by decide +kernel
theorem dX6_moveOf_36 : decode cX6_moveOf 36 = .ok (.iload 5, 2) := by decide +kernel
theorem dX6_moveOf_38 : decode cX6_moveOf 38 = .ok (.iload 6, 2) := by decide +kernel
theorem dX6_moveOf_40 : decode cX6_moveOf 40 = .ok (.invokevirtual 149, 3) := by decide +kernel
theorem dX6_moveOf_43 : decode cX6_moveOf 43 = .ok (.istore 7, 2) := by decide +kernel
theorem dX6_moveOf_45 : decode cX6_moveOf 45 = .ok (.aload_n 0, 1) := by decide +kernel
theorem dX6_moveOf_46 : decode cX6_moveOf 46 = .ok (.getfield 16, 3) := by decide +kernel
theorem dX6_moveOf_49 : decode cX6_moveOf 49 = .ok (.iload 5, 2) := by decide +kernel
theorem dX6_moveOf_51 : decode cX6_moveOf 51 = .ok (.baload, 1) := by decide +kernel
theorem dX6_moveOf_52 : decode cX6_moveOf 52 = .ok (.ifCond .eq 118, 3) := by decide +kernel
theorem dX6_moveOf_55 : decode cX6_moveOf 55 = .ok (.iload 7, 2) := by decide +kernel
theorem dX6_moveOf_57 : decode cX6_moveOf 57 = .ok (.iconst (-1), 1) := by decide +kernel
theorem dX6_moveOf_58 : decode cX6_moveOf 58 = .ok (.if_icmp .eq 112, 3) := by decide +kernel
theorem dX6_moveOf_61 : decode cX6_moveOf 61 = .ok (.aload_n 0, 1) := by decide +kernel
theorem dX6_moveOf_62 : decode cX6_moveOf 62 = .ok (.getfield 16, 3) := by decide +kernel
theorem dX6_moveOf_65 : decode cX6_moveOf 65 = .ok (.iload 7, 2) := by decide +kernel
theorem dX6_moveOf_67 : decode cX6_moveOf 67 = .ok (.baload, 1) := by decide +kernel
theorem dX6_moveOf_68 : decode cX6_moveOf 68 = .ok (.ifCond .ne 102, 3) := by decide +kernel
theorem dX6_moveOf_71 : decode cX6_moveOf 71 = .ok (.aload_n 0, 1) := by decide +kernel
theorem dX6_moveOf_72 : decode cX6_moveOf 72 = .ok (.iload 7, 2) := by decide +kernel
theorem dX6_moveOf_74 : decode cX6_moveOf 74 = .ok (.iconst (-1), 1) := by decide +kernel
theorem dX6_moveOf_75 : decode cX6_moveOf 75 = .ok (.invokevirtual 196, 3) := by decide +kernel
theorem dX6_moveOf_78 : decode cX6_moveOf 78 = .ok (.ifCond .ne 92, 3) := by decide +kernel
theorem dX6_moveOf_81 : decode cX6_moveOf 81 = .ok (.aload_n 0, 1) := by decide +kernel
theorem dX6_moveOf_82 : decode cX6_moveOf 82 = .ok (.getfield 16, 3) := by decide +kernel
theorem dX6_moveOf_85 : decode cX6_moveOf 85 = .ok (.iload 5, 2) := by decide +kernel
theorem dX6_moveOf_87 : decode cX6_moveOf 87 = .ok (.iconst 0, 1) := by decide +kernel
theorem dX6_moveOf_88 : decode cX6_moveOf 88 = .ok (.bastore, 1) := by decide +kernel
theorem dX6_moveOf_89 : decode cX6_moveOf 89 = .ok (.aload_n 0, 1) := by decide +kernel
theorem dX6_moveOf_90 : decode cX6_moveOf 90 = .ok (.getfield 16, 3) := by decide +kernel
theorem dX6_moveOf_93 : decode cX6_moveOf 93 = .ok (.iload 7, 2) := by decide +kernel
theorem dX6_moveOf_95 : decode cX6_moveOf 95 = .ok (.iconst 1, 1) := by decide +kernel
theorem dX6_moveOf_96 : decode cX6_moveOf 96 = .ok (.bastore, 1) := by decide +kernel
theorem dX6_moveOf_97 : decode cX6_moveOf 97 = .ok (.aload_n 0, 1) := by decide +kernel
theorem dX6_moveOf_98 : decode cX6_moveOf 98 = .ok (.invokevirtual 172, 3) := by decide +kernel
theorem dX6_moveOf_101 : decode cX6_moveOf 101 = .ok (.aload_n 0, 1) := by decide +kernel
theorem dX6_moveOf_102 : decode cX6_moveOf 102 = .ok (.getfield 16, 3) := by decide +kernel
theorem dX6_moveOf_105 : decode cX6_moveOf 105 = .ok (.iload 5, 2) := by decide +kernel
theorem dX6_moveOf_107 : decode cX6_moveOf 107 = .ok (.iconst 1, 1) := by decide +kernel
theorem dX6_moveOf_108 : decode cX6_moveOf 108 = .ok (.bastore, 1) := by decide +kernel
theorem dX6_moveOf_109 : decode cX6_moveOf 109 = .ok (.aload_n 0, 1) := by decide +kernel
theorem dX6_moveOf_110 : decode cX6_moveOf 110 = .ok (.getfield 16, 3) := by decide +kernel
theorem dX6_moveOf_113 : decode cX6_moveOf 113 = .ok (.iload 7, 2) := by decide +kernel
theorem dX6_moveOf_115 : decode cX6_moveOf 115 = .ok (.iconst 0, 1) := by decide +kernel
theorem dX6_moveOf_116 : decode cX6_moveOf 116 = .ok (.bastore, 1) := by decide +kernel
theorem dX6_moveOf_117 : decode cX6_moveOf 117 = .ok (.aload_n 0, 1) := by decide +kernel
theorem dX6_moveOf_118 : decode cX6_moveOf 118 = .ok (.invokevirtual 208, 3) := by decide +kernel
theorem dX6_moveOf_121 : decode cX6_moveOf 121 = .ok (.iload_n 2, 1) := by decide +kernel
theorem dX6_moveOf_122 : decode cX6_moveOf 122 = .ok (.if_icmp .eq 7, 3) := by decide +kernel
theorem dX6_moveOf_125 : decode cX6_moveOf 125 = .ok (.iconst 1, 1) := by decide +kernel
theorem dX6_moveOf_126 : decode cX6_moveOf 126 = .ok (.goto 4, 3) := by decide +kernel
theorem dX6_moveOf_129 : decode cX6_moveOf 129 = .ok (.iconst 0, 1) := by decide +kernel
theorem dX6_moveOf_130 : decode cX6_moveOf 130 = .ok (.istore 8, 2) := by decide +kernel
theorem dX6_moveOf_132 : decode cX6_moveOf 132 = .ok (.iload_n 3, 1) := by decide +kernel
theorem dX6_moveOf_133 : decode cX6_moveOf 133 = .ok (.iload 8, 2) := by decide +kernel
theorem dX6_moveOf_135 : decode cX6_moveOf 135 = .ok (.ifCond .eq 7, 3) := by decide +kernel
theorem dX6_moveOf_138 : decode cX6_moveOf 138 = .ok (.iconst 1, 1) := by decide +kernel
theorem dX6_moveOf_139 : decode cX6_moveOf 139 = .ok (.goto 4, 3) := by decide +kernel
theorem dX6_moveOf_142 : decode cX6_moveOf 142 = .ok (.iconst 0, 1) := by decide +kernel
theorem dX6_moveOf_143 : decode cX6_moveOf 143 = .ok (.iadd, 1) := by decide +kernel
theorem dX6_moveOf_144 : decode cX6_moveOf 144 = .ok (.istore_n 3, 1) := by decide +kernel
theorem dX6_moveOf_145 : decode cX6_moveOf 145 = .ok (.iload 8, 2) := by decide +kernel
theorem dX6_moveOf_147 : decode cX6_moveOf 147 = .ok (.ifCond .eq 19, 3) := by decide +kernel
theorem dX6_moveOf_150 : decode cX6_moveOf 150 = .ok (.iload 4, 2) := by decide +kernel
theorem dX6_moveOf_152 : decode cX6_moveOf 152 = .ok (.iconst (-1), 1) := by decide +kernel
theorem dX6_moveOf_153 : decode cX6_moveOf 153 = .ok (.if_icmp .ne 13, 3) := by decide +kernel
theorem dX6_moveOf_156 : decode cX6_moveOf 156 = .ok (.iconst 4, 1) := by decide +kernel
theorem dX6_moveOf_157 : decode cX6_moveOf 157 = .ok (.iload 5, 2) := by decide +kernel
theorem dX6_moveOf_159 : decode cX6_moveOf 159 = .ok (.imul, 1) := by decide +kernel
theorem dX6_moveOf_160 : decode cX6_moveOf 160 = .ok (.iload 6, 2) := by decide +kernel
theorem dX6_moveOf_162 : decode cX6_moveOf 162 = .ok (.iadd, 1) := by decide +kernel
theorem dX6_moveOf_163 : decode cX6_moveOf 163 = .ok (.goto 5, 3) := by decide +kernel
theorem dX6_moveOf_166 : decode cX6_moveOf 166 = .ok (.iload 4, 2) := by decide +kernel
theorem dX6_moveOf_168 : decode cX6_moveOf 168 = .ok (.istore 4, 2) := by decide +kernel
theorem dX6_moveOf_170 : decode cX6_moveOf 170 = .ok (.iinc 6 1, 3) := by decide +kernel
theorem dX6_moveOf_173 : decode cX6_moveOf 173 = .ok (.goto (-144), 3) := by decide +kernel
theorem dX6_moveOf_176 : decode cX6_moveOf 176 = .ok (.iinc 5 1, 3) := by decide +kernel
theorem dX6_moveOf_179 : decode cX6_moveOf 179 = .ok (.goto (-162), 3) := by decide +kernel
theorem dX6_moveOf_182 : decode cX6_moveOf 182 = .ok (.iload_n 1, 1) := by decide +kernel
theorem dX6_moveOf_183 : decode cX6_moveOf 183 = .ok (.ifCond .ne 7, 3) := by decide +kernel
theorem dX6_moveOf_186 : decode cX6_moveOf 186 = .ok (.iload_n 3, 1) := by decide +kernel
theorem dX6_moveOf_187 : decode cX6_moveOf 187 = .ok (.goto 5, 3) := by decide +kernel
theorem dX6_moveOf_190 : decode cX6_moveOf 190 = .ok (.iload 4, 2) := by decide +kernel
theorem dX6_moveOf_192 : decode cX6_moveOf 192 = .ok (.ireturn, 1) := by decide +kernel
theorem dX6_move_0 : decode cX6_move 0 = .ok (.iload_n 1, 1) := by decide +kernel
theorem dX6_move_1 : decode cX6_move 1 = .ok (.iconst 0, 1) := by decide +kernel
theorem dX6_move_2 : decode cX6_move 2 = .ok (.iconst 1, 1) := by decide +kernel
theorem dX6_move_3 : decode cX6_move 3 = .ok (.invokestatic 82, 3) := by decide +kernel
theorem dX6_move_6 : decode cX6_move 6 = .ok (.ifCond .eq 11, 3) := by decide +kernel
theorem dX6_move_9 : decode cX6_move 9 = .ok (.aload_n 0, 1) := by decide +kernel
theorem dX6_move_10 : decode cX6_move 10 = .ok (.iload_n 1, 1) := by decide +kernel
theorem dX6_move_11 : decode cX6_move 11 = .ok (.invokevirtual 211, 3) := by decide +kernel
theorem dX6_move_14 : decode cX6_move 14 = .ok (.goto 5, 3) := by decide +kernel
theorem dX6_move_17 : decode cX6_move 17 = .ok (.bipush (-2), 2) := by decide +kernel
theorem dX6_move_19 : decode cX6_move 19 = .ok (.ireturn, 1) := by decide +kernel
theorem dX6_bribeOf_0 : decode cX6_bribeOf 0 = .ok (.aload_n 0, 1) := by decide +kernel
theorem dX6_bribeOf_1 : decode cX6_bribeOf 1 = .ok (.invokevirtual 131, 3) := by decide +kernel
theorem dX6_bribeOf_4 : decode cX6_bribeOf 4 = .ok (.aload_n 0, 1) := by decide +kernel
theorem dX6_bribeOf_5 : decode cX6_bribeOf 5 = .ok (.getfield 29, 3) := by decide +kernel
theorem dX6_bribeOf_8 : decode cX6_bribeOf 8 = .ok (.iload_n 1, 1) := by decide +kernel
theorem dX6_bribeOf_9 : decode cX6_bribeOf 9 = .ok (.iaload, 1) := by decide +kernel
theorem dX6_bribeOf_10 : decode cX6_bribeOf 10 = .ok (.istore_n 2, 1) := by decide +kernel
theorem dX6_bribeOf_11 : decode cX6_bribeOf 11 = .ok (.iconst (-1), 1) := by decide +kernel
theorem dX6_bribeOf_12 : decode cX6_bribeOf 12 = .ok (.istore_n 3, 1) := by decide +kernel
theorem dX6_bribeOf_13 : decode cX6_bribeOf 13 = .ok (.iconst 0, 1) := by decide +kernel
theorem dX6_bribeOf_14 : decode cX6_bribeOf 14 = .ok (.istore 4, 2) := by decide +kernel
theorem dX6_bribeOf_16 : decode cX6_bribeOf 16 = .ok (.iload 4, 2) := by decide +kernel
theorem dX6_bribeOf_18 : decode cX6_bribeOf 18 = .ok (.iload_n 2, 1) := by decide +kernel
theorem dX6_bribeOf_19 : decode cX6_bribeOf 19 = .ok (.if_icmp .ge 43, 3) := by decide +kernel
theorem dX6_bribeOf_22 : decode cX6_bribeOf 22 = .ok (.iload_n 3, 1) := by decide +kernel
theorem dX6_bribeOf_23 : decode cX6_bribeOf 23 = .ok (.iconst (-1), 1) := by decide +kernel
theorem dX6_bribeOf_24 : decode cX6_bribeOf 24 = .ok (.if_icmp .ne 38, 3) := by decide +kernel
theorem dX6_bribeOf_27 : decode cX6_bribeOf 27 = .ok (.aload_n 0, 1) := by decide +kernel
theorem dX6_bribeOf_28 : decode cX6_bribeOf 28 = .ok (.getfield 29, 3) := by decide +kernel
theorem dX6_bribeOf_31 : decode cX6_bribeOf 31 = .ok (.iload_n 1, 1) := by decide +kernel
theorem dX6_bribeOf_32 : decode cX6_bribeOf 32 = .ok (.iload_n 2, 1) := by decide +kernel
theorem dX6_bribeOf_33 : decode cX6_bribeOf 33 = .ok (.iload 4, 2) := by decide +kernel
theorem dX6_bribeOf_35 : decode cX6_bribeOf 35 = .ok (.isub, 1) := by decide +kernel
theorem dX6_bribeOf_36 : decode cX6_bribeOf 36 = .ok (.iastore, 1) := by decide +kernel
theorem dX6_bribeOf_37 : decode cX6_bribeOf 37 = .ok (.aload_n 0, 1) := by decide +kernel
theorem dX6_bribeOf_38 : decode cX6_bribeOf 38 = .ok (.invokevirtual 172, 3) := by decide +kernel
theorem dX6_bribeOf_41 : decode cX6_bribeOf 41 = .ok (.aload_n 0, 1) := by decide +kernel
theorem dX6_bribeOf_42 : decode cX6_bribeOf 42 = .ok (.invokevirtual 208, 3) := by decide +kernel
theorem dX6_bribeOf_45 : decode cX6_bribeOf 45 = .ok (.iload_n 1, 1) := by decide +kernel
theorem dX6_bribeOf_46 : decode cX6_bribeOf 46 = .ok (.if_icmp .ne 8, 3) := by decide +kernel
theorem dX6_bribeOf_49 : decode cX6_bribeOf 49 = .ok (.iload 4, 2) := by decide +kernel
theorem dX6_bribeOf_51 : decode cX6_bribeOf 51 = .ok (.goto 4, 3) := by decide +kernel
theorem dX6_bribeOf_54 : decode cX6_bribeOf 54 = .ok (.iconst (-1), 1) := by decide +kernel
theorem dX6_bribeOf_55 : decode cX6_bribeOf 55 = .ok (.istore_n 3, 1) := by decide +kernel
theorem dX6_bribeOf_56 : decode cX6_bribeOf 56 = .ok (.iinc 4 1, 3) := by decide +kernel
theorem dX6_bribeOf_59 : decode cX6_bribeOf 59 = .ok (.goto (-43), 3) := by decide +kernel
theorem dX6_bribeOf_62 : decode cX6_bribeOf 62 = .ok (.aload_n 0, 1) := by decide +kernel
theorem dX6_bribeOf_63 : decode cX6_bribeOf 63 = .ok (.getfield 29, 3) := by decide +kernel
theorem dX6_bribeOf_66 : decode cX6_bribeOf 66 = .ok (.iload_n 1, 1) := by decide +kernel
theorem dX6_bribeOf_67 : decode cX6_bribeOf 67 = .ok (.iload_n 2, 1) := by decide +kernel
theorem dX6_bribeOf_68 : decode cX6_bribeOf 68 = .ok (.iastore, 1) := by decide +kernel
theorem dX6_bribeOf_69 : decode cX6_bribeOf 69 = .ok (.iload_n 3, 1) := by decide +kernel
theorem dX6_bribeOf_70 : decode cX6_bribeOf 70 = .ok (.ireturn, 1) := by decide +kernel
theorem dX6_bribe_0 : decode cX6_bribe 0 = .ok (.aload_n 0, 1) := by decide +kernel
theorem dX6_bribe_1 : decode cX6_bribe 1 = .ok (.iload_n 1, 1) := by decide +kernel
theorem dX6_bribe_2 : decode cX6_bribe 2 = .ok (.invokevirtual 143, 3) := by decide +kernel
theorem dX6_bribe_5 : decode cX6_bribe 5 = .ok (.ifCond .eq 11, 3) := by decide +kernel
theorem dX6_bribe_8 : decode cX6_bribe 8 = .ok (.aload_n 0, 1) := by decide +kernel
theorem dX6_bribe_9 : decode cX6_bribe 9 = .ok (.iload_n 1, 1) := by decide +kernel
theorem dX6_bribe_10 : decode cX6_bribe 10 = .ok (.invokevirtual 214, 3) := by decide +kernel
theorem dX6_bribe_13 : decode cX6_bribe 13 = .ok (.goto 5, 3) := by decide +kernel
theorem dX6_bribe_16 : decode cX6_bribe 16 = .ok (.bipush (-2), 2) := by decide +kernel
theorem dX6_bribe_18 : decode cX6_bribe 18 = .ok (.ireturn, 1) := by decide +kernel
theorem dX6_seen_0 : decode cX6_seen 0 = .ok (.iload_n 1, 1) := by decide +kernel
theorem dX6_seen_1 : decode cX6_seen 1 = .ok (.iconst 0, 1) := by decide +kernel
theorem dX6_seen_2 : decode cX6_seen 2 = .ok (.bipush 11, 2) := by decide +kernel
theorem dX6_seen_4 : decode cX6_seen 4 = .ok (.invokestatic 82, 3) := by decide +kernel
theorem dX6_seen_7 : decode cX6_seen 7 = .ok (.ifCond .eq 13, 3) := by decide +kernel
theorem dX6_seen_10 : decode cX6_seen 10 = .ok (.iload_n 2, 1) := by decide +kernel
theorem dX6_seen_11 : decode cX6_seen 11 = .ok (.iconst 0, 1) := by decide +kernel
theorem dX6_seen_12 : decode cX6_seen 12 = .ok (.bipush 8, 2) := by decide +kernel
theorem dX6_seen_14 : decode cX6_seen 14 = .ok (.invokestatic 82, 3) := by decide +kernel
theorem dX6_seen_17 : decode cX6_seen 17 = .ok (.ifCond .ne 6, 3) := by decide +kernel
theorem dX6_seen_20 : decode cX6_seen 20 = .ok (.bipush (-2), 2) := by decide +kernel
theorem dX6_seen_22 : decode cX6_seen 22 = .ok (.ireturn, 1) := by decide +kernel
theorem dX6_seen_23 : decode cX6_seen 23 = .ok (.aload_n 0, 1) := by decide +kernel
theorem dX6_seen_24 : decode cX6_seen 24 = .ok (.getfield 217, 3) := by decide +kernel
theorem dX6_seen_27 : decode cX6_seen 27 = .ok (.bipush 8, 2) := by decide +kernel
theorem dX6_seen_29 : decode cX6_seen 29 = .ok (.if_icmp .ne 6, 3) := by decide +kernel
theorem dX6_seen_32 : decode cX6_seen 32 = .ok (.bipush (-4), 2) := by decide +kernel
theorem dX6_seen_34 : decode cX6_seen 34 = .ok (.ireturn, 1) := by decide +kernel
theorem dX6_seen_35 : decode cX6_seen 35 = .ok (.aload_n 0, 1) := by decide +kernel
theorem dX6_seen_36 : decode cX6_seen 36 = .ok (.getfield 50, 3) := by decide +kernel
theorem dX6_seen_39 : decode cX6_seen 39 = .ok (.aload_n 0, 1) := by decide +kernel
theorem dX6_seen_40 : decode cX6_seen 40 = .ok (.getfield 217, 3) := by decide +kernel
theorem dX6_seen_43 : decode cX6_seen 43 = .ok (.iload_n 1, 1) := by decide +kernel
theorem dX6_seen_44 : decode cX6_seen 44 = .ok (.iastore, 1) := by decide +kernel
theorem dX6_seen_45 : decode cX6_seen 45 = .ok (.aload_n 0, 1) := by decide +kernel
theorem dX6_seen_46 : decode cX6_seen 46 = .ok (.getfield 53, 3) := by decide +kernel
theorem dX6_seen_49 : decode cX6_seen 49 = .ok (.aload_n 0, 1) := by decide +kernel
theorem dX6_seen_50 : decode cX6_seen 50 = .ok (.getfield 217, 3) := by decide +kernel
theorem dX6_seen_53 : decode cX6_seen 53 = .ok (.iload_n 2, 1) := by decide +kernel
theorem dX6_seen_54 : decode cX6_seen 54 = .ok (.iastore, 1) := by decide +kernel
theorem dX6_seen_55 : decode cX6_seen 55 = .ok (.aload_n 0, 1) := by decide +kernel
theorem dX6_seen_56 : decode cX6_seen 56 = .ok (.dup, 1) := by decide +kernel
theorem dX6_seen_57 : decode cX6_seen 57 = .ok (.getfield 217, 3) := by decide +kernel
theorem dX6_seen_60 : decode cX6_seen 60 = .ok (.iconst 1, 1) := by decide +kernel
theorem dX6_seen_61 : decode cX6_seen 61 = .ok (.iadd, 1) := by decide +kernel
theorem dX6_seen_62 : decode cX6_seen 62 = .ok (.putfield 217, 3) := by decide +kernel
theorem dX6_seen_65 : decode cX6_seen 65 = .ok (.aload_n 0, 1) := by decide +kernel
theorem dX6_seen_66 : decode cX6_seen 66 = .ok (.getfield 217, 3) := by decide +kernel
theorem dX6_seen_69 : decode cX6_seen 69 = .ok (.ireturn, 1) := by decide +kernel
theorem dX6_forget_0 : decode cX6_forget 0 = .ok (.aload_n 0, 1) := by decide +kernel
theorem dX6_forget_1 : decode cX6_forget 1 = .ok (.getfield 217, 3) := by decide +kernel
theorem dX6_forget_4 : decode cX6_forget 4 = .ok (.istore_n 1, 1) := by decide +kernel
theorem dX6_forget_5 : decode cX6_forget 5 = .ok (.aload_n 0, 1) := by decide +kernel
theorem dX6_forget_6 : decode cX6_forget 6 = .ok (.iconst 0, 1) := by decide +kernel
theorem dX6_forget_7 : decode cX6_forget 7 = .ok (.putfield 217, 3) := by decide +kernel
theorem dX6_forget_10 : decode cX6_forget 10 = .ok (.iload_n 1, 1) := by decide +kernel
theorem dX6_forget_11 : decode cX6_forget 11 = .ok (.ireturn, 1) := by decide +kernel
theorem dX6_read_0 : decode cX6_read 0 = .ok (.iload_n 1, 1) := by decide +kernel
theorem dX6_read_1 : decode cX6_read 1 = .ok (.invokestatic 220, 3) := by decide +kernel
theorem dX6_read_4 : decode cX6_read 4 = .ok (.ifCond .ne 6, 3) := by decide +kernel
theorem dX6_read_7 : decode cX6_read 7 = .ok (.bipush (-2), 2) := by decide +kernel
theorem dX6_read_9 : decode cX6_read 9 = .ok (.ireturn, 1) := by decide +kernel
theorem dX6_read_10 : decode cX6_read 10 = .ok (.aload_n 0, 1) := by decide +kernel
theorem dX6_read_11 : decode cX6_read 11 = .ok (.getfield 65, 3) := by decide +kernel
theorem dX6_read_14 : decode cX6_read 14 = .ok (.iload_n 1, 1) := by decide +kernel
theorem dX6_read_15 : decode cX6_read 15 = .ok (.baload, 1) := by decide +kernel
theorem dX6_read_16 : decode cX6_read 16 = .ok (.ifCond .ne 9, 3) := by decide +kernel
theorem dX6_read_19 : decode cX6_read 19 = .ok (.aload_n 0, 1) := by decide +kernel
theorem dX6_read_20 : decode cX6_read 20 = .ok (.iconst 1, 1) := by decide +kernel
theorem dX6_read_21 : decode cX6_read 21 = .ok (.invokevirtual 223, 3) := by decide +kernel
theorem dX6_read_24 : decode cX6_read 24 = .ok (.ireturn, 1) := by decide +kernel
theorem dX6_read_25 : decode cX6_read 25 = .ok (.iconst 0, 1) := by decide +kernel
theorem dX6_read_26 : decode cX6_read 26 = .ok (.istore_n 2, 1) := by decide +kernel
theorem dX6_read_27 : decode cX6_read 27 = .ok (.iconst 2, 1) := by decide +kernel
theorem dX6_read_28 : decode cX6_read 28 = .ok (.iload_n 2, 1) := by decide +kernel
theorem dX6_read_29 : decode cX6_read 29 = .ok (.imul, 1) := by decide +kernel
theorem dX6_read_30 : decode cX6_read 30 = .ok (.iconst 1, 1) := by decide +kernel
theorem dX6_read_31 : decode cX6_read 31 = .ok (.iadd, 1) := by decide +kernel
theorem dX6_read_32 : decode cX6_read 32 = .ok (.aload_n 0, 1) := by decide +kernel
theorem dX6_read_33 : decode cX6_read 33 = .ok (.getfield 71, 3) := by decide +kernel
theorem dX6_read_36 : decode cX6_read 36 = .ok (.iload_n 1, 1) := by decide +kernel
theorem dX6_read_37 : decode cX6_read 37 = .ok (.iaload, 1) := by decide +kernel
theorem dX6_read_38 : decode cX6_read 38 = .ok (.if_icmp .ge 44, 3) := by decide +kernel
theorem dX6_read_41 : decode cX6_read 41 = .ok (.aload_n 0, 1) := by decide +kernel
theorem dX6_read_42 : decode cX6_read 42 = .ok (.aload_n 0, 1) := by decide +kernel
theorem dX6_read_43 : decode cX6_read 43 = .ok (.getfield 74, 3) := by decide +kernel
theorem dX6_read_46 : decode cX6_read 46 = .ok (.bipush 60, 2) := by decide +kernel
theorem dX6_read_48 : decode cX6_read 48 = .ok (.iload_n 1, 1) := by decide +kernel
theorem dX6_read_49 : decode cX6_read 49 = .ok (.imul, 1) := by decide +kernel
theorem dX6_read_50 : decode cX6_read 50 = .ok (.iconst 2, 1) := by decide +kernel
theorem dX6_read_51 : decode cX6_read 51 = .ok (.iload_n 2, 1) := by decide +kernel
theorem dX6_read_52 : decode cX6_read 52 = .ok (.imul, 1) := by decide +kernel
theorem dX6_read_53 : decode cX6_read 53 = .ok (.iadd, 1) := by decide +kernel
theorem dX6_read_54 : decode cX6_read 54 = .ok (.iaload, 1) := by decide +kernel
theorem dX6_read_55 : decode cX6_read 55 = .ok (.aload_n 0, 1) := by decide +kernel
theorem dX6_read_56 : decode cX6_read 56 = .ok (.getfield 74, 3) := by decide +kernel
theorem dX6_read_59 : decode cX6_read 59 = .ok (.bipush 60, 2) := by decide +kernel
theorem dX6_read_61 : decode cX6_read 61 = .ok (.iload_n 1, 1) := by decide +kernel
theorem dX6_read_62 : decode cX6_read 62 = .ok (.imul, 1) := by decide +kernel
theorem dX6_read_63 : decode cX6_read 63 = .ok (.iconst 2, 1) := by decide +kernel
theorem dX6_read_64 : decode cX6_read 64 = .ok (.iload_n 2, 1) := by decide +kernel
theorem dX6_read_65 : decode cX6_read 65 = .ok (.imul, 1) := by decide +kernel
theorem dX6_read_66 : decode cX6_read 66 = .ok (.iadd, 1) := by decide +kernel
theorem dX6_read_67 : decode cX6_read 67 = .ok (.iconst 1, 1) := by decide +kernel
theorem dX6_read_68 : decode cX6_read 68 = .ok (.iadd, 1) := by decide +kernel
theorem dX6_read_69 : decode cX6_read 69 = .ok (.iaload, 1) := by decide +kernel
theorem dX6_read_70 : decode cX6_read 70 = .ok (.invokevirtual 226, 3) := by decide +kernel
theorem dX6_read_73 : decode cX6_read 73 = .ok (.ifCond .le 9, 3) := by decide +kernel
theorem dX6_read_76 : decode cX6_read 76 = .ok (.iinc 2 1, 3) := by decide +kernel
theorem dX6_read_79 : decode cX6_read 79 = .ok (.goto (-52), 3) := by decide +kernel
theorem dX6_read_82 : decode cX6_read 82 = .ok (.iload_n 2, 1) := by decide +kernel
theorem dX6_read_83 : decode cX6_read 83 = .ok (.ireturn, 1) := by decide +kernel
theorem dX6_isSeen_0 : decode cX6_isSeen 0 = .ok (.aload_n 0, 1) := by decide +kernel
theorem dX6_isSeen_1 : decode cX6_isSeen 1 = .ok (.invokevirtual 172, 3) := by decide +kernel
theorem dX6_isSeen_4 : decode cX6_isSeen 4 = .ok (.iconst 1, 1) := by decide +kernel
theorem dX6_isSeen_5 : decode cX6_isSeen 5 = .ok (.istore_n 1, 1) := by decide +kernel
theorem dX6_isSeen_6 : decode cX6_isSeen 6 = .ok (.iconst 0, 1) := by decide +kernel
theorem dX6_isSeen_7 : decode cX6_isSeen 7 = .ok (.istore_n 2, 1) := by decide +kernel
theorem dX6_isSeen_8 : decode cX6_isSeen 8 = .ok (.iload_n 2, 1) := by decide +kernel
theorem dX6_isSeen_9 : decode cX6_isSeen 9 = .ok (.aload_n 0, 1) := by decide +kernel
theorem dX6_isSeen_10 : decode cX6_isSeen 10 = .ok (.getfield 217, 3) := by decide +kernel
theorem dX6_isSeen_13 : decode cX6_isSeen 13 = .ok (.if_icmp .ge 69, 3) := by decide +kernel
theorem dX6_isSeen_16 : decode cX6_isSeen 16 = .ok (.iload_n 1, 1) := by decide +kernel
theorem dX6_isSeen_17 : decode cX6_isSeen 17 = .ok (.ifCond .eq 65, 3) := by decide +kernel
theorem dX6_isSeen_20 : decode cX6_isSeen 20 = .ok (.aload_n 0, 1) := by decide +kernel
theorem dX6_isSeen_21 : decode cX6_isSeen 21 = .ok (.getfield 53, 3) := by decide +kernel
theorem dX6_isSeen_24 : decode cX6_isSeen 24 = .ok (.iload_n 2, 1) := by decide +kernel
theorem dX6_isSeen_25 : decode cX6_isSeen 25 = .ok (.iaload, 1) := by decide +kernel
theorem dX6_isSeen_26 : decode cX6_isSeen 26 = .ok (.bipush 8, 2) := by decide +kernel
theorem dX6_isSeen_28 : decode cX6_isSeen 28 = .ok (.if_icmp .ne 7, 3) := by decide +kernel
theorem dX6_isSeen_31 : decode cX6_isSeen 31 = .ok (.iconst (-1), 1) := by decide +kernel
theorem dX6_isSeen_32 : decode cX6_isSeen 32 = .ok (.goto 9, 3) := by decide +kernel
theorem dX6_isSeen_35 : decode cX6_isSeen 35 = .ok (.aload_n 0, 1) := by decide +kernel
theorem dX6_isSeen_36 : decode cX6_isSeen 36 = .ok (.getfield 53, 3) := by decide +kernel
theorem dX6_isSeen_39 : decode cX6_isSeen 39 = .ok (.iload_n 2, 1) := by decide +kernel
theorem dX6_isSeen_40 : decode cX6_isSeen 40 = .ok (.iaload, 1) := by decide +kernel
theorem dX6_isSeen_41 : decode cX6_isSeen 41 = .ok (.istore_n 3, 1) := by decide +kernel
theorem dX6_isSeen_42 : decode cX6_isSeen 42 = .ok (.aload_n 0, 1) := by decide +kernel
theorem dX6_isSeen_43 : decode cX6_isSeen 43 = .ok (.getfield 50, 3) := by decide +kernel
theorem dX6_isSeen_46 : decode cX6_isSeen 46 = .ok (.iload_n 2, 1) := by decide +kernel
theorem dX6_isSeen_47 : decode cX6_isSeen 47 = .ok (.iaload, 1) := by decide +kernel
theorem dX6_isSeen_48 : decode cX6_isSeen 48 = .ok (.aload_n 0, 1) := by decide +kernel
theorem dX6_isSeen_49 : decode cX6_isSeen 49 = .ok (.getfield 101, 3) := by decide +kernel
theorem dX6_isSeen_52 : decode cX6_isSeen 52 = .ok (.if_icmp .ge 22, 3) := by decide +kernel
theorem dX6_isSeen_55 : decode cX6_isSeen 55 = .ok (.aload_n 0, 1) := by decide +kernel
theorem dX6_isSeen_56 : decode cX6_isSeen 56 = .ok (.getfield 47, 3) := by decide +kernel
theorem dX6_isSeen_59 : decode cX6_isSeen 59 = .ok (.aload_n 0, 1) := by decide +kernel
theorem dX6_isSeen_60 : decode cX6_isSeen 60 = .ok (.getfield 50, 3) := by decide +kernel
theorem dX6_isSeen_63 : decode cX6_isSeen 63 = .ok (.iload_n 2, 1) := by decide +kernel
theorem dX6_isSeen_64 : decode cX6_isSeen 64 = .ok (.iaload, 1) := by decide +kernel
theorem dX6_isSeen_65 : decode cX6_isSeen 65 = .ok (.iaload, 1) := by decide +kernel
theorem dX6_isSeen_66 : decode cX6_isSeen 66 = .ok (.iload_n 3, 1) := by decide +kernel
theorem dX6_isSeen_67 : decode cX6_isSeen 67 = .ok (.if_icmp .ne 7, 3) := by decide +kernel
theorem dX6_isSeen_70 : decode cX6_isSeen 70 = .ok (.iconst 1, 1) := by decide +kernel
theorem dX6_isSeen_71 : decode cX6_isSeen 71 = .ok (.goto 4, 3) := by decide +kernel
theorem dX6_isSeen_74 : decode cX6_isSeen 74 = .ok (.iconst 0, 1) := by decide +kernel
theorem dX6_isSeen_75 : decode cX6_isSeen 75 = .ok (.istore_n 1, 1) := by decide +kernel
theorem dX6_isSeen_76 : decode cX6_isSeen 76 = .ok (.iinc 2 1, 3) := by decide +kernel
theorem dX6_isSeen_79 : decode cX6_isSeen 79 = .ok (.goto (-71), 3) := by decide +kernel
theorem dX6_isSeen_82 : decode cX6_isSeen 82 = .ok (.iload_n 1, 1) := by decide +kernel
theorem dX6_isSeen_83 : decode cX6_isSeen 83 = .ok (.ireturn, 1) := by decide +kernel
theorem dX6_blows_0 : decode cX6_blows 0 = .ok (.aload_n 0, 1) := by decide +kernel
theorem dX6_blows_1 : decode cX6_blows 1 = .ok (.invokevirtual 131, 3) := by decide +kernel
theorem dX6_blows_4 : decode cX6_blows 4 = .ok (.aload_n 0, 1) := by decide +kernel
theorem dX6_blows_5 : decode cX6_blows 5 = .ok (.getfield 20, 3) := by decide +kernel
theorem dX6_blows_8 : decode cX6_blows 8 = .ok (.iload_n 1, 1) := by decide +kernel
theorem dX6_blows_9 : decode cX6_blows 9 = .ok (.iaload, 1) := by decide +kernel
theorem dX6_blows_10 : decode cX6_blows 10 = .ok (.istore_n 2, 1) := by decide +kernel
theorem dX6_blows_11 : decode cX6_blows 11 = .ok (.aload_n 0, 1) := by decide +kernel
theorem dX6_blows_12 : decode cX6_blows 12 = .ok (.getfield 23, 3) := by decide +kernel
theorem dX6_blows_15 : decode cX6_blows 15 = .ok (.iload_n 1, 1) := by decide +kernel
theorem dX6_blows_16 : decode cX6_blows 16 = .ok (.iaload, 1) := by decide +kernel
theorem dX6_blows_17 : decode cX6_blows 17 = .ok (.istore_n 3, 1) := by decide +kernel
theorem dX6_blows_18 : decode cX6_blows 18 = .ok (.iconst 0, 1) := by decide +kernel
theorem dX6_blows_19 : decode cX6_blows 19 = .ok (.istore 4, 2) := by decide +kernel
theorem dX6_blows_21 : decode cX6_blows 21 = .ok (.iconst 0, 1) := by decide +kernel
theorem dX6_blows_22 : decode cX6_blows 22 = .ok (.istore 5, 2) := by decide +kernel
theorem dX6_blows_24 : decode cX6_blows 24 = .ok (.iload 5, 2) := by decide +kernel
theorem dX6_blows_26 : decode cX6_blows 26 = .ok (.bipush 40, 2) := by decide +kernel
theorem dX6_blows_28 : decode cX6_blows 28 = .ok (.if_icmp .ge 100, 3) := by decide +kernel
theorem dX6_blows_31 : decode cX6_blows 31 = .ok (.aload_n 0, 1) := by decide +kernel
theorem dX6_blows_32 : decode cX6_blows 32 = .ok (.getfield 20, 3) := by decide +kernel
theorem dX6_blows_35 : decode cX6_blows 35 = .ok (.iload_n 1, 1) := by decide +kernel
theorem dX6_blows_36 : decode cX6_blows 36 = .ok (.iload 5, 2) := by decide +kernel
theorem dX6_blows_38 : decode cX6_blows 38 = .ok (.bipush 10, 2) := by decide +kernel
theorem dX6_blows_40 : decode cX6_blows 40 = .ok (.idiv, 1) := by decide +kernel
theorem dX6_blows_41 : decode cX6_blows 41 = .ok (.iastore, 1) := by decide +kernel
theorem dX6_blows_42 : decode cX6_blows 42 = .ok (.aload_n 0, 1) := by decide +kernel
theorem dX6_blows_43 : decode cX6_blows 43 = .ok (.getfield 23, 3) := by decide +kernel
theorem dX6_blows_46 : decode cX6_blows 46 = .ok (.iload_n 1, 1) := by decide +kernel
theorem dX6_blows_47 : decode cX6_blows 47 = .ok (.iload 5, 2) := by decide +kernel
theorem dX6_blows_49 : decode cX6_blows 49 = .ok (.bipush 10, 2) := by decide +kernel
theorem dX6_blows_51 : decode cX6_blows 51 = .ok (.irem, 1) := by decide +kernel
theorem dX6_blows_52 : decode cX6_blows 52 = .ok (.iastore, 1) := by decide +kernel
theorem dX6_blows_53 : decode cX6_blows 53 = .ok (.aload_n 0, 1) := by decide +kernel
theorem dX6_blows_54 : decode cX6_blows 54 = .ok (.getfield 56, 3) := by decide +kernel
theorem dX6_blows_57 : decode cX6_blows 57 = .ok (.iload 5, 2) := by decide +kernel
theorem dX6_blows_59 : decode cX6_blows 59 = .ok (.aload_n 0, 1) := by decide +kernel
theorem dX6_blows_60 : decode cX6_blows 60 = .ok (.invokevirtual 229, 3) := by decide +kernel
theorem dX6_blows_63 : decode cX6_blows 63 = .ok (.bastore, 1) := by decide +kernel
theorem dX6_blows_64 : decode cX6_blows 64 = .ok (.iload 4, 2) := by decide +kernel
theorem dX6_blows_66 : decode cX6_blows 66 = .ok (.aload_n 0, 1) := by decide +kernel
theorem dX6_blows_67 : decode cX6_blows 67 = .ok (.getfield 56, 3) := by decide +kernel
theorem dX6_blows_70 : decode cX6_blows 70 = .ok (.iload 5, 2) := by decide +kernel
theorem dX6_blows_72 : decode cX6_blows 72 = .ok (.baload, 1) := by decide +kernel
theorem dX6_blows_73 : decode cX6_blows 73 = .ok (.ifCond .eq 7, 3) := by decide +kernel
theorem dX6_blows_76 : decode cX6_blows 76 = .ok (.iconst 1, 1) := by decide +kernel
theorem dX6_blows_77 : decode cX6_blows 77 = .ok (.goto 4, 3) := by decide +kernel
theorem dX6_blows_80 : decode cX6_blows 80 = .ok (.iconst 0, 1) := by decide +kernel
theorem dX6_blows_81 : decode cX6_blows 81 = .ok (.iadd, 1) := by decide +kernel
theorem dX6_blows_82 : decode cX6_blows 82 = .ok (.istore 4, 2) := by decide +kernel
theorem dX6_blows_84 : decode cX6_blows 84 = .ok (.iconst 0, 1) := by decide +kernel
theorem dX6_blows_85 : decode cX6_blows 85 = .ok (.istore 6, 2) := by decide +kernel
theorem dX6_blows_87 : decode cX6_blows 87 = .ok (.iload 6, 2) := by decide +kernel
theorem dX6_blows_89 : decode cX6_blows 89 = .ok (.aload_n 0, 1) := by decide +kernel
theorem dX6_blows_90 : decode cX6_blows 90 = .ok (.getfield 101, 3) := by decide +kernel
theorem dX6_blows_93 : decode cX6_blows 93 = .ok (.if_icmp .ge 29, 3) := by decide +kernel
theorem dX6_blows_96 : decode cX6_blows 96 = .ok (.aload_n 0, 1) := by decide +kernel
theorem dX6_blows_97 : decode cX6_blows 97 = .ok (.getfield 59, 3) := by decide +kernel
theorem dX6_blows_100 : decode cX6_blows 100 = .ok (.bipush 12, 2) := by decide +kernel
theorem dX6_blows_102 : decode cX6_blows 102 = .ok (.iload 5, 2) := by decide +kernel
theorem dX6_blows_104 : decode cX6_blows 104 = .ok (.imul, 1) := by decide +kernel
theorem dX6_blows_105 : decode cX6_blows 105 = .ok (.iload 6, 2) := by decide +kernel
theorem dX6_blows_107 : decode cX6_blows 107 = .ok (.iadd, 1) := by decide +kernel
theorem dX6_blows_108 : decode cX6_blows 108 = .ok (.aload_n 0, 1) := by decide +kernel
theorem dX6_blows_109 : decode cX6_blows 109 = .ok (.getfield 47, 3) := by decide +kernel
theorem dX6_blows_112 : decode cX6_blows 112 = .ok (.iload 6, 2) := by decide +kernel
theorem dX6_blows_114 : decode cX6_blows 114 = .ok (.iaload, 1) := by decide +kernel
theorem dX6_blows_115 : decode cX6_blows 115 = .ok (.iastore, 1) := by decide +kernel
theorem dX6_blows_116 : decode cX6_blows 116 = .ok (.iinc 6 1, 3) := by decide +kernel
theorem dX6_blows_119 : decode cX6_blows 119 = .ok (.goto (-32), 3) := by decide +kernel
theorem dX6_blows_122 : decode cX6_blows 122 = .ok (.iinc 5 1, 3) := by decide +kernel
theorem dX6_blows_125 : decode cX6_blows 125 = .ok (.goto (-101), 3) := by decide +kernel
theorem dX6_blows_128 : decode cX6_blows 128 = .ok (.aload_n 0, 1) := by decide +kernel
theorem dX6_blows_129 : decode cX6_blows 129 = .ok (.getfield 20, 3) := by decide +kernel
theorem dX6_blows_132 : decode cX6_blows 132 = .ok (.iload_n 1, 1) := by decide +kernel
theorem dX6_blows_133 : decode cX6_blows 133 = .ok (.iload_n 2, 1) := by decide +kernel
theorem dX6_blows_134 : decode cX6_blows 134 = .ok (.iastore, 1) := by decide +kernel
theorem dX6_blows_135 : decode cX6_blows 135 = .ok (.aload_n 0, 1) := by decide +kernel
theorem dX6_blows_136 : decode cX6_blows 136 = .ok (.getfield 23, 3) := by decide +kernel
theorem dX6_blows_139 : decode cX6_blows 139 = .ok (.iload_n 1, 1) := by decide +kernel
theorem dX6_blows_140 : decode cX6_blows 140 = .ok (.iload_n 3, 1) := by decide +kernel
theorem dX6_blows_141 : decode cX6_blows 141 = .ok (.iastore, 1) := by decide +kernel
theorem dX6_blows_142 : decode cX6_blows 142 = .ok (.iload 4, 2) := by decide +kernel
theorem dX6_blows_144 : decode cX6_blows 144 = .ok (.ireturn, 1) := by decide +kernel
theorem dX6_blewOf_0 : decode cX6_blewOf 0 = .ok (.aload_n 0, 1) := by decide +kernel
theorem dX6_blewOf_1 : decode cX6_blewOf 1 = .ok (.iload_n 1, 1) := by decide +kernel
theorem dX6_blewOf_2 : decode cX6_blewOf 2 = .ok (.invokevirtual 233, 3) := by decide +kernel
theorem dX6_blewOf_5 : decode cX6_blewOf 5 = .ok (.istore_n 3, 1) := by decide +kernel
theorem dX6_blewOf_6 : decode cX6_blewOf 6 = .ok (.iload_n 2, 1) := by decide +kernel
theorem dX6_blewOf_7 : decode cX6_blewOf 7 = .ok (.iconst (-1), 1) := by decide +kernel
theorem dX6_blewOf_8 : decode cX6_blewOf 8 = .ok (.if_icmp .ne 5, 3) := by decide +kernel
theorem dX6_blewOf_11 : decode cX6_blewOf 11 = .ok (.iload_n 3, 1) := by decide +kernel
theorem dX6_blewOf_12 : decode cX6_blewOf 12 = .ok (.ireturn, 1) := by decide +kernel
theorem dX6_blewOf_13 : decode cX6_blewOf 13 = .ok (.iload_n 2, 1) := by decide +kernel
theorem dX6_blewOf_14 : decode cX6_blewOf 14 = .ok (.istore 4, 2) := by decide +kernel
theorem dX6_blewOf_16 : decode cX6_blewOf 16 = .ok (.iconst 0, 1) := by decide +kernel
theorem dX6_blewOf_17 : decode cX6_blewOf 17 = .ok (.istore 5, 2) := by decide +kernel
theorem dX6_blewOf_19 : decode cX6_blewOf 19 = .ok (.iload 5, 2) := by decide +kernel
theorem dX6_blewOf_21 : decode cX6_blewOf 21 = .ok (.bipush 40, 2) := by decide +kernel
theorem dX6_blewOf_23 : decode cX6_blewOf 23 = .ok (.if_icmp .ge 47, 3) := by decide +kernel
theorem dX6_blewOf_26 : decode cX6_blewOf 26 = .ok (.aload_n 0, 1) := by decide +kernel
theorem dX6_blewOf_27 : decode cX6_blewOf 27 = .ok (.getfield 56, 3) := by decide +kernel
theorem dX6_blewOf_30 : decode cX6_blewOf 30 = .ok (.iload 5, 2) := by decide +kernel
theorem dX6_blewOf_32 : decode cX6_blewOf 32 = .ok (.baload, 1) := by decide +kernel
theorem dX6_blewOf_33 : decode cX6_blewOf 33 = .ok (.ifCond .eq 11, 3) := by decide +kernel
theorem dX6_blewOf_36 : decode cX6_blewOf 36 = .ok (.iload 4, 2) := by decide +kernel
theorem dX6_blewOf_38 : decode cX6_blewOf 38 = .ok (.ifCond .ne 6, 3) := by decide +kernel
theorem dX6_blewOf_41 : decode cX6_blewOf 41 = .ok (.iload 5, 2) := by decide +kernel
theorem dX6_blewOf_43 : decode cX6_blewOf 43 = .ok (.ireturn, 1) := by decide +kernel
theorem dX6_blewOf_44 : decode cX6_blewOf 44 = .ok (.iload 4, 2) := by decide +kernel
theorem dX6_blewOf_46 : decode cX6_blewOf 46 = .ok (.aload_n 0, 1) := by decide +kernel
theorem dX6_blewOf_47 : decode cX6_blewOf 47 = .ok (.getfield 56, 3) := by decide +kernel
theorem dX6_blewOf_50 : decode cX6_blewOf 50 = .ok (.iload 5, 2) := by decide +kernel
theorem dX6_blewOf_52 : decode cX6_blewOf 52 = .ok (.baload, 1) := by decide +kernel
theorem dX6_blewOf_53 : decode cX6_blewOf 53 = .ok (.ifCond .eq 7, 3) := by decide +kernel
theorem dX6_blewOf_56 : decode cX6_blewOf 56 = .ok (.iconst 1, 1) := by decide +kernel
theorem dX6_blewOf_57 : decode cX6_blewOf 57 = .ok (.goto 4, 3) := by decide +kernel
theorem dX6_blewOf_60 : decode cX6_blewOf 60 = .ok (.iconst 0, 1) := by decide +kernel
theorem dX6_blewOf_61 : decode cX6_blewOf 61 = .ok (.isub, 1) := by decide +kernel
theorem dX6_blewOf_62 : decode cX6_blewOf 62 = .ok (.istore 4, 2) := by decide +kernel
theorem dX6_blewOf_64 : decode cX6_blewOf 64 = .ok (.iinc 5 1, 3) := by decide +kernel
theorem dX6_blewOf_67 : decode cX6_blewOf 67 = .ok (.goto (-48), 3) := by decide +kernel
theorem dX6_blewOf_70 : decode cX6_blewOf 70 = .ok (.iconst (-1), 1) := by decide +kernel
theorem dX6_blewOf_71 : decode cX6_blewOf 71 = .ok (.ireturn, 1) := by decide +kernel
theorem dX6_blew_0 : decode cX6_blew 0 = .ok (.aload_n 0, 1) := by decide +kernel
theorem dX6_blew_1 : decode cX6_blew 1 = .ok (.iload_n 1, 1) := by decide +kernel
theorem dX6_blew_2 : decode cX6_blew 2 = .ok (.invokevirtual 137, 3) := by decide +kernel
theorem dX6_blew_5 : decode cX6_blew 5 = .ok (.ifCond .eq 22, 3) := by decide +kernel
theorem dX6_blew_8 : decode cX6_blew 8 = .ok (.iload_n 2, 1) := by decide +kernel
theorem dX6_blew_9 : decode cX6_blew 9 = .ok (.iconst (-1), 1) := by decide +kernel
theorem dX6_blew_10 : decode cX6_blew 10 = .ok (.bipush 39, 2) := by decide +kernel
theorem dX6_blew_12 : decode cX6_blew 12 = .ok (.invokestatic 82, 3) := by decide +kernel
theorem dX6_blew_15 : decode cX6_blew 15 = .ok (.ifCond .eq 12, 3) := by decide +kernel
theorem dX6_blew_18 : decode cX6_blew 18 = .ok (.aload_n 0, 1) := by decide +kernel
theorem dX6_blew_19 : decode cX6_blew 19 = .ok (.iload_n 1, 1) := by decide +kernel
theorem dX6_blew_20 : decode cX6_blew 20 = .ok (.iload_n 2, 1) := by decide +kernel
theorem dX6_blew_21 : decode cX6_blew 21 = .ok (.invokevirtual 236, 3) := by decide +kernel
theorem dX6_blew_24 : decode cX6_blew 24 = .ok (.goto 5, 3) := by decide +kernel
theorem dX6_blew_27 : decode cX6_blew 27 = .ok (.bipush (-2), 2) := by decide +kernel
theorem dX6_blew_29 : decode cX6_blew 29 = .ok (.ireturn, 1) := by decide +kernel
theorem dX6_hadOf_0 : decode cX6_hadOf 0 = .ok (.aload_n 0, 1) := by decide +kernel
theorem dX6_hadOf_1 : decode cX6_hadOf 1 = .ok (.invokevirtual 131, 3) := by decide +kernel
theorem dX6_hadOf_4 : decode cX6_hadOf 4 = .ok (.aload_n 0, 1) := by decide +kernel
theorem dX6_hadOf_5 : decode cX6_hadOf 5 = .ok (.getfield 29, 3) := by decide +kernel
theorem dX6_hadOf_8 : decode cX6_hadOf 8 = .ok (.iload_n 1, 1) := by decide +kernel
theorem dX6_hadOf_9 : decode cX6_hadOf 9 = .ok (.iaload, 1) := by decide +kernel
theorem dX6_hadOf_10 : decode cX6_hadOf 10 = .ok (.istore_n 2, 1) := by decide +kernel
theorem dX6_hadOf_11 : decode cX6_hadOf 11 = .ok (.iconst 0, 1) := by decide +kernel
theorem dX6_hadOf_12 : decode cX6_hadOf 12 = .ok (.istore_n 3, 1) := by decide +kernel
theorem dX6_hadOf_13 : decode cX6_hadOf 13 = .ok (.iconst 1, 1) := by decide +kernel
theorem dX6_hadOf_14 : decode cX6_hadOf 14 = .ok (.istore 4, 2) := by decide +kernel
theorem dX6_hadOf_16 : decode cX6_hadOf 16 = .ok (.iload 4, 2) := by decide +kernel
theorem dX6_hadOf_18 : decode cX6_hadOf 18 = .ok (.bipush 10, 2) := by decide +kernel
theorem dX6_hadOf_20 : decode cX6_hadOf 20 = .ok (.if_icmp .ge 35, 3) := by decide +kernel
theorem dX6_hadOf_23 : decode cX6_hadOf 23 = .ok (.aload_n 0, 1) := by decide +kernel
theorem dX6_hadOf_24 : decode cX6_hadOf 24 = .ok (.getfield 29, 3) := by decide +kernel
theorem dX6_hadOf_27 : decode cX6_hadOf 27 = .ok (.iload_n 1, 1) := by decide +kernel
theorem dX6_hadOf_28 : decode cX6_hadOf 28 = .ok (.iload 4, 2) := by decide +kernel
theorem dX6_hadOf_30 : decode cX6_hadOf 30 = .ok (.iastore, 1) := by decide +kernel
theorem dX6_hadOf_31 : decode cX6_hadOf 31 = .ok (.iload_n 3, 1) := by decide +kernel
theorem dX6_hadOf_32 : decode cX6_hadOf 32 = .ok (.aload_n 0, 1) := by decide +kernel
theorem dX6_hadOf_33 : decode cX6_hadOf 33 = .ok (.invokevirtual 229, 3) := by decide +kernel
theorem dX6_hadOf_36 : decode cX6_hadOf 36 = .ok (.ifCond .eq 10, 3) := by decide +kernel
theorem dX6_hadOf_39 : decode cX6_hadOf 39 = .ok (.iconst 1, 1) := by decide +kernel
theorem dX6_hadOf_40 : decode cX6_hadOf 40 = .ok (.iload 4, 2) := by decide +kernel
theorem dX6_hadOf_42 : decode cX6_hadOf 42 = .ok (.ishl, 1) := by decide +kernel
theorem dX6_hadOf_43 : decode cX6_hadOf 43 = .ok (.goto 4, 3) := by decide +kernel
theorem dX6_hadOf_46 : decode cX6_hadOf 46 = .ok (.iconst 0, 1) := by decide +kernel
theorem dX6_hadOf_47 : decode cX6_hadOf 47 = .ok (.ior, 1) := by decide +kernel
theorem dX6_hadOf_48 : decode cX6_hadOf 48 = .ok (.istore_n 3, 1) := by decide +kernel
theorem dX6_hadOf_49 : decode cX6_hadOf 49 = .ok (.iinc 4 1, 3) := by decide +kernel
theorem dX6_hadOf_52 : decode cX6_hadOf 52 = .ok (.goto (-36), 3) := by decide +kernel
theorem dX6_hadOf_55 : decode cX6_hadOf 55 = .ok (.aload_n 0, 1) := by decide +kernel
theorem dX6_hadOf_56 : decode cX6_hadOf 56 = .ok (.getfield 29, 3) := by decide +kernel
theorem dX6_hadOf_59 : decode cX6_hadOf 59 = .ok (.iload_n 1, 1) := by decide +kernel
theorem dX6_hadOf_60 : decode cX6_hadOf 60 = .ok (.iload_n 2, 1) := by decide +kernel
theorem dX6_hadOf_61 : decode cX6_hadOf 61 = .ok (.iastore, 1) := by decide +kernel
theorem dX6_hadOf_62 : decode cX6_hadOf 62 = .ok (.iload_n 3, 1) := by decide +kernel
theorem dX6_hadOf_63 : decode cX6_hadOf 63 = .ok (.ireturn, 1) := by decide +kernel
theorem dX6_had_0 : decode cX6_had 0 = .ok (.aload_n 0, 1) := by decide +kernel
theorem dX6_had_1 : decode cX6_had 1 = .ok (.iload_n 1, 1) := by decide +kernel
theorem dX6_had_2 : decode cX6_had 2 = .ok (.invokevirtual 143, 3) := by decide +kernel
theorem dX6_had_5 : decode cX6_had 5 = .ok (.ifCond .eq 11, 3) := by decide +kernel
theorem dX6_had_8 : decode cX6_had 8 = .ok (.aload_n 0, 1) := by decide +kernel
theorem dX6_had_9 : decode cX6_had 9 = .ok (.iload_n 1, 1) := by decide +kernel
theorem dX6_had_10 : decode cX6_had 10 = .ok (.invokevirtual 239, 3) := by decide +kernel
theorem dX6_had_13 : decode cX6_had 13 = .ok (.goto 5, 3) := by decide +kernel
theorem dX6_had_16 : decode cX6_had 16 = .ok (.bipush (-2), 2) := by decide +kernel
theorem dX6_had_18 : decode cX6_had 18 = .ok (.ireturn, 1) := by decide +kernel
theorem dX6_askOf_0 : decode cX6_askOf 0 = .ok (.aload_n 0, 1) := by decide +kernel
theorem dX6_askOf_1 : decode cX6_askOf 1 = .ok (.iload_n 1, 1) := by decide +kernel
theorem dX6_askOf_2 : decode cX6_askOf 2 = .ok (.invokevirtual 233, 3) := by decide +kernel
theorem dX6_askOf_5 : decode cX6_askOf 5 = .ok (.istore_n 2, 1) := by decide +kernel
theorem dX6_askOf_6 : decode cX6_askOf 6 = .ok (.iconst (-1), 1) := by decide +kernel
theorem dX6_askOf_7 : decode cX6_askOf 7 = .ok (.istore_n 3, 1) := by decide +kernel
theorem dX6_askOf_8 : decode cX6_askOf 8 = .ok (.iconst 0, 1) := by decide +kernel
theorem dX6_askOf_9 : decode cX6_askOf 9 = .ok (.istore 4, 2) := by decide +kernel
theorem dX6_askOf_11 : decode cX6_askOf 11 = .ok (.iconst 0, 1) := by decide +kernel
theorem dX6_askOf_12 : decode cX6_askOf 12 = .ok (.istore 5, 2) := by decide +kernel
theorem dX6_askOf_14 : decode cX6_askOf 14 = .ok (.iload 5, 2) := by decide +kernel
theorem dX6_askOf_16 : decode cX6_askOf 16 = .ok (.aload_n 0, 1) := by decide +kernel
theorem dX6_askOf_17 : decode cX6_askOf 17 = .ok (.getfield 101, 3) := by decide +kernel
theorem dX6_askOf_20 : decode cX6_askOf 20 = .ok (.if_icmp .ge 148, 3) := by decide +kernel
theorem dX6_askOf_23 : decode cX6_askOf 23 = .ok (.iconst 0, 1) := by decide +kernel
theorem dX6_askOf_24 : decode cX6_askOf 24 = .ok (.istore 6, 2) := by decide +kernel
theorem dX6_askOf_26 : decode cX6_askOf 26 = .ok (.iconst (-1), 1) := by decide +kernel
theorem dX6_askOf_27 : decode cX6_askOf 27 = .ok (.istore 7, 2) := by decide +kernel
theorem dX6_askOf_29 : decode cX6_askOf 29 = .ok (.iload 7, 2) := by decide +kernel
theorem dX6_askOf_31 : decode cX6_askOf 31 = .ok (.aload_n 0, 1) := by decide +kernel
theorem dX6_askOf_32 : decode cX6_askOf 32 = .ok (.getfield 112, 3) := by decide +kernel
theorem dX6_askOf_35 : decode cX6_askOf 35 = .ok (.if_icmp .ge 82, 3) := by decide +kernel
theorem dX6_askOf_38 : decode cX6_askOf 38 = .ok (.iconst 0, 1) := by decide +kernel
theorem dX6_askOf_39 : decode cX6_askOf 39 = .ok (.istore 8, 2) := by decide +kernel
theorem dX6_askOf_41 : decode cX6_askOf 41 = .ok (.iconst 0, 1) := by decide +kernel
theorem dX6_askOf_42 : decode cX6_askOf 42 = .ok (.istore 9, 2) := by decide +kernel
theorem dX6_askOf_44 : decode cX6_askOf 44 = .ok (.iload 9, 2) := by decide +kernel
theorem dX6_askOf_46 : decode cX6_askOf 46 = .ok (.bipush 40, 2) := by decide +kernel
theorem dX6_askOf_48 : decode cX6_askOf 48 = .ok (.if_icmp .ge 47, 3) := by decide +kernel
theorem dX6_askOf_51 : decode cX6_askOf 51 = .ok (.iload 8, 2) := by decide +kernel
theorem dX6_askOf_53 : decode cX6_askOf 53 = .ok (.aload_n 0, 1) := by decide +kernel
theorem dX6_askOf_54 : decode cX6_askOf 54 = .ok (.getfield 56, 3) := by decide +kernel
theorem dX6_askOf_57 : decode cX6_askOf 57 = .ok (.iload 9, 2) := by decide +kernel
theorem dX6_askOf_59 : decode cX6_askOf 59 = .ok (.baload, 1) := by decide +kernel
theorem dX6_askOf_60 : decode cX6_askOf 60 = .ok (.ifCond .eq 25, 3) := by decide +kernel
theorem dX6_askOf_63 : decode cX6_askOf 63 = .ok (.aload_n 0, 1) := by decide +kernel
theorem dX6_askOf_64 : decode cX6_askOf 64 = .ok (.getfield 59, 3) := by decide +kernel
theorem dX6_askOf_67 : decode cX6_askOf 67 = .ok (.bipush 12, 2) := by decide +kernel
theorem dX6_askOf_69 : decode cX6_askOf 69 = .ok (.iload 9, 2) := by decide +kernel
theorem dX6_askOf_71 : decode cX6_askOf 71 = .ok (.imul, 1) := by decide +kernel
theorem dX6_askOf_72 : decode cX6_askOf 72 = .ok (.iload 5, 2) := by decide +kernel
theorem dX6_askOf_74 : decode cX6_askOf 74 = .ok (.iadd, 1) := by decide +kernel
theorem dX6_askOf_75 : decode cX6_askOf 75 = .ok (.iaload, 1) := by decide +kernel
theorem dX6_askOf_76 : decode cX6_askOf 76 = .ok (.iload 7, 2) := by decide +kernel
theorem dX6_askOf_78 : decode cX6_askOf 78 = .ok (.if_icmp .ne 7, 3) := by decide +kernel
theorem dX6_askOf_81 : decode cX6_askOf 81 = .ok (.iconst 1, 1) := by decide +kernel
theorem dX6_askOf_82 : decode cX6_askOf 82 = .ok (.goto 4, 3) := by decide +kernel
theorem dX6_askOf_85 : decode cX6_askOf 85 = .ok (.iconst 0, 1) := by decide +kernel
theorem dX6_askOf_86 : decode cX6_askOf 86 = .ok (.iadd, 1) := by decide +kernel
theorem dX6_askOf_87 : decode cX6_askOf 87 = .ok (.istore 8, 2) := by decide +kernel
theorem dX6_askOf_89 : decode cX6_askOf 89 = .ok (.iinc 9 1, 3) := by decide +kernel
theorem dX6_askOf_92 : decode cX6_askOf 92 = .ok (.goto (-48), 3) := by decide +kernel
theorem dX6_askOf_95 : decode cX6_askOf 95 = .ok (.iload 8, 2) := by decide +kernel
theorem dX6_askOf_97 : decode cX6_askOf 97 = .ok (.iload 6, 2) := by decide +kernel
theorem dX6_askOf_99 : decode cX6_askOf 99 = .ok (.if_icmp .le 8, 3) := by decide +kernel
theorem dX6_askOf_102 : decode cX6_askOf 102 = .ok (.iload 8, 2) := by decide +kernel
theorem dX6_askOf_104 : decode cX6_askOf 104 = .ok (.goto 5, 3) := by decide +kernel
theorem dX6_askOf_107 : decode cX6_askOf 107 = .ok (.iload 6, 2) := by decide +kernel
theorem dX6_askOf_109 : decode cX6_askOf 109 = .ok (.istore 6, 2) := by decide +kernel
theorem dX6_askOf_111 : decode cX6_askOf 111 = .ok (.iinc 7 1, 3) := by decide +kernel
theorem dX6_askOf_114 : decode cX6_askOf 114 = .ok (.goto (-85), 3) := by decide +kernel
theorem dX6_askOf_117 : decode cX6_askOf 117 = .ok (.iload_n 3, 1) := by decide +kernel
theorem dX6_askOf_118 : decode cX6_askOf 118 = .ok (.iconst (-1), 1) := by decide +kernel
theorem dX6_askOf_119 : decode cX6_askOf 119 = .ok (.if_icmp .eq 10, 3) := by decide +kernel
theorem dX6_askOf_122 : decode cX6_askOf 122 = .ok (.iload 6, 2) := by decide +kernel
theorem dX6_askOf_124 : decode cX6_askOf 124 = .ok (.iload 4, 2) := by decide +kernel
theorem dX6_askOf_126 : decode cX6_askOf 126 = .ok (.if_icmp .ge 7, 3) := by decide +kernel
theorem dX6_askOf_129 : decode cX6_askOf 129 = .ok (.iconst 1, 1) := by decide +kernel
theorem dX6_askOf_130 : decode cX6_askOf 130 = .ok (.goto 4, 3) := by decide +kernel
theorem dX6_askOf_133 : decode cX6_askOf 133 = .ok (.iconst 0, 1) := by decide +kernel
theorem dX6_askOf_134 : decode cX6_askOf 134 = .ok (.istore 7, 2) := by decide +kernel
theorem dX6_askOf_136 : decode cX6_askOf 136 = .ok (.iload 7, 2) := by decide +kernel
theorem dX6_askOf_138 : decode cX6_askOf 138 = .ok (.ifCond .eq 8, 3) := by decide +kernel
theorem dX6_askOf_141 : decode cX6_askOf 141 = .ok (.iload 5, 2) := by decide +kernel
theorem dX6_askOf_143 : decode cX6_askOf 143 = .ok (.goto 4, 3) := by decide +kernel
theorem dX6_askOf_146 : decode cX6_askOf 146 = .ok (.iload_n 3, 1) := by decide +kernel
theorem dX6_askOf_147 : decode cX6_askOf 147 = .ok (.istore_n 3, 1) := by decide +kernel
theorem dX6_askOf_148 : decode cX6_askOf 148 = .ok (.iload 7, 2) := by decide +kernel
theorem dX6_askOf_150 : decode cX6_askOf 150 = .ok (.ifCond .eq 8, 3) := by decide +kernel
theorem dX6_askOf_153 : decode cX6_askOf 153 = .ok (.iload 6, 2) := by decide +kernel
theorem dX6_askOf_155 : decode cX6_askOf 155 = .ok (.goto 5, 3) := by decide +kernel
theorem dX6_askOf_158 : decode cX6_askOf 158 = .ok (.iload 4, 2) := by decide +kernel
theorem dX6_askOf_160 : decode cX6_askOf 160 = .ok (.istore 4, 2) := by decide +kernel
theorem dX6_askOf_162 : decode cX6_askOf 162 = .ok (.iinc 5 1, 3) := by decide +kernel
theorem dX6_askOf_165 : decode cX6_askOf 165 = .ok (.goto (-151), 3) := by decide +kernel
theorem dX6_askOf_168 : decode cX6_askOf 168 = .ok (.iload_n 3, 1) := by decide +kernel
theorem dX6_askOf_169 : decode cX6_askOf 169 = .ok (.ireturn, 1) := by decide +kernel
theorem dX6_ask_0 : decode cX6_ask 0 = .ok (.aload_n 0, 1) := by decide +kernel
theorem dX6_ask_1 : decode cX6_ask 1 = .ok (.iload_n 1, 1) := by decide +kernel
theorem dX6_ask_2 : decode cX6_ask 2 = .ok (.invokevirtual 137, 3) := by decide +kernel
theorem dX6_ask_5 : decode cX6_ask 5 = .ok (.ifCond .eq 11, 3) := by decide +kernel
theorem dX6_ask_8 : decode cX6_ask 8 = .ok (.aload_n 0, 1) := by decide +kernel
theorem dX6_ask_9 : decode cX6_ask 9 = .ok (.iload_n 1, 1) := by decide +kernel
theorem dX6_ask_10 : decode cX6_ask 10 = .ok (.invokevirtual 242, 3) := by decide +kernel
theorem dX6_ask_13 : decode cX6_ask 13 = .ok (.goto 5, 3) := by decide +kernel
theorem dX6_ask_16 : decode cX6_ask 16 = .ok (.bipush (-2), 2) := by decide +kernel
theorem dX6_ask_18 : decode cX6_ask 18 = .ok (.ireturn, 1) := by decide +kernel
theorem dX6_calmOf_0 : decode cX6_calmOf 0 = .ok (.aload_n 0, 1) := by decide +kernel
theorem dX6_calmOf_1 : decode cX6_calmOf 1 = .ok (.invokevirtual 131, 3) := by decide +kernel
theorem dX6_calmOf_4 : decode cX6_calmOf 4 = .ok (.lconst 0, 1) := by decide +kernel
theorem dX6_calmOf_5 : decode cX6_calmOf 5 = .ok (.lstore 4, 2) := by decide +kernel
theorem dX6_calmOf_7 : decode cX6_calmOf 7 = .ok (.iconst 0, 1) := by decide +kernel
theorem dX6_calmOf_8 : decode cX6_calmOf 8 = .ok (.istore 6, 2) := by decide +kernel
theorem dX6_calmOf_10 : decode cX6_calmOf 10 = .ok (.iload 6, 2) := by decide +kernel
theorem dX6_calmOf_12 : decode cX6_calmOf 12 = .ok (.aload_n 0, 1) := by decide +kernel
theorem dX6_calmOf_13 : decode cX6_calmOf 13 = .ok (.getfield 101, 3) := by decide +kernel
theorem dX6_calmOf_16 : decode cX6_calmOf 16 = .ok (.if_icmp .ge 23, 3) := by decide +kernel
theorem dX6_calmOf_19 : decode cX6_calmOf 19 = .ok (.aload_n 0, 1) := by decide +kernel
theorem dX6_calmOf_20 : decode cX6_calmOf 20 = .ok (.getfield 62, 3) := by decide +kernel
theorem dX6_calmOf_23 : decode cX6_calmOf 23 = .ok (.iload 6, 2) := by decide +kernel
theorem dX6_calmOf_25 : decode cX6_calmOf 25 = .ok (.aload_n 0, 1) := by decide +kernel
theorem dX6_calmOf_26 : decode cX6_calmOf 26 = .ok (.getfield 23, 3) := by decide +kernel
theorem dX6_calmOf_29 : decode cX6_calmOf 29 = .ok (.iload 6, 2) := by decide +kernel
theorem dX6_calmOf_31 : decode cX6_calmOf 31 = .ok (.iaload, 1) := by decide +kernel
theorem dX6_calmOf_32 : decode cX6_calmOf 32 = .ok (.iastore, 1) := by decide +kernel
theorem dX6_calmOf_33 : decode cX6_calmOf 33 = .ok (.iinc 6 1, 3) := by decide +kernel
theorem dX6_calmOf_36 : decode cX6_calmOf 36 = .ok (.goto (-26), 3) := by decide +kernel
theorem dX6_calmOf_39 : decode cX6_calmOf 39 = .ok (.iconst 0, 1) := by decide +kernel
theorem dX6_calmOf_40 : decode cX6_calmOf 40 = .ok (.istore 6, 2) := by decide +kernel
theorem dX6_calmOf_42 : decode cX6_calmOf 42 = .ok (.iload 6, 2) := by decide +kernel
theorem dX6_calmOf_44 : decode cX6_calmOf 44 = .ok (.iconst 1, 1) := by decide +kernel
theorem dX6_calmOf_45 : decode cX6_calmOf 45 = .ok (.aload_n 0, 1) := by decide +kernel
theorem dX6_calmOf_46 : decode cX6_calmOf 46 = .ok (.getfield 101, 3) := by decide +kernel
theorem dX6_calmOf_49 : decode cX6_calmOf 49 = .ok (.ishl, 1) := by decide +kernel
theorem dX6_calmOf_50 : decode cX6_calmOf 50 = .ok (.if_icmp .ge 106, 3) := by decide +kernel
theorem dX6_calmOf_53 : decode cX6_calmOf 53 = .ok (.lconst 1, 1) := by decide +kernel
theorem dX6_calmOf_54 : decode cX6_calmOf 54 = .ok (.lstore 7, 2) := by decide +kernel
theorem dX6_calmOf_56 : decode cX6_calmOf 56 = .ok (.iconst 0, 1) := by decide +kernel
theorem dX6_calmOf_57 : decode cX6_calmOf 57 = .ok (.istore 9, 2) := by decide +kernel
theorem dX6_calmOf_59 : decode cX6_calmOf 59 = .ok (.iload 9, 2) := by decide +kernel
theorem dX6_calmOf_61 : decode cX6_calmOf 61 = .ok (.aload_n 0, 1) := by decide +kernel
theorem dX6_calmOf_62 : decode cX6_calmOf 62 = .ok (.getfield 101, 3) := by decide +kernel
theorem dX6_calmOf_65 : decode cX6_calmOf 65 = .ok (.if_icmp .ge 62, 3) := by decide +kernel
theorem dX6_calmOf_68 : decode cX6_calmOf 68 = .ok (.lload 7, 2) := by decide +kernel
theorem dX6_calmOf_70 : decode cX6_calmOf 70 = .ok (.iload 6, 2) := by decide +kernel
theorem dX6_calmOf_72 : decode cX6_calmOf 72 = .ok (.iload 9, 2) := by decide +kernel
theorem dX6_calmOf_74 : decode cX6_calmOf 74 = .ok (.invokestatic 245, 3) := by decide +kernel
theorem dX6_calmOf_77 : decode cX6_calmOf 77 = .ok (.ifCond .eq 8, 3) := by decide +kernel
theorem dX6_calmOf_80 : decode cX6_calmOf 80 = .ok (.iload_n 1, 1) := by decide +kernel
theorem dX6_calmOf_81 : decode cX6_calmOf 81 = .ok (.i2l, 1) := by decide +kernel
theorem dX6_calmOf_82 : decode cX6_calmOf 82 = .ok (.goto 8, 3) := by decide +kernel
theorem dX6_calmOf_85 : decode cX6_calmOf 85 = .ok (.bipush 16, 2) := by decide +kernel
theorem dX6_calmOf_87 : decode cX6_calmOf 87 = .ok (.iload_n 1, 1) := by decide +kernel
theorem dX6_calmOf_88 : decode cX6_calmOf 88 = .ok (.isub, 1) := by decide +kernel
theorem dX6_calmOf_89 : decode cX6_calmOf 89 = .ok (.i2l, 1) := by decide +kernel
theorem dX6_calmOf_90 : decode cX6_calmOf 90 = .ok (.lmul, 1) := by decide +kernel
theorem dX6_calmOf_91 : decode cX6_calmOf 91 = .ok (.lstore 7, 2) := by decide +kernel
theorem dX6_calmOf_93 : decode cX6_calmOf 93 = .ok (.aload_n 0, 1) := by decide +kernel
theorem dX6_calmOf_94 : decode cX6_calmOf 94 = .ok (.getfield 23, 3) := by decide +kernel
theorem dX6_calmOf_97 : decode cX6_calmOf 97 = .ok (.iload 9, 2) := by decide +kernel
theorem dX6_calmOf_99 : decode cX6_calmOf 99 = .ok (.iload 6, 2) := by decide +kernel
theorem dX6_calmOf_101 : decode cX6_calmOf 101 = .ok (.iload 9, 2) := by decide +kernel
theorem dX6_calmOf_103 : decode cX6_calmOf 103 = .ok (.invokestatic 245, 3) := by decide +kernel
theorem dX6_calmOf_106 : decode cX6_calmOf 106 = .ok (.ifCond .eq 13, 3) := by decide +kernel
theorem dX6_calmOf_109 : decode cX6_calmOf 109 = .ok (.aload_n 0, 1) := by decide +kernel
theorem dX6_calmOf_110 : decode cX6_calmOf 110 = .ok (.getfield 62, 3) := by decide +kernel
theorem dX6_calmOf_113 : decode cX6_calmOf 113 = .ok (.iload 9, 2) := by decide +kernel
theorem dX6_calmOf_115 : decode cX6_calmOf 115 = .ok (.iaload, 1) := by decide +kernel
theorem dX6_calmOf_116 : decode cX6_calmOf 116 = .ok (.goto 4, 3) := by decide +kernel
theorem dX6_calmOf_119 : decode cX6_calmOf 119 = .ok (.iconst 0, 1) := by decide +kernel
theorem dX6_calmOf_120 : decode cX6_calmOf 120 = .ok (.iastore, 1) := by decide +kernel
theorem dX6_calmOf_121 : decode cX6_calmOf 121 = .ok (.iinc 9 1, 3) := by decide +kernel
theorem dX6_calmOf_124 : decode cX6_calmOf 124 = .ok (.goto (-65), 3) := by decide +kernel
theorem dX6_calmOf_127 : decode cX6_calmOf 127 = .ok (.aload_n 0, 1) := by decide +kernel
theorem dX6_calmOf_128 : decode cX6_calmOf 128 = .ok (.invokevirtual 172, 3) := by decide +kernel
theorem dX6_calmOf_131 : decode cX6_calmOf 131 = .ok (.lload 4, 2) := by decide +kernel
theorem dX6_calmOf_133 : decode cX6_calmOf 133 = .ok (.aload_n 0, 1) := by decide +kernel
theorem dX6_calmOf_134 : decode cX6_calmOf 134 = .ok (.invokevirtual 208, 3) := by decide +kernel
theorem dX6_calmOf_137 : decode cX6_calmOf 137 = .ok (.iload_n 2, 1) := by decide +kernel
theorem dX6_calmOf_138 : decode cX6_calmOf 138 = .ok (.if_icmp .ne 8, 3) := by decide +kernel
theorem dX6_calmOf_141 : decode cX6_calmOf 141 = .ok (.lload 7, 2) := by decide +kernel
theorem dX6_calmOf_143 : decode cX6_calmOf 143 = .ok (.goto 4, 3) := by decide +kernel
theorem dX6_calmOf_146 : decode cX6_calmOf 146 = .ok (.lconst 0, 1) := by decide +kernel
theorem dX6_calmOf_147 : decode cX6_calmOf 147 = .ok (.ladd, 1) := by decide +kernel
theorem dX6_calmOf_148 : decode cX6_calmOf 148 = .ok (.lstore 4, 2) := by decide +kernel
theorem dX6_calmOf_150 : decode cX6_calmOf 150 = .ok (.iinc 6 1, 3) := by decide +kernel
theorem dX6_calmOf_153 : decode cX6_calmOf 153 = .ok (.goto (-111), 3) := by decide +kernel
theorem dX6_calmOf_156 : decode cX6_calmOf 156 = .ok (.lload 4, 2) := by decide +kernel
theorem dX6_calmOf_158 : decode cX6_calmOf 158 = .ok (.lconst 1, 1) := by decide +kernel
theorem dX6_calmOf_159 : decode cX6_calmOf 159 = .ok (.iconst 4, 1) := by decide +kernel
theorem dX6_calmOf_160 : decode cX6_calmOf 160 = .ok (.aload_n 0, 1) := by decide +kernel
theorem dX6_calmOf_161 : decode cX6_calmOf 161 = .ok (.getfield 101, 3) := by decide +kernel
theorem dX6_calmOf_164 : decode cX6_calmOf 164 = .ok (.imul, 1) := by decide +kernel
theorem dX6_calmOf_165 : decode cX6_calmOf 165 = .ok (.lshl, 1) := by decide +kernel
theorem dX6_calmOf_166 : decode cX6_calmOf 166 = .ok (.iload_n 3, 1) := by decide +kernel
theorem dX6_calmOf_167 : decode cX6_calmOf 167 = .ok (.invokestatic 248, 3) := by decide +kernel
theorem dX6_calmOf_170 : decode cX6_calmOf 170 = .ok (.lreturn, 1) := by decide +kernel
theorem dX6_calm_0 : decode cX6_calm 0 = .ok (.iload_n 1, 1) := by decide +kernel
theorem dX6_calm_1 : decode cX6_calm 1 = .ok (.iconst 0, 1) := by decide +kernel
theorem dX6_calm_2 : decode cX6_calm 2 = .ok (.bipush 16, 2) := by decide +kernel
theorem dX6_calm_4 : decode cX6_calm 4 = .ok (.invokestatic 82, 3) := by decide +kernel
theorem dX6_calm_7 : decode cX6_calm 7 = .ok (.ifCond .eq 30, 3) := by decide +kernel
theorem dX6_calm_10 : decode cX6_calm 10 = .ok (.aload_n 0, 1) := by decide +kernel
theorem dX6_calm_11 : decode cX6_calm 11 = .ok (.iload_n 2, 1) := by decide +kernel
theorem dX6_calm_12 : decode cX6_calm 12 = .ok (.invokevirtual 143, 3) := by decide +kernel
theorem dX6_calm_15 : decode cX6_calm 15 = .ok (.ifCond .eq 22, 3) := by decide +kernel
theorem dX6_calm_18 : decode cX6_calm 18 = .ok (.iload_n 3, 1) := by decide +kernel
theorem dX6_calm_19 : decode cX6_calm 19 = .ok (.iconst 0, 1) := by decide +kernel
theorem dX6_calm_20 : decode cX6_calm 20 = .ok (.iconst 1, 1) := by decide +kernel
theorem dX6_calm_21 : decode cX6_calm 21 = .ok (.invokestatic 82, 3) := by decide +kernel
theorem dX6_calm_24 : decode cX6_calm 24 = .ok (.ifCond .eq 13, 3) := by decide +kernel
theorem dX6_calm_27 : decode cX6_calm 27 = .ok (.aload_n 0, 1) := by decide +kernel
theorem dX6_calm_28 : decode cX6_calm 28 = .ok (.iload_n 1, 1) := by decide +kernel
theorem dX6_calm_29 : decode cX6_calm 29 = .ok (.iload_n 2, 1) := by decide +kernel
theorem dX6_calm_30 : decode cX6_calm 30 = .ok (.iload_n 3, 1) := by decide +kernel
theorem dX6_calm_31 : decode cX6_calm 31 = .ok (.invokevirtual 252, 3) := by decide +kernel
theorem dX6_calm_34 : decode cX6_calm 34 = .ok (.goto 8, 3) := by decide +kernel
theorem dX6_calm_37 : decode cX6_calm 37 = .ok (.bipush (-2), 2) := by decide +kernel
theorem dX6_calm_39 : decode cX6_calm 39 = .ok (.invokestatic 256, 3) := by decide +kernel
theorem dX6_calm_42 : decode cX6_calm 42 = .ok (.lreturn, 1) := by decide +kernel
theorem dX6_turnedNow_0 : decode cX6_turnedNow 0 = .ok (.iconst 0, 1) := by decide +kernel
theorem dX6_turnedNow_1 : decode cX6_turnedNow 1 = .ok (.istore_n 1, 1) := by decide +kernel
theorem dX6_turnedNow_2 : decode cX6_turnedNow 2 = .ok (.iconst 0, 1) := by decide +kernel
theorem dX6_turnedNow_3 : decode cX6_turnedNow 3 = .ok (.istore_n 2, 1) := by decide +kernel
theorem dX6_turnedNow_4 : decode cX6_turnedNow 4 = .ok (.iload_n 2, 1) := by decide +kernel
theorem dX6_turnedNow_5 : decode cX6_turnedNow 5 = .ok (.aload_n 0, 1) := by decide +kernel
theorem dX6_turnedNow_6 : decode cX6_turnedNow 6 = .ok (.getfield 112, 3) := by decide +kernel
theorem dX6_turnedNow_9 : decode cX6_turnedNow 9 = .ok (.if_icmp .ge 27, 3) := by decide +kernel
theorem dX6_turnedNow_12 : decode cX6_turnedNow 12 = .ok (.iload_n 1, 1) := by decide +kernel
theorem dX6_turnedNow_13 : decode cX6_turnedNow 13 = .ok (.aload_n 0, 1) := by decide +kernel
theorem dX6_turnedNow_14 : decode cX6_turnedNow 14 = .ok (.getfield 38, 3) := by decide +kernel
theorem dX6_turnedNow_17 : decode cX6_turnedNow 17 = .ok (.iload_n 2, 1) := by decide +kernel
theorem dX6_turnedNow_18 : decode cX6_turnedNow 18 = .ok (.iaload, 1) := by decide +kernel
theorem dX6_turnedNow_19 : decode cX6_turnedNow 19 = .ok (.iconst (-1), 1) := by decide +kernel
theorem dX6_turnedNow_20 : decode cX6_turnedNow 20 = .ok (.if_icmp .eq 7, 3) := by decide +kernel
theorem dX6_turnedNow_23 : decode cX6_turnedNow 23 = .ok (.iconst 1, 1) := by decide +kernel
theorem dX6_turnedNow_24 : decode cX6_turnedNow 24 = .ok (.goto 4, 3) := by decide +kernel
theorem dX6_turnedNow_27 : decode cX6_turnedNow 27 = .ok (.iconst 0, 1) := by decide +kernel
theorem dX6_turnedNow_28 : decode cX6_turnedNow 28 = .ok (.iadd, 1) := by decide +kernel
theorem dX6_turnedNow_29 : decode cX6_turnedNow 29 = .ok (.istore_n 1, 1) := by decide +kernel
theorem dX6_turnedNow_30 : decode cX6_turnedNow 30 = .ok (.iinc 2 1, 3) := by decide +kernel
theorem dX6_turnedNow_33 : decode cX6_turnedNow 33 = .ok (.goto (-29), 3) := by decide +kernel
theorem dX6_turnedNow_36 : decode cX6_turnedNow 36 = .ok (.iload_n 1, 1) := by decide +kernel
theorem dX6_turnedNow_37 : decode cX6_turnedNow 37 = .ok (.ireturn, 1) := by decide +kernel
theorem dX6_weatherOf_0 : decode cX6_weatherOf 0 = .ok (.aload_n 0, 1) := by decide +kernel
theorem dX6_weatherOf_1 : decode cX6_weatherOf 1 = .ok (.invokevirtual 131, 3) := by decide +kernel
theorem dX6_weatherOf_4 : decode cX6_weatherOf 4 = .ok (.iload_n 1, 1) := by decide +kernel
theorem dX6_weatherOf_5 : decode cX6_weatherOf 5 = .ok (.istore 4, 2) := by decide +kernel
theorem dX6_weatherOf_7 : decode cX6_weatherOf 7 = .ok (.aload_n 0, 1) := by decide +kernel
theorem dX6_weatherOf_8 : decode cX6_weatherOf 8 = .ok (.iload_n 2, 1) := by decide +kernel
theorem dX6_weatherOf_9 : decode cX6_weatherOf 9 = .ok (.putfield 101, 3) := by decide +kernel
theorem dX6_weatherOf_12 : decode cX6_weatherOf 12 = .ok (.iconst 0, 1) := by decide +kernel
theorem dX6_weatherOf_13 : decode cX6_weatherOf 13 = .ok (.istore 5, 2) := by decide +kernel
theorem dX6_weatherOf_15 : decode cX6_weatherOf 15 = .ok (.iload 5, 2) := by decide +kernel
theorem dX6_weatherOf_17 : decode cX6_weatherOf 17 = .ok (.iload_n 2, 1) := by decide +kernel
theorem dX6_weatherOf_18 : decode cX6_weatherOf 18 = .ok (.if_icmp .ge 62, 3) := by decide +kernel
theorem dX6_weatherOf_21 : decode cX6_weatherOf 21 = .ok (.ldc_w 260, 3) := by decide +kernel
theorem dX6_weatherOf_24 : decode cX6_weatherOf 24 = .ok (.iload 4, 2) := by decide +kernel
theorem dX6_weatherOf_26 : decode cX6_weatherOf 26 = .ok (.imul, 1) := by decide +kernel
theorem dX6_weatherOf_27 : decode cX6_weatherOf 27 = .ok (.sipush 12345, 3) := by decide +kernel
theorem dX6_weatherOf_30 : decode cX6_weatherOf 30 = .ok (.iadd, 1) := by decide +kernel
theorem dX6_weatherOf_31 : decode cX6_weatherOf 31 = .ok (.istore 4, 2) := by decide +kernel
theorem dX6_weatherOf_33 : decode cX6_weatherOf 33 = .ok (.aload_n 0, 1) := by decide +kernel
theorem dX6_weatherOf_34 : decode cX6_weatherOf 34 = .ok (.getfield 20, 3) := by decide +kernel
theorem dX6_weatherOf_37 : decode cX6_weatherOf 37 = .ok (.iload 5, 2) := by decide +kernel
theorem dX6_weatherOf_39 : decode cX6_weatherOf 39 = .ok (.iload 4, 2) := by decide +kernel
theorem dX6_weatherOf_41 : decode cX6_weatherOf 41 = .ok (.bipush 16, 2) := by decide +kernel
theorem dX6_weatherOf_43 : decode cX6_weatherOf 43 = .ok (.iushr, 1) := by decide +kernel
theorem dX6_weatherOf_44 : decode cX6_weatherOf 44 = .ok (.iconst 4, 1) := by decide +kernel
theorem dX6_weatherOf_45 : decode cX6_weatherOf 45 = .ok (.irem, 1) := by decide +kernel
theorem dX6_weatherOf_46 : decode cX6_weatherOf 46 = .ok (.iastore, 1) := by decide +kernel
theorem dX6_weatherOf_47 : decode cX6_weatherOf 47 = .ok (.ldc_w 260, 3) := by decide +kernel
theorem dX6_weatherOf_50 : decode cX6_weatherOf 50 = .ok (.iload 4, 2) := by decide +kernel
theorem dX6_weatherOf_52 : decode cX6_weatherOf 52 = .ok (.imul, 1) := by decide +kernel
theorem dX6_weatherOf_53 : decode cX6_weatherOf 53 = .ok (.sipush 12345, 3) := by decide +kernel
theorem dX6_weatherOf_56 : decode cX6_weatherOf 56 = .ok (.iadd, 1) := by decide +kernel
theorem dX6_weatherOf_57 : decode cX6_weatherOf 57 = .ok (.istore 4, 2) := by decide +kernel
theorem dX6_weatherOf_59 : decode cX6_weatherOf 59 = .ok (.aload_n 0, 1) := by decide +kernel
theorem dX6_weatherOf_60 : decode cX6_weatherOf 60 = .ok (.getfield 23, 3) := by decide +kernel
theorem dX6_weatherOf_63 : decode cX6_weatherOf 63 = .ok (.iload 5, 2) := by decide +kernel
theorem dX6_weatherOf_65 : decode cX6_weatherOf 65 = .ok (.iload 4, 2) := by decide +kernel
theorem dX6_weatherOf_67 : decode cX6_weatherOf 67 = .ok (.bipush 16, 2) := by decide +kernel
theorem dX6_weatherOf_69 : decode cX6_weatherOf 69 = .ok (.iushr, 1) := by decide +kernel
theorem dX6_weatherOf_70 : decode cX6_weatherOf 70 = .ok (.bipush 10, 2) := by decide +kernel
theorem dX6_weatherOf_72 : decode cX6_weatherOf 72 = .ok (.irem, 1) := by decide +kernel
theorem dX6_weatherOf_73 : decode cX6_weatherOf 73 = .ok (.iastore, 1) := by decide +kernel
theorem dX6_weatherOf_74 : decode cX6_weatherOf 74 = .ok (.iinc 5 1, 3) := by decide +kernel
theorem dX6_weatherOf_77 : decode cX6_weatherOf 77 = .ok (.goto (-62), 3) := by decide +kernel
theorem dX6_weatherOf_80 : decode cX6_weatherOf 80 = .ok (.aload_n 0, 1) := by decide +kernel
theorem dX6_weatherOf_81 : decode cX6_weatherOf 81 = .ok (.invokevirtual 172, 3) := by decide +kernel
theorem dX6_weatherOf_84 : decode cX6_weatherOf 84 = .ok (.iload_n 3, 1) := by decide +kernel
theorem dX6_weatherOf_85 : decode cX6_weatherOf 85 = .ok (.ifCond .ne 10, 3) := by decide +kernel
theorem dX6_weatherOf_88 : decode cX6_weatherOf 88 = .ok (.aload_n 0, 1) := by decide +kernel
theorem dX6_weatherOf_89 : decode cX6_weatherOf 89 = .ok (.invokevirtual 208, 3) := by decide +kernel
theorem dX6_weatherOf_92 : decode cX6_weatherOf 92 = .ok (.goto 7, 3) := by decide +kernel
theorem dX6_weatherOf_95 : decode cX6_weatherOf 95 = .ok (.aload_n 0, 1) := by decide +kernel
theorem dX6_weatherOf_96 : decode cX6_weatherOf 96 = .ok (.invokevirtual 261, 3) := by decide +kernel
theorem dX6_weatherOf_99 : decode cX6_weatherOf 99 = .ok (.ireturn, 1) := by decide +kernel
theorem dX6_weather_0 : decode cX6_weather 0 = .ok (.iload_n 2, 1) := by decide +kernel
theorem dX6_weather_1 : decode cX6_weather 1 = .ok (.iconst 1, 1) := by decide +kernel
theorem dX6_weather_2 : decode cX6_weather 2 = .ok (.bipush 12, 2) := by decide +kernel
theorem dX6_weather_4 : decode cX6_weather 4 = .ok (.invokestatic 82, 3) := by decide +kernel
theorem dX6_weather_7 : decode cX6_weather 7 = .ok (.ifCond .eq 22, 3) := by decide +kernel
theorem dX6_weather_10 : decode cX6_weather 10 = .ok (.iload_n 3, 1) := by decide +kernel
theorem dX6_weather_11 : decode cX6_weather 11 = .ok (.iconst 0, 1) := by decide +kernel
theorem dX6_weather_12 : decode cX6_weather 12 = .ok (.iconst 1, 1) := by decide +kernel
theorem dX6_weather_13 : decode cX6_weather 13 = .ok (.invokestatic 82, 3) := by decide +kernel
theorem dX6_weather_16 : decode cX6_weather 16 = .ok (.ifCond .eq 13, 3) := by decide +kernel
theorem dX6_weather_19 : decode cX6_weather 19 = .ok (.aload_n 0, 1) := by decide +kernel
theorem dX6_weather_20 : decode cX6_weather 20 = .ok (.iload_n 1, 1) := by decide +kernel
theorem dX6_weather_21 : decode cX6_weather 21 = .ok (.iload_n 2, 1) := by decide +kernel
theorem dX6_weather_22 : decode cX6_weather 22 = .ok (.iload_n 3, 1) := by decide +kernel
theorem dX6_weather_23 : decode cX6_weather 23 = .ok (.invokevirtual 264, 3) := by decide +kernel
theorem dX6_weather_26 : decode cX6_weather 26 = .ok (.goto 5, 3) := by decide +kernel
theorem dX6_weather_29 : decode cX6_weather 29 = .ok (.bipush (-2), 2) := by decide +kernel
theorem dX6_weather_31 : decode cX6_weather 31 = .ok (.ireturn, 1) := by decide +kernel
theorem dX6_meets_0 : decode cX6_meets 0 = .ok (.aload_n 0, 1) := by decide +kernel
theorem dX6_meets_1 : decode cX6_meets 1 = .ok (.iload_n 1, 1) := by decide +kernel
theorem dX6_meets_2 : decode cX6_meets 2 = .ok (.putfield 268, 3) := by decide +kernel
theorem dX6_meets_5 : decode cX6_meets 5 = .ok (.bipush (-10), 2) := by decide +kernel
theorem dX6_meets_7 : decode cX6_meets 7 = .ok (.iload_n 1, 1) := by decide +kernel
theorem dX6_meets_8 : decode cX6_meets 8 = .ok (.isub, 1) := by decide +kernel
theorem dX6_meets_9 : decode cX6_meets 9 = .ok (.ireturn, 1) := by decide +kernel
theorem dX6_isSheet_0 : decode cX6_isSheet 0 = .ok (.iload_n 0, 1) := by decide +kernel
theorem dX6_isSheet_1 : decode cX6_isSheet 1 = .ok (.iconst 0, 1) := by decide +kernel
theorem dX6_isSheet_2 : decode cX6_isSheet 2 = .ok (.iconst 3, 1) := by decide +kernel
theorem dX6_isSheet_3 : decode cX6_isSheet 3 = .ok (.invokestatic 82, 3) := by decide +kernel
theorem dX6_isSheet_6 : decode cX6_isSheet 6 = .ok (.ireturn, 1) := by decide +kernel
theorem dX6_sheet_0 : decode cX6_sheet 0 = .ok (.iload_n 1, 1) := by decide +kernel
theorem dX6_sheet_1 : decode cX6_sheet 1 = .ok (.invokestatic 220, 3) := by decide +kernel
theorem dX6_sheet_4 : decode cX6_sheet 4 = .ok (.ifCond .eq 18, 3) := by decide +kernel
theorem dX6_sheet_7 : decode cX6_sheet 7 = .ok (.iload_n 2, 1) := by decide +kernel
theorem dX6_sheet_8 : decode cX6_sheet 8 = .ok (.iconst 0, 1) := by decide +kernel
theorem dX6_sheet_9 : decode cX6_sheet 9 = .ok (.iconst 2, 1) := by decide +kernel
theorem dX6_sheet_10 : decode cX6_sheet 10 = .ok (.invokestatic 82, 3) := by decide +kernel
theorem dX6_sheet_13 : decode cX6_sheet 13 = .ok (.ifCond .eq 9, 3) := by decide +kernel
theorem dX6_sheet_16 : decode cX6_sheet 16 = .ok (.iload_n 3, 1) := by decide +kernel
theorem dX6_sheet_17 : decode cX6_sheet 17 = .ok (.bipush 60, 2) := by decide +kernel
theorem dX6_sheet_19 : decode cX6_sheet 19 = .ok (.if_icmp .le 6, 3) := by decide +kernel
theorem dX6_sheet_22 : decode cX6_sheet 22 = .ok (.bipush (-2), 2) := by decide +kernel
theorem dX6_sheet_24 : decode cX6_sheet 24 = .ok (.ireturn, 1) := by decide +kernel
theorem dX6_sheet_25 : decode cX6_sheet 25 = .ok (.iload_n 3, 1) := by decide +kernel
theorem dX6_sheet_26 : decode cX6_sheet 26 = .ok (.ifCond .ge 9, 3) := by decide +kernel
theorem dX6_sheet_29 : decode cX6_sheet 29 = .ok (.aload_n 0, 1) := by decide +kernel
theorem dX6_sheet_30 : decode cX6_sheet 30 = .ok (.iconst 5, 1) := by decide +kernel
theorem dX6_sheet_31 : decode cX6_sheet 31 = .ok (.invokevirtual 223, 3) := by decide +kernel
theorem dX6_sheet_34 : decode cX6_sheet 34 = .ok (.ireturn, 1) := by decide +kernel
theorem dX6_sheet_35 : decode cX6_sheet 35 = .ok (.aload_n 0, 1) := by decide +kernel
theorem dX6_sheet_36 : decode cX6_sheet 36 = .ok (.getfield 65, 3) := by decide +kernel
theorem dX6_sheet_39 : decode cX6_sheet 39 = .ok (.iload_n 1, 1) := by decide +kernel
theorem dX6_sheet_40 : decode cX6_sheet 40 = .ok (.iconst 1, 1) := by decide +kernel
theorem dX6_sheet_41 : decode cX6_sheet 41 = .ok (.bastore, 1) := by decide +kernel
theorem dX6_sheet_42 : decode cX6_sheet 42 = .ok (.aload_n 0, 1) := by decide +kernel
theorem dX6_sheet_43 : decode cX6_sheet 43 = .ok (.getfield 68, 3) := by decide +kernel
theorem dX6_sheet_46 : decode cX6_sheet 46 = .ok (.iload_n 1, 1) := by decide +kernel
theorem dX6_sheet_47 : decode cX6_sheet 47 = .ok (.iload_n 2, 1) := by decide +kernel
theorem dX6_sheet_48 : decode cX6_sheet 48 = .ok (.iastore, 1) := by decide +kernel
theorem dX6_sheet_49 : decode cX6_sheet 49 = .ok (.aload_n 0, 1) := by decide +kernel
theorem dX6_sheet_50 : decode cX6_sheet 50 = .ok (.getfield 71, 3) := by decide +kernel
theorem dX6_sheet_53 : decode cX6_sheet 53 = .ok (.iload_n 1, 1) := by decide +kernel
theorem dX6_sheet_54 : decode cX6_sheet 54 = .ok (.iload_n 3, 1) := by decide +kernel
theorem dX6_sheet_55 : decode cX6_sheet 55 = .ok (.iastore, 1) := by decide +kernel
theorem dX6_sheet_56 : decode cX6_sheet 56 = .ok (.iconst 0, 1) := by decide +kernel
theorem dX6_sheet_57 : decode cX6_sheet 57 = .ok (.istore 4, 2) := by decide +kernel
theorem dX6_sheet_59 : decode cX6_sheet 59 = .ok (.iload 4, 2) := by decide +kernel
theorem dX6_sheet_61 : decode cX6_sheet 61 = .ok (.bipush 60, 2) := by decide +kernel
theorem dX6_sheet_63 : decode cX6_sheet 63 = .ok (.if_icmp .ge 22, 3) := by decide +kernel
theorem dX6_sheet_66 : decode cX6_sheet 66 = .ok (.aload_n 0, 1) := by decide +kernel
theorem dX6_sheet_67 : decode cX6_sheet 67 = .ok (.getfield 74, 3) := by decide +kernel
theorem dX6_sheet_70 : decode cX6_sheet 70 = .ok (.bipush 60, 2) := by decide +kernel
theorem dX6_sheet_72 : decode cX6_sheet 72 = .ok (.iload_n 1, 1) := by decide +kernel
theorem dX6_sheet_73 : decode cX6_sheet 73 = .ok (.imul, 1) := by decide +kernel
theorem dX6_sheet_74 : decode cX6_sheet 74 = .ok (.iload 4, 2) := by decide +kernel
theorem dX6_sheet_76 : decode cX6_sheet 76 = .ok (.iadd, 1) := by decide +kernel
theorem dX6_sheet_77 : decode cX6_sheet 77 = .ok (.iconst 0, 1) := by decide +kernel
theorem dX6_sheet_78 : decode cX6_sheet 78 = .ok (.iastore, 1) := by decide +kernel
theorem dX6_sheet_79 : decode cX6_sheet 79 = .ok (.iinc 4 1, 3) := by decide +kernel
theorem dX6_sheet_82 : decode cX6_sheet 82 = .ok (.goto (-23), 3) := by decide +kernel
theorem dX6_sheet_85 : decode cX6_sheet 85 = .ok (.iload_n 3, 1) := by decide +kernel
theorem dX6_sheet_86 : decode cX6_sheet 86 = .ok (.ireturn, 1) := by decide +kernel
theorem dX6_lose_0 : decode cX6_lose 0 = .ok (.iload_n 1, 1) := by decide +kernel
theorem dX6_lose_1 : decode cX6_lose 1 = .ok (.invokestatic 220, 3) := by decide +kernel
theorem dX6_lose_4 : decode cX6_lose 4 = .ok (.ifCond .ne 6, 3) := by decide +kernel
theorem dX6_lose_7 : decode cX6_lose 7 = .ok (.bipush (-2), 2) := by decide +kernel
theorem dX6_lose_9 : decode cX6_lose 9 = .ok (.ireturn, 1) := by decide +kernel
theorem dX6_lose_10 : decode cX6_lose 10 = .ok (.aload_n 0, 1) := by decide +kernel
theorem dX6_lose_11 : decode cX6_lose 11 = .ok (.getfield 65, 3) := by decide +kernel
theorem dX6_lose_14 : decode cX6_lose 14 = .ok (.iload_n 1, 1) := by decide +kernel
theorem dX6_lose_15 : decode cX6_lose 15 = .ok (.baload, 1) := by decide +kernel
theorem dX6_lose_16 : decode cX6_lose 16 = .ok (.ifCond .ne 9, 3) := by decide +kernel
theorem dX6_lose_19 : decode cX6_lose 19 = .ok (.aload_n 0, 1) := by decide +kernel
theorem dX6_lose_20 : decode cX6_lose 20 = .ok (.iconst 1, 1) := by decide +kernel
theorem dX6_lose_21 : decode cX6_lose 21 = .ok (.invokevirtual 223, 3) := by decide +kernel
theorem dX6_lose_24 : decode cX6_lose 24 = .ok (.ireturn, 1) := by decide +kernel
theorem dX6_lose_25 : decode cX6_lose 25 = .ok (.aload_n 0, 1) := by decide +kernel
theorem dX6_lose_26 : decode cX6_lose 26 = .ok (.getfield 65, 3) := by decide +kernel
theorem dX6_lose_29 : decode cX6_lose 29 = .ok (.iload_n 1, 1) := by decide +kernel
theorem dX6_lose_30 : decode cX6_lose 30 = .ok (.iconst 0, 1) := by decide +kernel
theorem dX6_lose_31 : decode cX6_lose 31 = .ok (.bastore, 1) := by decide +kernel
theorem dX6_lose_32 : decode cX6_lose 32 = .ok (.aload_n 0, 1) := by decide +kernel
theorem dX6_lose_33 : decode cX6_lose 33 = .ok (.getfield 71, 3) := by decide +kernel
theorem dX6_lose_36 : decode cX6_lose 36 = .ok (.iload_n 1, 1) := by decide +kernel
theorem dX6_lose_37 : decode cX6_lose 37 = .ok (.iaload, 1) := by decide +kernel
theorem dX6_lose_38 : decode cX6_lose 38 = .ok (.ireturn, 1) := by decide +kernel
theorem dX6_lacks_0 : decode cX6_lacks 0 = .ok (.aload_n 0, 1) := by decide +kernel
theorem dX6_lacks_1 : decode cX6_lacks 1 = .ok (.getfield 65, 3) := by decide +kernel
theorem dX6_lacks_4 : decode cX6_lacks 4 = .ok (.iload_n 1, 1) := by decide +kernel
theorem dX6_lacks_5 : decode cX6_lacks 5 = .ok (.baload, 1) := by decide +kernel
theorem dX6_lacks_6 : decode cX6_lacks 6 = .ok (.ifCond .ne 7, 3) := by decide +kernel
theorem dX6_lacks_9 : decode cX6_lacks 9 = .ok (.iconst 1, 1) := by decide +kernel
theorem dX6_lacks_10 : decode cX6_lacks 10 = .ok (.goto 38, 3) := by decide +kernel
theorem dX6_lacks_13 : decode cX6_lacks 13 = .ok (.aload_n 0, 1) := by decide +kernel
theorem dX6_lacks_14 : decode cX6_lacks 14 = .ok (.getfield 68, 3) := by decide +kernel
theorem dX6_lacks_17 : decode cX6_lacks 17 = .ok (.iload_n 1, 1) := by decide +kernel
theorem dX6_lacks_18 : decode cX6_lacks 18 = .ok (.iaload, 1) := by decide +kernel
theorem dX6_lacks_19 : decode cX6_lacks 19 = .ok (.iload_n 2, 1) := by decide +kernel
theorem dX6_lacks_20 : decode cX6_lacks 20 = .ok (.if_icmp .eq 7, 3) := by decide +kernel
theorem dX6_lacks_23 : decode cX6_lacks 23 = .ok (.iconst 3, 1) := by decide +kernel
theorem dX6_lacks_24 : decode cX6_lacks 24 = .ok (.goto 24, 3) := by decide +kernel
theorem dX6_lacks_27 : decode cX6_lacks 27 = .ok (.iload_n 3, 1) := by decide +kernel
theorem dX6_lacks_28 : decode cX6_lacks 28 = .ok (.iconst 0, 1) := by decide +kernel
theorem dX6_lacks_29 : decode cX6_lacks 29 = .ok (.aload_n 0, 1) := by decide +kernel
theorem dX6_lacks_30 : decode cX6_lacks 30 = .ok (.getfield 71, 3) := by decide +kernel
theorem dX6_lacks_33 : decode cX6_lacks 33 = .ok (.iload_n 1, 1) := by decide +kernel
theorem dX6_lacks_34 : decode cX6_lacks 34 = .ok (.iaload, 1) := by decide +kernel
theorem dX6_lacks_35 : decode cX6_lacks 35 = .ok (.iconst 1, 1) := by decide +kernel
theorem dX6_lacks_36 : decode cX6_lacks 36 = .ok (.isub, 1) := by decide +kernel
theorem dX6_lacks_37 : decode cX6_lacks 37 = .ok (.invokestatic 82, 3) := by decide +kernel
theorem dX6_lacks_40 : decode cX6_lacks 40 = .ok (.ifCond .eq 7, 3) := by decide +kernel
theorem dX6_lacks_43 : decode cX6_lacks 43 = .ok (.iconst 0, 1) := by decide +kernel
theorem dX6_lacks_44 : decode cX6_lacks 44 = .ok (.goto 4, 3) := by decide +kernel
theorem dX6_lacks_47 : decode cX6_lacks 47 = .ok (.iconst 2, 1) := by decide +kernel
theorem dX6_lacks_48 : decode cX6_lacks 48 = .ok (.ireturn, 1) := by decide +kernel
theorem dX6_keep_0 : decode cX6_keep 0 = .ok (.aload_n 0, 1) := by decide +kernel
theorem dX6_keep_1 : decode cX6_keep 1 = .ok (.getfield 74, 3) := by decide +kernel
theorem dX6_keep_4 : decode cX6_keep 4 = .ok (.bipush 60, 2) := by decide +kernel
theorem dX6_keep_6 : decode cX6_keep 6 = .ok (.iload_n 1, 1) := by decide +kernel
theorem dX6_keep_7 : decode cX6_keep 7 = .ok (.imul, 1) := by decide +kernel
theorem dX6_keep_8 : decode cX6_keep 8 = .ok (.iload_n 2, 1) := by decide +kernel
theorem dX6_keep_9 : decode cX6_keep 9 = .ok (.iadd, 1) := by decide +kernel
theorem dX6_keep_10 : decode cX6_keep 10 = .ok (.aload_n 0, 1) := by decide +kernel
theorem dX6_keep_11 : decode cX6_keep 11 = .ok (.getfield 68, 3) := by decide +kernel
theorem dX6_keep_14 : decode cX6_keep 14 = .ok (.iload_n 1, 1) := by decide +kernel
theorem dX6_keep_15 : decode cX6_keep 15 = .ok (.iaload, 1) := by decide +kernel
theorem dX6_keep_16 : decode cX6_keep 16 = .ok (.ifCond .ne 8, 3) := by decide +kernel
theorem dX6_keep_19 : decode cX6_keep 19 = .ok (.iload_n 3, 1) := by decide +kernel
theorem dX6_keep_20 : decode cX6_keep 20 = .ok (.i2b, 1) := by decide +kernel
theorem dX6_keep_21 : decode cX6_keep 21 = .ok (.goto 19, 3) := by decide +kernel
theorem dX6_keep_24 : decode cX6_keep 24 = .ok (.aload_n 0, 1) := by decide +kernel
theorem dX6_keep_25 : decode cX6_keep 25 = .ok (.getfield 68, 3) := by decide +kernel
theorem dX6_keep_28 : decode cX6_keep 28 = .ok (.iload_n 1, 1) := by decide +kernel
theorem dX6_keep_29 : decode cX6_keep 29 = .ok (.iaload, 1) := by decide +kernel
theorem dX6_keep_30 : decode cX6_keep 30 = .ok (.iconst 1, 1) := by decide +kernel
theorem dX6_keep_31 : decode cX6_keep 31 = .ok (.if_icmp .ne 8, 3) := by decide +kernel
theorem dX6_keep_34 : decode cX6_keep 34 = .ok (.iload_n 3, 1) := by decide +kernel
theorem dX6_keep_35 : decode cX6_keep 35 = .ok (.i2s, 1) := by decide +kernel
theorem dX6_keep_36 : decode cX6_keep 36 = .ok (.goto 4, 3) := by decide +kernel
theorem dX6_keep_39 : decode cX6_keep 39 = .ok (.iload_n 3, 1) := by decide +kernel
theorem dX6_keep_40 : decode cX6_keep 40 = .ok (.iastore, 1) := by decide +kernel
theorem dX6_keep_41 : decode cX6_keep 41 = .ok (.return_, 1) := by decide +kernel
theorem dX6_put_0 : decode cX6_put 0 = .ok (.iload_n 1, 1) := by decide +kernel
theorem dX6_put_1 : decode cX6_put 1 = .ok (.invokestatic 220, 3) := by decide +kernel
theorem dX6_put_4 : decode cX6_put 4 = .ok (.ifCond .eq 12, 3) := by decide +kernel
theorem dX6_put_7 : decode cX6_put 7 = .ok (.iload_n 2, 1) := by decide +kernel
theorem dX6_put_8 : decode cX6_put 8 = .ok (.iconst 0, 1) := by decide +kernel
theorem dX6_put_9 : decode cX6_put 9 = .ok (.iconst 2, 1) := by decide +kernel
theorem dX6_put_10 : decode cX6_put 10 = .ok (.invokestatic 82, 3) := by decide +kernel
theorem dX6_put_13 : decode cX6_put 13 = .ok (.ifCond .ne 6, 3) := by decide +kernel
theorem dX6_put_16 : decode cX6_put 16 = .ok (.bipush (-2), 2) := by decide +kernel
theorem dX6_put_18 : decode cX6_put 18 = .ok (.ireturn, 1) := by decide +kernel
theorem dX6_put_19 : decode cX6_put 19 = .ok (.aload_n 0, 1) := by decide +kernel
theorem dX6_put_20 : decode cX6_put 20 = .ok (.iload_n 1, 1) := by decide +kernel
theorem dX6_put_21 : decode cX6_put 21 = .ok (.iload_n 2, 1) := by decide +kernel
theorem dX6_put_22 : decode cX6_put 22 = .ok (.iload_n 3, 1) := by decide +kernel
theorem dX6_put_23 : decode cX6_put 23 = .ok (.invokevirtual 271, 3) := by decide +kernel
theorem dX6_put_26 : decode cX6_put 26 = .ok (.istore 5, 2) := by decide +kernel
theorem dX6_put_28 : decode cX6_put 28 = .ok (.iload 5, 2) := by decide +kernel
theorem dX6_put_30 : decode cX6_put 30 = .ok (.ifCond .le 10, 3) := by decide +kernel
theorem dX6_put_33 : decode cX6_put 33 = .ok (.aload_n 0, 1) := by decide +kernel
theorem dX6_put_34 : decode cX6_put 34 = .ok (.iload 5, 2) := by decide +kernel
theorem dX6_put_36 : decode cX6_put 36 = .ok (.invokevirtual 223, 3) := by decide +kernel
theorem dX6_put_39 : decode cX6_put 39 = .ok (.ireturn, 1) := by decide +kernel
theorem dX6_put_40 : decode cX6_put 40 = .ok (.aload_n 0, 1) := by decide +kernel
theorem dX6_put_41 : decode cX6_put 41 = .ok (.iload_n 1, 1) := by decide +kernel
theorem dX6_put_42 : decode cX6_put 42 = .ok (.iload_n 3, 1) := by decide +kernel
theorem dX6_put_43 : decode cX6_put 43 = .ok (.iload 4, 2) := by decide +kernel
theorem dX6_put_45 : decode cX6_put 45 = .ok (.invokevirtual 274, 3) := by decide +kernel
theorem dX6_put_48 : decode cX6_put 48 = .ok (.iconst 1, 1) := by decide +kernel
theorem dX6_put_49 : decode cX6_put 49 = .ok (.ireturn, 1) := by decide +kernel
theorem dX6_get_0 : decode cX6_get 0 = .ok (.iload_n 1, 1) := by decide +kernel
theorem dX6_get_1 : decode cX6_get 1 = .ok (.invokestatic 220, 3) := by decide +kernel
theorem dX6_get_4 : decode cX6_get 4 = .ok (.ifCond .eq 12, 3) := by decide +kernel
theorem dX6_get_7 : decode cX6_get 7 = .ok (.iload_n 2, 1) := by decide +kernel
theorem dX6_get_8 : decode cX6_get 8 = .ok (.iconst 0, 1) := by decide +kernel
theorem dX6_get_9 : decode cX6_get 9 = .ok (.iconst 2, 1) := by decide +kernel
theorem dX6_get_10 : decode cX6_get 10 = .ok (.invokestatic 82, 3) := by decide +kernel
theorem dX6_get_13 : decode cX6_get 13 = .ok (.ifCond .ne 7, 3) := by decide +kernel
theorem dX6_get_16 : decode cX6_get 16 = .ok (.ldc_w 278, 3) := by decide +kernel
theorem dX6_get_19 : decode cX6_get 19 = .ok (.ireturn, 1) := by decide +kernel
theorem dX6_get_20 : decode cX6_get 20 = .ok (.aload_n 0, 1) := by decide +kernel
theorem dX6_get_21 : decode cX6_get 21 = .ok (.iload_n 1, 1) := by decide +kernel
theorem dX6_get_22 : decode cX6_get 22 = .ok (.iload_n 2, 1) := by decide +kernel
theorem dX6_get_23 : decode cX6_get 23 = .ok (.iload_n 3, 1) := by decide +kernel
theorem dX6_get_24 : decode cX6_get 24 = .ok (.invokevirtual 271, 3) := by decide +kernel
theorem dX6_get_27 : decode cX6_get 27 = .ok (.istore 4, 2) := by decide +kernel
theorem dX6_get_29 : decode cX6_get 29 = .ok (.iload 4, 2) := by decide +kernel
theorem dX6_get_31 : decode cX6_get 31 = .ok (.ifCond .le 13, 3) := by decide +kernel
theorem dX6_get_34 : decode cX6_get 34 = .ok (.aload_n 0, 1) := by decide +kernel
theorem dX6_get_35 : decode cX6_get 35 = .ok (.iload 4, 2) := by decide +kernel
theorem dX6_get_37 : decode cX6_get 37 = .ok (.putfield 268, 3) := by decide +kernel
theorem dX6_get_40 : decode cX6_get 40 = .ok (.ldc_w 278, 3) := by decide +kernel
theorem dX6_get_43 : decode cX6_get 43 = .ok (.ireturn, 1) := by decide +kernel
theorem dX6_get_44 : decode cX6_get 44 = .ok (.aload_n 0, 1) := by decide +kernel
theorem dX6_get_45 : decode cX6_get 45 = .ok (.getfield 74, 3) := by decide +kernel
theorem dX6_get_48 : decode cX6_get 48 = .ok (.bipush 60, 2) := by decide +kernel
theorem dX6_get_50 : decode cX6_get 50 = .ok (.iload_n 1, 1) := by decide +kernel
theorem dX6_get_51 : decode cX6_get 51 = .ok (.imul, 1) := by decide +kernel
theorem dX6_get_52 : decode cX6_get 52 = .ok (.iload_n 3, 1) := by decide +kernel
theorem dX6_get_53 : decode cX6_get 53 = .ok (.iadd, 1) := by decide +kernel
theorem dX6_get_54 : decode cX6_get 54 = .ok (.iaload, 1) := by decide +kernel
theorem dX6_get_55 : decode cX6_get 55 = .ok (.ireturn, 1) := by decide +kernel
theorem dX6_copy_0 : decode cX6_copy 0 = .ok (.iload_n 1, 1) := by decide +kernel
theorem dX6_copy_1 : decode cX6_copy 1 = .ok (.invokestatic 220, 3) := by decide +kernel
theorem dX6_copy_4 : decode cX6_copy 4 = .ok (.ifCond .eq 10, 3) := by decide +kernel
theorem dX6_copy_7 : decode cX6_copy 7 = .ok (.iload_n 3, 1) := by decide +kernel
theorem dX6_copy_8 : decode cX6_copy 8 = .ok (.invokestatic 220, 3) := by decide +kernel
theorem dX6_copy_11 : decode cX6_copy 11 = .ok (.ifCond .ne 6, 3) := by decide +kernel
theorem dX6_copy_14 : decode cX6_copy 14 = .ok (.bipush (-2), 2) := by decide +kernel
theorem dX6_copy_16 : decode cX6_copy 16 = .ok (.ireturn, 1) := by decide +kernel
theorem dX6_copy_17 : decode cX6_copy 17 = .ok (.aload_n 0, 1) := by decide +kernel
theorem dX6_copy_18 : decode cX6_copy 18 = .ok (.getfield 65, 3) := by decide +kernel
theorem dX6_copy_21 : decode cX6_copy 21 = .ok (.iload_n 1, 1) := by decide +kernel
theorem dX6_copy_22 : decode cX6_copy 22 = .ok (.baload, 1) := by decide +kernel
theorem dX6_copy_23 : decode cX6_copy 23 = .ok (.ifCond .eq 12, 3) := by decide +kernel
theorem dX6_copy_26 : decode cX6_copy 26 = .ok (.aload_n 0, 1) := by decide +kernel
theorem dX6_copy_27 : decode cX6_copy 27 = .ok (.getfield 65, 3) := by decide +kernel
theorem dX6_copy_30 : decode cX6_copy 30 = .ok (.iload_n 3, 1) := by decide +kernel
theorem dX6_copy_31 : decode cX6_copy 31 = .ok (.baload, 1) := by decide +kernel
theorem dX6_copy_32 : decode cX6_copy 32 = .ok (.ifCond .ne 9, 3) := by decide +kernel
theorem dX6_copy_35 : decode cX6_copy 35 = .ok (.aload_n 0, 1) := by decide +kernel
theorem dX6_copy_36 : decode cX6_copy 36 = .ok (.iconst 1, 1) := by decide +kernel
theorem dX6_copy_37 : decode cX6_copy 37 = .ok (.invokevirtual 223, 3) := by decide +kernel
theorem dX6_copy_40 : decode cX6_copy 40 = .ok (.ireturn, 1) := by decide +kernel
theorem dX6_copy_41 : decode cX6_copy 41 = .ok (.aload_n 0, 1) := by decide +kernel
theorem dX6_copy_42 : decode cX6_copy 42 = .ok (.getfield 68, 3) := by decide +kernel
theorem dX6_copy_45 : decode cX6_copy 45 = .ok (.iload_n 1, 1) := by decide +kernel
theorem dX6_copy_46 : decode cX6_copy 46 = .ok (.iaload, 1) := by decide +kernel
theorem dX6_copy_47 : decode cX6_copy 47 = .ok (.aload_n 0, 1) := by decide +kernel
theorem dX6_copy_48 : decode cX6_copy 48 = .ok (.getfield 68, 3) := by decide +kernel
theorem dX6_copy_51 : decode cX6_copy 51 = .ok (.iload_n 3, 1) := by decide +kernel
theorem dX6_copy_52 : decode cX6_copy 52 = .ok (.iaload, 1) := by decide +kernel
theorem dX6_copy_53 : decode cX6_copy 53 = .ok (.if_icmp .eq 9, 3) := by decide +kernel
theorem dX6_copy_56 : decode cX6_copy 56 = .ok (.aload_n 0, 1) := by decide +kernel
theorem dX6_copy_57 : decode cX6_copy 57 = .ok (.iconst 4, 1) := by decide +kernel
theorem dX6_copy_58 : decode cX6_copy 58 = .ok (.invokevirtual 223, 3) := by decide +kernel
theorem dX6_copy_61 : decode cX6_copy 61 = .ok (.ireturn, 1) := by decide +kernel
theorem dX6_copy_62 : decode cX6_copy 62 = .ok (.iload_n 2, 1) := by decide +kernel
theorem dX6_copy_63 : decode cX6_copy 63 = .ok (.ifCond .lt 48, 3) := by decide +kernel
theorem dX6_copy_66 : decode cX6_copy 66 = .ok (.iload 4, 2) := by decide +kernel
theorem dX6_copy_68 : decode cX6_copy 68 = .ok (.ifCond .lt 43, 3) := by decide +kernel
theorem dX6_copy_71 : decode cX6_copy 71 = .ok (.iload 5, 2) := by decide +kernel
theorem dX6_copy_73 : decode cX6_copy 73 = .ok (.ifCond .lt 38, 3) := by decide +kernel
theorem dX6_copy_76 : decode cX6_copy 76 = .ok (.iload_n 2, 1) := by decide +kernel
theorem dX6_copy_77 : decode cX6_copy 77 = .ok (.i2l, 1) := by decide +kernel
theorem dX6_copy_78 : decode cX6_copy 78 = .ok (.iload 5, 2) := by decide +kernel
theorem dX6_copy_80 : decode cX6_copy 80 = .ok (.i2l, 1) := by decide +kernel
theorem dX6_copy_81 : decode cX6_copy 81 = .ok (.ladd, 1) := by decide +kernel
theorem dX6_copy_82 : decode cX6_copy 82 = .ok (.aload_n 0, 1) := by decide +kernel
theorem dX6_copy_83 : decode cX6_copy 83 = .ok (.getfield 71, 3) := by decide +kernel
theorem dX6_copy_86 : decode cX6_copy 86 = .ok (.iload_n 1, 1) := by decide +kernel
theorem dX6_copy_87 : decode cX6_copy 87 = .ok (.iaload, 1) := by decide +kernel
theorem dX6_copy_88 : decode cX6_copy 88 = .ok (.i2l, 1) := by decide +kernel
theorem dX6_copy_89 : decode cX6_copy 89 = .ok (.lcmp, 1) := by decide +kernel
theorem dX6_copy_90 : decode cX6_copy 90 = .ok (.ifCond .gt 21, 3) := by decide +kernel
theorem dX6_copy_93 : decode cX6_copy 93 = .ok (.iload 4, 2) := by decide +kernel
theorem dX6_copy_95 : decode cX6_copy 95 = .ok (.i2l, 1) := by decide +kernel
theorem dX6_copy_96 : decode cX6_copy 96 = .ok (.iload 5, 2) := by decide +kernel
theorem dX6_copy_98 : decode cX6_copy 98 = .ok (.i2l, 1) := by decide +kernel
theorem dX6_copy_99 : decode cX6_copy 99 = .ok (.ladd, 1) := by decide +kernel
theorem dX6_copy_100 : decode cX6_copy 100 = .ok (.aload_n 0, 1) := by decide +kernel
theorem dX6_copy_101 : decode cX6_copy 101 = .ok (.getfield 71, 3) := by decide +kernel
theorem dX6_copy_104 : decode cX6_copy 104 = .ok (.iload_n 3, 1) := by decide +kernel
theorem dX6_copy_105 : decode cX6_copy 105 = .ok (.iaload, 1) := by decide +kernel
theorem dX6_copy_106 : decode cX6_copy 106 = .ok (.i2l, 1) := by decide +kernel
theorem dX6_copy_107 : decode cX6_copy 107 = .ok (.lcmp, 1) := by decide +kernel
theorem dX6_copy_108 : decode cX6_copy 108 = .ok (.ifCond .le 9, 3) := by decide +kernel
theorem dX6_copy_111 : decode cX6_copy 111 = .ok (.aload_n 0, 1) := by decide +kernel
theorem dX6_copy_112 : decode cX6_copy 112 = .ok (.iconst 2, 1) := by decide +kernel
theorem dX6_copy_113 : decode cX6_copy 113 = .ok (.invokevirtual 223, 3) := by decide +kernel
theorem dX6_copy_116 : decode cX6_copy 116 = .ok (.ireturn, 1) := by decide +kernel
theorem dX6_copy_117 : decode cX6_copy 117 = .ok (.iconst 0, 1) := by decide +kernel
theorem dX6_copy_118 : decode cX6_copy 118 = .ok (.istore 6, 2) := by decide +kernel
theorem dX6_copy_120 : decode cX6_copy 120 = .ok (.iload 6, 2) := by decide +kernel
theorem dX6_copy_122 : decode cX6_copy 122 = .ok (.iload 5, 2) := by decide +kernel
theorem dX6_copy_124 : decode cX6_copy 124 = .ok (.if_icmp .ge 30, 3) := by decide +kernel
theorem dX6_copy_127 : decode cX6_copy 127 = .ok (.aload_n 0, 1) := by decide +kernel
theorem dX6_copy_128 : decode cX6_copy 128 = .ok (.getfield 77, 3) := by decide +kernel
theorem dX6_copy_131 : decode cX6_copy 131 = .ok (.iload 6, 2) := by decide +kernel
theorem dX6_copy_133 : decode cX6_copy 133 = .ok (.aload_n 0, 1) := by decide +kernel
theorem dX6_copy_134 : decode cX6_copy 134 = .ok (.getfield 74, 3) := by decide +kernel
theorem dX6_copy_137 : decode cX6_copy 137 = .ok (.bipush 60, 2) := by decide +kernel
theorem dX6_copy_139 : decode cX6_copy 139 = .ok (.iload_n 1, 1) := by decide +kernel
theorem dX6_copy_140 : decode cX6_copy 140 = .ok (.imul, 1) := by decide +kernel
theorem dX6_copy_141 : decode cX6_copy 141 = .ok (.iload_n 2, 1) := by decide +kernel
theorem dX6_copy_142 : decode cX6_copy 142 = .ok (.iadd, 1) := by decide +kernel
theorem dX6_copy_143 : decode cX6_copy 143 = .ok (.iload 6, 2) := by decide +kernel
theorem dX6_copy_145 : decode cX6_copy 145 = .ok (.iadd, 1) := by decide +kernel
theorem dX6_copy_146 : decode cX6_copy 146 = .ok (.iaload, 1) := by decide +kernel
theorem dX6_copy_147 : decode cX6_copy 147 = .ok (.iastore, 1) := by decide +kernel
theorem dX6_copy_148 : decode cX6_copy 148 = .ok (.iinc 6 1, 3) := by decide +kernel
theorem dX6_copy_151 : decode cX6_copy 151 = .ok (.goto (-31), 3) := by decide +kernel
theorem dX6_copy_154 : decode cX6_copy 154 = .ok (.iconst 0, 1) := by decide +kernel
theorem dX6_copy_155 : decode cX6_copy 155 = .ok (.istore 6, 2) := by decide +kernel
theorem dX6_copy_157 : decode cX6_copy 157 = .ok (.iload 6, 2) := by decide +kernel
theorem dX6_copy_159 : decode cX6_copy 159 = .ok (.iload 5, 2) := by decide +kernel
theorem dX6_copy_161 : decode cX6_copy 161 = .ok (.if_icmp .ge 31, 3) := by decide +kernel
theorem dX6_copy_164 : decode cX6_copy 164 = .ok (.aload_n 0, 1) := by decide +kernel
theorem dX6_copy_165 : decode cX6_copy 165 = .ok (.getfield 74, 3) := by decide +kernel
theorem dX6_copy_168 : decode cX6_copy 168 = .ok (.bipush 60, 2) := by decide +kernel
theorem dX6_copy_170 : decode cX6_copy 170 = .ok (.iload_n 3, 1) := by decide +kernel
theorem dX6_copy_171 : decode cX6_copy 171 = .ok (.imul, 1) := by decide +kernel
theorem dX6_copy_172 : decode cX6_copy 172 = .ok (.iload 4, 2) := by decide +kernel
theorem dX6_copy_174 : decode cX6_copy 174 = .ok (.iadd, 1) := by decide +kernel
theorem dX6_copy_175 : decode cX6_copy 175 = .ok (.iload 6, 2) := by decide +kernel
theorem dX6_copy_177 : decode cX6_copy 177 = .ok (.iadd, 1) := by decide +kernel
theorem dX6_copy_178 : decode cX6_copy 178 = .ok (.aload_n 0, 1) := by decide +kernel
theorem dX6_copy_179 : decode cX6_copy 179 = .ok (.getfield 77, 3) := by decide +kernel
theorem dX6_copy_182 : decode cX6_copy 182 = .ok (.iload 6, 2) := by decide +kernel
theorem dX6_copy_184 : decode cX6_copy 184 = .ok (.iaload, 1) := by decide +kernel
theorem dX6_copy_185 : decode cX6_copy 185 = .ok (.iastore, 1) := by decide +kernel
theorem dX6_copy_186 : decode cX6_copy 186 = .ok (.iinc 6 1, 3) := by decide +kernel
theorem dX6_copy_189 : decode cX6_copy 189 = .ok (.goto (-32), 3) := by decide +kernel
theorem dX6_copy_192 : decode cX6_copy 192 = .ok (.iconst 1, 1) := by decide +kernel
theorem dX6_copy_193 : decode cX6_copy 193 = .ok (.ireturn, 1) := by decide +kernel
theorem dX6_write_0 : decode cX6_write 0 = .ok (.aload_n 0, 1) := by decide +kernel
theorem dX6_write_1 : decode cX6_write 1 = .ok (.iload_n 1, 1) := by decide +kernel
theorem dX6_write_2 : decode cX6_write 2 = .ok (.invokevirtual 137, 3) := by decide +kernel
theorem dX6_write_5 : decode cX6_write 5 = .ok (.ifCond .eq 10, 3) := by decide +kernel
theorem dX6_write_8 : decode cX6_write 8 = .ok (.iload_n 2, 1) := by decide +kernel
theorem dX6_write_9 : decode cX6_write 9 = .ok (.invokestatic 220, 3) := by decide +kernel
theorem dX6_write_12 : decode cX6_write 12 = .ok (.ifCond .ne 6, 3) := by decide +kernel
theorem dX6_write_15 : decode cX6_write 15 = .ok (.bipush (-2), 2) := by decide +kernel
theorem dX6_write_17 : decode cX6_write 17 = .ok (.ireturn, 1) := by decide +kernel
theorem dX6_write_18 : decode cX6_write 18 = .ok (.aload_n 0, 1) := by decide +kernel
theorem dX6_write_19 : decode cX6_write 19 = .ok (.getfield 65, 3) := by decide +kernel
theorem dX6_write_22 : decode cX6_write 22 = .ok (.iload_n 2, 1) := by decide +kernel
theorem dX6_write_23 : decode cX6_write 23 = .ok (.baload, 1) := by decide +kernel
theorem dX6_write_24 : decode cX6_write 24 = .ok (.ifCond .ne 9, 3) := by decide +kernel
theorem dX6_write_27 : decode cX6_write 27 = .ok (.aload_n 0, 1) := by decide +kernel
theorem dX6_write_28 : decode cX6_write 28 = .ok (.iconst 1, 1) := by decide +kernel
theorem dX6_write_29 : decode cX6_write 29 = .ok (.invokevirtual 223, 3) := by decide +kernel
theorem dX6_write_32 : decode cX6_write 32 = .ok (.ireturn, 1) := by decide +kernel
theorem dX6_write_33 : decode cX6_write 33 = .ok (.aload_n 0, 1) := by decide +kernel
theorem dX6_write_34 : decode cX6_write 34 = .ok (.invokevirtual 175, 3) := by decide +kernel
theorem dX6_write_37 : decode cX6_write 37 = .ok (.iconst 0, 1) := by decide +kernel
theorem dX6_write_38 : decode cX6_write 38 = .ok (.istore_n 3, 1) := by decide +kernel
theorem dX6_write_39 : decode cX6_write 39 = .ok (.iload_n 3, 1) := by decide +kernel
theorem dX6_write_40 : decode cX6_write 40 = .ok (.aload_n 0, 1) := by decide +kernel
theorem dX6_write_41 : decode cX6_write 41 = .ok (.getfield 71, 3) := by decide +kernel
theorem dX6_write_44 : decode cX6_write 44 = .ok (.iload_n 2, 1) := by decide +kernel
theorem dX6_write_45 : decode cX6_write 45 = .ok (.iaload, 1) := by decide +kernel
theorem dX6_write_46 : decode cX6_write 46 = .ok (.if_icmp .ge 29, 3) := by decide +kernel
theorem dX6_write_49 : decode cX6_write 49 = .ok (.iload_n 3, 1) := by decide +kernel
theorem dX6_write_50 : decode cX6_write 50 = .ok (.aload_n 0, 1) := by decide +kernel
theorem dX6_write_51 : decode cX6_write 51 = .ok (.getfield 94, 3) := by decide +kernel
theorem dX6_write_54 : decode cX6_write 54 = .ok (.if_icmp .ge 21, 3) := by decide +kernel
theorem dX6_write_57 : decode cX6_write 57 = .ok (.aload_n 0, 1) := by decide +kernel
theorem dX6_write_58 : decode cX6_write 58 = .ok (.iload_n 2, 1) := by decide +kernel
theorem dX6_write_59 : decode cX6_write 59 = .ok (.iload_n 3, 1) := by decide +kernel
theorem dX6_write_60 : decode cX6_write 60 = .ok (.aload_n 0, 1) := by decide +kernel
theorem dX6_write_61 : decode cX6_write 61 = .ok (.iload_n 1, 1) := by decide +kernel
theorem dX6_write_62 : decode cX6_write 62 = .ok (.iload_n 3, 1) := by decide +kernel
theorem dX6_write_63 : decode cX6_write 63 = .ok (.invokevirtual 159, 3) := by decide +kernel
theorem dX6_write_66 : decode cX6_write 66 = .ok (.invokevirtual 274, 3) := by decide +kernel
theorem dX6_write_69 : decode cX6_write 69 = .ok (.iinc 3 1, 3) := by decide +kernel
theorem dX6_write_72 : decode cX6_write 72 = .ok (.goto (-33), 3) := by decide +kernel
theorem dX6_write_75 : decode cX6_write 75 = .ok (.iload_n 3, 1) := by decide +kernel
theorem dX6_write_76 : decode cX6_write 76 = .ok (.ireturn, 1) := by decide +kernel
theorem dX6_sumOf_0 : decode cX6_sumOf 0 = .ok (.aload_n 0, 1) := by decide +kernel
theorem dX6_sumOf_1 : decode cX6_sumOf 1 = .ok (.invokevirtual 175, 3) := by decide +kernel
theorem dX6_sumOf_4 : decode cX6_sumOf 4 = .ok (.iload_n 1, 1) := by decide +kernel
theorem dX6_sumOf_5 : decode cX6_sumOf 5 = .ok (.ifCond .ne 10, 3) := by decide +kernel
theorem dX6_sumOf_8 : decode cX6_sumOf 8 = .ok (.aload_n 0, 1) := by decide +kernel
theorem dX6_sumOf_9 : decode cX6_sumOf 9 = .ok (.getfield 94, 3) := by decide +kernel
theorem dX6_sumOf_12 : decode cX6_sumOf 12 = .ok (.goto 31, 3) := by decide +kernel
theorem dX6_sumOf_15 : decode cX6_sumOf 15 = .ok (.iload_n 1, 1) := by decide +kernel
theorem dX6_sumOf_16 : decode cX6_sumOf 16 = .ok (.iconst 1, 1) := by decide +kernel
theorem dX6_sumOf_17 : decode cX6_sumOf 17 = .ok (.if_icmp .ne 10, 3) := by decide +kernel
theorem dX6_sumOf_20 : decode cX6_sumOf 20 = .ok (.aload_n 0, 1) := by decide +kernel
theorem dX6_sumOf_21 : decode cX6_sumOf 21 = .ok (.getfield 101, 3) := by decide +kernel
theorem dX6_sumOf_24 : decode cX6_sumOf 24 = .ok (.goto 19, 3) := by decide +kernel
theorem dX6_sumOf_27 : decode cX6_sumOf 27 = .ok (.iload_n 1, 1) := by decide +kernel
theorem dX6_sumOf_28 : decode cX6_sumOf 28 = .ok (.iconst 2, 1) := by decide +kernel
theorem dX6_sumOf_29 : decode cX6_sumOf 29 = .ok (.if_icmp .ne 10, 3) := by decide +kernel
theorem dX6_sumOf_32 : decode cX6_sumOf 32 = .ok (.aload_n 0, 1) := by decide +kernel
theorem dX6_sumOf_33 : decode cX6_sumOf 33 = .ok (.getfield 112, 3) := by decide +kernel
theorem dX6_sumOf_36 : decode cX6_sumOf 36 = .ok (.goto 7, 3) := by decide +kernel
theorem dX6_sumOf_39 : decode cX6_sumOf 39 = .ok (.aload_n 0, 1) := by decide +kernel
theorem dX6_sumOf_40 : decode cX6_sumOf 40 = .ok (.invokevirtual 261, 3) := by decide +kernel
theorem dX6_sumOf_43 : decode cX6_sumOf 43 = .ok (.ireturn, 1) := by decide +kernel
theorem dX6_count_0 : decode cX6_count 0 = .ok (.iload_n 1, 1) := by decide +kernel
theorem dX6_count_1 : decode cX6_count 1 = .ok (.tableswitch 76 0 8 #[51, 51, 51, 57, 57, 57, 51, 66, 71], 51) := by decide +kernel
theorem dX6_count_52 : decode cX6_count 52 = .ok (.aload_n 0, 1) := by decide +kernel
theorem dX6_count_53 : decode cX6_count 53 = .ok (.iload_n 1, 1) := by decide +kernel
theorem dX6_count_54 : decode cX6_count 54 = .ok (.invokevirtual 279, 3) := by decide +kernel
theorem dX6_count_57 : decode cX6_count 57 = .ok (.ireturn, 1) := by decide +kernel
theorem dX6_count_58 : decode cX6_count 58 = .ok (.aload_n 0, 1) := by decide +kernel
theorem dX6_count_59 : decode cX6_count 59 = .ok (.getfield 7, 3) := by decide +kernel
theorem dX6_count_62 : decode cX6_count 62 = .ok (.iload_n 1, 1) := by decide +kernel
theorem dX6_count_63 : decode cX6_count 63 = .ok (.iconst 3, 1) := by decide +kernel
theorem dX6_count_64 : decode cX6_count 64 = .ok (.isub, 1) := by decide +kernel
theorem dX6_count_65 : decode cX6_count 65 = .ok (.iaload, 1) := by decide +kernel
theorem dX6_count_66 : decode cX6_count 66 = .ok (.ireturn, 1) := by decide +kernel
theorem dX6_count_67 : decode cX6_count 67 = .ok (.aload_n 0, 1) := by decide +kernel
theorem dX6_count_68 : decode cX6_count 68 = .ok (.getfield 217, 3) := by decide +kernel
theorem dX6_count_71 : decode cX6_count 71 = .ok (.ireturn, 1) := by decide +kernel
theorem dX6_count_72 : decode cX6_count 72 = .ok (.aload_n 0, 1) := by decide +kernel
theorem dX6_count_73 : decode cX6_count 73 = .ok (.getfield 268, 3) := by decide +kernel
theorem dX6_count_76 : decode cX6_count 76 = .ok (.ireturn, 1) := by decide +kernel
theorem dX6_count_77 : decode cX6_count 77 = .ok (.bipush (-2), 2) := by decide +kernel
theorem dX6_count_79 : decode cX6_count 79 = .ok (.ireturn, 1) := by decide +kernel
theorem dX6_minuteDigest_0 : decode cX6_minuteDigest 0 = .ok (.ldc2_w 282, 3) := by decide +kernel
theorem dX6_minuteDigest_3 : decode cX6_minuteDigest 3 = .ok (.lload_n 1, 1) := by decide +kernel
theorem dX6_minuteDigest_4 : decode cX6_minuteDigest 4 = .ok (.lmul, 1) := by decide +kernel
theorem dX6_minuteDigest_5 : decode cX6_minuteDigest 5 = .ok (.aload_n 0, 1) := by decide +kernel
theorem dX6_minuteDigest_6 : decode cX6_minuteDigest 6 = .ok (.getfield 20, 3) := by decide +kernel
theorem dX6_minuteDigest_9 : decode cX6_minuteDigest 9 = .ok (.iload_n 3, 1) := by decide +kernel
theorem dX6_minuteDigest_10 : decode cX6_minuteDigest 10 = .ok (.iaload, 1) := by decide +kernel
theorem dX6_minuteDigest_11 : decode cX6_minuteDigest 11 = .ok (.i2l, 1) := by decide +kernel
theorem dX6_minuteDigest_12 : decode cX6_minuteDigest 12 = .ok (.ladd, 1) := by decide +kernel
theorem dX6_minuteDigest_13 : decode cX6_minuteDigest 13 = .ok (.lstore 4, 2) := by decide +kernel
theorem dX6_minuteDigest_15 : decode cX6_minuteDigest 15 = .ok (.ldc2_w 282, 3) := by decide +kernel
theorem dX6_minuteDigest_18 : decode cX6_minuteDigest 18 = .ok (.lload 4, 2) := by decide +kernel
theorem dX6_minuteDigest_20 : decode cX6_minuteDigest 20 = .ok (.lmul, 1) := by decide +kernel
theorem dX6_minuteDigest_21 : decode cX6_minuteDigest 21 = .ok (.aload_n 0, 1) := by decide +kernel
theorem dX6_minuteDigest_22 : decode cX6_minuteDigest 22 = .ok (.getfield 23, 3) := by decide +kernel
theorem dX6_minuteDigest_25 : decode cX6_minuteDigest 25 = .ok (.iload_n 3, 1) := by decide +kernel
theorem dX6_minuteDigest_26 : decode cX6_minuteDigest 26 = .ok (.iaload, 1) := by decide +kernel
theorem dX6_minuteDigest_27 : decode cX6_minuteDigest 27 = .ok (.i2l, 1) := by decide +kernel
theorem dX6_minuteDigest_28 : decode cX6_minuteDigest 28 = .ok (.ladd, 1) := by decide +kernel
theorem dX6_minuteDigest_29 : decode cX6_minuteDigest 29 = .ok (.lstore 4, 2) := by decide +kernel
theorem dX6_minuteDigest_31 : decode cX6_minuteDigest 31 = .ok (.ldc2_w 282, 3) := by decide +kernel
theorem dX6_minuteDigest_34 : decode cX6_minuteDigest 34 = .ok (.lload 4, 2) := by decide +kernel
theorem dX6_minuteDigest_36 : decode cX6_minuteDigest 36 = .ok (.lmul, 1) := by decide +kernel
theorem dX6_minuteDigest_37 : decode cX6_minuteDigest 37 = .ok (.aload_n 0, 1) := by decide +kernel
theorem dX6_minuteDigest_38 : decode cX6_minuteDigest 38 = .ok (.iload_n 3, 1) := by decide +kernel
theorem dX6_minuteDigest_39 : decode cX6_minuteDigest 39 = .ok (.invokevirtual 187, 3) := by decide +kernel
theorem dX6_minuteDigest_42 : decode cX6_minuteDigest 42 = .ok (.i2l, 1) := by decide +kernel
theorem dX6_minuteDigest_43 : decode cX6_minuteDigest 43 = .ok (.ladd, 1) := by decide +kernel
theorem dX6_minuteDigest_44 : decode cX6_minuteDigest 44 = .ok (.lstore 4, 2) := by decide +kernel
theorem dX6_minuteDigest_46 : decode cX6_minuteDigest 46 = .ok (.ldc2_w 282, 3) := by decide +kernel
theorem dX6_minuteDigest_49 : decode cX6_minuteDigest 49 = .ok (.lload 4, 2) := by decide +kernel
theorem dX6_minuteDigest_51 : decode cX6_minuteDigest 51 = .ok (.lmul, 1) := by decide +kernel
theorem dX6_minuteDigest_52 : decode cX6_minuteDigest 52 = .ok (.aload_n 0, 1) := by decide +kernel
theorem dX6_minuteDigest_53 : decode cX6_minuteDigest 53 = .ok (.iload_n 3, 1) := by decide +kernel
theorem dX6_minuteDigest_54 : decode cX6_minuteDigest 54 = .ok (.invokevirtual 242, 3) := by decide +kernel
theorem dX6_minuteDigest_57 : decode cX6_minuteDigest 57 = .ok (.i2l, 1) := by decide +kernel
theorem dX6_minuteDigest_58 : decode cX6_minuteDigest 58 = .ok (.ladd, 1) := by decide +kernel
theorem dX6_minuteDigest_59 : decode cX6_minuteDigest 59 = .ok (.lstore 4, 2) := by decide +kernel
theorem dX6_minuteDigest_61 : decode cX6_minuteDigest 61 = .ok (.ldc2_w 282, 3) := by decide +kernel
theorem dX6_minuteDigest_64 : decode cX6_minuteDigest 64 = .ok (.lload 4, 2) := by decide +kernel
theorem dX6_minuteDigest_66 : decode cX6_minuteDigest 66 = .ok (.lmul, 1) := by decide +kernel
theorem dX6_minuteDigest_67 : decode cX6_minuteDigest 67 = .ok (.aload_n 0, 1) := by decide +kernel
theorem dX6_minuteDigest_68 : decode cX6_minuteDigest 68 = .ok (.iload_n 3, 1) := by decide +kernel
theorem dX6_minuteDigest_69 : decode cX6_minuteDigest 69 = .ok (.iconst (-1), 1) := by decide +kernel
theorem dX6_minuteDigest_70 : decode cX6_minuteDigest 70 = .ok (.invokevirtual 236, 3) := by decide +kernel
theorem dX6_minuteDigest_73 : decode cX6_minuteDigest 73 = .ok (.i2l, 1) := by decide +kernel
theorem dX6_minuteDigest_74 : decode cX6_minuteDigest 74 = .ok (.ladd, 1) := by decide +kernel
theorem dX6_minuteDigest_75 : decode cX6_minuteDigest 75 = .ok (.lstore 4, 2) := by decide +kernel
theorem dX6_minuteDigest_77 : decode cX6_minuteDigest 77 = .ok (.ldc2_w 282, 3) := by decide +kernel
theorem dX6_minuteDigest_80 : decode cX6_minuteDigest 80 = .ok (.lload 4, 2) := by decide +kernel
theorem dX6_minuteDigest_82 : decode cX6_minuteDigest 82 = .ok (.lmul, 1) := by decide +kernel
theorem dX6_minuteDigest_83 : decode cX6_minuteDigest 83 = .ok (.aload_n 0, 1) := by decide +kernel
theorem dX6_minuteDigest_84 : decode cX6_minuteDigest 84 = .ok (.iload_n 3, 1) := by decide +kernel
theorem dX6_minuteDigest_85 : decode cX6_minuteDigest 85 = .ok (.iconst 0, 1) := by decide +kernel
theorem dX6_minuteDigest_86 : decode cX6_minuteDigest 86 = .ok (.invokevirtual 236, 3) := by decide +kernel
theorem dX6_minuteDigest_89 : decode cX6_minuteDigest 89 = .ok (.i2l, 1) := by decide +kernel
theorem dX6_minuteDigest_90 : decode cX6_minuteDigest 90 = .ok (.ladd, 1) := by decide +kernel
theorem dX6_minuteDigest_91 : decode cX6_minuteDigest 91 = .ok (.lstore 4, 2) := by decide +kernel
theorem dX6_minuteDigest_93 : decode cX6_minuteDigest 93 = .ok (.iconst 0, 1) := by decide +kernel
theorem dX6_minuteDigest_94 : decode cX6_minuteDigest 94 = .ok (.istore 6, 2) := by decide +kernel
theorem dX6_minuteDigest_96 : decode cX6_minuteDigest 96 = .ok (.iload 6, 2) := by decide +kernel
theorem dX6_minuteDigest_98 : decode cX6_minuteDigest 98 = .ok (.aload_n 0, 1) := by decide +kernel
theorem dX6_minuteDigest_99 : decode cX6_minuteDigest 99 = .ok (.getfield 94, 3) := by decide +kernel
theorem dX6_minuteDigest_102 : decode cX6_minuteDigest 102 = .ok (.if_icmp .ge 26, 3) := by decide +kernel
theorem dX6_minuteDigest_105 : decode cX6_minuteDigest 105 = .ok (.ldc2_w 282, 3) := by decide +kernel
theorem dX6_minuteDigest_108 : decode cX6_minuteDigest 108 = .ok (.lload 4, 2) := by decide +kernel
theorem dX6_minuteDigest_110 : decode cX6_minuteDigest 110 = .ok (.lmul, 1) := by decide +kernel
theorem dX6_minuteDigest_111 : decode cX6_minuteDigest 111 = .ok (.aload_n 0, 1) := by decide +kernel
theorem dX6_minuteDigest_112 : decode cX6_minuteDigest 112 = .ok (.iload_n 3, 1) := by decide +kernel
theorem dX6_minuteDigest_113 : decode cX6_minuteDigest 113 = .ok (.iload 6, 2) := by decide +kernel
theorem dX6_minuteDigest_115 : decode cX6_minuteDigest 115 = .ok (.invokevirtual 178, 3) := by decide +kernel
theorem dX6_minuteDigest_118 : decode cX6_minuteDigest 118 = .ok (.i2l, 1) := by decide +kernel
theorem dX6_minuteDigest_119 : decode cX6_minuteDigest 119 = .ok (.ladd, 1) := by decide +kernel
theorem dX6_minuteDigest_120 : decode cX6_minuteDigest 120 = .ok (.lstore 4, 2) := by decide +kernel
theorem dX6_minuteDigest_122 : decode cX6_minuteDigest 122 = .ok (.iinc 6 1, 3) := by decide +kernel
theorem dX6_minuteDigest_125 : decode cX6_minuteDigest 125 = .ok (.goto (-29), 3) := by decide +kernel
theorem dX6_minuteDigest_128 : decode cX6_minuteDigest 128 = .ok (.iconst 0, 1) := by decide +kernel
theorem dX6_minuteDigest_129 : decode cX6_minuteDigest 129 = .ok (.istore 6, 2) := by decide +kernel
theorem dX6_minuteDigest_131 : decode cX6_minuteDigest 131 = .ok (.iload 6, 2) := by decide +kernel
theorem dX6_minuteDigest_133 : decode cX6_minuteDigest 133 = .ok (.aload_n 0, 1) := by decide +kernel
theorem dX6_minuteDigest_134 : decode cX6_minuteDigest 134 = .ok (.getfield 112, 3) := by decide +kernel
theorem dX6_minuteDigest_137 : decode cX6_minuteDigest 137 = .ok (.if_icmp .ge 26, 3) := by decide +kernel
theorem dX6_minuteDigest_140 : decode cX6_minuteDigest 140 = .ok (.ldc2_w 282, 3) := by decide +kernel
theorem dX6_minuteDigest_143 : decode cX6_minuteDigest 143 = .ok (.lload 4, 2) := by decide +kernel
theorem dX6_minuteDigest_145 : decode cX6_minuteDigest 145 = .ok (.lmul, 1) := by decide +kernel
theorem dX6_minuteDigest_146 : decode cX6_minuteDigest 146 = .ok (.aload_n 0, 1) := by decide +kernel
theorem dX6_minuteDigest_147 : decode cX6_minuteDigest 147 = .ok (.iload_n 3, 1) := by decide +kernel
theorem dX6_minuteDigest_148 : decode cX6_minuteDigest 148 = .ok (.iload 6, 2) := by decide +kernel
theorem dX6_minuteDigest_150 : decode cX6_minuteDigest 150 = .ok (.invokevirtual 181, 3) := by decide +kernel
theorem dX6_minuteDigest_153 : decode cX6_minuteDigest 153 = .ok (.i2l, 1) := by decide +kernel
theorem dX6_minuteDigest_154 : decode cX6_minuteDigest 154 = .ok (.ladd, 1) := by decide +kernel
theorem dX6_minuteDigest_155 : decode cX6_minuteDigest 155 = .ok (.lstore 4, 2) := by decide +kernel
theorem dX6_minuteDigest_157 : decode cX6_minuteDigest 157 = .ok (.iinc 6 1, 3) := by decide +kernel
theorem dX6_minuteDigest_160 : decode cX6_minuteDigest 160 = .ok (.goto (-29), 3) := by decide +kernel
theorem dX6_minuteDigest_163 : decode cX6_minuteDigest 163 = .ok (.lload 4, 2) := by decide +kernel
theorem dX6_minuteDigest_165 : decode cX6_minuteDigest 165 = .ok (.lreturn, 1) := by decide +kernel
theorem dX6_candidateDigest_0 : decode cX6_candidateDigest 0 = .ok (.lload_n 1, 1) := by decide +kernel
theorem dX6_candidateDigest_1 : decode cX6_candidateDigest 1 = .ok (.lstore 4, 2) := by decide +kernel
theorem dX6_candidateDigest_3 : decode cX6_candidateDigest 3 = .ok (.iconst 0, 1) := by decide +kernel
theorem dX6_candidateDigest_4 : decode cX6_candidateDigest 4 = .ok (.istore 6, 2) := by decide +kernel
theorem dX6_candidateDigest_6 : decode cX6_candidateDigest 6 = .ok (.iload 6, 2) := by decide +kernel
theorem dX6_candidateDigest_8 : decode cX6_candidateDigest 8 = .ok (.iconst 4, 1) := by decide +kernel
theorem dX6_candidateDigest_9 : decode cX6_candidateDigest 9 = .ok (.if_icmp .ge 26, 3) := by decide +kernel
theorem dX6_candidateDigest_12 : decode cX6_candidateDigest 12 = .ok (.ldc2_w 282, 3) := by decide +kernel
theorem dX6_candidateDigest_15 : decode cX6_candidateDigest 15 = .ok (.lload 4, 2) := by decide +kernel
theorem dX6_candidateDigest_17 : decode cX6_candidateDigest 17 = .ok (.lmul, 1) := by decide +kernel
theorem dX6_candidateDigest_18 : decode cX6_candidateDigest 18 = .ok (.aload_n 0, 1) := by decide +kernel
theorem dX6_candidateDigest_19 : decode cX6_candidateDigest 19 = .ok (.iload_n 3, 1) := by decide +kernel
theorem dX6_candidateDigest_20 : decode cX6_candidateDigest 20 = .ok (.iload 6, 2) := by decide +kernel
theorem dX6_candidateDigest_22 : decode cX6_candidateDigest 22 = .ok (.invokevirtual 146, 3) := by decide +kernel
theorem dX6_candidateDigest_25 : decode cX6_candidateDigest 25 = .ok (.i2l, 1) := by decide +kernel
theorem dX6_candidateDigest_26 : decode cX6_candidateDigest 26 = .ok (.ladd, 1) := by decide +kernel
theorem dX6_candidateDigest_27 : decode cX6_candidateDigest 27 = .ok (.lstore 4, 2) := by decide +kernel
theorem dX6_candidateDigest_29 : decode cX6_candidateDigest 29 = .ok (.iinc 6 1, 3) := by decide +kernel
theorem dX6_candidateDigest_32 : decode cX6_candidateDigest 32 = .ok (.goto (-26), 3) := by decide +kernel
theorem dX6_candidateDigest_35 : decode cX6_candidateDigest 35 = .ok (.iconst 0, 1) := by decide +kernel
theorem dX6_candidateDigest_36 : decode cX6_candidateDigest 36 = .ok (.istore 6, 2) := by decide +kernel
theorem dX6_candidateDigest_38 : decode cX6_candidateDigest 38 = .ok (.iload 6, 2) := by decide +kernel
theorem dX6_candidateDigest_40 : decode cX6_candidateDigest 40 = .ok (.iconst 4, 1) := by decide +kernel
theorem dX6_candidateDigest_41 : decode cX6_candidateDigest 41 = .ok (.if_icmp .ge 26, 3) := by decide +kernel
theorem dX6_candidateDigest_44 : decode cX6_candidateDigest 44 = .ok (.ldc2_w 282, 3) := by decide +kernel
theorem dX6_candidateDigest_47 : decode cX6_candidateDigest 47 = .ok (.lload 4, 2) := by decide +kernel
theorem dX6_candidateDigest_49 : decode cX6_candidateDigest 49 = .ok (.lmul, 1) := by decide +kernel
theorem dX6_candidateDigest_50 : decode cX6_candidateDigest 50 = .ok (.aload_n 0, 1) := by decide +kernel
theorem dX6_candidateDigest_51 : decode cX6_candidateDigest 51 = .ok (.iload_n 3, 1) := by decide +kernel
theorem dX6_candidateDigest_52 : decode cX6_candidateDigest 52 = .ok (.iload 6, 2) := by decide +kernel
theorem dX6_candidateDigest_54 : decode cX6_candidateDigest 54 = .ok (.invokevirtual 184, 3) := by decide +kernel
theorem dX6_candidateDigest_57 : decode cX6_candidateDigest 57 = .ok (.i2l, 1) := by decide +kernel
theorem dX6_candidateDigest_58 : decode cX6_candidateDigest 58 = .ok (.ladd, 1) := by decide +kernel
theorem dX6_candidateDigest_59 : decode cX6_candidateDigest 59 = .ok (.lstore 4, 2) := by decide +kernel
theorem dX6_candidateDigest_61 : decode cX6_candidateDigest 61 = .ok (.iinc 6 1, 3) := by decide +kernel
theorem dX6_candidateDigest_64 : decode cX6_candidateDigest 64 = .ok (.goto (-26), 3) := by decide +kernel
theorem dX6_candidateDigest_67 : decode cX6_candidateDigest 67 = .ok (.ldc2_w 282, 3) := by decide +kernel
theorem dX6_candidateDigest_70 : decode cX6_candidateDigest 70 = .ok (.lload 4, 2) := by decide +kernel
theorem dX6_candidateDigest_72 : decode cX6_candidateDigest 72 = .ok (.lmul, 1) := by decide +kernel
theorem dX6_candidateDigest_73 : decode cX6_candidateDigest 73 = .ok (.aload_n 0, 1) := by decide +kernel
theorem dX6_candidateDigest_74 : decode cX6_candidateDigest 74 = .ok (.iload_n 3, 1) := by decide +kernel
theorem dX6_candidateDigest_75 : decode cX6_candidateDigest 75 = .ok (.iconst 0, 1) := by decide +kernel
theorem dX6_candidateDigest_76 : decode cX6_candidateDigest 76 = .ok (.invokevirtual 199, 3) := by decide +kernel
theorem dX6_candidateDigest_79 : decode cX6_candidateDigest 79 = .ok (.i2l, 1) := by decide +kernel
theorem dX6_candidateDigest_80 : decode cX6_candidateDigest 80 = .ok (.ladd, 1) := by decide +kernel
theorem dX6_candidateDigest_81 : decode cX6_candidateDigest 81 = .ok (.lstore 4, 2) := by decide +kernel
theorem dX6_candidateDigest_83 : decode cX6_candidateDigest 83 = .ok (.ldc2_w 282, 3) := by decide +kernel
theorem dX6_candidateDigest_86 : decode cX6_candidateDigest 86 = .ok (.lload 4, 2) := by decide +kernel
theorem dX6_candidateDigest_88 : decode cX6_candidateDigest 88 = .ok (.lmul, 1) := by decide +kernel
theorem dX6_candidateDigest_89 : decode cX6_candidateDigest 89 = .ok (.aload_n 0, 1) := by decide +kernel
theorem dX6_candidateDigest_90 : decode cX6_candidateDigest 90 = .ok (.iload_n 3, 1) := by decide +kernel
theorem dX6_candidateDigest_91 : decode cX6_candidateDigest 91 = .ok (.iconst 1, 1) := by decide +kernel
theorem dX6_candidateDigest_92 : decode cX6_candidateDigest 92 = .ok (.invokevirtual 199, 3) := by decide +kernel
theorem dX6_candidateDigest_95 : decode cX6_candidateDigest 95 = .ok (.i2l, 1) := by decide +kernel
theorem dX6_candidateDigest_96 : decode cX6_candidateDigest 96 = .ok (.ladd, 1) := by decide +kernel
theorem dX6_candidateDigest_97 : decode cX6_candidateDigest 97 = .ok (.lstore 4, 2) := by decide +kernel
theorem dX6_candidateDigest_99 : decode cX6_candidateDigest 99 = .ok (.ldc2_w 282, 3) := by decide +kernel
theorem dX6_candidateDigest_102 : decode cX6_candidateDigest 102 = .ok (.lload 4, 2) := by decide +kernel
theorem dX6_candidateDigest_104 : decode cX6_candidateDigest 104 = .ok (.lmul, 1) := by decide +kernel
theorem dX6_candidateDigest_105 : decode cX6_candidateDigest 105 = .ok (.aload_n 0, 1) := by decide +kernel
theorem dX6_candidateDigest_106 : decode cX6_candidateDigest 106 = .ok (.iload_n 3, 1) := by decide +kernel
theorem dX6_candidateDigest_107 : decode cX6_candidateDigest 107 = .ok (.invokevirtual 205, 3) := by decide +kernel
theorem dX6_candidateDigest_110 : decode cX6_candidateDigest 110 = .ok (.i2l, 1) := by decide +kernel
theorem dX6_candidateDigest_111 : decode cX6_candidateDigest 111 = .ok (.ladd, 1) := by decide +kernel
theorem dX6_candidateDigest_112 : decode cX6_candidateDigest 112 = .ok (.lstore 4, 2) := by decide +kernel
theorem dX6_candidateDigest_114 : decode cX6_candidateDigest 114 = .ok (.ldc2_w 282, 3) := by decide +kernel
theorem dX6_candidateDigest_117 : decode cX6_candidateDigest 117 = .ok (.lload 4, 2) := by decide +kernel
theorem dX6_candidateDigest_119 : decode cX6_candidateDigest 119 = .ok (.lmul, 1) := by decide +kernel
theorem dX6_candidateDigest_120 : decode cX6_candidateDigest 120 = .ok (.aload_n 0, 1) := by decide +kernel
theorem dX6_candidateDigest_121 : decode cX6_candidateDigest 121 = .ok (.iload_n 3, 1) := by decide +kernel
theorem dX6_candidateDigest_122 : decode cX6_candidateDigest 122 = .ok (.invokevirtual 214, 3) := by decide +kernel
theorem dX6_candidateDigest_125 : decode cX6_candidateDigest 125 = .ok (.i2l, 1) := by decide +kernel
theorem dX6_candidateDigest_126 : decode cX6_candidateDigest 126 = .ok (.ladd, 1) := by decide +kernel
theorem dX6_candidateDigest_127 : decode cX6_candidateDigest 127 = .ok (.lstore 4, 2) := by decide +kernel
theorem dX6_candidateDigest_129 : decode cX6_candidateDigest 129 = .ok (.ldc2_w 282, 3) := by decide +kernel
theorem dX6_candidateDigest_132 : decode cX6_candidateDigest 132 = .ok (.lload 4, 2) := by decide +kernel
theorem dX6_candidateDigest_134 : decode cX6_candidateDigest 134 = .ok (.lmul, 1) := by decide +kernel
theorem dX6_candidateDigest_135 : decode cX6_candidateDigest 135 = .ok (.aload_n 0, 1) := by decide +kernel
theorem dX6_candidateDigest_136 : decode cX6_candidateDigest 136 = .ok (.iload_n 3, 1) := by decide +kernel
theorem dX6_candidateDigest_137 : decode cX6_candidateDigest 137 = .ok (.invokevirtual 239, 3) := by decide +kernel
theorem dX6_candidateDigest_140 : decode cX6_candidateDigest 140 = .ok (.i2l, 1) := by decide +kernel
theorem dX6_candidateDigest_141 : decode cX6_candidateDigest 141 = .ok (.ladd, 1) := by decide +kernel
theorem dX6_candidateDigest_142 : decode cX6_candidateDigest 142 = .ok (.lstore 4, 2) := by decide +kernel
theorem dX6_candidateDigest_144 : decode cX6_candidateDigest 144 = .ok (.ldc2_w 282, 3) := by decide +kernel
theorem dX6_candidateDigest_147 : decode cX6_candidateDigest 147 = .ok (.lload 4, 2) := by decide +kernel
theorem dX6_candidateDigest_149 : decode cX6_candidateDigest 149 = .ok (.lmul, 1) := by decide +kernel
theorem dX6_candidateDigest_150 : decode cX6_candidateDigest 150 = .ok (.aload_n 0, 1) := by decide +kernel
theorem dX6_candidateDigest_151 : decode cX6_candidateDigest 151 = .ok (.iconst 5, 1) := by decide +kernel
theorem dX6_candidateDigest_152 : decode cX6_candidateDigest 152 = .ok (.iload_n 3, 1) := by decide +kernel
theorem dX6_candidateDigest_153 : decode cX6_candidateDigest 153 = .ok (.iconst 0, 1) := by decide +kernel
theorem dX6_candidateDigest_154 : decode cX6_candidateDigest 154 = .ok (.invokevirtual 252, 3) := by decide +kernel
theorem dX6_candidateDigest_157 : decode cX6_candidateDigest 157 = .ok (.ladd, 1) := by decide +kernel
theorem dX6_candidateDigest_158 : decode cX6_candidateDigest 158 = .ok (.lstore 4, 2) := by decide +kernel
theorem dX6_candidateDigest_160 : decode cX6_candidateDigest 160 = .ok (.ldc2_w 282, 3) := by decide +kernel
theorem dX6_candidateDigest_163 : decode cX6_candidateDigest 163 = .ok (.lload 4, 2) := by decide +kernel
theorem dX6_candidateDigest_165 : decode cX6_candidateDigest 165 = .ok (.lmul, 1) := by decide +kernel
theorem dX6_candidateDigest_166 : decode cX6_candidateDigest 166 = .ok (.aload_n 0, 1) := by decide +kernel
theorem dX6_candidateDigest_167 : decode cX6_candidateDigest 167 = .ok (.iconst 5, 1) := by decide +kernel
theorem dX6_candidateDigest_168 : decode cX6_candidateDigest 168 = .ok (.iload_n 3, 1) := by decide +kernel
theorem dX6_candidateDigest_169 : decode cX6_candidateDigest 169 = .ok (.iconst 1, 1) := by decide +kernel
theorem dX6_candidateDigest_170 : decode cX6_candidateDigest 170 = .ok (.invokevirtual 252, 3) := by decide +kernel
theorem dX6_candidateDigest_173 : decode cX6_candidateDigest 173 = .ok (.ladd, 1) := by decide +kernel
theorem dX6_candidateDigest_174 : decode cX6_candidateDigest 174 = .ok (.lstore 4, 2) := by decide +kernel
theorem dX6_candidateDigest_176 : decode cX6_candidateDigest 176 = .ok (.aload_n 0, 1) := by decide +kernel
theorem dX6_candidateDigest_177 : decode cX6_candidateDigest 177 = .ok (.invokevirtual 131, 3) := by decide +kernel
theorem dX6_candidateDigest_180 : decode cX6_candidateDigest 180 = .ok (.lload 4, 2) := by decide +kernel
theorem dX6_candidateDigest_182 : decode cX6_candidateDigest 182 = .ok (.lreturn, 1) := by decide +kernel
theorem dX6_digest_0 : decode cX6_digest 0 = .ok (.ldc2_w 284, 3) := by decide +kernel
theorem dX6_digest_3 : decode cX6_digest 3 = .ok (.lstore_n 1, 1) := by decide +kernel
theorem dX6_digest_4 : decode cX6_digest 4 = .ok (.iconst 0, 1) := by decide +kernel
theorem dX6_digest_5 : decode cX6_digest 5 = .ok (.istore_n 3, 1) := by decide +kernel
theorem dX6_digest_6 : decode cX6_digest 6 = .ok (.iload_n 3, 1) := by decide +kernel
theorem dX6_digest_7 : decode cX6_digest 7 = .ok (.bipush 8, 2) := by decide +kernel
theorem dX6_digest_9 : decode cX6_digest 9 = .ok (.if_icmp .ge 22, 3) := by decide +kernel
theorem dX6_digest_12 : decode cX6_digest 12 = .ok (.ldc2_w 282, 3) := by decide +kernel
theorem dX6_digest_15 : decode cX6_digest 15 = .ok (.lload_n 1, 1) := by decide +kernel
theorem dX6_digest_16 : decode cX6_digest 16 = .ok (.lmul, 1) := by decide +kernel
theorem dX6_digest_17 : decode cX6_digest 17 = .ok (.aload_n 0, 1) := by decide +kernel
theorem dX6_digest_18 : decode cX6_digest 18 = .ok (.iload_n 3, 1) := by decide +kernel
theorem dX6_digest_19 : decode cX6_digest 19 = .ok (.invokevirtual 286, 3) := by decide +kernel
theorem dX6_digest_22 : decode cX6_digest 22 = .ok (.i2l, 1) := by decide +kernel
theorem dX6_digest_23 : decode cX6_digest 23 = .ok (.ladd, 1) := by decide +kernel
theorem dX6_digest_24 : decode cX6_digest 24 = .ok (.lstore_n 1, 1) := by decide +kernel
theorem dX6_digest_25 : decode cX6_digest 25 = .ok (.iinc 3 1, 3) := by decide +kernel
theorem dX6_digest_28 : decode cX6_digest 28 = .ok (.goto (-22), 3) := by decide +kernel
theorem dX6_digest_31 : decode cX6_digest 31 = .ok (.iconst 0, 1) := by decide +kernel
theorem dX6_digest_32 : decode cX6_digest 32 = .ok (.istore_n 3, 1) := by decide +kernel
theorem dX6_digest_33 : decode cX6_digest 33 = .ok (.iload_n 3, 1) := by decide +kernel
theorem dX6_digest_34 : decode cX6_digest 34 = .ok (.iconst 3, 1) := by decide +kernel
theorem dX6_digest_35 : decode cX6_digest 35 = .ok (.if_icmp .ge 22, 3) := by decide +kernel
theorem dX6_digest_38 : decode cX6_digest 38 = .ok (.ldc2_w 282, 3) := by decide +kernel
theorem dX6_digest_41 : decode cX6_digest 41 = .ok (.lload_n 1, 1) := by decide +kernel
theorem dX6_digest_42 : decode cX6_digest 42 = .ok (.lmul, 1) := by decide +kernel
theorem dX6_digest_43 : decode cX6_digest 43 = .ok (.aload_n 0, 1) := by decide +kernel
theorem dX6_digest_44 : decode cX6_digest 44 = .ok (.iload_n 3, 1) := by decide +kernel
theorem dX6_digest_45 : decode cX6_digest 45 = .ok (.invokevirtual 128, 3) := by decide +kernel
theorem dX6_digest_48 : decode cX6_digest 48 = .ok (.i2l, 1) := by decide +kernel
theorem dX6_digest_49 : decode cX6_digest 49 = .ok (.ladd, 1) := by decide +kernel
theorem dX6_digest_50 : decode cX6_digest 50 = .ok (.lstore_n 1, 1) := by decide +kernel
theorem dX6_digest_51 : decode cX6_digest 51 = .ok (.iinc 3 1, 3) := by decide +kernel
theorem dX6_digest_54 : decode cX6_digest 54 = .ok (.goto (-21), 3) := by decide +kernel
theorem dX6_digest_57 : decode cX6_digest 57 = .ok (.iconst 0, 1) := by decide +kernel
theorem dX6_digest_58 : decode cX6_digest 58 = .ok (.istore_n 3, 1) := by decide +kernel
theorem dX6_digest_59 : decode cX6_digest 59 = .ok (.iload_n 3, 1) := by decide +kernel
theorem dX6_digest_60 : decode cX6_digest 60 = .ok (.aload_n 0, 1) := by decide +kernel
theorem dX6_digest_61 : decode cX6_digest 61 = .ok (.getfield 94, 3) := by decide +kernel
theorem dX6_digest_64 : decode cX6_digest 64 = .ok (.if_icmp .ge 31, 3) := by decide +kernel
theorem dX6_digest_67 : decode cX6_digest 67 = .ok (.ldc2_w 282, 3) := by decide +kernel
theorem dX6_digest_70 : decode cX6_digest 70 = .ok (.lload_n 1, 1) := by decide +kernel
theorem dX6_digest_71 : decode cX6_digest 71 = .ok (.lmul, 1) := by decide +kernel
theorem dX6_digest_72 : decode cX6_digest 72 = .ok (.aload_n 0, 1) := by decide +kernel
theorem dX6_digest_73 : decode cX6_digest 73 = .ok (.getfield 16, 3) := by decide +kernel
theorem dX6_digest_76 : decode cX6_digest 76 = .ok (.iload_n 3, 1) := by decide +kernel
theorem dX6_digest_77 : decode cX6_digest 77 = .ok (.baload, 1) := by decide +kernel
theorem dX6_digest_78 : decode cX6_digest 78 = .ok (.ifCond .eq 7, 3) := by decide +kernel
theorem dX6_digest_81 : decode cX6_digest 81 = .ok (.iconst 1, 1) := by decide +kernel
theorem dX6_digest_82 : decode cX6_digest 82 = .ok (.goto 4, 3) := by decide +kernel
theorem dX6_digest_85 : decode cX6_digest 85 = .ok (.iconst 0, 1) := by decide +kernel
theorem dX6_digest_86 : decode cX6_digest 86 = .ok (.i2l, 1) := by decide +kernel
theorem dX6_digest_87 : decode cX6_digest 87 = .ok (.ladd, 1) := by decide +kernel
theorem dX6_digest_88 : decode cX6_digest 88 = .ok (.lstore_n 1, 1) := by decide +kernel
theorem dX6_digest_89 : decode cX6_digest 89 = .ok (.iinc 3 1, 3) := by decide +kernel
theorem dX6_digest_92 : decode cX6_digest 92 = .ok (.goto (-33), 3) := by decide +kernel
theorem dX6_digest_95 : decode cX6_digest 95 = .ok (.iconst 0, 1) := by decide +kernel
theorem dX6_digest_96 : decode cX6_digest 96 = .ok (.istore_n 3, 1) := by decide +kernel
theorem dX6_digest_97 : decode cX6_digest 97 = .ok (.iload_n 3, 1) := by decide +kernel
theorem dX6_digest_98 : decode cX6_digest 98 = .ok (.aload_n 0, 1) := by decide +kernel
theorem dX6_digest_99 : decode cX6_digest 99 = .ok (.getfield 101, 3) := by decide +kernel
theorem dX6_digest_102 : decode cX6_digest 102 = .ok (.if_icmp .ge 16, 3) := by decide +kernel
theorem dX6_digest_105 : decode cX6_digest 105 = .ok (.aload_n 0, 1) := by decide +kernel
theorem dX6_digest_106 : decode cX6_digest 106 = .ok (.lload_n 1, 1) := by decide +kernel
theorem dX6_digest_107 : decode cX6_digest 107 = .ok (.iload_n 3, 1) := by decide +kernel
theorem dX6_digest_108 : decode cX6_digest 108 = .ok (.invokevirtual 289, 3) := by decide +kernel
theorem dX6_digest_111 : decode cX6_digest 111 = .ok (.lstore_n 1, 1) := by decide +kernel
theorem dX6_digest_112 : decode cX6_digest 112 = .ok (.iinc 3 1, 3) := by decide +kernel
theorem dX6_digest_115 : decode cX6_digest 115 = .ok (.goto (-18), 3) := by decide +kernel
theorem dX6_digest_118 : decode cX6_digest 118 = .ok (.iconst 0, 1) := by decide +kernel
theorem dX6_digest_119 : decode cX6_digest 119 = .ok (.istore_n 3, 1) := by decide +kernel
theorem dX6_digest_120 : decode cX6_digest 120 = .ok (.iload_n 3, 1) := by decide +kernel
theorem dX6_digest_121 : decode cX6_digest 121 = .ok (.aload_n 0, 1) := by decide +kernel
theorem dX6_digest_122 : decode cX6_digest 122 = .ok (.getfield 112, 3) := by decide +kernel
theorem dX6_digest_125 : decode cX6_digest 125 = .ok (.if_icmp .ge 16, 3) := by decide +kernel
theorem dX6_digest_128 : decode cX6_digest 128 = .ok (.aload_n 0, 1) := by decide +kernel
theorem dX6_digest_129 : decode cX6_digest 129 = .ok (.lload_n 1, 1) := by decide +kernel
theorem dX6_digest_130 : decode cX6_digest 130 = .ok (.iload_n 3, 1) := by decide +kernel
theorem dX6_digest_131 : decode cX6_digest 131 = .ok (.invokevirtual 293, 3) := by decide +kernel
theorem dX6_digest_134 : decode cX6_digest 134 = .ok (.lstore_n 1, 1) := by decide +kernel
theorem dX6_digest_135 : decode cX6_digest 135 = .ok (.iinc 3 1, 3) := by decide +kernel
theorem dX6_digest_138 : decode cX6_digest 138 = .ok (.goto (-18), 3) := by decide +kernel
theorem dX6_digest_141 : decode cX6_digest 141 = .ok (.ldc2_w 282, 3) := by decide +kernel
theorem dX6_digest_144 : decode cX6_digest 144 = .ok (.lload_n 1, 1) := by decide +kernel
theorem dX6_digest_145 : decode cX6_digest 145 = .ok (.lmul, 1) := by decide +kernel
theorem dX6_digest_146 : decode cX6_digest 146 = .ok (.aload_n 0, 1) := by decide +kernel
theorem dX6_digest_147 : decode cX6_digest 147 = .ok (.iconst 0, 1) := by decide +kernel
theorem dX6_digest_148 : decode cX6_digest 148 = .ok (.invokevirtual 190, 3) := by decide +kernel
theorem dX6_digest_151 : decode cX6_digest 151 = .ok (.i2l, 1) := by decide +kernel
theorem dX6_digest_152 : decode cX6_digest 152 = .ok (.ladd, 1) := by decide +kernel
theorem dX6_digest_153 : decode cX6_digest 153 = .ok (.lstore_n 1, 1) := by decide +kernel
theorem dX6_digest_154 : decode cX6_digest 154 = .ok (.ldc2_w 282, 3) := by decide +kernel
theorem dX6_digest_157 : decode cX6_digest 157 = .ok (.lload_n 1, 1) := by decide +kernel
theorem dX6_digest_158 : decode cX6_digest 158 = .ok (.lmul, 1) := by decide +kernel
theorem dX6_digest_159 : decode cX6_digest 159 = .ok (.aload_n 0, 1) := by decide +kernel
theorem dX6_digest_160 : decode cX6_digest 160 = .ok (.iconst 1, 1) := by decide +kernel
theorem dX6_digest_161 : decode cX6_digest 161 = .ok (.invokevirtual 190, 3) := by decide +kernel
theorem dX6_digest_164 : decode cX6_digest 164 = .ok (.i2l, 1) := by decide +kernel
theorem dX6_digest_165 : decode cX6_digest 165 = .ok (.ladd, 1) := by decide +kernel
theorem dX6_digest_166 : decode cX6_digest 166 = .ok (.lstore_n 1, 1) := by decide +kernel
theorem dX6_digest_167 : decode cX6_digest 167 = .ok (.ldc2_w 282, 3) := by decide +kernel
theorem dX6_digest_170 : decode cX6_digest 170 = .ok (.lload_n 1, 1) := by decide +kernel
theorem dX6_digest_171 : decode cX6_digest 171 = .ok (.lmul, 1) := by decide +kernel
theorem dX6_digest_172 : decode cX6_digest 172 = .ok (.aload_n 0, 1) := by decide +kernel
theorem dX6_digest_173 : decode cX6_digest 173 = .ok (.invokevirtual 193, 3) := by decide +kernel
theorem dX6_digest_176 : decode cX6_digest 176 = .ok (.i2l, 1) := by decide +kernel
theorem dX6_digest_177 : decode cX6_digest 177 = .ok (.ladd, 1) := by decide +kernel
theorem dX6_digest_178 : decode cX6_digest 178 = .ok (.lstore_n 1, 1) := by decide +kernel
theorem dX6_digest_179 : decode cX6_digest 179 = .ok (.ldc2_w 282, 3) := by decide +kernel
theorem dX6_digest_182 : decode cX6_digest 182 = .ok (.lload_n 1, 1) := by decide +kernel
theorem dX6_digest_183 : decode cX6_digest 183 = .ok (.lmul, 1) := by decide +kernel
theorem dX6_digest_184 : decode cX6_digest 184 = .ok (.aload_n 0, 1) := by decide +kernel
theorem dX6_digest_185 : decode cX6_digest 185 = .ok (.iconst 0, 1) := by decide +kernel
theorem dX6_digest_186 : decode cX6_digest 186 = .ok (.invokevirtual 211, 3) := by decide +kernel
theorem dX6_digest_189 : decode cX6_digest 189 = .ok (.i2l, 1) := by decide +kernel
theorem dX6_digest_190 : decode cX6_digest 190 = .ok (.ladd, 1) := by decide +kernel
theorem dX6_digest_191 : decode cX6_digest 191 = .ok (.lstore_n 1, 1) := by decide +kernel
theorem dX6_digest_192 : decode cX6_digest 192 = .ok (.ldc2_w 282, 3) := by decide +kernel
theorem dX6_digest_195 : decode cX6_digest 195 = .ok (.lload_n 1, 1) := by decide +kernel
theorem dX6_digest_196 : decode cX6_digest 196 = .ok (.lmul, 1) := by decide +kernel
theorem dX6_digest_197 : decode cX6_digest 197 = .ok (.aload_n 0, 1) := by decide +kernel
theorem dX6_digest_198 : decode cX6_digest 198 = .ok (.iconst 1, 1) := by decide +kernel
theorem dX6_digest_199 : decode cX6_digest 199 = .ok (.invokevirtual 211, 3) := by decide +kernel
theorem dX6_digest_202 : decode cX6_digest 202 = .ok (.i2l, 1) := by decide +kernel
theorem dX6_digest_203 : decode cX6_digest 203 = .ok (.ladd, 1) := by decide +kernel
theorem dX6_digest_204 : decode cX6_digest 204 = .ok (.lstore_n 1, 1) := by decide +kernel
theorem dX6_digest_205 : decode cX6_digest 205 = .ok (.ldc2_w 282, 3) := by decide +kernel
theorem dX6_digest_208 : decode cX6_digest 208 = .ok (.lload_n 1, 1) := by decide +kernel
theorem dX6_digest_209 : decode cX6_digest 209 = .ok (.lmul, 1) := by decide +kernel
theorem dX6_digest_210 : decode cX6_digest 210 = .ok (.aload_n 0, 1) := by decide +kernel
theorem dX6_digest_211 : decode cX6_digest 211 = .ok (.bipush 7, 2) := by decide +kernel
theorem dX6_digest_213 : decode cX6_digest 213 = .ok (.bipush 9, 2) := by decide +kernel
theorem dX6_digest_215 : decode cX6_digest 215 = .ok (.iconst 0, 1) := by decide +kernel
theorem dX6_digest_216 : decode cX6_digest 216 = .ok (.invokevirtual 264, 3) := by decide +kernel
theorem dX6_digest_219 : decode cX6_digest 219 = .ok (.i2l, 1) := by decide +kernel
theorem dX6_digest_220 : decode cX6_digest 220 = .ok (.ladd, 1) := by decide +kernel
theorem dX6_digest_221 : decode cX6_digest 221 = .ok (.lstore_n 1, 1) := by decide +kernel
theorem dX6_digest_222 : decode cX6_digest 222 = .ok (.ldc2_w 282, 3) := by decide +kernel
theorem dX6_digest_225 : decode cX6_digest 225 = .ok (.lload_n 1, 1) := by decide +kernel
theorem dX6_digest_226 : decode cX6_digest 226 = .ok (.lmul, 1) := by decide +kernel
theorem dX6_digest_227 : decode cX6_digest 227 = .ok (.aload_n 0, 1) := by decide +kernel
theorem dX6_digest_228 : decode cX6_digest 228 = .ok (.bipush 7, 2) := by decide +kernel
theorem dX6_digest_230 : decode cX6_digest 230 = .ok (.bipush 9, 2) := by decide +kernel
theorem dX6_digest_232 : decode cX6_digest 232 = .ok (.iconst 1, 1) := by decide +kernel
theorem dX6_digest_233 : decode cX6_digest 233 = .ok (.invokevirtual 264, 3) := by decide +kernel
theorem dX6_digest_236 : decode cX6_digest 236 = .ok (.i2l, 1) := by decide +kernel
theorem dX6_digest_237 : decode cX6_digest 237 = .ok (.ladd, 1) := by decide +kernel
theorem dX6_digest_238 : decode cX6_digest 238 = .ok (.lreturn, 1) := by decide +kernel
