theorem dX5_init_0 : decode cX5_init 0 = .ok (.aload_n 0, 1) := by decide +kernel
theorem dX5_init_1 : decode cX5_init 1 = .ok (.invokespecial 1, 3) := by decide +kernel
theorem dX5_init_4 : decode cX5_init 4 = .ok (.aload_n 0, 1) := by decide +kernel
theorem dX5_init_5 : decode cX5_init 5 = .ok (.iconst 3, 1) := by decide +kernel
theorem dX5_init_6 : decode cX5_init 6 = .ok (.anewarray 9, 3) := by decide +kernel
theorem dX5_init_9 : decode cX5_init 9 = .ok (.putfield 11, 3) := by decide +kernel
theorem dX5_init_12 : decode cX5_init 12 = .ok (.aload_n 0, 1) := by decide +kernel
theorem dX5_init_13 : decode cX5_init 13 = .ok (.iconst 3, 1) := by decide +kernel
theorem dX5_init_14 : decode cX5_init 14 = .ok (.newarray .int, 2) := by decide +kernel
theorem dX5_init_16 : decode cX5_init 16 = .ok (.putfield 15, 3) := by decide +kernel
theorem dX5_init_19 : decode cX5_init 19 = .ok (.aload_n 0, 1) := by decide +kernel
theorem dX5_init_20 : decode cX5_init 20 = .ok (.new 19, 3) := by decide +kernel
theorem dX5_init_23 : decode cX5_init 23 = .ok (.dup, 1) := by decide +kernel
theorem dX5_init_24 : decode cX5_init 24 = .ok (.invokespecial 21, 3) := by decide +kernel
theorem dX5_init_27 : decode cX5_init 27 = .ok (.putfield 22, 3) := by decide +kernel
theorem dX5_init_30 : decode cX5_init 30 = .ok (.aload_n 0, 1) := by decide +kernel
theorem dX5_init_31 : decode cX5_init 31 = .ok (.new 19, 3) := by decide +kernel
theorem dX5_init_34 : decode cX5_init 34 = .ok (.dup, 1) := by decide +kernel
theorem dX5_init_35 : decode cX5_init 35 = .ok (.invokespecial 21, 3) := by decide +kernel
theorem dX5_init_38 : decode cX5_init 38 = .ok (.putfield 26, 3) := by decide +kernel
theorem dX5_init_41 : decode cX5_init 41 = .ok (.aload_n 0, 1) := by decide +kernel
theorem dX5_init_42 : decode cX5_init 42 = .ok (.new 29, 3) := by decide +kernel
theorem dX5_init_45 : decode cX5_init 45 = .ok (.dup, 1) := by decide +kernel
theorem dX5_init_46 : decode cX5_init 46 = .ok (.invokespecial 31, 3) := by decide +kernel
theorem dX5_init_49 : decode cX5_init 49 = .ok (.putfield 32, 3) := by decide +kernel
theorem dX5_init_52 : decode cX5_init 52 = .ok (.aload_n 0, 1) := by decide +kernel
theorem dX5_init_53 : decode cX5_init 53 = .ok (.iconst 4, 1) := by decide +kernel
theorem dX5_init_54 : decode cX5_init 54 = .ok (.anewarray 36, 3) := by decide +kernel
theorem dX5_init_57 : decode cX5_init 57 = .ok (.putfield 38, 3) := by decide +kernel
theorem dX5_init_60 : decode cX5_init 60 = .ok (.aload_n 0, 1) := by decide +kernel
theorem dX5_init_61 : decode cX5_init 61 = .ok (.iconst 0, 1) := by decide +kernel
theorem dX5_init_62 : decode cX5_init 62 = .ok (.putfield 42, 3) := by decide +kernel
theorem dX5_init_65 : decode cX5_init 65 = .ok (.aload_n 0, 1) := by decide +kernel
theorem dX5_init_66 : decode cX5_init 66 = .ok (.iconst (-1), 1) := by decide +kernel
theorem dX5_init_67 : decode cX5_init 67 = .ok (.putfield 46, 3) := by decide +kernel
theorem dX5_init_70 : decode cX5_init 70 = .ok (.aload_n 0, 1) := by decide +kernel
theorem dX5_init_71 : decode cX5_init 71 = .ok (.lconst 0, 1) := by decide +kernel
theorem dX5_init_72 : decode cX5_init 72 = .ok (.putfield 49, 3) := by decide +kernel
theorem dX5_init_75 : decode cX5_init 75 = .ok (.aload_n 0, 1) := by decide +kernel
theorem dX5_init_76 : decode cX5_init 76 = .ok (.bipush 108, 2) := by decide +kernel
theorem dX5_init_78 : decode cX5_init 78 = .ok (.newarray .int, 2) := by decide +kernel
theorem dX5_init_80 : decode cX5_init 80 = .ok (.putfield 53, 3) := by decide +kernel
theorem dX5_init_83 : decode cX5_init 83 = .ok (.aload_n 0, 1) := by decide +kernel
theorem dX5_init_84 : decode cX5_init 84 = .ok (.iconst (-1), 1) := by decide +kernel
theorem dX5_init_85 : decode cX5_init 85 = .ok (.putfield 56, 3) := by decide +kernel
theorem dX5_init_88 : decode cX5_init 88 = .ok (.aload_n 0, 1) := by decide +kernel
theorem dX5_init_89 : decode cX5_init 89 = .ok (.bipush 8, 2) := by decide +kernel
theorem dX5_init_91 : decode cX5_init 91 = .ok (.newarray .long, 2) := by decide +kernel
theorem dX5_init_93 : decode cX5_init 93 = .ok (.putfield 59, 3) := by decide +kernel
theorem dX5_init_96 : decode cX5_init 96 = .ok (.aload_n 0, 1) := by decide +kernel
theorem dX5_init_97 : decode cX5_init 97 = .ok (.bipush 13, 2) := by decide +kernel
theorem dX5_init_99 : decode cX5_init 99 = .ok (.newarray .long, 2) := by decide +kernel
theorem dX5_init_101 : decode cX5_init 101 = .ok (.putfield 63, 3) := by decide +kernel
theorem dX5_init_104 : decode cX5_init 104 = .ok (.aload_n 0, 1) := by decide +kernel
theorem dX5_init_105 : decode cX5_init 105 = .ok (.getfield 11, 3) := by decide +kernel
theorem dX5_init_108 : decode cX5_init 108 = .ok (.iconst 0, 1) := by decide +kernel
theorem dX5_init_109 : decode cX5_init 109 = .ok (.new 9, 3) := by decide +kernel
theorem dX5_init_112 : decode cX5_init 112 = .ok (.dup, 1) := by decide +kernel
theorem dX5_init_113 : decode cX5_init 113 = .ok (.bipush 29, 2) := by decide +kernel
theorem dX5_init_115 : decode cX5_init 115 = .ok (.invokespecial 66, 3) := by decide +kernel
theorem dX5_init_118 : decode cX5_init 118 = .ok (.aastore, 1) := by decide +kernel
theorem dX5_init_119 : decode cX5_init 119 = .ok (.aload_n 0, 1) := by decide +kernel
theorem dX5_init_120 : decode cX5_init 120 = .ok (.getfield 11, 3) := by decide +kernel
theorem dX5_init_123 : decode cX5_init 123 = .ok (.iconst 1, 1) := by decide +kernel
theorem dX5_init_124 : decode cX5_init 124 = .ok (.new 9, 3) := by decide +kernel
theorem dX5_init_127 : decode cX5_init 127 = .ok (.dup, 1) := by decide +kernel
theorem dX5_init_128 : decode cX5_init 128 = .ok (.bipush 24, 2) := by decide +kernel
theorem dX5_init_130 : decode cX5_init 130 = .ok (.invokespecial 66, 3) := by decide +kernel
theorem dX5_init_133 : decode cX5_init 133 = .ok (.aastore, 1) := by decide +kernel
theorem dX5_init_134 : decode cX5_init 134 = .ok (.aload_n 0, 1) := by decide +kernel
theorem dX5_init_135 : decode cX5_init 135 = .ok (.getfield 11, 3) := by decide +kernel
theorem dX5_init_138 : decode cX5_init 138 = .ok (.iconst 2, 1) := by decide +kernel
theorem dX5_init_139 : decode cX5_init 139 = .ok (.new 9, 3) := by decide +kernel
theorem dX5_init_142 : decode cX5_init 142 = .ok (.dup, 1) := by decide +kernel
theorem dX5_init_143 : decode cX5_init 143 = .ok (.bipush 39, 2) := by decide +kernel
theorem dX5_init_145 : decode cX5_init 145 = .ok (.invokespecial 66, 3) := by decide +kernel
theorem dX5_init_148 : decode cX5_init 148 = .ok (.aastore, 1) := by decide +kernel
theorem dX5_init_149 : decode cX5_init 149 = .ok (.iconst 0, 1) := by decide +kernel
theorem dX5_init_150 : decode cX5_init 150 = .ok (.istore_n 1, 1) := by decide +kernel
theorem dX5_init_151 : decode cX5_init 151 = .ok (.iload_n 1, 1) := by decide +kernel
theorem dX5_init_152 : decode cX5_init 152 = .ok (.iconst 4, 1) := by decide +kernel
theorem dX5_init_153 : decode cX5_init 153 = .ok (.if_icmp .ge 22, 3) := by decide +kernel
theorem dX5_init_156 : decode cX5_init 156 = .ok (.aload_n 0, 1) := by decide +kernel
theorem dX5_init_157 : decode cX5_init 157 = .ok (.getfield 38, 3) := by decide +kernel
theorem dX5_init_160 : decode cX5_init 160 = .ok (.iload_n 1, 1) := by decide +kernel
theorem dX5_init_161 : decode cX5_init 161 = .ok (.new 36, 3) := by decide +kernel
theorem dX5_init_164 : decode cX5_init 164 = .ok (.dup, 1) := by decide +kernel
theorem dX5_init_165 : decode cX5_init 165 = .ok (.invokespecial 69, 3) := by decide +kernel
theorem dX5_init_168 : decode cX5_init 168 = .ok (.aastore, 1) := by decide +kernel
theorem dX5_init_169 : decode cX5_init 169 = .ok (.iinc 1 1, 3) := by decide +kernel
theorem dX5_init_172 : decode cX5_init 172 = .ok (.goto (-21), 3) := by decide +kernel
theorem dX5_init_175 : decode cX5_init 175 = .ok (.iconst 0, 1) := by decide +kernel
theorem dX5_init_176 : decode cX5_init 176 = .ok (.istore_n 1, 1) := by decide +kernel
theorem dX5_init_177 : decode cX5_init 177 = .ok (.iload_n 1, 1) := by decide +kernel
theorem dX5_init_178 : decode cX5_init 178 = .ok (.iconst 3, 1) := by decide +kernel
theorem dX5_init_179 : decode cX5_init 179 = .ok (.if_icmp .ge 16, 3) := by decide +kernel
theorem dX5_init_182 : decode cX5_init 182 = .ok (.aload_n 0, 1) := by decide +kernel
theorem dX5_init_183 : decode cX5_init 183 = .ok (.getfield 15, 3) := by decide +kernel
theorem dX5_init_186 : decode cX5_init 186 = .ok (.iload_n 1, 1) := by decide +kernel
theorem dX5_init_187 : decode cX5_init 187 = .ok (.iconst (-1), 1) := by decide +kernel
theorem dX5_init_188 : decode cX5_init 188 = .ok (.iastore, 1) := by decide +kernel
theorem dX5_init_189 : decode cX5_init 189 = .ok (.iinc 1 1, 3) := by decide +kernel
theorem dX5_init_192 : decode cX5_init 192 = .ok (.goto (-15), 3) := by decide +kernel
theorem dX5_init_195 : decode cX5_init 195 = .ok (.return_, 1) := by decide +kernel
theorem dX5_type_0 : decode cX5_type 0 = .ok (.iload_n 1, 1) := by decide +kernel
theorem dX5_type_1 : decode cX5_type 1 = .ok (.invokestatic 70, 3) := by decide +kernel
theorem dX5_type_4 : decode cX5_type 4 = .ok (.ifCond .eq 14, 3) := by decide +kernel
theorem dX5_type_7 : decode cX5_type 7 = .ok (.iload_n 2, 1) := by decide +kernel
theorem dX5_type_8 : decode cX5_type 8 = .ok (.ifCond .lt 10, 3) := by decide +kernel
theorem dX5_type_11 : decode cX5_type 11 = .ok (.iload_n 2, 1) := by decide +kernel
theorem dX5_type_12 : decode cX5_type 12 = .ok (.sipush 255, 3) := by decide +kernel
theorem dX5_type_15 : decode cX5_type 15 = .ok (.if_icmp .le 6, 3) := by decide +kernel
theorem dX5_type_18 : decode cX5_type 18 = .ok (.bipush (-2), 2) := by decide +kernel
theorem dX5_type_20 : decode cX5_type 20 = .ok (.ireturn, 1) := by decide +kernel
theorem dX5_type_21 : decode cX5_type 21 = .ok (.aload_n 0, 1) := by decide +kernel
theorem dX5_type_22 : decode cX5_type 22 = .ok (.getfield 11, 3) := by decide +kernel
theorem dX5_type_25 : decode cX5_type 25 = .ok (.iload_n 1, 1) := by decide +kernel
theorem dX5_type_26 : decode cX5_type 26 = .ok (.aaload, 1) := by decide +kernel
theorem dX5_type_27 : decode cX5_type 27 = .ok (.invokevirtual 74, 3) := by decide +kernel
theorem dX5_type_30 : decode cX5_type 30 = .ok (.ifCond .eq 6, 3) := by decide +kernel
theorem dX5_type_33 : decode cX5_type 33 = .ok (.bipush (-4), 2) := by decide +kernel
theorem dX5_type_35 : decode cX5_type 35 = .ok (.ireturn, 1) := by decide +kernel
theorem dX5_type_36 : decode cX5_type 36 = .ok (.aload_n 0, 1) := by decide +kernel
theorem dX5_type_37 : decode cX5_type 37 = .ok (.getfield 11, 3) := by decide +kernel
theorem dX5_type_40 : decode cX5_type 40 = .ok (.iload_n 1, 1) := by decide +kernel
theorem dX5_type_41 : decode cX5_type 41 = .ok (.aaload, 1) := by decide +kernel
theorem dX5_type_42 : decode cX5_type 42 = .ok (.iload_n 2, 1) := by decide +kernel
theorem dX5_type_43 : decode cX5_type 43 = .ok (.invokevirtual 78, 3) := by decide +kernel
theorem dX5_type_46 : decode cX5_type 46 = .ok (.aload_n 0, 1) := by decide +kernel
theorem dX5_type_47 : decode cX5_type 47 = .ok (.iload_n 1, 1) := by decide +kernel
theorem dX5_type_48 : decode cX5_type 48 = .ok (.invokevirtual 81, 3) := by decide +kernel
theorem dX5_type_51 : decode cX5_type 51 = .ok (.aload_n 0, 1) := by decide +kernel
theorem dX5_type_52 : decode cX5_type 52 = .ok (.getfield 11, 3) := by decide +kernel
theorem dX5_type_55 : decode cX5_type 55 = .ok (.iload_n 1, 1) := by decide +kernel
theorem dX5_type_56 : decode cX5_type 56 = .ok (.aaload, 1) := by decide +kernel
theorem dX5_type_57 : decode cX5_type 57 = .ok (.invokevirtual 84, 3) := by decide +kernel
theorem dX5_type_60 : decode cX5_type 60 = .ok (.ireturn, 1) := by decide +kernel
theorem dX5_wipe_0 : decode cX5_wipe 0 = .ok (.iload_n 1, 1) := by decide +kernel
theorem dX5_wipe_1 : decode cX5_wipe 1 = .ok (.invokestatic 70, 3) := by decide +kernel
theorem dX5_wipe_4 : decode cX5_wipe 4 = .ok (.ifCond .ne 6, 3) := by decide +kernel
theorem dX5_wipe_7 : decode cX5_wipe 7 = .ok (.bipush (-2), 2) := by decide +kernel
theorem dX5_wipe_9 : decode cX5_wipe 9 = .ok (.ireturn, 1) := by decide +kernel
theorem dX5_wipe_10 : decode cX5_wipe 10 = .ok (.aload_n 0, 1) := by decide +kernel
theorem dX5_wipe_11 : decode cX5_wipe 11 = .ok (.getfield 11, 3) := by decide +kernel
theorem dX5_wipe_14 : decode cX5_wipe 14 = .ok (.iload_n 1, 1) := by decide +kernel
theorem dX5_wipe_15 : decode cX5_wipe 15 = .ok (.aaload, 1) := by decide +kernel
theorem dX5_wipe_16 : decode cX5_wipe 16 = .ok (.invokevirtual 84, 3) := by decide +kernel
theorem dX5_wipe_19 : decode cX5_wipe 19 = .ok (.istore_n 2, 1) := by decide +kernel
theorem dX5_wipe_20 : decode cX5_wipe 20 = .ok (.aload_n 0, 1) := by decide +kernel
theorem dX5_wipe_21 : decode cX5_wipe 21 = .ok (.getfield 11, 3) := by decide +kernel
theorem dX5_wipe_24 : decode cX5_wipe 24 = .ok (.iload_n 1, 1) := by decide +kernel
theorem dX5_wipe_25 : decode cX5_wipe 25 = .ok (.aaload, 1) := by decide +kernel
theorem dX5_wipe_26 : decode cX5_wipe 26 = .ok (.iload_n 2, 1) := by decide +kernel
theorem dX5_wipe_27 : decode cX5_wipe 27 = .ok (.invokevirtual 88, 3) := by decide +kernel
theorem dX5_wipe_30 : decode cX5_wipe 30 = .ok (.aload_n 0, 1) := by decide +kernel
theorem dX5_wipe_31 : decode cX5_wipe 31 = .ok (.iload_n 1, 1) := by decide +kernel
theorem dX5_wipe_32 : decode cX5_wipe 32 = .ok (.invokevirtual 81, 3) := by decide +kernel
theorem dX5_wipe_35 : decode cX5_wipe 35 = .ok (.iload_n 2, 1) := by decide +kernel
theorem dX5_wipe_36 : decode cX5_wipe 36 = .ok (.ireturn, 1) := by decide +kernel
theorem dX5_undo_0 : decode cX5_undo 0 = .ok (.iload_n 1, 1) := by decide +kernel
theorem dX5_undo_1 : decode cX5_undo 1 = .ok (.invokestatic 70, 3) := by decide +kernel
theorem dX5_undo_4 : decode cX5_undo 4 = .ok (.ifCond .ne 6, 3) := by decide +kernel
theorem dX5_undo_7 : decode cX5_undo 7 = .ok (.bipush (-2), 2) := by decide +kernel
theorem dX5_undo_9 : decode cX5_undo 9 = .ok (.ireturn, 1) := by decide +kernel
theorem dX5_undo_10 : decode cX5_undo 10 = .ok (.aload_n 0, 1) := by decide +kernel
theorem dX5_undo_11 : decode cX5_undo 11 = .ok (.getfield 11, 3) := by decide +kernel
theorem dX5_undo_14 : decode cX5_undo 14 = .ok (.iload_n 1, 1) := by decide +kernel
theorem dX5_undo_15 : decode cX5_undo 15 = .ok (.aaload, 1) := by decide +kernel
theorem dX5_undo_16 : decode cX5_undo 16 = .ok (.invokevirtual 84, 3) := by decide +kernel
theorem dX5_undo_19 : decode cX5_undo 19 = .ok (.ifCond .ne 6, 3) := by decide +kernel
theorem dX5_undo_22 : decode cX5_undo 22 = .ok (.bipush (-3), 2) := by decide +kernel
theorem dX5_undo_24 : decode cX5_undo 24 = .ok (.ireturn, 1) := by decide +kernel
theorem dX5_undo_25 : decode cX5_undo 25 = .ok (.aload_n 0, 1) := by decide +kernel
theorem dX5_undo_26 : decode cX5_undo 26 = .ok (.getfield 11, 3) := by decide +kernel
theorem dX5_undo_29 : decode cX5_undo 29 = .ok (.iload_n 1, 1) := by decide +kernel
theorem dX5_undo_30 : decode cX5_undo 30 = .ok (.aaload, 1) := by decide +kernel
theorem dX5_undo_31 : decode cX5_undo 31 = .ok (.iconst 1, 1) := by decide +kernel
theorem dX5_undo_32 : decode cX5_undo 32 = .ok (.invokevirtual 88, 3) := by decide +kernel
theorem dX5_undo_35 : decode cX5_undo 35 = .ok (.aload_n 0, 1) := by decide +kernel
theorem dX5_undo_36 : decode cX5_undo 36 = .ok (.iload_n 1, 1) := by decide +kernel
theorem dX5_undo_37 : decode cX5_undo 37 = .ok (.invokevirtual 81, 3) := by decide +kernel
theorem dX5_undo_40 : decode cX5_undo 40 = .ok (.aload_n 0, 1) := by decide +kernel
theorem dX5_undo_41 : decode cX5_undo 41 = .ok (.getfield 11, 3) := by decide +kernel
theorem dX5_undo_44 : decode cX5_undo 44 = .ok (.iload_n 1, 1) := by decide +kernel
theorem dX5_undo_45 : decode cX5_undo 45 = .ok (.aaload, 1) := by decide +kernel
theorem dX5_undo_46 : decode cX5_undo 46 = .ok (.invokevirtual 84, 3) := by decide +kernel
theorem dX5_undo_49 : decode cX5_undo 49 = .ok (.ireturn, 1) := by decide +kernel
theorem dX5_fault_0 : decode cX5_fault 0 = .ok (.iload_n 1, 1) := by decide +kernel
theorem dX5_fault_1 : decode cX5_fault 1 = .ok (.invokestatic 70, 3) := by decide +kernel
theorem dX5_fault_4 : decode cX5_fault 4 = .ok (.ifCond .eq 12, 3) := by decide +kernel
theorem dX5_fault_7 : decode cX5_fault 7 = .ok (.aload_n 0, 1) := by decide +kernel
theorem dX5_fault_8 : decode cX5_fault 8 = .ok (.getfield 15, 3) := by decide +kernel
theorem dX5_fault_11 : decode cX5_fault 11 = .ok (.iload_n 1, 1) := by decide +kernel
theorem dX5_fault_12 : decode cX5_fault 12 = .ok (.iaload, 1) := by decide +kernel
theorem dX5_fault_13 : decode cX5_fault 13 = .ok (.goto 5, 3) := by decide +kernel
theorem dX5_fault_16 : decode cX5_fault 16 = .ok (.bipush (-2), 2) := by decide +kernel
theorem dX5_fault_18 : decode cX5_fault 18 = .ok (.ireturn, 1) := by decide +kernel
theorem dX5_cell_0 : decode cX5_cell 0 = .ok (.iload_n 1, 1) := by decide +kernel
theorem dX5_cell_1 : decode cX5_cell 1 = .ok (.ifCond .lt 9, 3) := by decide +kernel
theorem dX5_cell_4 : decode cX5_cell 4 = .ok (.iload_n 1, 1) := by decide +kernel
theorem dX5_cell_5 : decode cX5_cell 5 = .ok (.bipush 25, 2) := by decide +kernel
theorem dX5_cell_7 : decode cX5_cell 7 = .ok (.if_icmp .lt 6, 3) := by decide +kernel
theorem dX5_cell_10 : decode cX5_cell 10 = .ok (.bipush (-2), 2) := by decide +kernel
theorem dX5_cell_12 : decode cX5_cell 12 = .ok (.ireturn, 1) := by decide +kernel
theorem dX5_cell_13 : decode cX5_cell 13 = .ok (.aload_n 0, 1) := by decide +kernel
theorem dX5_cell_14 : decode cX5_cell 14 = .ok (.getfield 22, 3) := by decide +kernel
theorem dX5_cell_17 : decode cX5_cell 17 = .ok (.getfield 91, 3) := by decide +kernel
theorem dX5_cell_20 : decode cX5_cell 20 = .ok (.iload_n 1, 1) := by decide +kernel
theorem dX5_cell_21 : decode cX5_cell 21 = .ok (.invokevirtual 95, 3) := by decide +kernel
theorem dX5_cell_24 : decode cX5_cell 24 = .ok (.ifCond .ne 5, 3) := by decide +kernel
theorem dX5_cell_27 : decode cX5_cell 27 = .ok (.iconst (-1), 1) := by decide +kernel
theorem dX5_cell_28 : decode cX5_cell 28 = .ok (.ireturn, 1) := by decide +kernel
theorem dX5_cell_29 : decode cX5_cell 29 = .ok (.aload_n 0, 1) := by decide +kernel
theorem dX5_cell_30 : decode cX5_cell 30 = .ok (.getfield 22, 3) := by decide +kernel
theorem dX5_cell_33 : decode cX5_cell 33 = .ok (.getfield 91, 3) := by decide +kernel
theorem dX5_cell_36 : decode cX5_cell 36 = .ok (.iload_n 1, 1) := by decide +kernel
theorem dX5_cell_37 : decode cX5_cell 37 = .ok (.invokevirtual 100, 3) := by decide +kernel
theorem dX5_cell_40 : decode cX5_cell 40 = .ok (.ifCond .eq 7, 3) := by decide +kernel
theorem dX5_cell_43 : decode cX5_cell 43 = .ok (.iconst 1, 1) := by decide +kernel
theorem dX5_cell_44 : decode cX5_cell 44 = .ok (.goto 4, 3) := by decide +kernel
theorem dX5_cell_47 : decode cX5_cell 47 = .ok (.iconst 0, 1) := by decide +kernel
theorem dX5_cell_48 : decode cX5_cell 48 = .ok (.ireturn, 1) := by decide +kernel
theorem dX5_gust_0 : decode cX5_gust 0 = .ok (.aload_n 0, 1) := by decide +kernel
theorem dX5_gust_1 : decode cX5_gust 1 = .ok (.iload_n 1, 1) := by decide +kernel
theorem dX5_gust_2 : decode cX5_gust 2 = .ok (.invokevirtual 103, 3) := by decide +kernel
theorem dX5_gust_5 : decode cX5_gust 5 = .ok (.ifCond .eq 12, 3) := by decide +kernel
theorem dX5_gust_8 : decode cX5_gust 8 = .ok (.iload_n 2, 1) := by decide +kernel
theorem dX5_gust_9 : decode cX5_gust 9 = .ok (.ifCond .lt 8, 3) := by decide +kernel
theorem dX5_gust_12 : decode cX5_gust 12 = .ok (.iload_n 2, 1) := by decide +kernel
theorem dX5_gust_13 : decode cX5_gust 13 = .ok (.iconst 1, 1) := by decide +kernel
theorem dX5_gust_14 : decode cX5_gust 14 = .ok (.if_icmp .le 6, 3) := by decide +kernel
theorem dX5_gust_17 : decode cX5_gust 17 = .ok (.bipush (-2), 2) := by decide +kernel
theorem dX5_gust_19 : decode cX5_gust 19 = .ok (.ireturn, 1) := by decide +kernel
theorem dX5_gust_20 : decode cX5_gust 20 = .ok (.iload_n 2, 1) := by decide +kernel
theorem dX5_gust_21 : decode cX5_gust 21 = .ok (.ifCond .ne 18, 3) := by decide +kernel
theorem dX5_gust_24 : decode cX5_gust 24 = .ok (.aload_n 0, 1) := by decide +kernel
theorem dX5_gust_25 : decode cX5_gust 25 = .ok (.getfield 22, 3) := by decide +kernel
theorem dX5_gust_28 : decode cX5_gust 28 = .ok (.getfield 91, 3) := by decide +kernel
theorem dX5_gust_31 : decode cX5_gust 31 = .ok (.getfield 106, 3) := by decide +kernel
theorem dX5_gust_34 : decode cX5_gust 34 = .ok (.iload_n 1, 1) := by decide +kernel
theorem dX5_gust_35 : decode cX5_gust 35 = .ok (.iaload, 1) := by decide +kernel
theorem dX5_gust_36 : decode cX5_gust 36 = .ok (.goto 15, 3) := by decide +kernel
theorem dX5_gust_39 : decode cX5_gust 39 = .ok (.aload_n 0, 1) := by decide +kernel
theorem dX5_gust_40 : decode cX5_gust 40 = .ok (.getfield 22, 3) := by decide +kernel
theorem dX5_gust_43 : decode cX5_gust 43 = .ok (.getfield 91, 3) := by decide +kernel
theorem dX5_gust_46 : decode cX5_gust 46 = .ok (.getfield 109, 3) := by decide +kernel
theorem dX5_gust_49 : decode cX5_gust 49 = .ok (.iload_n 1, 1) := by decide +kernel
theorem dX5_gust_50 : decode cX5_gust 50 = .ok (.iaload, 1) := by decide +kernel
theorem dX5_gust_51 : decode cX5_gust 51 = .ok (.ireturn, 1) := by decide +kernel
theorem dX5_candidate_0 : decode cX5_candidate 0 = .ok (.aload_n 0, 1) := by decide +kernel
theorem dX5_candidate_1 : decode cX5_candidate 1 = .ok (.iload_n 1, 1) := by decide +kernel
theorem dX5_candidate_2 : decode cX5_candidate 2 = .ok (.invokevirtual 112, 3) := by decide +kernel
theorem dX5_candidate_5 : decode cX5_candidate 5 = .ok (.ifCond .ne 6, 3) := by decide +kernel
theorem dX5_candidate_8 : decode cX5_candidate 8 = .ok (.bipush (-2), 2) := by decide +kernel
theorem dX5_candidate_10 : decode cX5_candidate 10 = .ok (.ireturn, 1) := by decide +kernel
theorem dX5_candidate_11 : decode cX5_candidate 11 = .ok (.iload_n 2, 1) := by decide +kernel
theorem dX5_candidate_12 : decode cX5_candidate 12 = .ok (.tableswitch 88 0 3 #[32, 45, 58, 71], 32) := by decide +kernel
theorem dX5_candidate_44 : decode cX5_candidate 44 = .ok (.aload_n 0, 1) := by decide +kernel
theorem dX5_candidate_45 : decode cX5_candidate 45 = .ok (.getfield 22, 3) := by decide +kernel
theorem dX5_candidate_48 : decode cX5_candidate 48 = .ok (.getfield 91, 3) := by decide +kernel
theorem dX5_candidate_51 : decode cX5_candidate 51 = .ok (.getfield 115, 3) := by decide +kernel
theorem dX5_candidate_54 : decode cX5_candidate 54 = .ok (.iload_n 1, 1) := by decide +kernel
theorem dX5_candidate_55 : decode cX5_candidate 55 = .ok (.iaload, 1) := by decide +kernel
theorem dX5_candidate_56 : decode cX5_candidate 56 = .ok (.ireturn, 1) := by decide +kernel
theorem dX5_candidate_57 : decode cX5_candidate 57 = .ok (.aload_n 0, 1) := by decide +kernel
theorem dX5_candidate_58 : decode cX5_candidate 58 = .ok (.getfield 22, 3) := by decide +kernel
theorem dX5_candidate_61 : decode cX5_candidate 61 = .ok (.getfield 91, 3) := by decide +kernel
theorem dX5_candidate_64 : decode cX5_candidate 64 = .ok (.getfield 118, 3) := by decide +kernel
theorem dX5_candidate_67 : decode cX5_candidate 67 = .ok (.iload_n 1, 1) := by decide +kernel
theorem dX5_candidate_68 : decode cX5_candidate 68 = .ok (.iaload, 1) := by decide +kernel
theorem dX5_candidate_69 : decode cX5_candidate 69 = .ok (.ireturn, 1) := by decide +kernel
theorem dX5_candidate_70 : decode cX5_candidate 70 = .ok (.aload_n 0, 1) := by decide +kernel
theorem dX5_candidate_71 : decode cX5_candidate 71 = .ok (.getfield 22, 3) := by decide +kernel
theorem dX5_candidate_74 : decode cX5_candidate 74 = .ok (.getfield 91, 3) := by decide +kernel
theorem dX5_candidate_77 : decode cX5_candidate 77 = .ok (.getfield 121, 3) := by decide +kernel
theorem dX5_candidate_80 : decode cX5_candidate 80 = .ok (.iload_n 1, 1) := by decide +kernel
theorem dX5_candidate_81 : decode cX5_candidate 81 = .ok (.iaload, 1) := by decide +kernel
theorem dX5_candidate_82 : decode cX5_candidate 82 = .ok (.ireturn, 1) := by decide +kernel
theorem dX5_candidate_83 : decode cX5_candidate 83 = .ok (.aload_n 0, 1) := by decide +kernel
theorem dX5_candidate_84 : decode cX5_candidate 84 = .ok (.getfield 22, 3) := by decide +kernel
theorem dX5_candidate_87 : decode cX5_candidate 87 = .ok (.iload_n 1, 1) := by decide +kernel
theorem dX5_candidate_88 : decode cX5_candidate 88 = .ok (.invokevirtual 124, 3) := by decide +kernel
theorem dX5_candidate_91 : decode cX5_candidate 91 = .ok (.ifCond .eq 7, 3) := by decide +kernel
theorem dX5_candidate_94 : decode cX5_candidate 94 = .ok (.iconst 1, 1) := by decide +kernel
theorem dX5_candidate_95 : decode cX5_candidate 95 = .ok (.goto 4, 3) := by decide +kernel
theorem dX5_candidate_98 : decode cX5_candidate 98 = .ok (.iconst 0, 1) := by decide +kernel
theorem dX5_candidate_99 : decode cX5_candidate 99 = .ok (.ireturn, 1) := by decide +kernel
theorem dX5_candidate_100 : decode cX5_candidate 100 = .ok (.bipush (-2), 2) := by decide +kernel
theorem dX5_candidate_102 : decode cX5_candidate 102 = .ok (.ireturn, 1) := by decide +kernel
theorem dX5_wind_0 : decode cX5_wind 0 = .ok (.aload_n 0, 1) := by decide +kernel
theorem dX5_wind_1 : decode cX5_wind 1 = .ok (.iload_n 1, 1) := by decide +kernel
theorem dX5_wind_2 : decode cX5_wind 2 = .ok (.invokevirtual 103, 3) := by decide +kernel
theorem dX5_wind_5 : decode cX5_wind 5 = .ok (.ifCond .eq 17, 3) := by decide +kernel
theorem dX5_wind_8 : decode cX5_wind 8 = .ok (.aload_n 0, 1) := by decide +kernel
theorem dX5_wind_9 : decode cX5_wind 9 = .ok (.getfield 22, 3) := by decide +kernel
theorem dX5_wind_12 : decode cX5_wind 12 = .ok (.getfield 91, 3) := by decide +kernel
theorem dX5_wind_15 : decode cX5_wind 15 = .ok (.iload_n 2, 1) := by decide +kernel
theorem dX5_wind_16 : decode cX5_wind 16 = .ok (.invokevirtual 95, 3) := by decide +kernel
theorem dX5_wind_19 : decode cX5_wind 19 = .ok (.ifCond .ne 6, 3) := by decide +kernel
theorem dX5_wind_22 : decode cX5_wind 22 = .ok (.bipush (-2), 2) := by decide +kernel
theorem dX5_wind_24 : decode cX5_wind 24 = .ok (.ireturn, 1) := by decide +kernel
theorem dX5_wind_25 : decode cX5_wind 25 = .ok (.aload_n 0, 1) := by decide +kernel
theorem dX5_wind_26 : decode cX5_wind 26 = .ok (.getfield 22, 3) := by decide +kernel
theorem dX5_wind_29 : decode cX5_wind 29 = .ok (.iload_n 1, 1) := by decide +kernel
theorem dX5_wind_30 : decode cX5_wind 30 = .ok (.iload_n 2, 1) := by decide +kernel
theorem dX5_wind_31 : decode cX5_wind 31 = .ok (.invokevirtual 127, 3) := by decide +kernel
theorem dX5_wind_34 : decode cX5_wind 34 = .ok (.ireturn, 1) := by decide +kernel
theorem dX5_ribs_0 : decode cX5_ribs 0 = .ok (.aload_n 0, 1) := by decide +kernel
theorem dX5_ribs_1 : decode cX5_ribs 1 = .ok (.iload_n 1, 1) := by decide +kernel
theorem dX5_ribs_2 : decode cX5_ribs 2 = .ok (.invokevirtual 103, 3) := by decide +kernel
theorem dX5_ribs_5 : decode cX5_ribs 5 = .ok (.ifCond .eq 11, 3) := by decide +kernel
theorem dX5_ribs_8 : decode cX5_ribs 8 = .ok (.aload_n 0, 1) := by decide +kernel
theorem dX5_ribs_9 : decode cX5_ribs 9 = .ok (.iload_n 2, 1) := by decide +kernel
theorem dX5_ribs_10 : decode cX5_ribs 10 = .ok (.invokevirtual 112, 3) := by decide +kernel
theorem dX5_ribs_13 : decode cX5_ribs 13 = .ok (.ifCond .ne 6, 3) := by decide +kernel
theorem dX5_ribs_16 : decode cX5_ribs 16 = .ok (.bipush (-2), 2) := by decide +kernel
theorem dX5_ribs_18 : decode cX5_ribs 18 = .ok (.ireturn, 1) := by decide +kernel
theorem dX5_ribs_19 : decode cX5_ribs 19 = .ok (.aload_n 0, 1) := by decide +kernel
theorem dX5_ribs_20 : decode cX5_ribs 20 = .ok (.getfield 22, 3) := by decide +kernel
theorem dX5_ribs_23 : decode cX5_ribs 23 = .ok (.iload_n 1, 1) := by decide +kernel
theorem dX5_ribs_24 : decode cX5_ribs 24 = .ok (.iload_n 2, 1) := by decide +kernel
theorem dX5_ribs_25 : decode cX5_ribs 25 = .ok (.invokevirtual 131, 3) := by decide +kernel
theorem dX5_ribs_28 : decode cX5_ribs 28 = .ok (.ireturn, 1) := by decide +kernel
theorem dX5_overturns_0 : decode cX5_overturns 0 = .ok (.aload_n 0, 1) := by decide +kernel
theorem dX5_overturns_1 : decode cX5_overturns 1 = .ok (.iload_n 1, 1) := by decide +kernel
theorem dX5_overturns_2 : decode cX5_overturns 2 = .ok (.invokevirtual 112, 3) := by decide +kernel
theorem dX5_overturns_5 : decode cX5_overturns 5 = .ok (.ifCond .ne 6, 3) := by decide +kernel
theorem dX5_overturns_8 : decode cX5_overturns 8 = .ok (.bipush (-2), 2) := by decide +kernel
theorem dX5_overturns_10 : decode cX5_overturns 10 = .ok (.ireturn, 1) := by decide +kernel
theorem dX5_overturns_11 : decode cX5_overturns 11 = .ok (.iload_n 2, 1) := by decide +kernel
theorem dX5_overturns_12 : decode cX5_overturns 12 = .ok (.tableswitch 84 0 3 #[32, 41, 58, 75], 32) := by decide +kernel
theorem dX5_overturns_44 : decode cX5_overturns 44 = .ok (.aload_n 0, 1) := by decide +kernel
theorem dX5_overturns_45 : decode cX5_overturns 45 = .ok (.getfield 22, 3) := by decide +kernel
theorem dX5_overturns_48 : decode cX5_overturns 48 = .ok (.iload_n 1, 1) := by decide +kernel
theorem dX5_overturns_49 : decode cX5_overturns 49 = .ok (.invokevirtual 134, 3) := by decide +kernel
theorem dX5_overturns_52 : decode cX5_overturns 52 = .ok (.ireturn, 1) := by decide +kernel
theorem dX5_overturns_53 : decode cX5_overturns 53 = .ok (.aload_n 0, 1) := by decide +kernel
theorem dX5_overturns_54 : decode cX5_overturns 54 = .ok (.getfield 22, 3) := by decide +kernel
theorem dX5_overturns_57 : decode cX5_overturns 57 = .ok (.iload_n 1, 1) := by decide +kernel
theorem dX5_overturns_58 : decode cX5_overturns 58 = .ok (.invokevirtual 138, 3) := by decide +kernel
theorem dX5_overturns_61 : decode cX5_overturns 61 = .ok (.ifCond .eq 7, 3) := by decide +kernel
theorem dX5_overturns_64 : decode cX5_overturns 64 = .ok (.iconst 1, 1) := by decide +kernel
theorem dX5_overturns_65 : decode cX5_overturns 65 = .ok (.goto 4, 3) := by decide +kernel
theorem dX5_overturns_68 : decode cX5_overturns 68 = .ok (.iconst 0, 1) := by decide +kernel
theorem dX5_overturns_69 : decode cX5_overturns 69 = .ok (.ireturn, 1) := by decide +kernel
theorem dX5_overturns_70 : decode cX5_overturns 70 = .ok (.aload_n 0, 1) := by decide +kernel
theorem dX5_overturns_71 : decode cX5_overturns 71 = .ok (.getfield 22, 3) := by decide +kernel
theorem dX5_overturns_74 : decode cX5_overturns 74 = .ok (.iload_n 1, 1) := by decide +kernel
theorem dX5_overturns_75 : decode cX5_overturns 75 = .ok (.invokevirtual 141, 3) := by decide +kernel
theorem dX5_overturns_78 : decode cX5_overturns 78 = .ok (.ifCond .eq 7, 3) := by decide +kernel
theorem dX5_overturns_81 : decode cX5_overturns 81 = .ok (.iconst 1, 1) := by decide +kernel
theorem dX5_overturns_82 : decode cX5_overturns 82 = .ok (.goto 4, 3) := by decide +kernel
theorem dX5_overturns_85 : decode cX5_overturns 85 = .ok (.iconst 0, 1) := by decide +kernel
theorem dX5_overturns_86 : decode cX5_overturns 86 = .ok (.ireturn, 1) := by decide +kernel
theorem dX5_overturns_87 : decode cX5_overturns 87 = .ok (.aload_n 0, 1) := by decide +kernel
theorem dX5_overturns_88 : decode cX5_overturns 88 = .ok (.getfield 22, 3) := by decide +kernel
theorem dX5_overturns_91 : decode cX5_overturns 91 = .ok (.iload_n 1, 1) := by decide +kernel
theorem dX5_overturns_92 : decode cX5_overturns 92 = .ok (.invokevirtual 144, 3) := by decide +kernel
theorem dX5_overturns_95 : decode cX5_overturns 95 = .ok (.ireturn, 1) := by decide +kernel
theorem dX5_overturns_96 : decode cX5_overturns 96 = .ok (.bipush (-2), 2) := by decide +kernel
theorem dX5_overturns_98 : decode cX5_overturns 98 = .ok (.ireturn, 1) := by decide +kernel
theorem dX5_in_0 : decode cX5_in 0 = .ok (.aload_n 0, 1) := by decide +kernel
theorem dX5_in_1 : decode cX5_in 1 = .ok (.iload_n 1, 1) := by decide +kernel
theorem dX5_in_2 : decode cX5_in 2 = .ok (.invokevirtual 103, 3) := by decide +kernel
theorem dX5_in_5 : decode cX5_in 5 = .ok (.ifCond .eq 14, 3) := by decide +kernel
theorem dX5_in_8 : decode cX5_in 8 = .ok (.aload_n 0, 1) := by decide +kernel
theorem dX5_in_9 : decode cX5_in 9 = .ok (.getfield 22, 3) := by decide +kernel
theorem dX5_in_12 : decode cX5_in 12 = .ok (.iload_n 1, 1) := by decide +kernel
theorem dX5_in_13 : decode cX5_in 13 = .ok (.invokevirtual 147, 3) := by decide +kernel
theorem dX5_in_16 : decode cX5_in 16 = .ok (.goto 5, 3) := by decide +kernel
theorem dX5_in_19 : decode cX5_in 19 = .ok (.bipush (-2), 2) := by decide +kernel
theorem dX5_in_21 : decode cX5_in 21 = .ok (.ireturn, 1) := by decide +kernel
theorem dX5_first_0 : decode cX5_first 0 = .ok (.iload_n 1, 1) := by decide +kernel
theorem dX5_first_1 : decode cX5_first 1 = .ok (.ifCond .lt 8, 3) := by decide +kernel
theorem dX5_first_4 : decode cX5_first 4 = .ok (.iload_n 1, 1) := by decide +kernel
theorem dX5_first_5 : decode cX5_first 5 = .ok (.iconst 1, 1) := by decide +kernel
theorem dX5_first_6 : decode cX5_first 6 = .ok (.if_icmp .le 6, 3) := by decide +kernel
theorem dX5_first_9 : decode cX5_first 9 = .ok (.bipush (-2), 2) := by decide +kernel
theorem dX5_first_11 : decode cX5_first 11 = .ok (.ireturn, 1) := by decide +kernel
theorem dX5_first_12 : decode cX5_first 12 = .ok (.iconst 0, 1) := by decide +kernel
theorem dX5_first_13 : decode cX5_first 13 = .ok (.istore_n 2, 1) := by decide +kernel
theorem dX5_first_14 : decode cX5_first 14 = .ok (.iload_n 2, 1) := by decide +kernel
theorem dX5_first_15 : decode cX5_first 15 = .ok (.aload_n 0, 1) := by decide +kernel
theorem dX5_first_16 : decode cX5_first 16 = .ok (.getfield 22, 3) := by decide +kernel
theorem dX5_first_19 : decode cX5_first 19 = .ok (.getfield 91, 3) := by decide +kernel
theorem dX5_first_22 : decode cX5_first 22 = .ok (.getfield 150, 3) := by decide +kernel
theorem dX5_first_25 : decode cX5_first 25 = .ok (.if_icmp .ge 33, 3) := by decide +kernel
theorem dX5_first_28 : decode cX5_first 28 = .ok (.aload_n 0, 1) := by decide +kernel
theorem dX5_first_29 : decode cX5_first 29 = .ok (.getfield 22, 3) := by decide +kernel
theorem dX5_first_32 : decode cX5_first 32 = .ok (.iload_n 2, 1) := by decide +kernel
theorem dX5_first_33 : decode cX5_first 33 = .ok (.invokevirtual 147, 3) := by decide +kernel
theorem dX5_first_36 : decode cX5_first 36 = .ok (.istore_n 3, 1) := by decide +kernel
theorem dX5_first_37 : decode cX5_first 37 = .ok (.iload_n 3, 1) := by decide +kernel
theorem dX5_first_38 : decode cX5_first 38 = .ok (.iconst (-1), 1) := by decide +kernel
theorem dX5_first_39 : decode cX5_first 39 = .ok (.if_icmp .eq 13, 3) := by decide +kernel
theorem dX5_first_42 : decode cX5_first 42 = .ok (.iload_n 1, 1) := by decide +kernel
theorem dX5_first_43 : decode cX5_first 43 = .ok (.ifCond .ne 7, 3) := by decide +kernel
theorem dX5_first_46 : decode cX5_first 46 = .ok (.iload_n 2, 1) := by decide +kernel
theorem dX5_first_47 : decode cX5_first 47 = .ok (.goto 4, 3) := by decide +kernel
theorem dX5_first_50 : decode cX5_first 50 = .ok (.iload_n 3, 1) := by decide +kernel
theorem dX5_first_51 : decode cX5_first 51 = .ok (.ireturn, 1) := by decide +kernel
theorem dX5_first_52 : decode cX5_first 52 = .ok (.iinc 2 1, 3) := by decide +kernel
theorem dX5_first_55 : decode cX5_first 55 = .ok (.goto (-41), 3) := by decide +kernel
theorem dX5_first_58 : decode cX5_first 58 = .ok (.iconst (-1), 1) := by decide +kernel
theorem dX5_first_59 : decode cX5_first 59 = .ok (.ireturn, 1) := by decide +kernel
theorem dX5_lulls_0 : decode cX5_lulls 0 = .ok (.aload_n 0, 1) := by decide +kernel
theorem dX5_lulls_1 : decode cX5_lulls 1 = .ok (.getfield 22, 3) := by decide +kernel
theorem dX5_lulls_4 : decode cX5_lulls 4 = .ok (.iconst (-1), 1) := by decide +kernel
theorem dX5_lulls_5 : decode cX5_lulls 5 = .ok (.invokevirtual 144, 3) := by decide +kernel
theorem dX5_lulls_8 : decode cX5_lulls 8 = .ok (.ireturn, 1) := by decide +kernel
theorem dX5_stand_0 : decode cX5_stand 0 = .ok (.aload_n 0, 1) := by decide +kernel
theorem dX5_stand_1 : decode cX5_stand 1 = .ok (.iload_n 1, 1) := by decide +kernel
theorem dX5_stand_2 : decode cX5_stand 2 = .ok (.invokevirtual 112, 3) := by decide +kernel
theorem dX5_stand_5 : decode cX5_stand 5 = .ok (.ifCond .eq 12, 3) := by decide +kernel
theorem dX5_stand_8 : decode cX5_stand 8 = .ok (.iload_n 2, 1) := by decide +kernel
theorem dX5_stand_9 : decode cX5_stand 9 = .ok (.ifCond .lt 8, 3) := by decide +kernel
theorem dX5_stand_12 : decode cX5_stand 12 = .ok (.iload_n 2, 1) := by decide +kernel
theorem dX5_stand_13 : decode cX5_stand 13 = .ok (.iconst 1, 1) := by decide +kernel
theorem dX5_stand_14 : decode cX5_stand 14 = .ok (.if_icmp .le 6, 3) := by decide +kernel
theorem dX5_stand_17 : decode cX5_stand 17 = .ok (.bipush (-2), 2) := by decide +kernel
theorem dX5_stand_19 : decode cX5_stand 19 = .ok (.ireturn, 1) := by decide +kernel
theorem dX5_stand_20 : decode cX5_stand 20 = .ok (.aload_n 0, 1) := by decide +kernel
theorem dX5_stand_21 : decode cX5_stand 21 = .ok (.getfield 26, 3) := by decide +kernel
theorem dX5_stand_24 : decode cX5_stand 24 = .ok (.getfield 91, 3) := by decide +kernel
theorem dX5_stand_27 : decode cX5_stand 27 = .ok (.aload_n 0, 1) := by decide +kernel
theorem dX5_stand_28 : decode cX5_stand 28 = .ok (.getfield 22, 3) := by decide +kernel
theorem dX5_stand_31 : decode cX5_stand 31 = .ok (.getfield 91, 3) := by decide +kernel
theorem dX5_stand_34 : decode cX5_stand 34 = .ok (.invokevirtual 153, 3) := by decide +kernel
theorem dX5_stand_37 : decode cX5_stand 37 = .ok (.iconst (-1), 1) := by decide +kernel
theorem dX5_stand_38 : decode cX5_stand 38 = .ok (.istore_n 3, 1) := by decide +kernel
theorem dX5_stand_39 : decode cX5_stand 39 = .ok (.iconst (-1), 1) := by decide +kernel
theorem dX5_stand_40 : decode cX5_stand 40 = .ok (.istore 4, 2) := by decide +kernel
theorem dX5_stand_42 : decode cX5_stand 42 = .ok (.iconst 0, 1) := by decide +kernel
theorem dX5_stand_43 : decode cX5_stand 43 = .ok (.istore 5, 2) := by decide +kernel
theorem dX5_stand_45 : decode cX5_stand 45 = .ok (.iload 5, 2) := by decide +kernel
theorem dX5_stand_47 : decode cX5_stand 47 = .ok (.aload_n 0, 1) := by decide +kernel
theorem dX5_stand_48 : decode cX5_stand 48 = .ok (.getfield 22, 3) := by decide +kernel
theorem dX5_stand_51 : decode cX5_stand 51 = .ok (.getfield 91, 3) := by decide +kernel
theorem dX5_stand_54 : decode cX5_stand 54 = .ok (.getfield 157, 3) := by decide +kernel
theorem dX5_stand_57 : decode cX5_stand 57 = .ok (.if_icmp .ge 75, 3) := by decide +kernel
theorem dX5_stand_60 : decode cX5_stand 60 = .ok (.aload_n 0, 1) := by decide +kernel
theorem dX5_stand_61 : decode cX5_stand 61 = .ok (.getfield 22, 3) := by decide +kernel
theorem dX5_stand_64 : decode cX5_stand 64 = .ok (.iload_n 1, 1) := by decide +kernel
theorem dX5_stand_65 : decode cX5_stand 65 = .ok (.iload 5, 2) := by decide +kernel
theorem dX5_stand_67 : decode cX5_stand 67 = .ok (.invokevirtual 160, 3) := by decide +kernel
theorem dX5_stand_70 : decode cX5_stand 70 = .ok (.ifCond .ne 6, 3) := by decide +kernel
theorem dX5_stand_73 : decode cX5_stand 73 = .ok (.goto 53, 3) := by decide +kernel
theorem dX5_stand_76 : decode cX5_stand 76 = .ok (.aload_n 0, 1) := by decide +kernel
theorem dX5_stand_77 : decode cX5_stand 77 = .ok (.getfield 26, 3) := by decide +kernel
theorem dX5_stand_80 : decode cX5_stand 80 = .ok (.getfield 91, 3) := by decide +kernel
theorem dX5_stand_83 : decode cX5_stand 83 = .ok (.getfield 115, 3) := by decide +kernel
theorem dX5_stand_86 : decode cX5_stand 86 = .ok (.iload_n 1, 1) := by decide +kernel
theorem dX5_stand_87 : decode cX5_stand 87 = .ok (.iload 5, 2) := by decide +kernel
theorem dX5_stand_89 : decode cX5_stand 89 = .ok (.iastore, 1) := by decide +kernel
theorem dX5_stand_90 : decode cX5_stand 90 = .ok (.aload_n 0, 1) := by decide +kernel
theorem dX5_stand_91 : decode cX5_stand 91 = .ok (.getfield 26, 3) := by decide +kernel
theorem dX5_stand_94 : decode cX5_stand 94 = .ok (.iload_n 1, 1) := by decide +kernel
theorem dX5_stand_95 : decode cX5_stand 95 = .ok (.invokevirtual 164, 3) := by decide +kernel
theorem dX5_stand_98 : decode cX5_stand 98 = .ok (.istore 6, 2) := by decide +kernel
theorem dX5_stand_100 : decode cX5_stand 100 = .ok (.iload 6, 2) := by decide +kernel
theorem dX5_stand_102 : decode cX5_stand 102 = .ok (.iconst (-1), 1) := by decide +kernel
theorem dX5_stand_103 : decode cX5_stand 103 = .ok (.if_icmp .eq 23, 3) := by decide +kernel
theorem dX5_stand_106 : decode cX5_stand 106 = .ok (.iload 4, 2) := by decide +kernel
theorem dX5_stand_108 : decode cX5_stand 108 = .ok (.iconst (-1), 1) := by decide +kernel
theorem dX5_stand_109 : decode cX5_stand 109 = .ok (.if_icmp .eq 10, 3) := by decide +kernel
theorem dX5_stand_112 : decode cX5_stand 112 = .ok (.iload 6, 2) := by decide +kernel
theorem dX5_stand_114 : decode cX5_stand 114 = .ok (.iload 4, 2) := by decide +kernel
theorem dX5_stand_116 : decode cX5_stand 116 = .ok (.if_icmp .ge 10, 3) := by decide +kernel
theorem dX5_stand_119 : decode cX5_stand 119 = .ok (.iload 6, 2) := by decide +kernel
theorem dX5_stand_121 : decode cX5_stand 121 = .ok (.istore 4, 2) := by decide +kernel
theorem dX5_stand_123 : decode cX5_stand 123 = .ok (.iload 5, 2) := by decide +kernel
theorem dX5_stand_125 : decode cX5_stand 125 = .ok (.istore_n 3, 1) := by decide +kernel
theorem dX5_stand_126 : decode cX5_stand 126 = .ok (.iinc 5 1, 3) := by decide +kernel
theorem dX5_stand_129 : decode cX5_stand 129 = .ok (.goto (-84), 3) := by decide +kernel
theorem dX5_stand_132 : decode cX5_stand 132 = .ok (.iload_n 2, 1) := by decide +kernel
theorem dX5_stand_133 : decode cX5_stand 133 = .ok (.ifCond .ne 7, 3) := by decide +kernel
theorem dX5_stand_136 : decode cX5_stand 136 = .ok (.iload_n 3, 1) := by decide +kernel
theorem dX5_stand_137 : decode cX5_stand 137 = .ok (.goto 5, 3) := by decide +kernel
theorem dX5_stand_140 : decode cX5_stand 140 = .ok (.iload 4, 2) := by decide +kernel
theorem dX5_stand_142 : decode cX5_stand 142 = .ok (.ireturn, 1) := by decide +kernel
theorem dX5_shield_0 : decode cX5_shield 0 = .ok (.aload_n 0, 1) := by decide +kernel
theorem dX5_shield_1 : decode cX5_shield 1 = .ok (.iload_n 1, 1) := by decide +kernel
theorem dX5_shield_2 : decode cX5_shield 2 = .ok (.invokevirtual 112, 3) := by decide +kernel
theorem dX5_shield_5 : decode cX5_shield 5 = .ok (.ifCond .ne 6, 3) := by decide +kernel
theorem dX5_shield_8 : decode cX5_shield 8 = .ok (.bipush (-2), 2) := by decide +kernel
theorem dX5_shield_10 : decode cX5_shield 10 = .ok (.ireturn, 1) := by decide +kernel
theorem dX5_shield_11 : decode cX5_shield 11 = .ok (.aload_n 0, 1) := by decide +kernel
theorem dX5_shield_12 : decode cX5_shield 12 = .ok (.getfield 22, 3) := by decide +kernel
theorem dX5_shield_15 : decode cX5_shield 15 = .ok (.iload_n 1, 1) := by decide +kernel
theorem dX5_shield_16 : decode cX5_shield 16 = .ok (.invokevirtual 134, 3) := by decide +kernel
theorem dX5_shield_19 : decode cX5_shield 19 = .ok (.iconst (-1), 1) := by decide +kernel
theorem dX5_shield_20 : decode cX5_shield 20 = .ok (.if_icmp .ne 6, 3) := by decide +kernel
theorem dX5_shield_23 : decode cX5_shield 23 = .ok (.bipush (-3), 2) := by decide +kernel
theorem dX5_shield_25 : decode cX5_shield 25 = .ok (.ireturn, 1) := by decide +kernel
theorem dX5_shield_26 : decode cX5_shield 26 = .ok (.iconst 0, 1) := by decide +kernel
theorem dX5_shield_27 : decode cX5_shield 27 = .ok (.istore_n 2, 1) := by decide +kernel
theorem dX5_shield_28 : decode cX5_shield 28 = .ok (.iload_n 2, 1) := by decide +kernel
theorem dX5_shield_29 : decode cX5_shield 29 = .ok (.aload_n 0, 1) := by decide +kernel
theorem dX5_shield_30 : decode cX5_shield 30 = .ok (.getfield 22, 3) := by decide +kernel
theorem dX5_shield_33 : decode cX5_shield 33 = .ok (.getfield 91, 3) := by decide +kernel
theorem dX5_shield_36 : decode cX5_shield 36 = .ok (.getfield 167, 3) := by decide +kernel
theorem dX5_shield_39 : decode cX5_shield 39 = .ok (.if_icmp .ge 37, 3) := by decide +kernel
theorem dX5_shield_42 : decode cX5_shield 42 = .ok (.iload_n 2, 1) := by decide +kernel
theorem dX5_shield_43 : decode cX5_shield 43 = .ok (.iload_n 1, 1) := by decide +kernel
theorem dX5_shield_44 : decode cX5_shield 44 = .ok (.if_icmp .ne 7, 3) := by decide +kernel
theorem dX5_shield_47 : decode cX5_shield 47 = .ok (.iconst (-1), 1) := by decide +kernel
theorem dX5_shield_48 : decode cX5_shield 48 = .ok (.goto 9, 3) := by decide +kernel
theorem dX5_shield_51 : decode cX5_shield 51 = .ok (.aload_n 0, 1) := by decide +kernel
theorem dX5_shield_52 : decode cX5_shield 52 = .ok (.iload_n 1, 1) := by decide +kernel
theorem dX5_shield_53 : decode cX5_shield 53 = .ok (.iload_n 2, 1) := by decide +kernel
theorem dX5_shield_54 : decode cX5_shield 54 = .ok (.invokevirtual 170, 3) := by decide +kernel
theorem dX5_shield_57 : decode cX5_shield 57 = .ok (.istore_n 3, 1) := by decide +kernel
theorem dX5_shield_58 : decode cX5_shield 58 = .ok (.iload_n 3, 1) := by decide +kernel
theorem dX5_shield_59 : decode cX5_shield 59 = .ok (.iconst (-1), 1) := by decide +kernel
theorem dX5_shield_60 : decode cX5_shield 60 = .ok (.if_icmp .eq 10, 3) := by decide +kernel
theorem dX5_shield_63 : decode cX5_shield 63 = .ok (.bipush 32, 2) := by decide +kernel
theorem dX5_shield_65 : decode cX5_shield 65 = .ok (.iload_n 2, 1) := by decide +kernel
theorem dX5_shield_66 : decode cX5_shield 66 = .ok (.imul, 1) := by decide +kernel
theorem dX5_shield_67 : decode cX5_shield 67 = .ok (.iload_n 3, 1) := by decide +kernel
theorem dX5_shield_68 : decode cX5_shield 68 = .ok (.iadd, 1) := by decide +kernel
theorem dX5_shield_69 : decode cX5_shield 69 = .ok (.ireturn, 1) := by decide +kernel
theorem dX5_shield_70 : decode cX5_shield 70 = .ok (.iinc 2 1, 3) := by decide +kernel
theorem dX5_shield_73 : decode cX5_shield 73 = .ok (.goto (-45), 3) := by decide +kernel
theorem dX5_shield_76 : decode cX5_shield 76 = .ok (.iconst (-1), 1) := by decide +kernel
theorem dX5_shield_77 : decode cX5_shield 77 = .ok (.ireturn, 1) := by decide +kernel
theorem dX5_move_0 : decode cX5_move 0 = .ok (.iload_n 1, 1) := by decide +kernel
theorem dX5_move_1 : decode cX5_move 1 = .ok (.ifCond .lt 8, 3) := by decide +kernel
theorem dX5_move_4 : decode cX5_move 4 = .ok (.iload_n 1, 1) := by decide +kernel
theorem dX5_move_5 : decode cX5_move 5 = .ok (.iconst 1, 1) := by decide +kernel
theorem dX5_move_6 : decode cX5_move 6 = .ok (.if_icmp .le 6, 3) := by decide +kernel
theorem dX5_move_9 : decode cX5_move 9 = .ok (.bipush (-2), 2) := by decide +kernel
theorem dX5_move_11 : decode cX5_move 11 = .ok (.ireturn, 1) := by decide +kernel
theorem dX5_move_12 : decode cX5_move 12 = .ok (.iconst 0, 1) := by decide +kernel
theorem dX5_move_13 : decode cX5_move 13 = .ok (.istore_n 2, 1) := by decide +kernel
theorem dX5_move_14 : decode cX5_move 14 = .ok (.iconst (-1), 1) := by decide +kernel
theorem dX5_move_15 : decode cX5_move 15 = .ok (.istore_n 3, 1) := by decide +kernel
theorem dX5_move_16 : decode cX5_move 16 = .ok (.iconst 0, 1) := by decide +kernel
theorem dX5_move_17 : decode cX5_move 17 = .ok (.istore 4, 2) := by decide +kernel
theorem dX5_move_19 : decode cX5_move 19 = .ok (.iload 4, 2) := by decide +kernel
theorem dX5_move_21 : decode cX5_move 21 = .ok (.aload_n 0, 1) := by decide +kernel
theorem dX5_move_22 : decode cX5_move 22 = .ok (.getfield 22, 3) := by decide +kernel
theorem dX5_move_25 : decode cX5_move 25 = .ok (.getfield 91, 3) := by decide +kernel
theorem dX5_move_28 : decode cX5_move 28 = .ok (.getfield 157, 3) := by decide +kernel
theorem dX5_move_31 : decode cX5_move 31 = .ok (.if_icmp .ge 55, 3) := by decide +kernel
theorem dX5_move_34 : decode cX5_move 34 = .ok (.iconst 0, 1) := by decide +kernel
theorem dX5_move_35 : decode cX5_move 35 = .ok (.istore 5, 2) := by decide +kernel
theorem dX5_move_37 : decode cX5_move 37 = .ok (.iload 5, 2) := by decide +kernel
theorem dX5_move_39 : decode cX5_move 39 = .ok (.iconst 4, 1) := by decide +kernel
theorem dX5_move_40 : decode cX5_move 40 = .ok (.if_icmp .ge 40, 3) := by decide +kernel
theorem dX5_move_43 : decode cX5_move 43 = .ok (.aload_n 0, 1) := by decide +kernel
theorem dX5_move_44 : decode cX5_move 44 = .ok (.iload 4, 2) := by decide +kernel
theorem dX5_move_46 : decode cX5_move 46 = .ok (.iload 5, 2) := by decide +kernel
theorem dX5_move_48 : decode cX5_move 48 = .ok (.invokevirtual 173, 3) := by decide +kernel
theorem dX5_move_51 : decode cX5_move 51 = .ok (.ifCond .eq 23, 3) := by decide +kernel
theorem dX5_move_54 : decode cX5_move 54 = .ok (.iinc 2 1, 3) := by decide +kernel
theorem dX5_move_57 : decode cX5_move 57 = .ok (.iload_n 3, 1) := by decide +kernel
theorem dX5_move_58 : decode cX5_move 58 = .ok (.iconst (-1), 1) := by decide +kernel
theorem dX5_move_59 : decode cX5_move 59 = .ok (.if_icmp .ne 13, 3) := by decide +kernel
theorem dX5_move_62 : decode cX5_move 62 = .ok (.iconst 4, 1) := by decide +kernel
theorem dX5_move_63 : decode cX5_move 63 = .ok (.iload 4, 2) := by decide +kernel
theorem dX5_move_65 : decode cX5_move 65 = .ok (.imul, 1) := by decide +kernel
theorem dX5_move_66 : decode cX5_move 66 = .ok (.iload 5, 2) := by decide +kernel
theorem dX5_move_68 : decode cX5_move 68 = .ok (.iadd, 1) := by decide +kernel
theorem dX5_move_69 : decode cX5_move 69 = .ok (.goto 4, 3) := by decide +kernel
theorem dX5_move_72 : decode cX5_move 72 = .ok (.iload_n 3, 1) := by decide +kernel
theorem dX5_move_73 : decode cX5_move 73 = .ok (.istore_n 3, 1) := by decide +kernel
theorem dX5_move_74 : decode cX5_move 74 = .ok (.iinc 5 1, 3) := by decide +kernel
theorem dX5_move_77 : decode cX5_move 77 = .ok (.goto (-40), 3) := by decide +kernel
theorem dX5_move_80 : decode cX5_move 80 = .ok (.iinc 4 1, 3) := by decide +kernel
theorem dX5_move_83 : decode cX5_move 83 = .ok (.goto (-64), 3) := by decide +kernel
theorem dX5_move_86 : decode cX5_move 86 = .ok (.iload_n 1, 1) := by decide +kernel
theorem dX5_move_87 : decode cX5_move 87 = .ok (.ifCond .ne 7, 3) := by decide +kernel
theorem dX5_move_90 : decode cX5_move 90 = .ok (.iload_n 2, 1) := by decide +kernel
theorem dX5_move_91 : decode cX5_move 91 = .ok (.goto 4, 3) := by decide +kernel
theorem dX5_move_94 : decode cX5_move 94 = .ok (.iload_n 3, 1) := by decide +kernel
theorem dX5_move_95 : decode cX5_move 95 = .ok (.ireturn, 1) := by decide +kernel
theorem dX5_bribe_0 : decode cX5_bribe 0 = .ok (.aload_n 0, 1) := by decide +kernel
theorem dX5_bribe_1 : decode cX5_bribe 1 = .ok (.iload_n 1, 1) := by decide +kernel
theorem dX5_bribe_2 : decode cX5_bribe 2 = .ok (.invokevirtual 112, 3) := by decide +kernel
theorem dX5_bribe_5 : decode cX5_bribe 5 = .ok (.ifCond .ne 6, 3) := by decide +kernel
theorem dX5_bribe_8 : decode cX5_bribe 8 = .ok (.bipush (-2), 2) := by decide +kernel
theorem dX5_bribe_10 : decode cX5_bribe 10 = .ok (.ireturn, 1) := by decide +kernel
theorem dX5_bribe_11 : decode cX5_bribe 11 = .ok (.aload_n 0, 1) := by decide +kernel
theorem dX5_bribe_12 : decode cX5_bribe 12 = .ok (.getfield 26, 3) := by decide +kernel
theorem dX5_bribe_15 : decode cX5_bribe 15 = .ok (.getfield 91, 3) := by decide +kernel
theorem dX5_bribe_18 : decode cX5_bribe 18 = .ok (.aload_n 0, 1) := by decide +kernel
theorem dX5_bribe_19 : decode cX5_bribe 19 = .ok (.getfield 22, 3) := by decide +kernel
theorem dX5_bribe_22 : decode cX5_bribe 22 = .ok (.getfield 91, 3) := by decide +kernel
theorem dX5_bribe_25 : decode cX5_bribe 25 = .ok (.invokevirtual 153, 3) := by decide +kernel
theorem dX5_bribe_28 : decode cX5_bribe 28 = .ok (.aload_n 0, 1) := by decide +kernel
theorem dX5_bribe_29 : decode cX5_bribe 29 = .ok (.getfield 22, 3) := by decide +kernel
theorem dX5_bribe_32 : decode cX5_bribe 32 = .ok (.getfield 91, 3) := by decide +kernel
theorem dX5_bribe_35 : decode cX5_bribe 35 = .ok (.getfield 118, 3) := by decide +kernel
theorem dX5_bribe_38 : decode cX5_bribe 38 = .ok (.iload_n 1, 1) := by decide +kernel
theorem dX5_bribe_39 : decode cX5_bribe 39 = .ok (.iaload, 1) := by decide +kernel
theorem dX5_bribe_40 : decode cX5_bribe 40 = .ok (.istore_n 2, 1) := by decide +kernel
theorem dX5_bribe_41 : decode cX5_bribe 41 = .ok (.iconst 0, 1) := by decide +kernel
theorem dX5_bribe_42 : decode cX5_bribe 42 = .ok (.istore_n 3, 1) := by decide +kernel
theorem dX5_bribe_43 : decode cX5_bribe 43 = .ok (.iload_n 3, 1) := by decide +kernel
theorem dX5_bribe_44 : decode cX5_bribe 44 = .ok (.iload_n 2, 1) := by decide +kernel
theorem dX5_bribe_45 : decode cX5_bribe 45 = .ok (.if_icmp .ge 44, 3) := by decide +kernel
theorem dX5_bribe_48 : decode cX5_bribe 48 = .ok (.aload_n 0, 1) := by decide +kernel
theorem dX5_bribe_49 : decode cX5_bribe 49 = .ok (.getfield 26, 3) := by decide +kernel
theorem dX5_bribe_52 : decode cX5_bribe 52 = .ok (.getfield 91, 3) := by decide +kernel
theorem dX5_bribe_55 : decode cX5_bribe 55 = .ok (.getfield 118, 3) := by decide +kernel
theorem dX5_bribe_58 : decode cX5_bribe 58 = .ok (.iload_n 1, 1) := by decide +kernel
theorem dX5_bribe_59 : decode cX5_bribe 59 = .ok (.iload_n 2, 1) := by decide +kernel
theorem dX5_bribe_60 : decode cX5_bribe 60 = .ok (.iload_n 3, 1) := by decide +kernel
theorem dX5_bribe_61 : decode cX5_bribe 61 = .ok (.isub, 1) := by decide +kernel
theorem dX5_bribe_62 : decode cX5_bribe 62 = .ok (.iastore, 1) := by decide +kernel
theorem dX5_bribe_63 : decode cX5_bribe 63 = .ok (.aload_n 0, 1) := by decide +kernel
theorem dX5_bribe_64 : decode cX5_bribe 64 = .ok (.getfield 26, 3) := by decide +kernel
theorem dX5_bribe_67 : decode cX5_bribe 67 = .ok (.invokevirtual 176, 3) := by decide +kernel
theorem dX5_bribe_70 : decode cX5_bribe 70 = .ok (.aload_n 0, 1) := by decide +kernel
theorem dX5_bribe_71 : decode cX5_bribe 71 = .ok (.getfield 26, 3) := by decide +kernel
theorem dX5_bribe_74 : decode cX5_bribe 74 = .ok (.invokevirtual 179, 3) := by decide +kernel
theorem dX5_bribe_77 : decode cX5_bribe 77 = .ok (.iload_n 1, 1) := by decide +kernel
theorem dX5_bribe_78 : decode cX5_bribe 78 = .ok (.if_icmp .ne 5, 3) := by decide +kernel
theorem dX5_bribe_81 : decode cX5_bribe 81 = .ok (.iload_n 3, 1) := by decide +kernel
theorem dX5_bribe_82 : decode cX5_bribe 82 = .ok (.ireturn, 1) := by decide +kernel
theorem dX5_bribe_83 : decode cX5_bribe 83 = .ok (.iinc 3 1, 3) := by decide +kernel
theorem dX5_bribe_86 : decode cX5_bribe 86 = .ok (.goto (-43), 3) := by decide +kernel
theorem dX5_bribe_89 : decode cX5_bribe 89 = .ok (.iconst (-1), 1) := by decide +kernel
theorem dX5_bribe_90 : decode cX5_bribe 90 = .ok (.ireturn, 1) := by decide +kernel
theorem dX5_placeToShield_0 : decode cX5_placeToShield 0 = .ok (.aload_n 0, 1) := by decide +kernel
theorem dX5_placeToShield_1 : decode cX5_placeToShield 1 = .ok (.getfield 26, 3) := by decide +kernel
theorem dX5_placeToShield_4 : decode cX5_placeToShield 4 = .ok (.getfield 91, 3) := by decide +kernel
theorem dX5_placeToShield_7 : decode cX5_placeToShield 7 = .ok (.aload_n 0, 1) := by decide +kernel
theorem dX5_placeToShield_8 : decode cX5_placeToShield 8 = .ok (.getfield 22, 3) := by decide +kernel
theorem dX5_placeToShield_11 : decode cX5_placeToShield 11 = .ok (.getfield 91, 3) := by decide +kernel
theorem dX5_placeToShield_14 : decode cX5_placeToShield 14 = .ok (.invokevirtual 153, 3) := by decide +kernel
theorem dX5_placeToShield_17 : decode cX5_placeToShield 17 = .ok (.iconst 0, 1) := by decide +kernel
theorem dX5_placeToShield_18 : decode cX5_placeToShield 18 = .ok (.istore_n 3, 1) := by decide +kernel
theorem dX5_placeToShield_19 : decode cX5_placeToShield 19 = .ok (.iload_n 3, 1) := by decide +kernel
theorem dX5_placeToShield_20 : decode cX5_placeToShield 20 = .ok (.aload_n 0, 1) := by decide +kernel
theorem dX5_placeToShield_21 : decode cX5_placeToShield 21 = .ok (.getfield 22, 3) := by decide +kernel
theorem dX5_placeToShield_24 : decode cX5_placeToShield 24 = .ok (.getfield 91, 3) := by decide +kernel
theorem dX5_placeToShield_27 : decode cX5_placeToShield 27 = .ok (.getfield 157, 3) := by decide +kernel
theorem dX5_placeToShield_30 : decode cX5_placeToShield 30 = .ok (.if_icmp .ge 50, 3) := by decide +kernel
theorem dX5_placeToShield_33 : decode cX5_placeToShield 33 = .ok (.aload_n 0, 1) := by decide +kernel
theorem dX5_placeToShield_34 : decode cX5_placeToShield 34 = .ok (.getfield 22, 3) := by decide +kernel
theorem dX5_placeToShield_37 : decode cX5_placeToShield 37 = .ok (.iload_n 3, 1) := by decide +kernel
theorem dX5_placeToShield_38 : decode cX5_placeToShield 38 = .ok (.invokevirtual 182, 3) := by decide +kernel
theorem dX5_placeToShield_41 : decode cX5_placeToShield 41 = .ok (.ifCond .ne 6, 3) := by decide +kernel
theorem dX5_placeToShield_44 : decode cX5_placeToShield 44 = .ok (.goto 30, 3) := by decide +kernel
theorem dX5_placeToShield_47 : decode cX5_placeToShield 47 = .ok (.aload_n 0, 1) := by decide +kernel
theorem dX5_placeToShield_48 : decode cX5_placeToShield 48 = .ok (.getfield 26, 3) := by decide +kernel
theorem dX5_placeToShield_51 : decode cX5_placeToShield 51 = .ok (.getfield 91, 3) := by decide +kernel
theorem dX5_placeToShield_54 : decode cX5_placeToShield 54 = .ok (.getfield 115, 3) := by decide +kernel
theorem dX5_placeToShield_57 : decode cX5_placeToShield 57 = .ok (.iload_n 2, 1) := by decide +kernel
theorem dX5_placeToShield_58 : decode cX5_placeToShield 58 = .ok (.iload_n 3, 1) := by decide +kernel
theorem dX5_placeToShield_59 : decode cX5_placeToShield 59 = .ok (.iastore, 1) := by decide +kernel
theorem dX5_placeToShield_60 : decode cX5_placeToShield 60 = .ok (.aload_n 0, 1) := by decide +kernel
theorem dX5_placeToShield_61 : decode cX5_placeToShield 61 = .ok (.getfield 26, 3) := by decide +kernel
theorem dX5_placeToShield_64 : decode cX5_placeToShield 64 = .ok (.iload_n 1, 1) := by decide +kernel
theorem dX5_placeToShield_65 : decode cX5_placeToShield 65 = .ok (.invokevirtual 164, 3) := by decide +kernel
theorem dX5_placeToShield_68 : decode cX5_placeToShield 68 = .ok (.iconst (-1), 1) := by decide +kernel
theorem dX5_placeToShield_69 : decode cX5_placeToShield 69 = .ok (.if_icmp .ne 5, 3) := by decide +kernel
theorem dX5_placeToShield_72 : decode cX5_placeToShield 72 = .ok (.iload_n 3, 1) := by decide +kernel
theorem dX5_placeToShield_73 : decode cX5_placeToShield 73 = .ok (.ireturn, 1) := by decide +kernel
theorem dX5_placeToShield_74 : decode cX5_placeToShield 74 = .ok (.iinc 3 1, 3) := by decide +kernel
theorem dX5_placeToShield_77 : decode cX5_placeToShield 77 = .ok (.goto (-58), 3) := by decide +kernel
theorem dX5_placeToShield_80 : decode cX5_placeToShield 80 = .ok (.iconst (-1), 1) := by decide +kernel
theorem dX5_placeToShield_81 : decode cX5_placeToShield 81 = .ok (.ireturn, 1) := by decide +kernel
theorem dX5_movesAnotherIn_0 : decode cX5_movesAnotherIn 0 = .ok (.aload_n 0, 1) := by decide +kernel
theorem dX5_movesAnotherIn_1 : decode cX5_movesAnotherIn 1 = .ok (.getfield 22, 3) := by decide +kernel
theorem dX5_movesAnotherIn_4 : decode cX5_movesAnotherIn 4 = .ok (.getfield 91, 3) := by decide +kernel
theorem dX5_movesAnotherIn_7 : decode cX5_movesAnotherIn 7 = .ok (.iload_n 1, 1) := by decide +kernel
theorem dX5_movesAnotherIn_8 : decode cX5_movesAnotherIn 8 = .ok (.iload_n 2, 1) := by decide +kernel
theorem dX5_movesAnotherIn_9 : decode cX5_movesAnotherIn 9 = .ok (.invokevirtual 185, 3) := by decide +kernel
theorem dX5_movesAnotherIn_12 : decode cX5_movesAnotherIn 12 = .ok (.istore_n 3, 1) := by decide +kernel
theorem dX5_movesAnotherIn_13 : decode cX5_movesAnotherIn 13 = .ok (.aload_n 0, 1) := by decide +kernel
theorem dX5_movesAnotherIn_14 : decode cX5_movesAnotherIn 14 = .ok (.getfield 22, 3) := by decide +kernel
theorem dX5_movesAnotherIn_17 : decode cX5_movesAnotherIn 17 = .ok (.getfield 91, 3) := by decide +kernel
theorem dX5_movesAnotherIn_20 : decode cX5_movesAnotherIn 20 = .ok (.iload_n 1, 1) := by decide +kernel
theorem dX5_movesAnotherIn_21 : decode cX5_movesAnotherIn 21 = .ok (.invokevirtual 100, 3) := by decide +kernel
theorem dX5_movesAnotherIn_24 : decode cX5_movesAnotherIn 24 = .ok (.ifCond .eq 14, 3) := by decide +kernel
theorem dX5_movesAnotherIn_27 : decode cX5_movesAnotherIn 27 = .ok (.aload_n 0, 1) := by decide +kernel
theorem dX5_movesAnotherIn_28 : decode cX5_movesAnotherIn 28 = .ok (.getfield 22, 3) := by decide +kernel
theorem dX5_movesAnotherIn_31 : decode cX5_movesAnotherIn 31 = .ok (.iload_n 3, 1) := by decide +kernel
theorem dX5_movesAnotherIn_32 : decode cX5_movesAnotherIn 32 = .ok (.invokevirtual 182, 3) := by decide +kernel
theorem dX5_movesAnotherIn_35 : decode cX5_movesAnotherIn 35 = .ok (.ifCond .ne 5, 3) := by decide +kernel
theorem dX5_movesAnotherIn_38 : decode cX5_movesAnotherIn 38 = .ok (.iconst 0, 1) := by decide +kernel
theorem dX5_movesAnotherIn_39 : decode cX5_movesAnotherIn 39 = .ok (.ireturn, 1) := by decide +kernel
theorem dX5_movesAnotherIn_40 : decode cX5_movesAnotherIn 40 = .ok (.aload_n 0, 1) := by decide +kernel
theorem dX5_movesAnotherIn_41 : decode cX5_movesAnotherIn 41 = .ok (.getfield 26, 3) := by decide +kernel
theorem dX5_movesAnotherIn_44 : decode cX5_movesAnotherIn 44 = .ok (.getfield 91, 3) := by decide +kernel
theorem dX5_movesAnotherIn_47 : decode cX5_movesAnotherIn 47 = .ok (.aload_n 0, 1) := by decide +kernel
theorem dX5_movesAnotherIn_48 : decode cX5_movesAnotherIn 48 = .ok (.getfield 22, 3) := by decide +kernel
theorem dX5_movesAnotherIn_51 : decode cX5_movesAnotherIn 51 = .ok (.getfield 91, 3) := by decide +kernel
theorem dX5_movesAnotherIn_54 : decode cX5_movesAnotherIn 54 = .ok (.invokevirtual 153, 3) := by decide +kernel
theorem dX5_movesAnotherIn_57 : decode cX5_movesAnotherIn 57 = .ok (.aload_n 0, 1) := by decide +kernel
theorem dX5_movesAnotherIn_58 : decode cX5_movesAnotherIn 58 = .ok (.getfield 26, 3) := by decide +kernel
theorem dX5_movesAnotherIn_61 : decode cX5_movesAnotherIn 61 = .ok (.getfield 91, 3) := by decide +kernel
theorem dX5_movesAnotherIn_64 : decode cX5_movesAnotherIn 64 = .ok (.getfield 188, 3) := by decide +kernel
theorem dX5_movesAnotherIn_67 : decode cX5_movesAnotherIn 67 = .ok (.iload_n 1, 1) := by decide +kernel
theorem dX5_movesAnotherIn_68 : decode cX5_movesAnotherIn 68 = .ok (.iconst 0, 1) := by decide +kernel
theorem dX5_movesAnotherIn_69 : decode cX5_movesAnotherIn 69 = .ok (.iastore, 1) := by decide +kernel
theorem dX5_movesAnotherIn_70 : decode cX5_movesAnotherIn 70 = .ok (.aload_n 0, 1) := by decide +kernel
theorem dX5_movesAnotherIn_71 : decode cX5_movesAnotherIn 71 = .ok (.getfield 26, 3) := by decide +kernel
theorem dX5_movesAnotherIn_74 : decode cX5_movesAnotherIn 74 = .ok (.getfield 91, 3) := by decide +kernel
theorem dX5_movesAnotherIn_77 : decode cX5_movesAnotherIn 77 = .ok (.getfield 188, 3) := by decide +kernel
theorem dX5_movesAnotherIn_80 : decode cX5_movesAnotherIn 80 = .ok (.iload_n 3, 1) := by decide +kernel
theorem dX5_movesAnotherIn_81 : decode cX5_movesAnotherIn 81 = .ok (.iconst 1, 1) := by decide +kernel
theorem dX5_movesAnotherIn_82 : decode cX5_movesAnotherIn 82 = .ok (.iastore, 1) := by decide +kernel
theorem dX5_movesAnotherIn_83 : decode cX5_movesAnotherIn 83 = .ok (.aload_n 0, 1) := by decide +kernel
theorem dX5_movesAnotherIn_84 : decode cX5_movesAnotherIn 84 = .ok (.getfield 26, 3) := by decide +kernel
theorem dX5_movesAnotherIn_87 : decode cX5_movesAnotherIn 87 = .ok (.getfield 91, 3) := by decide +kernel
theorem dX5_movesAnotherIn_90 : decode cX5_movesAnotherIn 90 = .ok (.invokevirtual 191, 3) := by decide +kernel
theorem dX5_movesAnotherIn_93 : decode cX5_movesAnotherIn 93 = .ok (.aload_n 0, 1) := by decide +kernel
theorem dX5_movesAnotherIn_94 : decode cX5_movesAnotherIn 94 = .ok (.getfield 26, 3) := by decide +kernel
theorem dX5_movesAnotherIn_97 : decode cX5_movesAnotherIn 97 = .ok (.invokevirtual 176, 3) := by decide +kernel
theorem dX5_movesAnotherIn_100 : decode cX5_movesAnotherIn 100 = .ok (.aload_n 0, 1) := by decide +kernel
theorem dX5_movesAnotherIn_101 : decode cX5_movesAnotherIn 101 = .ok (.getfield 26, 3) := by decide +kernel
theorem dX5_movesAnotherIn_104 : decode cX5_movesAnotherIn 104 = .ok (.invokevirtual 179, 3) := by decide +kernel
theorem dX5_movesAnotherIn_107 : decode cX5_movesAnotherIn 107 = .ok (.aload_n 0, 1) := by decide +kernel
theorem dX5_movesAnotherIn_108 : decode cX5_movesAnotherIn 108 = .ok (.getfield 22, 3) := by decide +kernel
theorem dX5_movesAnotherIn_111 : decode cX5_movesAnotherIn 111 = .ok (.invokevirtual 179, 3) := by decide +kernel
theorem dX5_movesAnotherIn_114 : decode cX5_movesAnotherIn 114 = .ok (.if_icmp .eq 7, 3) := by decide +kernel
theorem dX5_movesAnotherIn_117 : decode cX5_movesAnotherIn 117 = .ok (.iconst 1, 1) := by decide +kernel
theorem dX5_movesAnotherIn_118 : decode cX5_movesAnotherIn 118 = .ok (.goto 4, 3) := by decide +kernel
theorem dX5_movesAnotherIn_121 : decode cX5_movesAnotherIn 121 = .ok (.iconst 0, 1) := by decide +kernel
theorem dX5_movesAnotherIn_122 : decode cX5_movesAnotherIn 122 = .ok (.ireturn, 1) := by decide +kernel
theorem dX5_seen_0 : decode cX5_seen 0 = .ok (.aload_n 0, 1) := by decide +kernel
theorem dX5_seen_1 : decode cX5_seen 1 = .ok (.getfield 32, 3) := by decide +kernel
theorem dX5_seen_4 : decode cX5_seen 4 = .ok (.iload_n 1, 1) := by decide +kernel
theorem dX5_seen_5 : decode cX5_seen 5 = .ok (.iload_n 2, 1) := by decide +kernel
theorem dX5_seen_6 : decode cX5_seen 6 = .ok (.invokevirtual 194, 3) := by decide +kernel
theorem dX5_seen_9 : decode cX5_seen 9 = .ok (.ifCond .ne 6, 3) := by decide +kernel
theorem dX5_seen_12 : decode cX5_seen 12 = .ok (.bipush (-2), 2) := by decide +kernel
theorem dX5_seen_14 : decode cX5_seen 14 = .ok (.ireturn, 1) := by decide +kernel
theorem dX5_seen_15 : decode cX5_seen 15 = .ok (.aload_n 0, 1) := by decide +kernel
theorem dX5_seen_16 : decode cX5_seen 16 = .ok (.getfield 32, 3) := by decide +kernel
theorem dX5_seen_19 : decode cX5_seen 19 = .ok (.invokevirtual 197, 3) := by decide +kernel
theorem dX5_seen_22 : decode cX5_seen 22 = .ok (.ifCond .eq 6, 3) := by decide +kernel
theorem dX5_seen_25 : decode cX5_seen 25 = .ok (.bipush (-4), 2) := by decide +kernel
theorem dX5_seen_27 : decode cX5_seen 27 = .ok (.ireturn, 1) := by decide +kernel
theorem dX5_seen_28 : decode cX5_seen 28 = .ok (.aload_n 0, 1) := by decide +kernel
theorem dX5_seen_29 : decode cX5_seen 29 = .ok (.getfield 32, 3) := by decide +kernel
theorem dX5_seen_32 : decode cX5_seen 32 = .ok (.iload_n 1, 1) := by decide +kernel
theorem dX5_seen_33 : decode cX5_seen 33 = .ok (.iload_n 2, 1) := by decide +kernel
theorem dX5_seen_34 : decode cX5_seen 34 = .ok (.invokevirtual 198, 3) := by decide +kernel
theorem dX5_seen_37 : decode cX5_seen 37 = .ok (.aload_n 0, 1) := by decide +kernel
theorem dX5_seen_38 : decode cX5_seen 38 = .ok (.iconst (-1), 1) := by decide +kernel
theorem dX5_seen_39 : decode cX5_seen 39 = .ok (.putfield 46, 3) := by decide +kernel
theorem dX5_seen_42 : decode cX5_seen 42 = .ok (.aload_n 0, 1) := by decide +kernel
theorem dX5_seen_43 : decode cX5_seen 43 = .ok (.getfield 32, 3) := by decide +kernel
theorem dX5_seen_46 : decode cX5_seen 46 = .ok (.getfield 201, 3) := by decide +kernel
theorem dX5_seen_49 : decode cX5_seen 49 = .ok (.ireturn, 1) := by decide +kernel
theorem dX5_forget_0 : decode cX5_forget 0 = .ok (.aload_n 0, 1) := by decide +kernel
theorem dX5_forget_1 : decode cX5_forget 1 = .ok (.getfield 32, 3) := by decide +kernel
theorem dX5_forget_4 : decode cX5_forget 4 = .ok (.getfield 201, 3) := by decide +kernel
theorem dX5_forget_7 : decode cX5_forget 7 = .ok (.istore_n 1, 1) := by decide +kernel
theorem dX5_forget_8 : decode cX5_forget 8 = .ok (.aload_n 0, 1) := by decide +kernel
theorem dX5_forget_9 : decode cX5_forget 9 = .ok (.getfield 32, 3) := by decide +kernel
theorem dX5_forget_12 : decode cX5_forget 12 = .ok (.iconst 0, 1) := by decide +kernel
theorem dX5_forget_13 : decode cX5_forget 13 = .ok (.putfield 201, 3) := by decide +kernel
theorem dX5_forget_16 : decode cX5_forget 16 = .ok (.aload_n 0, 1) := by decide +kernel
theorem dX5_forget_17 : decode cX5_forget 17 = .ok (.iconst (-1), 1) := by decide +kernel
theorem dX5_forget_18 : decode cX5_forget 18 = .ok (.putfield 46, 3) := by decide +kernel
theorem dX5_forget_21 : decode cX5_forget 21 = .ok (.iload_n 1, 1) := by decide +kernel
theorem dX5_forget_22 : decode cX5_forget 22 = .ok (.ireturn, 1) := by decide +kernel
theorem dX5_read_0 : decode cX5_read 0 = .ok (.iload_n 1, 1) := by decide +kernel
theorem dX5_read_1 : decode cX5_read 1 = .ok (.invokestatic 204, 3) := by decide +kernel
theorem dX5_read_4 : decode cX5_read 4 = .ok (.ifCond .ne 6, 3) := by decide +kernel
theorem dX5_read_7 : decode cX5_read 7 = .ok (.bipush (-2), 2) := by decide +kernel
theorem dX5_read_9 : decode cX5_read 9 = .ok (.ireturn, 1) := by decide +kernel
theorem dX5_read_10 : decode cX5_read 10 = .ok (.aload_n 0, 1) := by decide +kernel
theorem dX5_read_11 : decode cX5_read 11 = .ok (.getfield 38, 3) := by decide +kernel
theorem dX5_read_14 : decode cX5_read 14 = .ok (.iload_n 1, 1) := by decide +kernel
theorem dX5_read_15 : decode cX5_read 15 = .ok (.aaload, 1) := by decide +kernel
theorem dX5_read_16 : decode cX5_read 16 = .ok (.invokevirtual 207, 3) := by decide +kernel
theorem dX5_read_19 : decode cX5_read 19 = .ok (.ifCond .eq 9, 3) := by decide +kernel
theorem dX5_read_22 : decode cX5_read 22 = .ok (.aload_n 0, 1) := by decide +kernel
theorem dX5_read_23 : decode cX5_read 23 = .ok (.iconst 1, 1) := by decide +kernel
theorem dX5_read_24 : decode cX5_read 24 = .ok (.invokevirtual 210, 3) := by decide +kernel
theorem dX5_read_27 : decode cX5_read 27 = .ok (.ireturn, 1) := by decide +kernel
theorem dX5_read_28 : decode cX5_read 28 = .ok (.aload_n 0, 1) := by decide +kernel
theorem dX5_read_29 : decode cX5_read 29 = .ok (.getfield 38, 3) := by decide +kernel
theorem dX5_read_32 : decode cX5_read 32 = .ok (.iload_n 1, 1) := by decide +kernel
theorem dX5_read_33 : decode cX5_read 33 = .ok (.aaload, 1) := by decide +kernel
theorem dX5_read_34 : decode cX5_read 34 = .ok (.getfield 213, 3) := by decide +kernel
theorem dX5_read_37 : decode cX5_read 37 = .ok (.iconst 2, 1) := by decide +kernel
theorem dX5_read_38 : decode cX5_read 38 = .ok (.idiv, 1) := by decide +kernel
theorem dX5_read_39 : decode cX5_read 39 = .ok (.istore_n 2, 1) := by decide +kernel
theorem dX5_read_40 : decode cX5_read 40 = .ok (.iconst 0, 1) := by decide +kernel
theorem dX5_read_41 : decode cX5_read 41 = .ok (.istore_n 3, 1) := by decide +kernel
theorem dX5_read_42 : decode cX5_read 42 = .ok (.iload_n 3, 1) := by decide +kernel
theorem dX5_read_43 : decode cX5_read 43 = .ok (.iload_n 2, 1) := by decide +kernel
theorem dX5_read_44 : decode cX5_read 44 = .ok (.if_icmp .ge 44, 3) := by decide +kernel
theorem dX5_read_47 : decode cX5_read 47 = .ok (.aload_n 0, 1) := by decide +kernel
theorem dX5_read_48 : decode cX5_read 48 = .ok (.aload_n 0, 1) := by decide +kernel
theorem dX5_read_49 : decode cX5_read 49 = .ok (.getfield 38, 3) := by decide +kernel
theorem dX5_read_52 : decode cX5_read 52 = .ok (.iload_n 1, 1) := by decide +kernel
theorem dX5_read_53 : decode cX5_read 53 = .ok (.aaload, 1) := by decide +kernel
theorem dX5_read_54 : decode cX5_read 54 = .ok (.iconst 2, 1) := by decide +kernel
theorem dX5_read_55 : decode cX5_read 55 = .ok (.iload_n 3, 1) := by decide +kernel
theorem dX5_read_56 : decode cX5_read 56 = .ok (.imul, 1) := by decide +kernel
theorem dX5_read_57 : decode cX5_read 57 = .ok (.invokevirtual 216, 3) := by decide +kernel
theorem dX5_read_60 : decode cX5_read 60 = .ok (.aload_n 0, 1) := by decide +kernel
theorem dX5_read_61 : decode cX5_read 61 = .ok (.getfield 38, 3) := by decide +kernel
theorem dX5_read_64 : decode cX5_read 64 = .ok (.iload_n 1, 1) := by decide +kernel
theorem dX5_read_65 : decode cX5_read 65 = .ok (.aaload, 1) := by decide +kernel
theorem dX5_read_66 : decode cX5_read 66 = .ok (.iconst 2, 1) := by decide +kernel
theorem dX5_read_67 : decode cX5_read 67 = .ok (.iload_n 3, 1) := by decide +kernel
theorem dX5_read_68 : decode cX5_read 68 = .ok (.imul, 1) := by decide +kernel
theorem dX5_read_69 : decode cX5_read 69 = .ok (.iconst 1, 1) := by decide +kernel
theorem dX5_read_70 : decode cX5_read 70 = .ok (.iadd, 1) := by decide +kernel
theorem dX5_read_71 : decode cX5_read 71 = .ok (.invokevirtual 216, 3) := by decide +kernel
theorem dX5_read_74 : decode cX5_read 74 = .ok (.invokevirtual 219, 3) := by decide +kernel
theorem dX5_read_77 : decode cX5_read 77 = .ok (.ifCond .ge 5, 3) := by decide +kernel
theorem dX5_read_80 : decode cX5_read 80 = .ok (.iload_n 3, 1) := by decide +kernel
theorem dX5_read_81 : decode cX5_read 81 = .ok (.ireturn, 1) := by decide +kernel
theorem dX5_read_82 : decode cX5_read 82 = .ok (.iinc 3 1, 3) := by decide +kernel
theorem dX5_read_85 : decode cX5_read 85 = .ok (.goto (-43), 3) := by decide +kernel
theorem dX5_read_88 : decode cX5_read 88 = .ok (.iload_n 2, 1) := by decide +kernel
theorem dX5_read_89 : decode cX5_read 89 = .ok (.ireturn, 1) := by decide +kernel
theorem dX5_blew_0 : decode cX5_blew 0 = .ok (.aload_n 0, 1) := by decide +kernel
theorem dX5_blew_1 : decode cX5_blew 1 = .ok (.iload_n 1, 1) := by decide +kernel
theorem dX5_blew_2 : decode cX5_blew 2 = .ok (.invokevirtual 103, 3) := by decide +kernel
theorem dX5_blew_5 : decode cX5_blew 5 = .ok (.ifCond .eq 14, 3) := by decide +kernel
theorem dX5_blew_8 : decode cX5_blew 8 = .ok (.iload_n 2, 1) := by decide +kernel
theorem dX5_blew_9 : decode cX5_blew 9 = .ok (.iconst (-1), 1) := by decide +kernel
theorem dX5_blew_10 : decode cX5_blew 10 = .ok (.if_icmp .lt 9, 3) := by decide +kernel
theorem dX5_blew_13 : decode cX5_blew 13 = .ok (.iload_n 2, 1) := by decide +kernel
theorem dX5_blew_14 : decode cX5_blew 14 = .ok (.bipush 40, 2) := by decide +kernel
theorem dX5_blew_16 : decode cX5_blew 16 = .ok (.if_icmp .lt 6, 3) := by decide +kernel
theorem dX5_blew_19 : decode cX5_blew 19 = .ok (.bipush (-2), 2) := by decide +kernel
theorem dX5_blew_21 : decode cX5_blew 21 = .ok (.ireturn, 1) := by decide +kernel
theorem dX5_blew_22 : decode cX5_blew 22 = .ok (.aload_n 0, 1) := by decide +kernel
theorem dX5_blew_23 : decode cX5_blew 23 = .ok (.iload_n 1, 1) := by decide +kernel
theorem dX5_blew_24 : decode cX5_blew 24 = .ok (.invokevirtual 222, 3) := by decide +kernel
theorem dX5_blew_27 : decode cX5_blew 27 = .ok (.iconst 0, 1) := by decide +kernel
theorem dX5_blew_28 : decode cX5_blew 28 = .ok (.istore_n 3, 1) := by decide +kernel
theorem dX5_blew_29 : decode cX5_blew 29 = .ok (.iconst 0, 1) := by decide +kernel
theorem dX5_blew_30 : decode cX5_blew 30 = .ok (.istore 4, 2) := by decide +kernel
theorem dX5_blew_32 : decode cX5_blew 32 = .ok (.iload 4, 2) := by decide +kernel
theorem dX5_blew_34 : decode cX5_blew 34 = .ok (.bipush 40, 2) := by decide +kernel
theorem dX5_blew_36 : decode cX5_blew 36 = .ok (.if_icmp .ge 34, 3) := by decide +kernel
theorem dX5_blew_39 : decode cX5_blew 39 = .ok (.aload_n 0, 1) := by decide +kernel
theorem dX5_blew_40 : decode cX5_blew 40 = .ok (.getfield 49, 3) := by decide +kernel
theorem dX5_blew_43 : decode cX5_blew 43 = .ok (.iload 4, 2) := by decide +kernel
theorem dX5_blew_45 : decode cX5_blew 45 = .ok (.lshr, 1) := by decide +kernel
theorem dX5_blew_46 : decode cX5_blew 46 = .ok (.lconst 1, 1) := by decide +kernel
theorem dX5_blew_47 : decode cX5_blew 47 = .ok (.land, 1) := by decide +kernel
theorem dX5_blew_48 : decode cX5_blew 48 = .ok (.lconst 1, 1) := by decide +kernel
theorem dX5_blew_49 : decode cX5_blew 49 = .ok (.lcmp, 1) := by decide +kernel
theorem dX5_blew_50 : decode cX5_blew 50 = .ok (.ifCond .ne 14, 3) := by decide +kernel
theorem dX5_blew_53 : decode cX5_blew 53 = .ok (.iload_n 3, 1) := by decide +kernel
theorem dX5_blew_54 : decode cX5_blew 54 = .ok (.iload_n 2, 1) := by decide +kernel
theorem dX5_blew_55 : decode cX5_blew 55 = .ok (.if_icmp .ne 6, 3) := by decide +kernel
theorem dX5_blew_58 : decode cX5_blew 58 = .ok (.iload 4, 2) := by decide +kernel
theorem dX5_blew_60 : decode cX5_blew 60 = .ok (.ireturn, 1) := by decide +kernel
theorem dX5_blew_61 : decode cX5_blew 61 = .ok (.iinc 3 1, 3) := by decide +kernel
theorem dX5_blew_64 : decode cX5_blew 64 = .ok (.iinc 4 1, 3) := by decide +kernel
theorem dX5_blew_67 : decode cX5_blew 67 = .ok (.goto (-35), 3) := by decide +kernel
theorem dX5_blew_70 : decode cX5_blew 70 = .ok (.iload_n 2, 1) := by decide +kernel
theorem dX5_blew_71 : decode cX5_blew 71 = .ok (.iconst (-1), 1) := by decide +kernel
theorem dX5_blew_72 : decode cX5_blew 72 = .ok (.if_icmp .ne 7, 3) := by decide +kernel
theorem dX5_blew_75 : decode cX5_blew 75 = .ok (.iload_n 3, 1) := by decide +kernel
theorem dX5_blew_76 : decode cX5_blew 76 = .ok (.goto 4, 3) := by decide +kernel
theorem dX5_blew_79 : decode cX5_blew 79 = .ok (.iconst (-1), 1) := by decide +kernel
theorem dX5_blew_80 : decode cX5_blew 80 = .ok (.ireturn, 1) := by decide +kernel
theorem dX5_had_0 : decode cX5_had 0 = .ok (.aload_n 0, 1) := by decide +kernel
theorem dX5_had_1 : decode cX5_had 1 = .ok (.iload_n 1, 1) := by decide +kernel
theorem dX5_had_2 : decode cX5_had 2 = .ok (.invokevirtual 112, 3) := by decide +kernel
theorem dX5_had_5 : decode cX5_had 5 = .ok (.ifCond .ne 6, 3) := by decide +kernel
theorem dX5_had_8 : decode cX5_had 8 = .ok (.bipush (-2), 2) := by decide +kernel
theorem dX5_had_10 : decode cX5_had 10 = .ok (.ireturn, 1) := by decide +kernel
theorem dX5_had_11 : decode cX5_had 11 = .ok (.aload_n 0, 1) := by decide +kernel
theorem dX5_had_12 : decode cX5_had 12 = .ok (.getfield 26, 3) := by decide +kernel
theorem dX5_had_15 : decode cX5_had 15 = .ok (.getfield 91, 3) := by decide +kernel
theorem dX5_had_18 : decode cX5_had 18 = .ok (.aload_n 0, 1) := by decide +kernel
theorem dX5_had_19 : decode cX5_had 19 = .ok (.getfield 22, 3) := by decide +kernel
theorem dX5_had_22 : decode cX5_had 22 = .ok (.getfield 91, 3) := by decide +kernel
theorem dX5_had_25 : decode cX5_had 25 = .ok (.invokevirtual 153, 3) := by decide +kernel
theorem dX5_had_28 : decode cX5_had 28 = .ok (.iconst 0, 1) := by decide +kernel
theorem dX5_had_29 : decode cX5_had 29 = .ok (.istore_n 2, 1) := by decide +kernel
theorem dX5_had_30 : decode cX5_had 30 = .ok (.iconst 1, 1) := by decide +kernel
theorem dX5_had_31 : decode cX5_had 31 = .ok (.istore_n 3, 1) := by decide +kernel
theorem dX5_had_32 : decode cX5_had 32 = .ok (.iload_n 3, 1) := by decide +kernel
theorem dX5_had_33 : decode cX5_had 33 = .ok (.bipush 9, 2) := by decide +kernel
theorem dX5_had_35 : decode cX5_had 35 = .ok (.if_icmp .gt 49, 3) := by decide +kernel
theorem dX5_had_38 : decode cX5_had 38 = .ok (.aload_n 0, 1) := by decide +kernel
theorem dX5_had_39 : decode cX5_had 39 = .ok (.getfield 26, 3) := by decide +kernel
theorem dX5_had_42 : decode cX5_had 42 = .ok (.getfield 91, 3) := by decide +kernel
theorem dX5_had_45 : decode cX5_had 45 = .ok (.getfield 118, 3) := by decide +kernel
theorem dX5_had_48 : decode cX5_had 48 = .ok (.iload_n 1, 1) := by decide +kernel
theorem dX5_had_49 : decode cX5_had 49 = .ok (.iload_n 3, 1) := by decide +kernel
theorem dX5_had_50 : decode cX5_had 50 = .ok (.iastore, 1) := by decide +kernel
theorem dX5_had_51 : decode cX5_had 51 = .ok (.aload_n 0, 1) := by decide +kernel
theorem dX5_had_52 : decode cX5_had 52 = .ok (.getfield 26, 3) := by decide +kernel
theorem dX5_had_55 : decode cX5_had 55 = .ok (.invokevirtual 176, 3) := by decide +kernel
theorem dX5_had_58 : decode cX5_had 58 = .ok (.aload_n 0, 1) := by decide +kernel
theorem dX5_had_59 : decode cX5_had 59 = .ok (.getfield 32, 3) := by decide +kernel
theorem dX5_had_62 : decode cX5_had 62 = .ok (.aload_n 0, 1) := by decide +kernel
theorem dX5_had_63 : decode cX5_had 63 = .ok (.getfield 26, 3) := by decide +kernel
theorem dX5_had_66 : decode cX5_had 66 = .ok (.invokevirtual 225, 3) := by decide +kernel
theorem dX5_had_69 : decode cX5_had 69 = .ok (.ifCond .eq 9, 3) := by decide +kernel
theorem dX5_had_72 : decode cX5_had 72 = .ok (.iload_n 2, 1) := by decide +kernel
theorem dX5_had_73 : decode cX5_had 73 = .ok (.iconst 1, 1) := by decide +kernel
theorem dX5_had_74 : decode cX5_had 74 = .ok (.iload_n 3, 1) := by decide +kernel
theorem dX5_had_75 : decode cX5_had 75 = .ok (.ishl, 1) := by decide +kernel
theorem dX5_had_76 : decode cX5_had 76 = .ok (.ior, 1) := by decide +kernel
theorem dX5_had_77 : decode cX5_had 77 = .ok (.istore_n 2, 1) := by decide +kernel
theorem dX5_had_78 : decode cX5_had 78 = .ok (.iinc 3 1, 3) := by decide +kernel
theorem dX5_had_81 : decode cX5_had 81 = .ok (.goto (-49), 3) := by decide +kernel
theorem dX5_had_84 : decode cX5_had 84 = .ok (.iload_n 2, 1) := by decide +kernel
theorem dX5_had_85 : decode cX5_had 85 = .ok (.ireturn, 1) := by decide +kernel
theorem dX5_ask_0 : decode cX5_ask 0 = .ok (.aload_n 0, 1) := by decide +kernel
theorem dX5_ask_1 : decode cX5_ask 1 = .ok (.iload_n 1, 1) := by decide +kernel
theorem dX5_ask_2 : decode cX5_ask 2 = .ok (.invokevirtual 103, 3) := by decide +kernel
theorem dX5_ask_5 : decode cX5_ask 5 = .ok (.ifCond .ne 6, 3) := by decide +kernel
theorem dX5_ask_8 : decode cX5_ask 8 = .ok (.bipush (-2), 2) := by decide +kernel
theorem dX5_ask_10 : decode cX5_ask 10 = .ok (.ireturn, 1) := by decide +kernel
theorem dX5_ask_11 : decode cX5_ask 11 = .ok (.aload_n 0, 1) := by decide +kernel
theorem dX5_ask_12 : decode cX5_ask 12 = .ok (.iload_n 1, 1) := by decide +kernel
theorem dX5_ask_13 : decode cX5_ask 13 = .ok (.invokevirtual 222, 3) := by decide +kernel
theorem dX5_ask_16 : decode cX5_ask 16 = .ok (.iconst 0, 1) := by decide +kernel
theorem dX5_ask_17 : decode cX5_ask 17 = .ok (.istore_n 2, 1) := by decide +kernel
theorem dX5_ask_18 : decode cX5_ask 18 = .ok (.iconst 1, 1) := by decide +kernel
theorem dX5_ask_19 : decode cX5_ask 19 = .ok (.istore_n 3, 1) := by decide +kernel
theorem dX5_ask_20 : decode cX5_ask 20 = .ok (.iload_n 3, 1) := by decide +kernel
theorem dX5_ask_21 : decode cX5_ask 21 = .ok (.aload_n 0, 1) := by decide +kernel
theorem dX5_ask_22 : decode cX5_ask 22 = .ok (.getfield 22, 3) := by decide +kernel
theorem dX5_ask_25 : decode cX5_ask 25 = .ok (.getfield 91, 3) := by decide +kernel
theorem dX5_ask_28 : decode cX5_ask 28 = .ok (.getfield 150, 3) := by decide +kernel
theorem dX5_ask_31 : decode cX5_ask 31 = .ok (.if_icmp .ge 30, 3) := by decide +kernel
theorem dX5_ask_34 : decode cX5_ask 34 = .ok (.iload_n 3, 1) := by decide +kernel
theorem dX5_ask_35 : decode cX5_ask 35 = .ok (.bipush 12, 2) := by decide +kernel
theorem dX5_ask_37 : decode cX5_ask 37 = .ok (.if_icmp .ge 24, 3) := by decide +kernel
theorem dX5_ask_40 : decode cX5_ask 40 = .ok (.aload_n 0, 1) := by decide +kernel
theorem dX5_ask_41 : decode cX5_ask 41 = .ok (.iload_n 3, 1) := by decide +kernel
theorem dX5_ask_42 : decode cX5_ask 42 = .ok (.invokevirtual 229, 3) := by decide +kernel
theorem dX5_ask_45 : decode cX5_ask 45 = .ok (.aload_n 0, 1) := by decide +kernel
theorem dX5_ask_46 : decode cX5_ask 46 = .ok (.iload_n 2, 1) := by decide +kernel
theorem dX5_ask_47 : decode cX5_ask 47 = .ok (.invokevirtual 229, 3) := by decide +kernel
theorem dX5_ask_50 : decode cX5_ask 50 = .ok (.if_icmp .ge 5, 3) := by decide +kernel
theorem dX5_ask_53 : decode cX5_ask 53 = .ok (.iload_n 3, 1) := by decide +kernel
theorem dX5_ask_54 : decode cX5_ask 54 = .ok (.istore_n 2, 1) := by decide +kernel
theorem dX5_ask_55 : decode cX5_ask 55 = .ok (.iinc 3 1, 3) := by decide +kernel
theorem dX5_ask_58 : decode cX5_ask 58 = .ok (.goto (-38), 3) := by decide +kernel
theorem dX5_ask_61 : decode cX5_ask 61 = .ok (.iload_n 2, 1) := by decide +kernel
theorem dX5_ask_62 : decode cX5_ask 62 = .ok (.ireturn, 1) := by decide +kernel
theorem dX5_calm_0 : decode cX5_calm 0 = .ok (.iload_n 1, 1) := by decide +kernel
theorem dX5_calm_1 : decode cX5_calm 1 = .ok (.ifCond .lt 26, 3) := by decide +kernel
theorem dX5_calm_4 : decode cX5_calm 4 = .ok (.iload_n 1, 1) := by decide +kernel
theorem dX5_calm_5 : decode cX5_calm 5 = .ok (.bipush 16, 2) := by decide +kernel
theorem dX5_calm_7 : decode cX5_calm 7 = .ok (.if_icmp .gt 20, 3) := by decide +kernel
theorem dX5_calm_10 : decode cX5_calm 10 = .ok (.aload_n 0, 1) := by decide +kernel
theorem dX5_calm_11 : decode cX5_calm 11 = .ok (.iload_n 2, 1) := by decide +kernel
theorem dX5_calm_12 : decode cX5_calm 12 = .ok (.invokevirtual 112, 3) := by decide +kernel
theorem dX5_calm_15 : decode cX5_calm 15 = .ok (.ifCond .eq 12, 3) := by decide +kernel
theorem dX5_calm_18 : decode cX5_calm 18 = .ok (.iload_n 3, 1) := by decide +kernel
theorem dX5_calm_19 : decode cX5_calm 19 = .ok (.ifCond .lt 8, 3) := by decide +kernel
theorem dX5_calm_22 : decode cX5_calm 22 = .ok (.iload_n 3, 1) := by decide +kernel
theorem dX5_calm_23 : decode cX5_calm 23 = .ok (.iconst 1, 1) := by decide +kernel
theorem dX5_calm_24 : decode cX5_calm 24 = .ok (.if_icmp .le 7, 3) := by decide +kernel
theorem dX5_calm_27 : decode cX5_calm 27 = .ok (.ldc2_w 234, 3) := by decide +kernel
theorem dX5_calm_30 : decode cX5_calm 30 = .ok (.lreturn, 1) := by decide +kernel
theorem dX5_calm_31 : decode cX5_calm 31 = .ok (.aload_n 0, 1) := by decide +kernel
theorem dX5_calm_32 : decode cX5_calm 32 = .ok (.iload_n 1, 1) := by decide +kernel
theorem dX5_calm_33 : decode cX5_calm 33 = .ok (.invokevirtual 236, 3) := by decide +kernel
theorem dX5_calm_36 : decode cX5_calm 36 = .ok (.aload_n 0, 1) := by decide +kernel
theorem dX5_calm_37 : decode cX5_calm 37 = .ok (.getfield 59, 3) := by decide +kernel
theorem dX5_calm_40 : decode cX5_calm 40 = .ok (.iload_n 2, 1) := by decide +kernel
theorem dX5_calm_41 : decode cX5_calm 41 = .ok (.laload, 1) := by decide +kernel
theorem dX5_calm_42 : decode cX5_calm 42 = .ok (.lstore 4, 2) := by decide +kernel
theorem dX5_calm_44 : decode cX5_calm 44 = .ok (.iconst 4, 1) := by decide +kernel
theorem dX5_calm_45 : decode cX5_calm 45 = .ok (.aload_n 0, 1) := by decide +kernel
theorem dX5_calm_46 : decode cX5_calm 46 = .ok (.getfield 22, 3) := by decide +kernel
theorem dX5_calm_49 : decode cX5_calm 49 = .ok (.getfield 91, 3) := by decide +kernel
theorem dX5_calm_52 : decode cX5_calm 52 = .ok (.getfield 150, 3) := by decide +kernel
theorem dX5_calm_55 : decode cX5_calm 55 = .ok (.imul, 1) := by decide +kernel
theorem dX5_calm_56 : decode cX5_calm 56 = .ok (.istore 6, 2) := by decide +kernel
theorem dX5_calm_58 : decode cX5_calm 58 = .ok (.lload 4, 2) := by decide +kernel
theorem dX5_calm_60 : decode cX5_calm 60 = .ok (.lconst 0, 1) := by decide +kernel
theorem dX5_calm_61 : decode cX5_calm 61 = .ok (.lcmp, 1) := by decide +kernel
theorem dX5_calm_62 : decode cX5_calm 62 = .ok (.ifCond .ne 13, 3) := by decide +kernel
theorem dX5_calm_65 : decode cX5_calm 65 = .ok (.iload_n 3, 1) := by decide +kernel
theorem dX5_calm_66 : decode cX5_calm 66 = .ok (.ifCond .ne 7, 3) := by decide +kernel
theorem dX5_calm_69 : decode cX5_calm 69 = .ok (.lconst 0, 1) := by decide +kernel
theorem dX5_calm_70 : decode cX5_calm 70 = .ok (.goto 4, 3) := by decide +kernel
theorem dX5_calm_73 : decode cX5_calm 73 = .ok (.lconst 1, 1) := by decide +kernel
theorem dX5_calm_74 : decode cX5_calm 74 = .ok (.lreturn, 1) := by decide +kernel
theorem dX5_calm_75 : decode cX5_calm 75 = .ok (.iload 6, 2) := by decide +kernel
theorem dX5_calm_77 : decode cX5_calm 77 = .ok (.ifCond .le 24, 3) := by decide +kernel
theorem dX5_calm_80 : decode cX5_calm 80 = .ok (.lload 4, 2) := by decide +kernel
theorem dX5_calm_82 : decode cX5_calm 82 = .ok (.lconst 1, 1) := by decide +kernel
theorem dX5_calm_83 : decode cX5_calm 83 = .ok (.land, 1) := by decide +kernel
theorem dX5_calm_84 : decode cX5_calm 84 = .ok (.lconst 0, 1) := by decide +kernel
theorem dX5_calm_85 : decode cX5_calm 85 = .ok (.lcmp, 1) := by decide +kernel
theorem dX5_calm_86 : decode cX5_calm 86 = .ok (.ifCond .ne 15, 3) := by decide +kernel
theorem dX5_calm_89 : decode cX5_calm 89 = .ok (.lload 4, 2) := by decide +kernel
theorem dX5_calm_91 : decode cX5_calm 91 = .ok (.iconst 1, 1) := by decide +kernel
theorem dX5_calm_92 : decode cX5_calm 92 = .ok (.lshr, 1) := by decide +kernel
theorem dX5_calm_93 : decode cX5_calm 93 = .ok (.lstore 4, 2) := by decide +kernel
theorem dX5_calm_95 : decode cX5_calm 95 = .ok (.iinc 6 (-1), 3) := by decide +kernel
theorem dX5_calm_98 : decode cX5_calm 98 = .ok (.goto (-23), 3) := by decide +kernel
theorem dX5_calm_101 : decode cX5_calm 101 = .ok (.iload_n 3, 1) := by decide +kernel
theorem dX5_calm_102 : decode cX5_calm 102 = .ok (.ifCond .ne 8, 3) := by decide +kernel
theorem dX5_calm_105 : decode cX5_calm 105 = .ok (.lload 4, 2) := by decide +kernel
theorem dX5_calm_107 : decode cX5_calm 107 = .ok (.goto 7, 3) := by decide +kernel
theorem dX5_calm_110 : decode cX5_calm 110 = .ok (.lconst 1, 1) := by decide +kernel
theorem dX5_calm_111 : decode cX5_calm 111 = .ok (.iload 6, 2) := by decide +kernel
theorem dX5_calm_113 : decode cX5_calm 113 = .ok (.lshl, 1) := by decide +kernel
theorem dX5_calm_114 : decode cX5_calm 114 = .ok (.lreturn, 1) := by decide +kernel
theorem dX5_weather_0 : decode cX5_weather 0 = .ok (.iload_n 2, 1) := by decide +kernel
theorem dX5_weather_1 : decode cX5_weather 1 = .ok (.iconst 1, 1) := by decide +kernel
theorem dX5_weather_2 : decode cX5_weather 2 = .ok (.if_icmp .lt 18, 3) := by decide +kernel
theorem dX5_weather_5 : decode cX5_weather 5 = .ok (.iload_n 2, 1) := by decide +kernel
theorem dX5_weather_6 : decode cX5_weather 6 = .ok (.bipush 12, 2) := by decide +kernel
theorem dX5_weather_8 : decode cX5_weather 8 = .ok (.if_icmp .gt 12, 3) := by decide +kernel
theorem dX5_weather_11 : decode cX5_weather 11 = .ok (.iload_n 3, 1) := by decide +kernel
theorem dX5_weather_12 : decode cX5_weather 12 = .ok (.ifCond .lt 8, 3) := by decide +kernel
theorem dX5_weather_15 : decode cX5_weather 15 = .ok (.iload_n 3, 1) := by decide +kernel
theorem dX5_weather_16 : decode cX5_weather 16 = .ok (.iconst 1, 1) := by decide +kernel
theorem dX5_weather_17 : decode cX5_weather 17 = .ok (.if_icmp .le 6, 3) := by decide +kernel
theorem dX5_weather_20 : decode cX5_weather 20 = .ok (.bipush (-2), 2) := by decide +kernel
theorem dX5_weather_22 : decode cX5_weather 22 = .ok (.ireturn, 1) := by decide +kernel
theorem dX5_weather_23 : decode cX5_weather 23 = .ok (.aload_n 0, 1) := by decide +kernel
theorem dX5_weather_24 : decode cX5_weather 24 = .ok (.getfield 26, 3) := by decide +kernel
theorem dX5_weather_27 : decode cX5_weather 27 = .ok (.getfield 91, 3) := by decide +kernel
theorem dX5_weather_30 : decode cX5_weather 30 = .ok (.aload_n 0, 1) := by decide +kernel
theorem dX5_weather_31 : decode cX5_weather 31 = .ok (.getfield 22, 3) := by decide +kernel
theorem dX5_weather_34 : decode cX5_weather 34 = .ok (.getfield 91, 3) := by decide +kernel
theorem dX5_weather_37 : decode cX5_weather 37 = .ok (.invokevirtual 153, 3) := by decide +kernel
theorem dX5_weather_40 : decode cX5_weather 40 = .ok (.aload_n 0, 1) := by decide +kernel
theorem dX5_weather_41 : decode cX5_weather 41 = .ok (.getfield 26, 3) := by decide +kernel
theorem dX5_weather_44 : decode cX5_weather 44 = .ok (.getfield 91, 3) := by decide +kernel
theorem dX5_weather_47 : decode cX5_weather 47 = .ok (.iload_n 2, 1) := by decide +kernel
theorem dX5_weather_48 : decode cX5_weather 48 = .ok (.putfield 150, 3) := by decide +kernel
theorem dX5_weather_51 : decode cX5_weather 51 = .ok (.iload_n 1, 1) := by decide +kernel
theorem dX5_weather_52 : decode cX5_weather 52 = .ok (.istore 4, 2) := by decide +kernel
theorem dX5_weather_54 : decode cX5_weather 54 = .ok (.iconst 0, 1) := by decide +kernel
theorem dX5_weather_55 : decode cX5_weather 55 = .ok (.istore 5, 2) := by decide +kernel
theorem dX5_weather_57 : decode cX5_weather 57 = .ok (.iload 5, 2) := by decide +kernel
theorem dX5_weather_59 : decode cX5_weather 59 = .ok (.iload_n 2, 1) := by decide +kernel
theorem dX5_weather_60 : decode cX5_weather 60 = .ok (.if_icmp .ge 64, 3) := by decide +kernel
theorem dX5_weather_63 : decode cX5_weather 63 = .ok (.iload 4, 2) := by decide +kernel
theorem dX5_weather_65 : decode cX5_weather 65 = .ok (.invokestatic 239, 3) := by decide +kernel
theorem dX5_weather_68 : decode cX5_weather 68 = .ok (.istore 4, 2) := by decide +kernel
theorem dX5_weather_70 : decode cX5_weather 70 = .ok (.aload_n 0, 1) := by decide +kernel
theorem dX5_weather_71 : decode cX5_weather 71 = .ok (.getfield 26, 3) := by decide +kernel
theorem dX5_weather_74 : decode cX5_weather 74 = .ok (.getfield 91, 3) := by decide +kernel
theorem dX5_weather_77 : decode cX5_weather 77 = .ok (.getfield 106, 3) := by decide +kernel
theorem dX5_weather_80 : decode cX5_weather 80 = .ok (.iload 5, 2) := by decide +kernel
theorem dX5_weather_82 : decode cX5_weather 82 = .ok (.iload 4, 2) := by decide +kernel
theorem dX5_weather_84 : decode cX5_weather 84 = .ok (.bipush 16, 2) := by decide +kernel
theorem dX5_weather_86 : decode cX5_weather 86 = .ok (.iushr, 1) := by decide +kernel
theorem dX5_weather_87 : decode cX5_weather 87 = .ok (.iconst 4, 1) := by decide +kernel
theorem dX5_weather_88 : decode cX5_weather 88 = .ok (.irem, 1) := by decide +kernel
theorem dX5_weather_89 : decode cX5_weather 89 = .ok (.iastore, 1) := by decide +kernel
theorem dX5_weather_90 : decode cX5_weather 90 = .ok (.iload 4, 2) := by decide +kernel
theorem dX5_weather_92 : decode cX5_weather 92 = .ok (.invokestatic 239, 3) := by decide +kernel
theorem dX5_weather_95 : decode cX5_weather 95 = .ok (.istore 4, 2) := by decide +kernel
theorem dX5_weather_97 : decode cX5_weather 97 = .ok (.aload_n 0, 1) := by decide +kernel
theorem dX5_weather_98 : decode cX5_weather 98 = .ok (.getfield 26, 3) := by decide +kernel
theorem dX5_weather_101 : decode cX5_weather 101 = .ok (.getfield 91, 3) := by decide +kernel
theorem dX5_weather_104 : decode cX5_weather 104 = .ok (.getfield 109, 3) := by decide +kernel
theorem dX5_weather_107 : decode cX5_weather 107 = .ok (.iload 5, 2) := by decide +kernel
theorem dX5_weather_109 : decode cX5_weather 109 = .ok (.iload 4, 2) := by decide +kernel
theorem dX5_weather_111 : decode cX5_weather 111 = .ok (.bipush 16, 2) := by decide +kernel
theorem dX5_weather_113 : decode cX5_weather 113 = .ok (.iushr, 1) := by decide +kernel
theorem dX5_weather_114 : decode cX5_weather 114 = .ok (.bipush 10, 2) := by decide +kernel
theorem dX5_weather_116 : decode cX5_weather 116 = .ok (.irem, 1) := by decide +kernel
theorem dX5_weather_117 : decode cX5_weather 117 = .ok (.iastore, 1) := by decide +kernel
theorem dX5_weather_118 : decode cX5_weather 118 = .ok (.iinc 5 1, 3) := by decide +kernel
theorem dX5_weather_121 : decode cX5_weather 121 = .ok (.goto (-64), 3) := by decide +kernel
theorem dX5_weather_124 : decode cX5_weather 124 = .ok (.aload_n 0, 1) := by decide +kernel
theorem dX5_weather_125 : decode cX5_weather 125 = .ok (.getfield 26, 3) := by decide +kernel
theorem dX5_weather_128 : decode cX5_weather 128 = .ok (.invokevirtual 176, 3) := by decide +kernel
theorem dX5_weather_131 : decode cX5_weather 131 = .ok (.iload_n 3, 1) := by decide +kernel
theorem dX5_weather_132 : decode cX5_weather 132 = .ok (.ifCond .ne 13, 3) := by decide +kernel
theorem dX5_weather_135 : decode cX5_weather 135 = .ok (.aload_n 0, 1) := by decide +kernel
theorem dX5_weather_136 : decode cX5_weather 136 = .ok (.getfield 26, 3) := by decide +kernel
theorem dX5_weather_139 : decode cX5_weather 139 = .ok (.invokevirtual 179, 3) := by decide +kernel
theorem dX5_weather_142 : decode cX5_weather 142 = .ok (.goto 10, 3) := by decide +kernel
theorem dX5_weather_145 : decode cX5_weather 145 = .ok (.aload_n 0, 1) := by decide +kernel
theorem dX5_weather_146 : decode cX5_weather 146 = .ok (.getfield 26, 3) := by decide +kernel
theorem dX5_weather_149 : decode cX5_weather 149 = .ok (.invokevirtual 242, 3) := by decide +kernel
theorem dX5_weather_152 : decode cX5_weather 152 = .ok (.ireturn, 1) := by decide +kernel
theorem dX5_nextLots_0 : decode cX5_nextLots 0 = .ok (.ldc 245, 2) := by decide +kernel
theorem dX5_nextLots_2 : decode cX5_nextLots 2 = .ok (.iload_n 0, 1) := by decide +kernel
theorem dX5_nextLots_3 : decode cX5_nextLots 3 = .ok (.imul, 1) := by decide +kernel
theorem dX5_nextLots_4 : decode cX5_nextLots 4 = .ok (.sipush 12345, 3) := by decide +kernel
theorem dX5_nextLots_7 : decode cX5_nextLots 7 = .ok (.iadd, 1) := by decide +kernel
theorem dX5_nextLots_8 : decode cX5_nextLots 8 = .ok (.ireturn, 1) := by decide +kernel
theorem dX5_inquire_0 : decode cX5_inquire 0 = .ok (.aload_n 0, 1) := by decide +kernel
theorem dX5_inquire_1 : decode cX5_inquire 1 = .ok (.getfield 46, 3) := by decide +kernel
theorem dX5_inquire_4 : decode cX5_inquire 4 = .ok (.iload_n 1, 1) := by decide +kernel
theorem dX5_inquire_5 : decode cX5_inquire 5 = .ok (.if_icmp .eq 11, 3) := by decide +kernel
theorem dX5_inquire_8 : decode cX5_inquire 8 = .ok (.aload_n 0, 1) := by decide +kernel
theorem dX5_inquire_9 : decode cX5_inquire 9 = .ok (.iload_n 1, 1) := by decide +kernel
theorem dX5_inquire_10 : decode cX5_inquire 10 = .ok (.invokevirtual 103, 3) := by decide +kernel
theorem dX5_inquire_13 : decode cX5_inquire 13 = .ok (.ifCond .ne 4, 3) := by decide +kernel
theorem dX5_inquire_16 : decode cX5_inquire 16 = .ok (.return_, 1) := by decide +kernel
theorem dX5_inquire_17 : decode cX5_inquire 17 = .ok (.aload_n 0, 1) := by decide +kernel
theorem dX5_inquire_18 : decode cX5_inquire 18 = .ok (.getfield 53, 3) := by decide +kernel
theorem dX5_inquire_21 : decode cX5_inquire 21 = .ok (.iconst 0, 1) := by decide +kernel
theorem dX5_inquire_22 : decode cX5_inquire 22 = .ok (.invokestatic 246, 3) := by decide +kernel
theorem dX5_inquire_25 : decode cX5_inquire 25 = .ok (.aload_n 0, 1) := by decide +kernel
theorem dX5_inquire_26 : decode cX5_inquire 26 = .ok (.lconst 0, 1) := by decide +kernel
theorem dX5_inquire_27 : decode cX5_inquire 27 = .ok (.putfield 49, 3) := by decide +kernel
theorem dX5_inquire_30 : decode cX5_inquire 30 = .ok (.aload_n 0, 1) := by decide +kernel
theorem dX5_inquire_31 : decode cX5_inquire 31 = .ok (.getfield 26, 3) := by decide +kernel
theorem dX5_inquire_34 : decode cX5_inquire 34 = .ok (.getfield 91, 3) := by decide +kernel
theorem dX5_inquire_37 : decode cX5_inquire 37 = .ok (.aload_n 0, 1) := by decide +kernel
theorem dX5_inquire_38 : decode cX5_inquire 38 = .ok (.getfield 22, 3) := by decide +kernel
theorem dX5_inquire_41 : decode cX5_inquire 41 = .ok (.getfield 91, 3) := by decide +kernel
theorem dX5_inquire_44 : decode cX5_inquire 44 = .ok (.invokevirtual 153, 3) := by decide +kernel
theorem dX5_inquire_47 : decode cX5_inquire 47 = .ok (.aload_n 0, 1) := by decide +kernel
theorem dX5_inquire_48 : decode cX5_inquire 48 = .ok (.getfield 26, 3) := by decide +kernel
theorem dX5_inquire_51 : decode cX5_inquire 51 = .ok (.invokevirtual 252, 3) := by decide +kernel
theorem dX5_inquire_54 : decode cX5_inquire 54 = .ok (.aload_n 0, 1) := by decide +kernel
theorem dX5_inquire_55 : decode cX5_inquire 55 = .ok (.getfield 26, 3) := by decide +kernel
theorem dX5_inquire_58 : decode cX5_inquire 58 = .ok (.iconst 0, 1) := by decide +kernel
theorem dX5_inquire_59 : decode cX5_inquire 59 = .ok (.invokevirtual 255, 3) := by decide +kernel
theorem dX5_inquire_62 : decode cX5_inquire 62 = .ok (.iconst 0, 1) := by decide +kernel
theorem dX5_inquire_63 : decode cX5_inquire 63 = .ok (.istore_n 2, 1) := by decide +kernel
theorem dX5_inquire_64 : decode cX5_inquire 64 = .ok (.iload_n 2, 1) := by decide +kernel
theorem dX5_inquire_65 : decode cX5_inquire 65 = .ok (.bipush 40, 2) := by decide +kernel
theorem dX5_inquire_67 : decode cX5_inquire 67 = .ok (.if_icmp .ge 79, 3) := by decide +kernel
theorem dX5_inquire_70 : decode cX5_inquire 70 = .ok (.aload_n 0, 1) := by decide +kernel
theorem dX5_inquire_71 : decode cX5_inquire 71 = .ok (.getfield 26, 3) := by decide +kernel
theorem dX5_inquire_74 : decode cX5_inquire 74 = .ok (.getfield 91, 3) := by decide +kernel
theorem dX5_inquire_77 : decode cX5_inquire 77 = .ok (.getfield 106, 3) := by decide +kernel
theorem dX5_inquire_80 : decode cX5_inquire 80 = .ok (.iload_n 1, 1) := by decide +kernel
theorem dX5_inquire_81 : decode cX5_inquire 81 = .ok (.iload_n 2, 1) := by decide +kernel
theorem dX5_inquire_82 : decode cX5_inquire 82 = .ok (.bipush 10, 2) := by decide +kernel
theorem dX5_inquire_84 : decode cX5_inquire 84 = .ok (.idiv, 1) := by decide +kernel
theorem dX5_inquire_85 : decode cX5_inquire 85 = .ok (.iastore, 1) := by decide +kernel
theorem dX5_inquire_86 : decode cX5_inquire 86 = .ok (.aload_n 0, 1) := by decide +kernel
theorem dX5_inquire_87 : decode cX5_inquire 87 = .ok (.getfield 26, 3) := by decide +kernel
theorem dX5_inquire_90 : decode cX5_inquire 90 = .ok (.getfield 91, 3) := by decide +kernel
theorem dX5_inquire_93 : decode cX5_inquire 93 = .ok (.getfield 109, 3) := by decide +kernel
theorem dX5_inquire_96 : decode cX5_inquire 96 = .ok (.iload_n 1, 1) := by decide +kernel
theorem dX5_inquire_97 : decode cX5_inquire 97 = .ok (.iload_n 2, 1) := by decide +kernel
theorem dX5_inquire_98 : decode cX5_inquire 98 = .ok (.bipush 10, 2) := by decide +kernel
theorem dX5_inquire_100 : decode cX5_inquire 100 = .ok (.irem, 1) := by decide +kernel
theorem dX5_inquire_101 : decode cX5_inquire 101 = .ok (.iastore, 1) := by decide +kernel
theorem dX5_inquire_102 : decode cX5_inquire 102 = .ok (.aload_n 0, 1) := by decide +kernel
theorem dX5_inquire_103 : decode cX5_inquire 103 = .ok (.getfield 26, 3) := by decide +kernel
theorem dX5_inquire_106 : decode cX5_inquire 106 = .ok (.iload_n 1, 1) := by decide +kernel
theorem dX5_inquire_107 : decode cX5_inquire 107 = .ok (.invokevirtual 255, 3) := by decide +kernel
theorem dX5_inquire_110 : decode cX5_inquire 110 = .ok (.aload_n 0, 1) := by decide +kernel
theorem dX5_inquire_111 : decode cX5_inquire 111 = .ok (.getfield 32, 3) := by decide +kernel
theorem dX5_inquire_114 : decode cX5_inquire 114 = .ok (.aload_n 0, 1) := by decide +kernel
theorem dX5_inquire_115 : decode cX5_inquire 115 = .ok (.getfield 26, 3) := by decide +kernel
theorem dX5_inquire_118 : decode cX5_inquire 118 = .ok (.invokevirtual 225, 3) := by decide +kernel
theorem dX5_inquire_121 : decode cX5_inquire 121 = .ok (.ifCond .eq 19, 3) := by decide +kernel
theorem dX5_inquire_124 : decode cX5_inquire 124 = .ok (.aload_n 0, 1) := by decide +kernel
theorem dX5_inquire_125 : decode cX5_inquire 125 = .ok (.dup, 1) := by decide +kernel
theorem dX5_inquire_126 : decode cX5_inquire 126 = .ok (.getfield 49, 3) := by decide +kernel
theorem dX5_inquire_129 : decode cX5_inquire 129 = .ok (.lconst 1, 1) := by decide +kernel
theorem dX5_inquire_130 : decode cX5_inquire 130 = .ok (.iload_n 2, 1) := by decide +kernel
theorem dX5_inquire_131 : decode cX5_inquire 131 = .ok (.lshl, 1) := by decide +kernel
theorem dX5_inquire_132 : decode cX5_inquire 132 = .ok (.lor, 1) := by decide +kernel
theorem dX5_inquire_133 : decode cX5_inquire 133 = .ok (.putfield 49, 3) := by decide +kernel
theorem dX5_inquire_136 : decode cX5_inquire 136 = .ok (.aload_n 0, 1) := by decide +kernel
theorem dX5_inquire_137 : decode cX5_inquire 137 = .ok (.invokevirtual 258, 3) := by decide +kernel
theorem dX5_inquire_140 : decode cX5_inquire 140 = .ok (.iinc 2 1, 3) := by decide +kernel
theorem dX5_inquire_143 : decode cX5_inquire 143 = .ok (.goto (-79), 3) := by decide +kernel
theorem dX5_inquire_146 : decode cX5_inquire 146 = .ok (.aload_n 0, 1) := by decide +kernel
theorem dX5_inquire_147 : decode cX5_inquire 147 = .ok (.iload_n 1, 1) := by decide +kernel
theorem dX5_inquire_148 : decode cX5_inquire 148 = .ok (.putfield 46, 3) := by decide +kernel
theorem dX5_inquire_151 : decode cX5_inquire 151 = .ok (.return_, 1) := by decide +kernel
theorem dX5_tallyTrial_0 : decode cX5_tallyTrial 0 = .ok (.iconst 0, 1) := by decide +kernel
theorem dX5_tallyTrial_1 : decode cX5_tallyTrial 1 = .ok (.istore_n 1, 1) := by decide +kernel
theorem dX5_tallyTrial_2 : decode cX5_tallyTrial 2 = .ok (.iload_n 1, 1) := by decide +kernel
theorem dX5_tallyTrial_3 : decode cX5_tallyTrial 3 = .ok (.aload_n 0, 1) := by decide +kernel
theorem dX5_tallyTrial_4 : decode cX5_tallyTrial 4 = .ok (.getfield 26, 3) := by decide +kernel
theorem dX5_tallyTrial_7 : decode cX5_tallyTrial 7 = .ok (.getfield 91, 3) := by decide +kernel
theorem dX5_tallyTrial_10 : decode cX5_tallyTrial 10 = .ok (.getfield 150, 3) := by decide +kernel
theorem dX5_tallyTrial_13 : decode cX5_tallyTrial 13 = .ok (.if_icmp .ge 51, 3) := by decide +kernel
theorem dX5_tallyTrial_16 : decode cX5_tallyTrial 16 = .ok (.iload_n 1, 1) := by decide +kernel
theorem dX5_tallyTrial_17 : decode cX5_tallyTrial 17 = .ok (.bipush 12, 2) := by decide +kernel
theorem dX5_tallyTrial_19 : decode cX5_tallyTrial 19 = .ok (.if_icmp .ge 45, 3) := by decide +kernel
theorem dX5_tallyTrial_22 : decode cX5_tallyTrial 22 = .ok (.aload_n 0, 1) := by decide +kernel
theorem dX5_tallyTrial_23 : decode cX5_tallyTrial 23 = .ok (.getfield 26, 3) := by decide +kernel
theorem dX5_tallyTrial_26 : decode cX5_tallyTrial 26 = .ok (.iload_n 1, 1) := by decide +kernel
theorem dX5_tallyTrial_27 : decode cX5_tallyTrial 27 = .ok (.invokevirtual 147, 3) := by decide +kernel
theorem dX5_tallyTrial_30 : decode cX5_tallyTrial 30 = .ok (.istore_n 2, 1) := by decide +kernel
theorem dX5_tallyTrial_31 : decode cX5_tallyTrial 31 = .ok (.iload_n 2, 1) := by decide +kernel
theorem dX5_tallyTrial_32 : decode cX5_tallyTrial 32 = .ok (.iconst (-1), 1) := by decide +kernel
theorem dX5_tallyTrial_33 : decode cX5_tallyTrial 33 = .ok (.if_icmp .ne 8, 3) := by decide +kernel
theorem dX5_tallyTrial_36 : decode cX5_tallyTrial 36 = .ok (.bipush 8, 2) := by decide +kernel
theorem dX5_tallyTrial_38 : decode cX5_tallyTrial 38 = .ok (.goto 4, 3) := by decide +kernel
theorem dX5_tallyTrial_41 : decode cX5_tallyTrial 41 = .ok (.iload_n 2, 1) := by decide +kernel
theorem dX5_tallyTrial_42 : decode cX5_tallyTrial 42 = .ok (.istore_n 3, 1) := by decide +kernel
theorem dX5_tallyTrial_43 : decode cX5_tallyTrial 43 = .ok (.aload_n 0, 1) := by decide +kernel
theorem dX5_tallyTrial_44 : decode cX5_tallyTrial 44 = .ok (.getfield 53, 3) := by decide +kernel
theorem dX5_tallyTrial_47 : decode cX5_tallyTrial 47 = .ok (.iload_n 1, 1) := by decide +kernel
theorem dX5_tallyTrial_48 : decode cX5_tallyTrial 48 = .ok (.bipush 9, 2) := by decide +kernel
theorem dX5_tallyTrial_50 : decode cX5_tallyTrial 50 = .ok (.imul, 1) := by decide +kernel
theorem dX5_tallyTrial_51 : decode cX5_tallyTrial 51 = .ok (.iload_n 3, 1) := by decide +kernel
theorem dX5_tallyTrial_52 : decode cX5_tallyTrial 52 = .ok (.iadd, 1) := by decide +kernel
theorem dX5_tallyTrial_53 : decode cX5_tallyTrial 53 = .ok (.dup2, 1) := by decide +kernel
theorem dX5_tallyTrial_54 : decode cX5_tallyTrial 54 = .ok (.iaload, 1) := by decide +kernel
theorem dX5_tallyTrial_55 : decode cX5_tallyTrial 55 = .ok (.iconst 1, 1) := by decide +kernel
theorem dX5_tallyTrial_56 : decode cX5_tallyTrial 56 = .ok (.iadd, 1) := by decide +kernel
theorem dX5_tallyTrial_57 : decode cX5_tallyTrial 57 = .ok (.iastore, 1) := by decide +kernel
theorem dX5_tallyTrial_58 : decode cX5_tallyTrial 58 = .ok (.iinc 1 1, 3) := by decide +kernel
theorem dX5_tallyTrial_61 : decode cX5_tallyTrial 61 = .ok (.goto (-59), 3) := by decide +kernel
theorem dX5_tallyTrial_64 : decode cX5_tallyTrial 64 = .ok (.return_, 1) := by decide +kernel
theorem dX5_greatestTally_0 : decode cX5_greatestTally 0 = .ok (.iconst 0, 1) := by decide +kernel
theorem dX5_greatestTally_1 : decode cX5_greatestTally 1 = .ok (.istore_n 2, 1) := by decide +kernel
theorem dX5_greatestTally_2 : decode cX5_greatestTally 2 = .ok (.iconst 0, 1) := by decide +kernel
theorem dX5_greatestTally_3 : decode cX5_greatestTally 3 = .ok (.istore_n 3, 1) := by decide +kernel
theorem dX5_greatestTally_4 : decode cX5_greatestTally 4 = .ok (.iload_n 3, 1) := by decide +kernel
theorem dX5_greatestTally_5 : decode cX5_greatestTally 5 = .ok (.bipush 8, 2) := by decide +kernel
theorem dX5_greatestTally_7 : decode cX5_greatestTally 7 = .ok (.if_icmp .gt 25, 3) := by decide +kernel
theorem dX5_greatestTally_10 : decode cX5_greatestTally 10 = .ok (.iload_n 2, 1) := by decide +kernel
theorem dX5_greatestTally_11 : decode cX5_greatestTally 11 = .ok (.aload_n 0, 1) := by decide +kernel
theorem dX5_greatestTally_12 : decode cX5_greatestTally 12 = .ok (.getfield 53, 3) := by decide +kernel
theorem dX5_greatestTally_15 : decode cX5_greatestTally 15 = .ok (.iload_n 1, 1) := by decide +kernel
theorem dX5_greatestTally_16 : decode cX5_greatestTally 16 = .ok (.bipush 9, 2) := by decide +kernel
theorem dX5_greatestTally_18 : decode cX5_greatestTally 18 = .ok (.imul, 1) := by decide +kernel
theorem dX5_greatestTally_19 : decode cX5_greatestTally 19 = .ok (.iload_n 3, 1) := by decide +kernel
theorem dX5_greatestTally_20 : decode cX5_greatestTally 20 = .ok (.iadd, 1) := by decide +kernel
theorem dX5_greatestTally_21 : decode cX5_greatestTally 21 = .ok (.iaload, 1) := by decide +kernel
theorem dX5_greatestTally_22 : decode cX5_greatestTally 22 = .ok (.invokestatic 261, 3) := by decide +kernel
theorem dX5_greatestTally_25 : decode cX5_greatestTally 25 = .ok (.istore_n 2, 1) := by decide +kernel
theorem dX5_greatestTally_26 : decode cX5_greatestTally 26 = .ok (.iinc 3 1, 3) := by decide +kernel
theorem dX5_greatestTally_29 : decode cX5_greatestTally 29 = .ok (.goto (-25), 3) := by decide +kernel
theorem dX5_greatestTally_32 : decode cX5_greatestTally 32 = .ok (.iload_n 2, 1) := by decide +kernel
theorem dX5_greatestTally_33 : decode cX5_greatestTally 33 = .ok (.ireturn, 1) := by decide +kernel
theorem dX5_weighCalms_0 : decode cX5_weighCalms 0 = .ok (.aload_n 0, 1) := by decide +kernel
theorem dX5_weighCalms_1 : decode cX5_weighCalms 1 = .ok (.getfield 56, 3) := by decide +kernel
theorem dX5_weighCalms_4 : decode cX5_weighCalms 4 = .ok (.iload_n 1, 1) := by decide +kernel
theorem dX5_weighCalms_5 : decode cX5_weighCalms 5 = .ok (.if_icmp .ne 4, 3) := by decide +kernel
theorem dX5_weighCalms_8 : decode cX5_weighCalms 8 = .ok (.return_, 1) := by decide +kernel
theorem dX5_weighCalms_9 : decode cX5_weighCalms 9 = .ok (.aload_n 0, 1) := by decide +kernel
theorem dX5_weighCalms_10 : decode cX5_weighCalms 10 = .ok (.getfield 59, 3) := by decide +kernel
theorem dX5_weighCalms_13 : decode cX5_weighCalms 13 = .ok (.lconst 0, 1) := by decide +kernel
theorem dX5_weighCalms_14 : decode cX5_weighCalms 14 = .ok (.invokestatic 266, 3) := by decide +kernel
theorem dX5_weighCalms_17 : decode cX5_weighCalms 17 = .ok (.aload_n 0, 1) := by decide +kernel
theorem dX5_weighCalms_18 : decode cX5_weighCalms 18 = .ok (.getfield 26, 3) := by decide +kernel
theorem dX5_weighCalms_21 : decode cX5_weighCalms 21 = .ok (.getfield 91, 3) := by decide +kernel
theorem dX5_weighCalms_24 : decode cX5_weighCalms 24 = .ok (.aload_n 0, 1) := by decide +kernel
theorem dX5_weighCalms_25 : decode cX5_weighCalms 25 = .ok (.getfield 22, 3) := by decide +kernel
theorem dX5_weighCalms_28 : decode cX5_weighCalms 28 = .ok (.getfield 91, 3) := by decide +kernel
theorem dX5_weighCalms_31 : decode cX5_weighCalms 31 = .ok (.invokevirtual 153, 3) := by decide +kernel
theorem dX5_weighCalms_34 : decode cX5_weighCalms 34 = .ok (.aload_n 0, 1) := by decide +kernel
theorem dX5_weighCalms_35 : decode cX5_weighCalms 35 = .ok (.getfield 26, 3) := by decide +kernel
theorem dX5_weighCalms_38 : decode cX5_weighCalms 38 = .ok (.invokevirtual 252, 3) := by decide +kernel
theorem dX5_weighCalms_41 : decode cX5_weighCalms 41 = .ok (.aload_n 0, 1) := by decide +kernel
theorem dX5_weighCalms_42 : decode cX5_weighCalms 42 = .ok (.getfield 63, 3) := by decide +kernel
theorem dX5_weighCalms_45 : decode cX5_weighCalms 45 = .ok (.iconst 0, 1) := by decide +kernel
theorem dX5_weighCalms_46 : decode cX5_weighCalms 46 = .ok (.lconst 1, 1) := by decide +kernel
theorem dX5_weighCalms_47 : decode cX5_weighCalms 47 = .ok (.lastore, 1) := by decide +kernel
theorem dX5_weighCalms_48 : decode cX5_weighCalms 48 = .ok (.aload_n 0, 1) := by decide +kernel
theorem dX5_weighCalms_49 : decode cX5_weighCalms 49 = .ok (.getfield 22, 3) := by decide +kernel
theorem dX5_weighCalms_52 : decode cX5_weighCalms 52 = .ok (.getfield 91, 3) := by decide +kernel
theorem dX5_weighCalms_55 : decode cX5_weighCalms 55 = .ok (.getfield 150, 3) := by decide +kernel
theorem dX5_weighCalms_58 : decode cX5_weighCalms 58 = .ok (.bipush 12, 2) := by decide +kernel
theorem dX5_weighCalms_60 : decode cX5_weighCalms 60 = .ok (.invokestatic 269, 3) := by decide +kernel
theorem dX5_weighCalms_63 : decode cX5_weighCalms 63 = .ok (.istore_n 2, 1) := by decide +kernel
theorem dX5_weighCalms_64 : decode cX5_weighCalms 64 = .ok (.iconst 0, 1) := by decide +kernel
theorem dX5_weighCalms_65 : decode cX5_weighCalms 65 = .ok (.istore_n 3, 1) := by decide +kernel
theorem dX5_weighCalms_66 : decode cX5_weighCalms 66 = .ok (.iload_n 3, 1) := by decide +kernel
theorem dX5_weighCalms_67 : decode cX5_weighCalms 67 = .ok (.iconst 1, 1) := by decide +kernel
theorem dX5_weighCalms_68 : decode cX5_weighCalms 68 = .ok (.iload_n 2, 1) := by decide +kernel
theorem dX5_weighCalms_69 : decode cX5_weighCalms 69 = .ok (.ishl, 1) := by decide +kernel
theorem dX5_weighCalms_70 : decode cX5_weighCalms 70 = .ok (.if_icmp .ge 183, 3) := by decide +kernel
theorem dX5_weighCalms_73 : decode cX5_weighCalms 73 = .ok (.iload_n 3, 1) := by decide +kernel
theorem dX5_weighCalms_74 : decode cX5_weighCalms 74 = .ok (.ifCond .ne 7, 3) := by decide +kernel
theorem dX5_weighCalms_77 : decode cX5_weighCalms 77 = .ok (.iconst 0, 1) := by decide +kernel
theorem dX5_weighCalms_78 : decode cX5_weighCalms 78 = .ok (.goto 11, 3) := by decide +kernel
theorem dX5_weighCalms_81 : decode cX5_weighCalms 81 = .ok (.iload_n 2, 1) := by decide +kernel
theorem dX5_weighCalms_82 : decode cX5_weighCalms 82 = .ok (.iconst 1, 1) := by decide +kernel
theorem dX5_weighCalms_83 : decode cX5_weighCalms 83 = .ok (.isub, 1) := by decide +kernel
theorem dX5_weighCalms_84 : decode cX5_weighCalms 84 = .ok (.iload_n 3, 1) := by decide +kernel
theorem dX5_weighCalms_85 : decode cX5_weighCalms 85 = .ok (.invokestatic 272, 3) := by decide +kernel
theorem dX5_weighCalms_88 : decode cX5_weighCalms 88 = .ok (.isub, 1) := by decide +kernel
theorem dX5_weighCalms_89 : decode cX5_weighCalms 89 = .ok (.istore 4, 2) := by decide +kernel
theorem dX5_weighCalms_91 : decode cX5_weighCalms 91 = .ok (.iload 4, 2) := by decide +kernel
theorem dX5_weighCalms_93 : decode cX5_weighCalms 93 = .ok (.istore 5, 2) := by decide +kernel
theorem dX5_weighCalms_95 : decode cX5_weighCalms 95 = .ok (.iload 5, 2) := by decide +kernel
theorem dX5_weighCalms_97 : decode cX5_weighCalms 97 = .ok (.iload_n 2, 1) := by decide +kernel
theorem dX5_weighCalms_98 : decode cX5_weighCalms 98 = .ok (.if_icmp .ge 105, 3) := by decide +kernel
theorem dX5_weighCalms_101 : decode cX5_weighCalms 101 = .ok (.iload_n 3, 1) := by decide +kernel
theorem dX5_weighCalms_102 : decode cX5_weighCalms 102 = .ok (.iload_n 2, 1) := by decide +kernel
theorem dX5_weighCalms_103 : decode cX5_weighCalms 103 = .ok (.iconst 1, 1) := by decide +kernel
theorem dX5_weighCalms_104 : decode cX5_weighCalms 104 = .ok (.isub, 1) := by decide +kernel
theorem dX5_weighCalms_105 : decode cX5_weighCalms 105 = .ok (.iload 5, 2) := by decide +kernel
theorem dX5_weighCalms_107 : decode cX5_weighCalms 107 = .ok (.isub, 1) := by decide +kernel
theorem dX5_weighCalms_108 : decode cX5_weighCalms 108 = .ok (.ishr, 1) := by decide +kernel
theorem dX5_weighCalms_109 : decode cX5_weighCalms 109 = .ok (.iconst 1, 1) := by decide +kernel
theorem dX5_weighCalms_110 : decode cX5_weighCalms 110 = .ok (.iand, 1) := by decide +kernel
theorem dX5_weighCalms_111 : decode cX5_weighCalms 111 = .ok (.iconst 1, 1) := by decide +kernel
theorem dX5_weighCalms_112 : decode cX5_weighCalms 112 = .ok (.if_icmp .ne 7, 3) := by decide +kernel
theorem dX5_weighCalms_115 : decode cX5_weighCalms 115 = .ok (.iconst 1, 1) := by decide +kernel
theorem dX5_weighCalms_116 : decode cX5_weighCalms 116 = .ok (.goto 4, 3) := by decide +kernel
theorem dX5_weighCalms_119 : decode cX5_weighCalms 119 = .ok (.iconst 0, 1) := by decide +kernel
theorem dX5_weighCalms_120 : decode cX5_weighCalms 120 = .ok (.istore 6, 2) := by decide +kernel
theorem dX5_weighCalms_122 : decode cX5_weighCalms 122 = .ok (.aload_n 0, 1) := by decide +kernel
theorem dX5_weighCalms_123 : decode cX5_weighCalms 123 = .ok (.getfield 26, 3) := by decide +kernel
theorem dX5_weighCalms_126 : decode cX5_weighCalms 126 = .ok (.getfield 91, 3) := by decide +kernel
theorem dX5_weighCalms_129 : decode cX5_weighCalms 129 = .ok (.getfield 109, 3) := by decide +kernel
theorem dX5_weighCalms_132 : decode cX5_weighCalms 132 = .ok (.iload 5, 2) := by decide +kernel
theorem dX5_weighCalms_134 : decode cX5_weighCalms 134 = .ok (.iload 6, 2) := by decide +kernel
theorem dX5_weighCalms_136 : decode cX5_weighCalms 136 = .ok (.ifCond .eq 19, 3) := by decide +kernel
theorem dX5_weighCalms_139 : decode cX5_weighCalms 139 = .ok (.aload_n 0, 1) := by decide +kernel
theorem dX5_weighCalms_140 : decode cX5_weighCalms 140 = .ok (.getfield 22, 3) := by decide +kernel
theorem dX5_weighCalms_143 : decode cX5_weighCalms 143 = .ok (.getfield 91, 3) := by decide +kernel
theorem dX5_weighCalms_146 : decode cX5_weighCalms 146 = .ok (.getfield 109, 3) := by decide +kernel
theorem dX5_weighCalms_149 : decode cX5_weighCalms 149 = .ok (.iload 5, 2) := by decide +kernel
theorem dX5_weighCalms_151 : decode cX5_weighCalms 151 = .ok (.iaload, 1) := by decide +kernel
theorem dX5_weighCalms_152 : decode cX5_weighCalms 152 = .ok (.goto 4, 3) := by decide +kernel
theorem dX5_weighCalms_155 : decode cX5_weighCalms 155 = .ok (.iconst 0, 1) := by decide +kernel
theorem dX5_weighCalms_156 : decode cX5_weighCalms 156 = .ok (.iastore, 1) := by decide +kernel
theorem dX5_weighCalms_157 : decode cX5_weighCalms 157 = .ok (.aload_n 0, 1) := by decide +kernel
theorem dX5_weighCalms_158 : decode cX5_weighCalms 158 = .ok (.getfield 26, 3) := by decide +kernel
theorem dX5_weighCalms_161 : decode cX5_weighCalms 161 = .ok (.iload 5, 2) := by decide +kernel
theorem dX5_weighCalms_163 : decode cX5_weighCalms 163 = .ok (.invokevirtual 275, 3) := by decide +kernel
theorem dX5_weighCalms_166 : decode cX5_weighCalms 166 = .ok (.aload_n 0, 1) := by decide +kernel
theorem dX5_weighCalms_167 : decode cX5_weighCalms 167 = .ok (.getfield 63, 3) := by decide +kernel
theorem dX5_weighCalms_170 : decode cX5_weighCalms 170 = .ok (.iload 5, 2) := by decide +kernel
theorem dX5_weighCalms_172 : decode cX5_weighCalms 172 = .ok (.iconst 1, 1) := by decide +kernel
theorem dX5_weighCalms_173 : decode cX5_weighCalms 173 = .ok (.iadd, 1) := by decide +kernel
theorem dX5_weighCalms_174 : decode cX5_weighCalms 174 = .ok (.aload_n 0, 1) := by decide +kernel
theorem dX5_weighCalms_175 : decode cX5_weighCalms 175 = .ok (.getfield 63, 3) := by decide +kernel
theorem dX5_weighCalms_178 : decode cX5_weighCalms 178 = .ok (.iload 5, 2) := by decide +kernel
theorem dX5_weighCalms_180 : decode cX5_weighCalms 180 = .ok (.laload, 1) := by decide +kernel
theorem dX5_weighCalms_181 : decode cX5_weighCalms 181 = .ok (.iload 6, 2) := by decide +kernel
theorem dX5_weighCalms_183 : decode cX5_weighCalms 183 = .ok (.ifCond .eq 7, 3) := by decide +kernel
theorem dX5_weighCalms_186 : decode cX5_weighCalms 186 = .ok (.iload_n 1, 1) := by decide +kernel
theorem dX5_weighCalms_187 : decode cX5_weighCalms 187 = .ok (.goto 7, 3) := by decide +kernel
theorem dX5_weighCalms_190 : decode cX5_weighCalms 190 = .ok (.bipush 16, 2) := by decide +kernel
theorem dX5_weighCalms_192 : decode cX5_weighCalms 192 = .ok (.iload_n 1, 1) := by decide +kernel
theorem dX5_weighCalms_193 : decode cX5_weighCalms 193 = .ok (.isub, 1) := by decide +kernel
theorem dX5_weighCalms_194 : decode cX5_weighCalms 194 = .ok (.i2l, 1) := by decide +kernel
theorem dX5_weighCalms_195 : decode cX5_weighCalms 195 = .ok (.lmul, 1) := by decide +kernel
theorem dX5_weighCalms_196 : decode cX5_weighCalms 196 = .ok (.lastore, 1) := by decide +kernel
theorem dX5_weighCalms_197 : decode cX5_weighCalms 197 = .ok (.iinc 5 1, 3) := by decide +kernel
theorem dX5_weighCalms_200 : decode cX5_weighCalms 200 = .ok (.goto (-105), 3) := by decide +kernel
theorem dX5_weighCalms_203 : decode cX5_weighCalms 203 = .ok (.aload_n 0, 1) := by decide +kernel
theorem dX5_weighCalms_204 : decode cX5_weighCalms 204 = .ok (.getfield 26, 3) := by decide +kernel
theorem dX5_weighCalms_207 : decode cX5_weighCalms 207 = .ok (.invokevirtual 278, 3) := by decide +kernel
theorem dX5_weighCalms_210 : decode cX5_weighCalms 210 = .ok (.aload_n 0, 1) := by decide +kernel
theorem dX5_weighCalms_211 : decode cX5_weighCalms 211 = .ok (.getfield 26, 3) := by decide +kernel
theorem dX5_weighCalms_214 : decode cX5_weighCalms 214 = .ok (.invokevirtual 179, 3) := by decide +kernel
theorem dX5_weighCalms_217 : decode cX5_weighCalms 217 = .ok (.istore 5, 2) := by decide +kernel
theorem dX5_weighCalms_219 : decode cX5_weighCalms 219 = .ok (.iload 5, 2) := by decide +kernel
theorem dX5_weighCalms_221 : decode cX5_weighCalms 221 = .ok (.ifCond .lt 26, 3) := by decide +kernel
theorem dX5_weighCalms_224 : decode cX5_weighCalms 224 = .ok (.iload 5, 2) := by decide +kernel
theorem dX5_weighCalms_226 : decode cX5_weighCalms 226 = .ok (.bipush 8, 2) := by decide +kernel
theorem dX5_weighCalms_228 : decode cX5_weighCalms 228 = .ok (.if_icmp .ge 19, 3) := by decide +kernel
theorem dX5_weighCalms_231 : decode cX5_weighCalms 231 = .ok (.aload_n 0, 1) := by decide +kernel
theorem dX5_weighCalms_232 : decode cX5_weighCalms 232 = .ok (.getfield 59, 3) := by decide +kernel
theorem dX5_weighCalms_235 : decode cX5_weighCalms 235 = .ok (.iload 5, 2) := by decide +kernel
theorem dX5_weighCalms_237 : decode cX5_weighCalms 237 = .ok (.dup2, 1) := by decide +kernel
theorem dX5_weighCalms_238 : decode cX5_weighCalms 238 = .ok (.laload, 1) := by decide +kernel
theorem dX5_weighCalms_239 : decode cX5_weighCalms 239 = .ok (.aload_n 0, 1) := by decide +kernel
theorem dX5_weighCalms_240 : decode cX5_weighCalms 240 = .ok (.getfield 63, 3) := by decide +kernel
theorem dX5_weighCalms_243 : decode cX5_weighCalms 243 = .ok (.iload_n 2, 1) := by decide +kernel
theorem dX5_weighCalms_244 : decode cX5_weighCalms 244 = .ok (.laload, 1) := by decide +kernel
theorem dX5_weighCalms_245 : decode cX5_weighCalms 245 = .ok (.ladd, 1) := by decide +kernel
theorem dX5_weighCalms_246 : decode cX5_weighCalms 246 = .ok (.lastore, 1) := by decide +kernel
theorem dX5_weighCalms_247 : decode cX5_weighCalms 247 = .ok (.iinc 3 1, 3) := by decide +kernel
theorem dX5_weighCalms_250 : decode cX5_weighCalms 250 = .ok (.goto (-184), 3) := by decide +kernel
theorem dX5_weighCalms_253 : decode cX5_weighCalms 253 = .ok (.aload_n 0, 1) := by decide +kernel
theorem dX5_weighCalms_254 : decode cX5_weighCalms 254 = .ok (.iload_n 1, 1) := by decide +kernel
theorem dX5_weighCalms_255 : decode cX5_weighCalms 255 = .ok (.putfield 56, 3) := by decide +kernel
theorem dX5_weighCalms_258 : decode cX5_weighCalms 258 = .ok (.return_, 1) := by decide +kernel
theorem dX5_lowestBit_0 : decode cX5_lowestBit 0 = .ok (.iload_n 0, 1) := by decide +kernel
theorem dX5_lowestBit_1 : decode cX5_lowestBit 1 = .ok (.iload_n 0, 1) := by decide +kernel
theorem dX5_lowestBit_2 : decode cX5_lowestBit 2 = .ok (.ineg, 1) := by decide +kernel
theorem dX5_lowestBit_3 : decode cX5_lowestBit 3 = .ok (.iand, 1) := by decide +kernel
theorem dX5_lowestBit_4 : decode cX5_lowestBit 4 = .ok (.iconst 1, 1) := by decide +kernel
theorem dX5_lowestBit_5 : decode cX5_lowestBit 5 = .ok (.isub, 1) := by decide +kernel
theorem dX5_lowestBit_6 : decode cX5_lowestBit 6 = .ok (.invokestatic 281, 3) := by decide +kernel
theorem dX5_lowestBit_9 : decode cX5_lowestBit 9 = .ok (.ireturn, 1) := by decide +kernel
theorem dX5_sheet_0 : decode cX5_sheet 0 = .ok (.iload_n 1, 1) := by decide +kernel
theorem dX5_sheet_1 : decode cX5_sheet 1 = .ok (.invokestatic 204, 3) := by decide +kernel
theorem dX5_sheet_4 : decode cX5_sheet 4 = .ok (.ifCond .eq 16, 3) := by decide +kernel
theorem dX5_sheet_7 : decode cX5_sheet 7 = .ok (.iload_n 2, 1) := by decide +kernel
theorem dX5_sheet_8 : decode cX5_sheet 8 = .ok (.invokestatic 286, 3) := by decide +kernel
theorem dX5_sheet_11 : decode cX5_sheet 11 = .ok (.ifCond .eq 9, 3) := by decide +kernel
theorem dX5_sheet_14 : decode cX5_sheet 14 = .ok (.iload_n 3, 1) := by decide +kernel
theorem dX5_sheet_15 : decode cX5_sheet 15 = .ok (.bipush 60, 2) := by decide +kernel
theorem dX5_sheet_17 : decode cX5_sheet 17 = .ok (.if_icmp .le 6, 3) := by decide +kernel
theorem dX5_sheet_20 : decode cX5_sheet 20 = .ok (.bipush (-2), 2) := by decide +kernel
theorem dX5_sheet_22 : decode cX5_sheet 22 = .ok (.ireturn, 1) := by decide +kernel
theorem dX5_sheet_23 : decode cX5_sheet 23 = .ok (.iload_n 3, 1) := by decide +kernel
theorem dX5_sheet_24 : decode cX5_sheet 24 = .ok (.ifCond .ge 9, 3) := by decide +kernel
theorem dX5_sheet_27 : decode cX5_sheet 27 = .ok (.aload_n 0, 1) := by decide +kernel
theorem dX5_sheet_28 : decode cX5_sheet 28 = .ok (.iconst 5, 1) := by decide +kernel
theorem dX5_sheet_29 : decode cX5_sheet 29 = .ok (.invokevirtual 210, 3) := by decide +kernel
theorem dX5_sheet_32 : decode cX5_sheet 32 = .ok (.ireturn, 1) := by decide +kernel
theorem dX5_sheet_33 : decode cX5_sheet 33 = .ok (.aload_n 0, 1) := by decide +kernel
theorem dX5_sheet_34 : decode cX5_sheet 34 = .ok (.getfield 38, 3) := by decide +kernel
theorem dX5_sheet_37 : decode cX5_sheet 37 = .ok (.iload_n 1, 1) := by decide +kernel
theorem dX5_sheet_38 : decode cX5_sheet 38 = .ok (.aaload, 1) := by decide +kernel
theorem dX5_sheet_39 : decode cX5_sheet 39 = .ok (.iload_n 2, 1) := by decide +kernel
theorem dX5_sheet_40 : decode cX5_sheet 40 = .ok (.iload_n 3, 1) := by decide +kernel
theorem dX5_sheet_41 : decode cX5_sheet 41 = .ok (.invokevirtual 289, 3) := by decide +kernel
theorem dX5_sheet_44 : decode cX5_sheet 44 = .ok (.iload_n 3, 1) := by decide +kernel
theorem dX5_sheet_45 : decode cX5_sheet 45 = .ok (.ireturn, 1) := by decide +kernel
theorem dX5_lose_0 : decode cX5_lose 0 = .ok (.iload_n 1, 1) := by decide +kernel
theorem dX5_lose_1 : decode cX5_lose 1 = .ok (.invokestatic 204, 3) := by decide +kernel
theorem dX5_lose_4 : decode cX5_lose 4 = .ok (.ifCond .ne 6, 3) := by decide +kernel
theorem dX5_lose_7 : decode cX5_lose 7 = .ok (.bipush (-2), 2) := by decide +kernel
theorem dX5_lose_9 : decode cX5_lose 9 = .ok (.ireturn, 1) := by decide +kernel
theorem dX5_lose_10 : decode cX5_lose 10 = .ok (.aload_n 0, 1) := by decide +kernel
theorem dX5_lose_11 : decode cX5_lose 11 = .ok (.getfield 38, 3) := by decide +kernel
theorem dX5_lose_14 : decode cX5_lose 14 = .ok (.iload_n 1, 1) := by decide +kernel
theorem dX5_lose_15 : decode cX5_lose 15 = .ok (.aaload, 1) := by decide +kernel
theorem dX5_lose_16 : decode cX5_lose 16 = .ok (.invokevirtual 207, 3) := by decide +kernel
theorem dX5_lose_19 : decode cX5_lose 19 = .ok (.ifCond .eq 9, 3) := by decide +kernel
theorem dX5_lose_22 : decode cX5_lose 22 = .ok (.aload_n 0, 1) := by decide +kernel
theorem dX5_lose_23 : decode cX5_lose 23 = .ok (.iconst 1, 1) := by decide +kernel
theorem dX5_lose_24 : decode cX5_lose 24 = .ok (.invokevirtual 210, 3) := by decide +kernel
theorem dX5_lose_27 : decode cX5_lose 27 = .ok (.ireturn, 1) := by decide +kernel
theorem dX5_lose_28 : decode cX5_lose 28 = .ok (.aload_n 0, 1) := by decide +kernel
theorem dX5_lose_29 : decode cX5_lose 29 = .ok (.getfield 38, 3) := by decide +kernel
theorem dX5_lose_32 : decode cX5_lose 32 = .ok (.iload_n 1, 1) := by decide +kernel
theorem dX5_lose_33 : decode cX5_lose 33 = .ok (.aaload, 1) := by decide +kernel
theorem dX5_lose_34 : decode cX5_lose 34 = .ok (.getfield 213, 3) := by decide +kernel
theorem dX5_lose_37 : decode cX5_lose 37 = .ok (.istore_n 2, 1) := by decide +kernel
theorem dX5_lose_38 : decode cX5_lose 38 = .ok (.aload_n 0, 1) := by decide +kernel
theorem dX5_lose_39 : decode cX5_lose 39 = .ok (.getfield 38, 3) := by decide +kernel
theorem dX5_lose_42 : decode cX5_lose 42 = .ok (.iload_n 1, 1) := by decide +kernel
theorem dX5_lose_43 : decode cX5_lose 43 = .ok (.aaload, 1) := by decide +kernel
theorem dX5_lose_44 : decode cX5_lose 44 = .ok (.invokevirtual 292, 3) := by decide +kernel
theorem dX5_lose_47 : decode cX5_lose 47 = .ok (.iload_n 2, 1) := by decide +kernel
theorem dX5_lose_48 : decode cX5_lose 48 = .ok (.ireturn, 1) := by decide +kernel
theorem dX5_put_0 : decode cX5_put 0 = .ok (.iload_n 1, 1) := by decide +kernel
theorem dX5_put_1 : decode cX5_put 1 = .ok (.invokestatic 204, 3) := by decide +kernel
theorem dX5_put_4 : decode cX5_put 4 = .ok (.ifCond .eq 10, 3) := by decide +kernel
theorem dX5_put_7 : decode cX5_put 7 = .ok (.iload_n 2, 1) := by decide +kernel
theorem dX5_put_8 : decode cX5_put 8 = .ok (.invokestatic 286, 3) := by decide +kernel
theorem dX5_put_11 : decode cX5_put 11 = .ok (.ifCond .ne 6, 3) := by decide +kernel
theorem dX5_put_14 : decode cX5_put 14 = .ok (.bipush (-2), 2) := by decide +kernel
theorem dX5_put_16 : decode cX5_put 16 = .ok (.ireturn, 1) := by decide +kernel
theorem dX5_put_17 : decode cX5_put 17 = .ok (.aload_n 0, 1) := by decide +kernel
theorem dX5_put_18 : decode cX5_put 18 = .ok (.getfield 38, 3) := by decide +kernel
theorem dX5_put_21 : decode cX5_put 21 = .ok (.iload_n 1, 1) := by decide +kernel
theorem dX5_put_22 : decode cX5_put 22 = .ok (.aaload, 1) := by decide +kernel
theorem dX5_put_23 : decode cX5_put 23 = .ok (.iload_n 2, 1) := by decide +kernel
theorem dX5_put_24 : decode cX5_put 24 = .ok (.iload_n 3, 1) := by decide +kernel
theorem dX5_put_25 : decode cX5_put 25 = .ok (.invokevirtual 295, 3) := by decide +kernel
theorem dX5_put_28 : decode cX5_put 28 = .ok (.istore 5, 2) := by decide +kernel
theorem dX5_put_30 : decode cX5_put 30 = .ok (.iload 5, 2) := by decide +kernel
theorem dX5_put_32 : decode cX5_put 32 = .ok (.ifCond .eq 10, 3) := by decide +kernel
theorem dX5_put_35 : decode cX5_put 35 = .ok (.aload_n 0, 1) := by decide +kernel
theorem dX5_put_36 : decode cX5_put 36 = .ok (.iload 5, 2) := by decide +kernel
theorem dX5_put_38 : decode cX5_put 38 = .ok (.invokevirtual 210, 3) := by decide +kernel
theorem dX5_put_41 : decode cX5_put 41 = .ok (.ireturn, 1) := by decide +kernel
theorem dX5_put_42 : decode cX5_put 42 = .ok (.aload_n 0, 1) := by decide +kernel
theorem dX5_put_43 : decode cX5_put 43 = .ok (.getfield 38, 3) := by decide +kernel
theorem dX5_put_46 : decode cX5_put 46 = .ok (.iload_n 1, 1) := by decide +kernel
theorem dX5_put_47 : decode cX5_put 47 = .ok (.aaload, 1) := by decide +kernel
theorem dX5_put_48 : decode cX5_put 48 = .ok (.iload_n 3, 1) := by decide +kernel
theorem dX5_put_49 : decode cX5_put 49 = .ok (.iload 4, 2) := by decide +kernel
theorem dX5_put_51 : decode cX5_put 51 = .ok (.invokevirtual 298, 3) := by decide +kernel
theorem dX5_put_54 : decode cX5_put 54 = .ok (.iconst 1, 1) := by decide +kernel
theorem dX5_put_55 : decode cX5_put 55 = .ok (.ireturn, 1) := by decide +kernel
theorem dX5_get_0 : decode cX5_get 0 = .ok (.iload_n 1, 1) := by decide +kernel
theorem dX5_get_1 : decode cX5_get 1 = .ok (.invokestatic 204, 3) := by decide +kernel
theorem dX5_get_4 : decode cX5_get 4 = .ok (.ifCond .eq 10, 3) := by decide +kernel
theorem dX5_get_7 : decode cX5_get 7 = .ok (.iload_n 2, 1) := by decide +kernel
theorem dX5_get_8 : decode cX5_get 8 = .ok (.invokestatic 286, 3) := by decide +kernel
theorem dX5_get_11 : decode cX5_get 11 = .ok (.ifCond .ne 7, 3) := by decide +kernel
theorem dX5_get_14 : decode cX5_get 14 = .ok (.ldc_w 301, 3) := by decide +kernel
theorem dX5_get_17 : decode cX5_get 17 = .ok (.ireturn, 1) := by decide +kernel
theorem dX5_get_18 : decode cX5_get 18 = .ok (.aload_n 0, 1) := by decide +kernel
theorem dX5_get_19 : decode cX5_get 19 = .ok (.getfield 38, 3) := by decide +kernel
theorem dX5_get_22 : decode cX5_get 22 = .ok (.iload_n 1, 1) := by decide +kernel
theorem dX5_get_23 : decode cX5_get 23 = .ok (.aaload, 1) := by decide +kernel
theorem dX5_get_24 : decode cX5_get 24 = .ok (.iload_n 2, 1) := by decide +kernel
theorem dX5_get_25 : decode cX5_get 25 = .ok (.iload_n 3, 1) := by decide +kernel
theorem dX5_get_26 : decode cX5_get 26 = .ok (.invokevirtual 295, 3) := by decide +kernel
theorem dX5_get_29 : decode cX5_get 29 = .ok (.istore 4, 2) := by decide +kernel
theorem dX5_get_31 : decode cX5_get 31 = .ok (.iload 4, 2) := by decide +kernel
theorem dX5_get_33 : decode cX5_get 33 = .ok (.ifCond .eq 14, 3) := by decide +kernel
theorem dX5_get_36 : decode cX5_get 36 = .ok (.aload_n 0, 1) := by decide +kernel
theorem dX5_get_37 : decode cX5_get 37 = .ok (.iload 4, 2) := by decide +kernel
theorem dX5_get_39 : decode cX5_get 39 = .ok (.invokevirtual 210, 3) := by decide +kernel
theorem dX5_get_42 : decode cX5_get 42 = .ok (.pop, 1) := by decide +kernel
theorem dX5_get_43 : decode cX5_get 43 = .ok (.ldc_w 301, 3) := by decide +kernel
theorem dX5_get_46 : decode cX5_get 46 = .ok (.ireturn, 1) := by decide +kernel
theorem dX5_get_47 : decode cX5_get 47 = .ok (.aload_n 0, 1) := by decide +kernel
theorem dX5_get_48 : decode cX5_get 48 = .ok (.getfield 38, 3) := by decide +kernel
theorem dX5_get_51 : decode cX5_get 51 = .ok (.iload_n 1, 1) := by decide +kernel
theorem dX5_get_52 : decode cX5_get 52 = .ok (.aaload, 1) := by decide +kernel
theorem dX5_get_53 : decode cX5_get 53 = .ok (.iload_n 3, 1) := by decide +kernel
theorem dX5_get_54 : decode cX5_get 54 = .ok (.invokevirtual 216, 3) := by decide +kernel
theorem dX5_get_57 : decode cX5_get 57 = .ok (.ireturn, 1) := by decide +kernel
theorem dX5_copy_0 : decode cX5_copy 0 = .ok (.iload_n 1, 1) := by decide +kernel
theorem dX5_copy_1 : decode cX5_copy 1 = .ok (.invokestatic 204, 3) := by decide +kernel
theorem dX5_copy_4 : decode cX5_copy 4 = .ok (.ifCond .eq 10, 3) := by decide +kernel
theorem dX5_copy_7 : decode cX5_copy 7 = .ok (.iload_n 3, 1) := by decide +kernel
theorem dX5_copy_8 : decode cX5_copy 8 = .ok (.invokestatic 204, 3) := by decide +kernel
theorem dX5_copy_11 : decode cX5_copy 11 = .ok (.ifCond .ne 6, 3) := by decide +kernel
theorem dX5_copy_14 : decode cX5_copy 14 = .ok (.bipush (-2), 2) := by decide +kernel
theorem dX5_copy_16 : decode cX5_copy 16 = .ok (.ireturn, 1) := by decide +kernel
theorem dX5_copy_17 : decode cX5_copy 17 = .ok (.aload_n 0, 1) := by decide +kernel
theorem dX5_copy_18 : decode cX5_copy 18 = .ok (.getfield 38, 3) := by decide +kernel
theorem dX5_copy_21 : decode cX5_copy 21 = .ok (.iload_n 1, 1) := by decide +kernel
theorem dX5_copy_22 : decode cX5_copy 22 = .ok (.aaload, 1) := by decide +kernel
theorem dX5_copy_23 : decode cX5_copy 23 = .ok (.invokevirtual 207, 3) := by decide +kernel
theorem dX5_copy_26 : decode cX5_copy 26 = .ok (.ifCond .ne 15, 3) := by decide +kernel
theorem dX5_copy_29 : decode cX5_copy 29 = .ok (.aload_n 0, 1) := by decide +kernel
theorem dX5_copy_30 : decode cX5_copy 30 = .ok (.getfield 38, 3) := by decide +kernel
theorem dX5_copy_33 : decode cX5_copy 33 = .ok (.iload_n 3, 1) := by decide +kernel
theorem dX5_copy_34 : decode cX5_copy 34 = .ok (.aaload, 1) := by decide +kernel
theorem dX5_copy_35 : decode cX5_copy 35 = .ok (.invokevirtual 207, 3) := by decide +kernel
theorem dX5_copy_38 : decode cX5_copy 38 = .ok (.ifCond .eq 9, 3) := by decide +kernel
theorem dX5_copy_41 : decode cX5_copy 41 = .ok (.aload_n 0, 1) := by decide +kernel
theorem dX5_copy_42 : decode cX5_copy 42 = .ok (.iconst 1, 1) := by decide +kernel
theorem dX5_copy_43 : decode cX5_copy 43 = .ok (.invokevirtual 210, 3) := by decide +kernel
theorem dX5_copy_46 : decode cX5_copy 46 = .ok (.ireturn, 1) := by decide +kernel
theorem dX5_copy_47 : decode cX5_copy 47 = .ok (.aload_n 0, 1) := by decide +kernel
theorem dX5_copy_48 : decode cX5_copy 48 = .ok (.getfield 38, 3) := by decide +kernel
theorem dX5_copy_51 : decode cX5_copy 51 = .ok (.iload_n 1, 1) := by decide +kernel
theorem dX5_copy_52 : decode cX5_copy 52 = .ok (.aaload, 1) := by decide +kernel
theorem dX5_copy_53 : decode cX5_copy 53 = .ok (.getfield 302, 3) := by decide +kernel
theorem dX5_copy_56 : decode cX5_copy 56 = .ok (.aload_n 0, 1) := by decide +kernel
theorem dX5_copy_57 : decode cX5_copy 57 = .ok (.getfield 38, 3) := by decide +kernel
theorem dX5_copy_60 : decode cX5_copy 60 = .ok (.iload_n 3, 1) := by decide +kernel
theorem dX5_copy_61 : decode cX5_copy 61 = .ok (.aaload, 1) := by decide +kernel
theorem dX5_copy_62 : decode cX5_copy 62 = .ok (.getfield 302, 3) := by decide +kernel
theorem dX5_copy_65 : decode cX5_copy 65 = .ok (.if_icmp .eq 9, 3) := by decide +kernel
theorem dX5_copy_68 : decode cX5_copy 68 = .ok (.aload_n 0, 1) := by decide +kernel
theorem dX5_copy_69 : decode cX5_copy 69 = .ok (.iconst 4, 1) := by decide +kernel
theorem dX5_copy_70 : decode cX5_copy 70 = .ok (.invokevirtual 210, 3) := by decide +kernel
theorem dX5_copy_73 : decode cX5_copy 73 = .ok (.ireturn, 1) := by decide +kernel
theorem dX5_copy_74 : decode cX5_copy 74 = .ok (.aload_n 0, 1) := by decide +kernel
theorem dX5_copy_75 : decode cX5_copy 75 = .ok (.getfield 38, 3) := by decide +kernel
theorem dX5_copy_78 : decode cX5_copy 78 = .ok (.iload_n 1, 1) := by decide +kernel
theorem dX5_copy_79 : decode cX5_copy 79 = .ok (.aaload, 1) := by decide +kernel
theorem dX5_copy_80 : decode cX5_copy 80 = .ok (.iload_n 2, 1) := by decide +kernel
theorem dX5_copy_81 : decode cX5_copy 81 = .ok (.iload 5, 2) := by decide +kernel
theorem dX5_copy_83 : decode cX5_copy 83 = .ok (.invokevirtual 305, 3) := by decide +kernel
theorem dX5_copy_86 : decode cX5_copy 86 = .ok (.ifCond .eq 19, 3) := by decide +kernel
theorem dX5_copy_89 : decode cX5_copy 89 = .ok (.aload_n 0, 1) := by decide +kernel
theorem dX5_copy_90 : decode cX5_copy 90 = .ok (.getfield 38, 3) := by decide +kernel
theorem dX5_copy_93 : decode cX5_copy 93 = .ok (.iload_n 3, 1) := by decide +kernel
theorem dX5_copy_94 : decode cX5_copy 94 = .ok (.aaload, 1) := by decide +kernel
theorem dX5_copy_95 : decode cX5_copy 95 = .ok (.iload 4, 2) := by decide +kernel
theorem dX5_copy_97 : decode cX5_copy 97 = .ok (.iload 5, 2) := by decide +kernel
theorem dX5_copy_99 : decode cX5_copy 99 = .ok (.invokevirtual 305, 3) := by decide +kernel
theorem dX5_copy_102 : decode cX5_copy 102 = .ok (.ifCond .ne 9, 3) := by decide +kernel
theorem dX5_copy_105 : decode cX5_copy 105 = .ok (.aload_n 0, 1) := by decide +kernel
theorem dX5_copy_106 : decode cX5_copy 106 = .ok (.iconst 2, 1) := by decide +kernel
theorem dX5_copy_107 : decode cX5_copy 107 = .ok (.invokevirtual 210, 3) := by decide +kernel
theorem dX5_copy_110 : decode cX5_copy 110 = .ok (.ireturn, 1) := by decide +kernel
theorem dX5_copy_111 : decode cX5_copy 111 = .ok (.aload_n 0, 1) := by decide +kernel
theorem dX5_copy_112 : decode cX5_copy 112 = .ok (.getfield 38, 3) := by decide +kernel
theorem dX5_copy_115 : decode cX5_copy 115 = .ok (.iload_n 1, 1) := by decide +kernel
theorem dX5_copy_116 : decode cX5_copy 116 = .ok (.aaload, 1) := by decide +kernel
theorem dX5_copy_117 : decode cX5_copy 117 = .ok (.getfield 308, 3) := by decide +kernel
theorem dX5_copy_120 : decode cX5_copy 120 = .ok (.iload_n 2, 1) := by decide +kernel
theorem dX5_copy_121 : decode cX5_copy 121 = .ok (.aload_n 0, 1) := by decide +kernel
theorem dX5_copy_122 : decode cX5_copy 122 = .ok (.getfield 38, 3) := by decide +kernel
theorem dX5_copy_125 : decode cX5_copy 125 = .ok (.iload_n 3, 1) := by decide +kernel
theorem dX5_copy_126 : decode cX5_copy 126 = .ok (.aaload, 1) := by decide +kernel
theorem dX5_copy_127 : decode cX5_copy 127 = .ok (.getfield 308, 3) := by decide +kernel
theorem dX5_copy_130 : decode cX5_copy 130 = .ok (.iload 4, 2) := by decide +kernel
theorem dX5_copy_132 : decode cX5_copy 132 = .ok (.iload 5, 2) := by decide +kernel
theorem dX5_copy_134 : decode cX5_copy 134 = .ok (.invokestatic 311, 3) := by decide +kernel
theorem dX5_copy_137 : decode cX5_copy 137 = .ok (.iconst 1, 1) := by decide +kernel
theorem dX5_copy_138 : decode cX5_copy 138 = .ok (.ireturn, 1) := by decide +kernel
theorem dX5_write_0 : decode cX5_write 0 = .ok (.aload_n 0, 1) := by decide +kernel
theorem dX5_write_1 : decode cX5_write 1 = .ok (.iload_n 1, 1) := by decide +kernel
theorem dX5_write_2 : decode cX5_write 2 = .ok (.invokevirtual 103, 3) := by decide +kernel
theorem dX5_write_5 : decode cX5_write 5 = .ok (.ifCond .eq 10, 3) := by decide +kernel
theorem dX5_write_8 : decode cX5_write 8 = .ok (.iload_n 2, 1) := by decide +kernel
theorem dX5_write_9 : decode cX5_write 9 = .ok (.invokestatic 204, 3) := by decide +kernel
theorem dX5_write_12 : decode cX5_write 12 = .ok (.ifCond .ne 6, 3) := by decide +kernel
theorem dX5_write_15 : decode cX5_write 15 = .ok (.bipush (-2), 2) := by decide +kernel
theorem dX5_write_17 : decode cX5_write 17 = .ok (.ireturn, 1) := by decide +kernel
theorem dX5_write_18 : decode cX5_write 18 = .ok (.aload_n 0, 1) := by decide +kernel
theorem dX5_write_19 : decode cX5_write 19 = .ok (.getfield 38, 3) := by decide +kernel
theorem dX5_write_22 : decode cX5_write 22 = .ok (.iload_n 2, 1) := by decide +kernel
theorem dX5_write_23 : decode cX5_write 23 = .ok (.aaload, 1) := by decide +kernel
theorem dX5_write_24 : decode cX5_write 24 = .ok (.invokevirtual 207, 3) := by decide +kernel
theorem dX5_write_27 : decode cX5_write 27 = .ok (.ifCond .eq 9, 3) := by decide +kernel
theorem dX5_write_30 : decode cX5_write 30 = .ok (.aload_n 0, 1) := by decide +kernel
theorem dX5_write_31 : decode cX5_write 31 = .ok (.iconst 1, 1) := by decide +kernel
theorem dX5_write_32 : decode cX5_write 32 = .ok (.invokevirtual 210, 3) := by decide +kernel
theorem dX5_write_35 : decode cX5_write 35 = .ok (.ireturn, 1) := by decide +kernel
theorem dX5_write_36 : decode cX5_write 36 = .ok (.aload_n 0, 1) := by decide +kernel
theorem dX5_write_37 : decode cX5_write 37 = .ok (.getfield 38, 3) := by decide +kernel
theorem dX5_write_40 : decode cX5_write 40 = .ok (.iload_n 2, 1) := by decide +kernel
theorem dX5_write_41 : decode cX5_write 41 = .ok (.aaload, 1) := by decide +kernel
theorem dX5_write_42 : decode cX5_write 42 = .ok (.getfield 213, 3) := by decide +kernel
theorem dX5_write_45 : decode cX5_write 45 = .ok (.aload_n 0, 1) := by decide +kernel
theorem dX5_write_46 : decode cX5_write 46 = .ok (.getfield 22, 3) := by decide +kernel
theorem dX5_write_49 : decode cX5_write 49 = .ok (.getfield 91, 3) := by decide +kernel
theorem dX5_write_52 : decode cX5_write 52 = .ok (.getfield 157, 3) := by decide +kernel
theorem dX5_write_55 : decode cX5_write 55 = .ok (.invokestatic 269, 3) := by decide +kernel
theorem dX5_write_58 : decode cX5_write 58 = .ok (.istore_n 3, 1) := by decide +kernel
theorem dX5_write_59 : decode cX5_write 59 = .ok (.iconst 0, 1) := by decide +kernel
theorem dX5_write_60 : decode cX5_write 60 = .ok (.istore 4, 2) := by decide +kernel
theorem dX5_write_62 : decode cX5_write 62 = .ok (.iload 4, 2) := by decide +kernel
theorem dX5_write_64 : decode cX5_write 64 = .ok (.iload_n 3, 1) := by decide +kernel
theorem dX5_write_65 : decode cX5_write 65 = .ok (.if_icmp .ge 30, 3) := by decide +kernel
theorem dX5_write_68 : decode cX5_write 68 = .ok (.aload_n 0, 1) := by decide +kernel
theorem dX5_write_69 : decode cX5_write 69 = .ok (.getfield 38, 3) := by decide +kernel
theorem dX5_write_72 : decode cX5_write 72 = .ok (.iload_n 2, 1) := by decide +kernel
theorem dX5_write_73 : decode cX5_write 73 = .ok (.aaload, 1) := by decide +kernel
theorem dX5_write_74 : decode cX5_write 74 = .ok (.iload 4, 2) := by decide +kernel
theorem dX5_write_76 : decode cX5_write 76 = .ok (.aload_n 0, 1) := by decide +kernel
theorem dX5_write_77 : decode cX5_write 77 = .ok (.getfield 22, 3) := by decide +kernel
theorem dX5_write_80 : decode cX5_write 80 = .ok (.iload_n 1, 1) := by decide +kernel
theorem dX5_write_81 : decode cX5_write 81 = .ok (.iload 4, 2) := by decide +kernel
theorem dX5_write_83 : decode cX5_write 83 = .ok (.invokevirtual 127, 3) := by decide +kernel
theorem dX5_write_86 : decode cX5_write 86 = .ok (.invokevirtual 298, 3) := by decide +kernel
theorem dX5_write_89 : decode cX5_write 89 = .ok (.iinc 4 1, 3) := by decide +kernel
theorem dX5_write_92 : decode cX5_write 92 = .ok (.goto (-30), 3) := by decide +kernel
theorem dX5_write_95 : decode cX5_write 95 = .ok (.iload_n 3, 1) := by decide +kernel
theorem dX5_write_96 : decode cX5_write 96 = .ok (.ireturn, 1) := by decide +kernel
theorem dX5_count_0 : decode cX5_count 0 = .ok (.iload_n 1, 1) := by decide +kernel
theorem dX5_count_1 : decode cX5_count 1 = .ok (.tableswitch 135 0 8 #[51, 62, 73, 84, 94, 104, 114, 122, 130], 51) := by decide +kernel
theorem dX5_count_52 : decode cX5_count 52 = .ok (.aload_n 0, 1) := by decide +kernel
theorem dX5_count_53 : decode cX5_count 53 = .ok (.getfield 22, 3) := by decide +kernel
theorem dX5_count_56 : decode cX5_count 56 = .ok (.getfield 91, 3) := by decide +kernel
theorem dX5_count_59 : decode cX5_count 59 = .ok (.getfield 157, 3) := by decide +kernel
theorem dX5_count_62 : decode cX5_count 62 = .ok (.ireturn, 1) := by decide +kernel
theorem dX5_count_63 : decode cX5_count 63 = .ok (.aload_n 0, 1) := by decide +kernel
theorem dX5_count_64 : decode cX5_count 64 = .ok (.getfield 22, 3) := by decide +kernel
theorem dX5_count_67 : decode cX5_count 67 = .ok (.getfield 91, 3) := by decide +kernel
theorem dX5_count_70 : decode cX5_count 70 = .ok (.getfield 150, 3) := by decide +kernel
theorem dX5_count_73 : decode cX5_count 73 = .ok (.ireturn, 1) := by decide +kernel
theorem dX5_count_74 : decode cX5_count 74 = .ok (.aload_n 0, 1) := by decide +kernel
theorem dX5_count_75 : decode cX5_count 75 = .ok (.getfield 22, 3) := by decide +kernel
theorem dX5_count_78 : decode cX5_count 78 = .ok (.getfield 91, 3) := by decide +kernel
theorem dX5_count_81 : decode cX5_count 81 = .ok (.getfield 167, 3) := by decide +kernel
theorem dX5_count_84 : decode cX5_count 84 = .ok (.ireturn, 1) := by decide +kernel
theorem dX5_count_85 : decode cX5_count 85 = .ok (.aload_n 0, 1) := by decide +kernel
theorem dX5_count_86 : decode cX5_count 86 = .ok (.getfield 11, 3) := by decide +kernel
theorem dX5_count_89 : decode cX5_count 89 = .ok (.iconst 0, 1) := by decide +kernel
theorem dX5_count_90 : decode cX5_count 90 = .ok (.aaload, 1) := by decide +kernel
theorem dX5_count_91 : decode cX5_count 91 = .ok (.invokevirtual 84, 3) := by decide +kernel
theorem dX5_count_94 : decode cX5_count 94 = .ok (.ireturn, 1) := by decide +kernel
theorem dX5_count_95 : decode cX5_count 95 = .ok (.aload_n 0, 1) := by decide +kernel
theorem dX5_count_96 : decode cX5_count 96 = .ok (.getfield 11, 3) := by decide +kernel
theorem dX5_count_99 : decode cX5_count 99 = .ok (.iconst 1, 1) := by decide +kernel
theorem dX5_count_100 : decode cX5_count 100 = .ok (.aaload, 1) := by decide +kernel
theorem dX5_count_101 : decode cX5_count 101 = .ok (.invokevirtual 84, 3) := by decide +kernel
theorem dX5_count_104 : decode cX5_count 104 = .ok (.ireturn, 1) := by decide +kernel
theorem dX5_count_105 : decode cX5_count 105 = .ok (.aload_n 0, 1) := by decide +kernel
theorem dX5_count_106 : decode cX5_count 106 = .ok (.getfield 11, 3) := by decide +kernel
theorem dX5_count_109 : decode cX5_count 109 = .ok (.iconst 2, 1) := by decide +kernel
theorem dX5_count_110 : decode cX5_count 110 = .ok (.aaload, 1) := by decide +kernel
theorem dX5_count_111 : decode cX5_count 111 = .ok (.invokevirtual 84, 3) := by decide +kernel
theorem dX5_count_114 : decode cX5_count 114 = .ok (.ireturn, 1) := by decide +kernel
theorem dX5_count_115 : decode cX5_count 115 = .ok (.aload_n 0, 1) := by decide +kernel
theorem dX5_count_116 : decode cX5_count 116 = .ok (.getfield 22, 3) := by decide +kernel
theorem dX5_count_119 : decode cX5_count 119 = .ok (.invokevirtual 242, 3) := by decide +kernel
theorem dX5_count_122 : decode cX5_count 122 = .ok (.ireturn, 1) := by decide +kernel
theorem dX5_count_123 : decode cX5_count 123 = .ok (.aload_n 0, 1) := by decide +kernel
theorem dX5_count_124 : decode cX5_count 124 = .ok (.getfield 32, 3) := by decide +kernel
theorem dX5_count_127 : decode cX5_count 127 = .ok (.getfield 201, 3) := by decide +kernel
theorem dX5_count_130 : decode cX5_count 130 = .ok (.ireturn, 1) := by decide +kernel
theorem dX5_count_131 : decode cX5_count 131 = .ok (.aload_n 0, 1) := by decide +kernel
theorem dX5_count_132 : decode cX5_count 132 = .ok (.getfield 42, 3) := by decide +kernel
theorem dX5_count_135 : decode cX5_count 135 = .ok (.ireturn, 1) := by decide +kernel
theorem dX5_count_136 : decode cX5_count 136 = .ok (.bipush (-2), 2) := by decide +kernel
theorem dX5_count_138 : decode cX5_count 138 = .ok (.ireturn, 1) := by decide +kernel
theorem dX5_digest_0 : decode cX5_digest 0 = .ok (.ldc2_w 317, 3) := by decide +kernel
theorem dX5_digest_3 : decode cX5_digest 3 = .ok (.lstore_n 1, 1) := by decide +kernel
theorem dX5_digest_4 : decode cX5_digest 4 = .ok (.iconst 0, 1) := by decide +kernel
theorem dX5_digest_5 : decode cX5_digest 5 = .ok (.istore_n 3, 1) := by decide +kernel
theorem dX5_digest_6 : decode cX5_digest 6 = .ok (.iload_n 3, 1) := by decide +kernel
theorem dX5_digest_7 : decode cX5_digest 7 = .ok (.bipush 7, 2) := by decide +kernel
theorem dX5_digest_9 : decode cX5_digest 9 = .ok (.if_icmp .gt 22, 3) := by decide +kernel
theorem dX5_digest_12 : decode cX5_digest 12 = .ok (.ldc2_w 319, 3) := by decide +kernel
theorem dX5_digest_15 : decode cX5_digest 15 = .ok (.lload_n 1, 1) := by decide +kernel
theorem dX5_digest_16 : decode cX5_digest 16 = .ok (.lmul, 1) := by decide +kernel
theorem dX5_digest_17 : decode cX5_digest 17 = .ok (.aload_n 0, 1) := by decide +kernel
theorem dX5_digest_18 : decode cX5_digest 18 = .ok (.iload_n 3, 1) := by decide +kernel
theorem dX5_digest_19 : decode cX5_digest 19 = .ok (.invokevirtual 321, 3) := by decide +kernel
theorem dX5_digest_22 : decode cX5_digest 22 = .ok (.i2l, 1) := by decide +kernel
theorem dX5_digest_23 : decode cX5_digest 23 = .ok (.ladd, 1) := by decide +kernel
theorem dX5_digest_24 : decode cX5_digest 24 = .ok (.lstore_n 1, 1) := by decide +kernel
theorem dX5_digest_25 : decode cX5_digest 25 = .ok (.iinc 3 1, 3) := by decide +kernel
theorem dX5_digest_28 : decode cX5_digest 28 = .ok (.goto (-22), 3) := by decide +kernel
theorem dX5_digest_31 : decode cX5_digest 31 = .ok (.iconst 0, 1) := by decide +kernel
theorem dX5_digest_32 : decode cX5_digest 32 = .ok (.istore_n 3, 1) := by decide +kernel
theorem dX5_digest_33 : decode cX5_digest 33 = .ok (.iload_n 3, 1) := by decide +kernel
theorem dX5_digest_34 : decode cX5_digest 34 = .ok (.iconst 3, 1) := by decide +kernel
theorem dX5_digest_35 : decode cX5_digest 35 = .ok (.if_icmp .ge 22, 3) := by decide +kernel
theorem dX5_digest_38 : decode cX5_digest 38 = .ok (.ldc2_w 319, 3) := by decide +kernel
theorem dX5_digest_41 : decode cX5_digest 41 = .ok (.lload_n 1, 1) := by decide +kernel
theorem dX5_digest_42 : decode cX5_digest 42 = .ok (.lmul, 1) := by decide +kernel
theorem dX5_digest_43 : decode cX5_digest 43 = .ok (.aload_n 0, 1) := by decide +kernel
theorem dX5_digest_44 : decode cX5_digest 44 = .ok (.iload_n 3, 1) := by decide +kernel
theorem dX5_digest_45 : decode cX5_digest 45 = .ok (.invokevirtual 324, 3) := by decide +kernel
theorem dX5_digest_48 : decode cX5_digest 48 = .ok (.i2l, 1) := by decide +kernel
theorem dX5_digest_49 : decode cX5_digest 49 = .ok (.ladd, 1) := by decide +kernel
theorem dX5_digest_50 : decode cX5_digest 50 = .ok (.lstore_n 1, 1) := by decide +kernel
theorem dX5_digest_51 : decode cX5_digest 51 = .ok (.iinc 3 1, 3) := by decide +kernel
theorem dX5_digest_54 : decode cX5_digest 54 = .ok (.goto (-21), 3) := by decide +kernel
theorem dX5_digest_57 : decode cX5_digest 57 = .ok (.iconst 0, 1) := by decide +kernel
theorem dX5_digest_58 : decode cX5_digest 58 = .ok (.istore_n 3, 1) := by decide +kernel
theorem dX5_digest_59 : decode cX5_digest 59 = .ok (.iload_n 3, 1) := by decide +kernel
theorem dX5_digest_60 : decode cX5_digest 60 = .ok (.aload_n 0, 1) := by decide +kernel
theorem dX5_digest_61 : decode cX5_digest 61 = .ok (.getfield 22, 3) := by decide +kernel
theorem dX5_digest_64 : decode cX5_digest 64 = .ok (.getfield 91, 3) := by decide +kernel
theorem dX5_digest_67 : decode cX5_digest 67 = .ok (.getfield 157, 3) := by decide +kernel
theorem dX5_digest_70 : decode cX5_digest 70 = .ok (.if_icmp .ge 22, 3) := by decide +kernel
theorem dX5_digest_73 : decode cX5_digest 73 = .ok (.ldc2_w 319, 3) := by decide +kernel
theorem dX5_digest_76 : decode cX5_digest 76 = .ok (.lload_n 1, 1) := by decide +kernel
theorem dX5_digest_77 : decode cX5_digest 77 = .ok (.lmul, 1) := by decide +kernel
theorem dX5_digest_78 : decode cX5_digest 78 = .ok (.aload_n 0, 1) := by decide +kernel
theorem dX5_digest_79 : decode cX5_digest 79 = .ok (.iload_n 3, 1) := by decide +kernel
theorem dX5_digest_80 : decode cX5_digest 80 = .ok (.invokevirtual 327, 3) := by decide +kernel
theorem dX5_digest_83 : decode cX5_digest 83 = .ok (.i2l, 1) := by decide +kernel
theorem dX5_digest_84 : decode cX5_digest 84 = .ok (.ladd, 1) := by decide +kernel
theorem dX5_digest_85 : decode cX5_digest 85 = .ok (.lstore_n 1, 1) := by decide +kernel
theorem dX5_digest_86 : decode cX5_digest 86 = .ok (.iinc 3 1, 3) := by decide +kernel
theorem dX5_digest_89 : decode cX5_digest 89 = .ok (.goto (-30), 3) := by decide +kernel
theorem dX5_digest_92 : decode cX5_digest 92 = .ok (.iconst 0, 1) := by decide +kernel
theorem dX5_digest_93 : decode cX5_digest 93 = .ok (.istore_n 3, 1) := by decide +kernel
theorem dX5_digest_94 : decode cX5_digest 94 = .ok (.iload_n 3, 1) := by decide +kernel
theorem dX5_digest_95 : decode cX5_digest 95 = .ok (.aload_n 0, 1) := by decide +kernel
theorem dX5_digest_96 : decode cX5_digest 96 = .ok (.getfield 22, 3) := by decide +kernel
theorem dX5_digest_99 : decode cX5_digest 99 = .ok (.getfield 91, 3) := by decide +kernel
theorem dX5_digest_102 : decode cX5_digest 102 = .ok (.getfield 150, 3) := by decide +kernel
theorem dX5_digest_105 : decode cX5_digest 105 = .ok (.if_icmp .ge 16, 3) := by decide +kernel
theorem dX5_digest_108 : decode cX5_digest 108 = .ok (.aload_n 0, 1) := by decide +kernel
theorem dX5_digest_109 : decode cX5_digest 109 = .ok (.lload_n 1, 1) := by decide +kernel
theorem dX5_digest_110 : decode cX5_digest 110 = .ok (.iload_n 3, 1) := by decide +kernel
theorem dX5_digest_111 : decode cX5_digest 111 = .ok (.invokevirtual 330, 3) := by decide +kernel
theorem dX5_digest_114 : decode cX5_digest 114 = .ok (.lstore_n 1, 1) := by decide +kernel
theorem dX5_digest_115 : decode cX5_digest 115 = .ok (.iinc 3 1, 3) := by decide +kernel
theorem dX5_digest_118 : decode cX5_digest 118 = .ok (.goto (-24), 3) := by decide +kernel
theorem dX5_digest_121 : decode cX5_digest 121 = .ok (.iconst 0, 1) := by decide +kernel
theorem dX5_digest_122 : decode cX5_digest 122 = .ok (.istore_n 3, 1) := by decide +kernel
theorem dX5_digest_123 : decode cX5_digest 123 = .ok (.iload_n 3, 1) := by decide +kernel
theorem dX5_digest_124 : decode cX5_digest 124 = .ok (.aload_n 0, 1) := by decide +kernel
theorem dX5_digest_125 : decode cX5_digest 125 = .ok (.getfield 22, 3) := by decide +kernel
theorem dX5_digest_128 : decode cX5_digest 128 = .ok (.getfield 91, 3) := by decide +kernel
theorem dX5_digest_131 : decode cX5_digest 131 = .ok (.getfield 167, 3) := by decide +kernel
theorem dX5_digest_134 : decode cX5_digest 134 = .ok (.if_icmp .ge 16, 3) := by decide +kernel
theorem dX5_digest_137 : decode cX5_digest 137 = .ok (.aload_n 0, 1) := by decide +kernel
theorem dX5_digest_138 : decode cX5_digest 138 = .ok (.lload_n 1, 1) := by decide +kernel
theorem dX5_digest_139 : decode cX5_digest 139 = .ok (.iload_n 3, 1) := by decide +kernel
theorem dX5_digest_140 : decode cX5_digest 140 = .ok (.invokevirtual 334, 3) := by decide +kernel
theorem dX5_digest_143 : decode cX5_digest 143 = .ok (.lstore_n 1, 1) := by decide +kernel
theorem dX5_digest_144 : decode cX5_digest 144 = .ok (.iinc 3 1, 3) := by decide +kernel
theorem dX5_digest_147 : decode cX5_digest 147 = .ok (.goto (-24), 3) := by decide +kernel
theorem dX5_digest_150 : decode cX5_digest 150 = .ok (.ldc2_w 319, 3) := by decide +kernel
theorem dX5_digest_153 : decode cX5_digest 153 = .ok (.lload_n 1, 1) := by decide +kernel
theorem dX5_digest_154 : decode cX5_digest 154 = .ok (.lmul, 1) := by decide +kernel
theorem dX5_digest_155 : decode cX5_digest 155 = .ok (.aload_n 0, 1) := by decide +kernel
theorem dX5_digest_156 : decode cX5_digest 156 = .ok (.iconst 0, 1) := by decide +kernel
theorem dX5_digest_157 : decode cX5_digest 157 = .ok (.invokevirtual 337, 3) := by decide +kernel
theorem dX5_digest_160 : decode cX5_digest 160 = .ok (.i2l, 1) := by decide +kernel
theorem dX5_digest_161 : decode cX5_digest 161 = .ok (.ladd, 1) := by decide +kernel
theorem dX5_digest_162 : decode cX5_digest 162 = .ok (.lstore_n 1, 1) := by decide +kernel
theorem dX5_digest_163 : decode cX5_digest 163 = .ok (.ldc2_w 319, 3) := by decide +kernel
theorem dX5_digest_166 : decode cX5_digest 166 = .ok (.lload_n 1, 1) := by decide +kernel
theorem dX5_digest_167 : decode cX5_digest 167 = .ok (.lmul, 1) := by decide +kernel
theorem dX5_digest_168 : decode cX5_digest 168 = .ok (.aload_n 0, 1) := by decide +kernel
theorem dX5_digest_169 : decode cX5_digest 169 = .ok (.iconst 1, 1) := by decide +kernel
theorem dX5_digest_170 : decode cX5_digest 170 = .ok (.invokevirtual 337, 3) := by decide +kernel
theorem dX5_digest_173 : decode cX5_digest 173 = .ok (.i2l, 1) := by decide +kernel
theorem dX5_digest_174 : decode cX5_digest 174 = .ok (.ladd, 1) := by decide +kernel
theorem dX5_digest_175 : decode cX5_digest 175 = .ok (.lstore_n 1, 1) := by decide +kernel
theorem dX5_digest_176 : decode cX5_digest 176 = .ok (.ldc2_w 319, 3) := by decide +kernel
theorem dX5_digest_179 : decode cX5_digest 179 = .ok (.lload_n 1, 1) := by decide +kernel
theorem dX5_digest_180 : decode cX5_digest 180 = .ok (.lmul, 1) := by decide +kernel
theorem dX5_digest_181 : decode cX5_digest 181 = .ok (.aload_n 0, 1) := by decide +kernel
theorem dX5_digest_182 : decode cX5_digest 182 = .ok (.invokevirtual 340, 3) := by decide +kernel
theorem dX5_digest_185 : decode cX5_digest 185 = .ok (.i2l, 1) := by decide +kernel
theorem dX5_digest_186 : decode cX5_digest 186 = .ok (.ladd, 1) := by decide +kernel
theorem dX5_digest_187 : decode cX5_digest 187 = .ok (.lstore_n 1, 1) := by decide +kernel
theorem dX5_digest_188 : decode cX5_digest 188 = .ok (.ldc2_w 319, 3) := by decide +kernel
theorem dX5_digest_191 : decode cX5_digest 191 = .ok (.lload_n 1, 1) := by decide +kernel
theorem dX5_digest_192 : decode cX5_digest 192 = .ok (.lmul, 1) := by decide +kernel
theorem dX5_digest_193 : decode cX5_digest 193 = .ok (.aload_n 0, 1) := by decide +kernel
theorem dX5_digest_194 : decode cX5_digest 194 = .ok (.iconst 0, 1) := by decide +kernel
theorem dX5_digest_195 : decode cX5_digest 195 = .ok (.invokevirtual 343, 3) := by decide +kernel
theorem dX5_digest_198 : decode cX5_digest 198 = .ok (.i2l, 1) := by decide +kernel
theorem dX5_digest_199 : decode cX5_digest 199 = .ok (.ladd, 1) := by decide +kernel
theorem dX5_digest_200 : decode cX5_digest 200 = .ok (.lstore_n 1, 1) := by decide +kernel
theorem dX5_digest_201 : decode cX5_digest 201 = .ok (.ldc2_w 319, 3) := by decide +kernel
theorem dX5_digest_204 : decode cX5_digest 204 = .ok (.lload_n 1, 1) := by decide +kernel
theorem dX5_digest_205 : decode cX5_digest 205 = .ok (.lmul, 1) := by decide +kernel
theorem dX5_digest_206 : decode cX5_digest 206 = .ok (.aload_n 0, 1) := by decide +kernel
theorem dX5_digest_207 : decode cX5_digest 207 = .ok (.iconst 1, 1) := by decide +kernel
theorem dX5_digest_208 : decode cX5_digest 208 = .ok (.invokevirtual 343, 3) := by decide +kernel
theorem dX5_digest_211 : decode cX5_digest 211 = .ok (.i2l, 1) := by decide +kernel
theorem dX5_digest_212 : decode cX5_digest 212 = .ok (.ladd, 1) := by decide +kernel
theorem dX5_digest_213 : decode cX5_digest 213 = .ok (.lstore_n 1, 1) := by decide +kernel
theorem dX5_digest_214 : decode cX5_digest 214 = .ok (.ldc2_w 319, 3) := by decide +kernel
theorem dX5_digest_217 : decode cX5_digest 217 = .ok (.lload_n 1, 1) := by decide +kernel
theorem dX5_digest_218 : decode cX5_digest 218 = .ok (.lmul, 1) := by decide +kernel
theorem dX5_digest_219 : decode cX5_digest 219 = .ok (.aload_n 0, 1) := by decide +kernel
theorem dX5_digest_220 : decode cX5_digest 220 = .ok (.bipush 7, 2) := by decide +kernel
theorem dX5_digest_222 : decode cX5_digest 222 = .ok (.bipush 9, 2) := by decide +kernel
theorem dX5_digest_224 : decode cX5_digest 224 = .ok (.iconst 0, 1) := by decide +kernel
theorem dX5_digest_225 : decode cX5_digest 225 = .ok (.invokevirtual 346, 3) := by decide +kernel
theorem dX5_digest_228 : decode cX5_digest 228 = .ok (.i2l, 1) := by decide +kernel
theorem dX5_digest_229 : decode cX5_digest 229 = .ok (.ladd, 1) := by decide +kernel
theorem dX5_digest_230 : decode cX5_digest 230 = .ok (.lstore_n 1, 1) := by decide +kernel
theorem dX5_digest_231 : decode cX5_digest 231 = .ok (.ldc2_w 319, 3) := by decide +kernel
theorem dX5_digest_234 : decode cX5_digest 234 = .ok (.lload_n 1, 1) := by decide +kernel
theorem dX5_digest_235 : decode cX5_digest 235 = .ok (.lmul, 1) := by decide +kernel
theorem dX5_digest_236 : decode cX5_digest 236 = .ok (.aload_n 0, 1) := by decide +kernel
theorem dX5_digest_237 : decode cX5_digest 237 = .ok (.bipush 7, 2) := by decide +kernel
theorem dX5_digest_239 : decode cX5_digest 239 = .ok (.bipush 9, 2) := by decide +kernel
theorem dX5_digest_241 : decode cX5_digest 241 = .ok (.iconst 1, 1) := by decide +kernel
theorem dX5_digest_242 : decode cX5_digest 242 = .ok (.invokevirtual 346, 3) := by decide +kernel
theorem dX5_digest_245 : decode cX5_digest 245 = .ok (.i2l, 1) := by decide +kernel
theorem dX5_digest_246 : decode cX5_digest 246 = .ok (.ladd, 1) := by decide +kernel
theorem dX5_digest_247 : decode cX5_digest 247 = .ok (.lstore_n 1, 1) := by decide +kernel
theorem dX5_digest_248 : decode cX5_digest 248 = .ok (.lload_n 1, 1) := by decide +kernel
theorem dX5_digest_249 : decode cX5_digest 249 = .ok (.lreturn, 1) := by decide +kernel
theorem dX5_digestMinute_0 : decode cX5_digestMinute 0 = .ok (.lload_n 1, 1) := by decide +kernel
theorem dX5_digestMinute_1 : decode cX5_digestMinute 1 = .ok (.lstore 4, 2) := by decide +kernel
theorem dX5_digestMinute_3 : decode cX5_digestMinute 3 = .ok (.ldc2_w 319, 3) := by decide +kernel
theorem dX5_digestMinute_6 : decode cX5_digestMinute 6 = .ok (.lload 4, 2) := by decide +kernel
theorem dX5_digestMinute_8 : decode cX5_digestMinute 8 = .ok (.lmul, 1) := by decide +kernel
theorem dX5_digestMinute_9 : decode cX5_digestMinute 9 = .ok (.aload_n 0, 1) := by decide +kernel
theorem dX5_digestMinute_10 : decode cX5_digestMinute 10 = .ok (.iload_n 3, 1) := by decide +kernel
theorem dX5_digestMinute_11 : decode cX5_digestMinute 11 = .ok (.iconst 0, 1) := by decide +kernel
theorem dX5_digestMinute_12 : decode cX5_digestMinute 12 = .ok (.invokevirtual 350, 3) := by decide +kernel
theorem dX5_digestMinute_15 : decode cX5_digestMinute 15 = .ok (.i2l, 1) := by decide +kernel
theorem dX5_digestMinute_16 : decode cX5_digestMinute 16 = .ok (.ladd, 1) := by decide +kernel
theorem dX5_digestMinute_17 : decode cX5_digestMinute 17 = .ok (.lstore 4, 2) := by decide +kernel
theorem dX5_digestMinute_19 : decode cX5_digestMinute 19 = .ok (.ldc2_w 319, 3) := by decide +kernel
theorem dX5_digestMinute_22 : decode cX5_digestMinute 22 = .ok (.lload 4, 2) := by decide +kernel
theorem dX5_digestMinute_24 : decode cX5_digestMinute 24 = .ok (.lmul, 1) := by decide +kernel
theorem dX5_digestMinute_25 : decode cX5_digestMinute 25 = .ok (.aload_n 0, 1) := by decide +kernel
theorem dX5_digestMinute_26 : decode cX5_digestMinute 26 = .ok (.iload_n 3, 1) := by decide +kernel
theorem dX5_digestMinute_27 : decode cX5_digestMinute 27 = .ok (.iconst 1, 1) := by decide +kernel
theorem dX5_digestMinute_28 : decode cX5_digestMinute 28 = .ok (.invokevirtual 350, 3) := by decide +kernel
theorem dX5_digestMinute_31 : decode cX5_digestMinute 31 = .ok (.i2l, 1) := by decide +kernel
theorem dX5_digestMinute_32 : decode cX5_digestMinute 32 = .ok (.ladd, 1) := by decide +kernel
theorem dX5_digestMinute_33 : decode cX5_digestMinute 33 = .ok (.lstore 4, 2) := by decide +kernel
theorem dX5_digestMinute_35 : decode cX5_digestMinute 35 = .ok (.ldc2_w 319, 3) := by decide +kernel
theorem dX5_digestMinute_38 : decode cX5_digestMinute 38 = .ok (.lload 4, 2) := by decide +kernel
theorem dX5_digestMinute_40 : decode cX5_digestMinute 40 = .ok (.lmul, 1) := by decide +kernel
theorem dX5_digestMinute_41 : decode cX5_digestMinute 41 = .ok (.aload_n 0, 1) := by decide +kernel
theorem dX5_digestMinute_42 : decode cX5_digestMinute 42 = .ok (.iload_n 3, 1) := by decide +kernel
theorem dX5_digestMinute_43 : decode cX5_digestMinute 43 = .ok (.invokevirtual 353, 3) := by decide +kernel
theorem dX5_digestMinute_46 : decode cX5_digestMinute 46 = .ok (.i2l, 1) := by decide +kernel
theorem dX5_digestMinute_47 : decode cX5_digestMinute 47 = .ok (.ladd, 1) := by decide +kernel
theorem dX5_digestMinute_48 : decode cX5_digestMinute 48 = .ok (.lstore 4, 2) := by decide +kernel
theorem dX5_digestMinute_50 : decode cX5_digestMinute 50 = .ok (.ldc2_w 319, 3) := by decide +kernel
theorem dX5_digestMinute_53 : decode cX5_digestMinute 53 = .ok (.lload 4, 2) := by decide +kernel
theorem dX5_digestMinute_55 : decode cX5_digestMinute 55 = .ok (.lmul, 1) := by decide +kernel
theorem dX5_digestMinute_56 : decode cX5_digestMinute 56 = .ok (.aload_n 0, 1) := by decide +kernel
theorem dX5_digestMinute_57 : decode cX5_digestMinute 57 = .ok (.iload_n 3, 1) := by decide +kernel
theorem dX5_digestMinute_58 : decode cX5_digestMinute 58 = .ok (.invokevirtual 356, 3) := by decide +kernel
theorem dX5_digestMinute_61 : decode cX5_digestMinute 61 = .ok (.i2l, 1) := by decide +kernel
theorem dX5_digestMinute_62 : decode cX5_digestMinute 62 = .ok (.ladd, 1) := by decide +kernel
theorem dX5_digestMinute_63 : decode cX5_digestMinute 63 = .ok (.lstore 4, 2) := by decide +kernel
theorem dX5_digestMinute_65 : decode cX5_digestMinute 65 = .ok (.ldc2_w 319, 3) := by decide +kernel
theorem dX5_digestMinute_68 : decode cX5_digestMinute 68 = .ok (.lload 4, 2) := by decide +kernel
theorem dX5_digestMinute_70 : decode cX5_digestMinute 70 = .ok (.lmul, 1) := by decide +kernel
theorem dX5_digestMinute_71 : decode cX5_digestMinute 71 = .ok (.aload_n 0, 1) := by decide +kernel
theorem dX5_digestMinute_72 : decode cX5_digestMinute 72 = .ok (.iload_n 3, 1) := by decide +kernel
theorem dX5_digestMinute_73 : decode cX5_digestMinute 73 = .ok (.iconst (-1), 1) := by decide +kernel
theorem dX5_digestMinute_74 : decode cX5_digestMinute 74 = .ok (.invokevirtual 359, 3) := by decide +kernel
theorem dX5_digestMinute_77 : decode cX5_digestMinute 77 = .ok (.i2l, 1) := by decide +kernel
theorem dX5_digestMinute_78 : decode cX5_digestMinute 78 = .ok (.ladd, 1) := by decide +kernel
theorem dX5_digestMinute_79 : decode cX5_digestMinute 79 = .ok (.lstore 4, 2) := by decide +kernel
theorem dX5_digestMinute_81 : decode cX5_digestMinute 81 = .ok (.ldc2_w 319, 3) := by decide +kernel
theorem dX5_digestMinute_84 : decode cX5_digestMinute 84 = .ok (.lload 4, 2) := by decide +kernel
theorem dX5_digestMinute_86 : decode cX5_digestMinute 86 = .ok (.lmul, 1) := by decide +kernel
theorem dX5_digestMinute_87 : decode cX5_digestMinute 87 = .ok (.aload_n 0, 1) := by decide +kernel
theorem dX5_digestMinute_88 : decode cX5_digestMinute 88 = .ok (.iload_n 3, 1) := by decide +kernel
theorem dX5_digestMinute_89 : decode cX5_digestMinute 89 = .ok (.iconst 0, 1) := by decide +kernel
theorem dX5_digestMinute_90 : decode cX5_digestMinute 90 = .ok (.invokevirtual 359, 3) := by decide +kernel
theorem dX5_digestMinute_93 : decode cX5_digestMinute 93 = .ok (.i2l, 1) := by decide +kernel
theorem dX5_digestMinute_94 : decode cX5_digestMinute 94 = .ok (.ladd, 1) := by decide +kernel
theorem dX5_digestMinute_95 : decode cX5_digestMinute 95 = .ok (.lstore 4, 2) := by decide +kernel
theorem dX5_digestMinute_97 : decode cX5_digestMinute 97 = .ok (.iconst 0, 1) := by decide +kernel
theorem dX5_digestMinute_98 : decode cX5_digestMinute 98 = .ok (.istore 6, 2) := by decide +kernel
theorem dX5_digestMinute_100 : decode cX5_digestMinute 100 = .ok (.iload 6, 2) := by decide +kernel
theorem dX5_digestMinute_102 : decode cX5_digestMinute 102 = .ok (.aload_n 0, 1) := by decide +kernel
theorem dX5_digestMinute_103 : decode cX5_digestMinute 103 = .ok (.getfield 22, 3) := by decide +kernel
theorem dX5_digestMinute_106 : decode cX5_digestMinute 106 = .ok (.getfield 91, 3) := by decide +kernel
theorem dX5_digestMinute_109 : decode cX5_digestMinute 109 = .ok (.getfield 157, 3) := by decide +kernel
theorem dX5_digestMinute_112 : decode cX5_digestMinute 112 = .ok (.if_icmp .ge 26, 3) := by decide +kernel
theorem dX5_digestMinute_115 : decode cX5_digestMinute 115 = .ok (.ldc2_w 319, 3) := by decide +kernel
theorem dX5_digestMinute_118 : decode cX5_digestMinute 118 = .ok (.lload 4, 2) := by decide +kernel
theorem dX5_digestMinute_120 : decode cX5_digestMinute 120 = .ok (.lmul, 1) := by decide +kernel
theorem dX5_digestMinute_121 : decode cX5_digestMinute 121 = .ok (.aload_n 0, 1) := by decide +kernel
theorem dX5_digestMinute_122 : decode cX5_digestMinute 122 = .ok (.iload_n 3, 1) := by decide +kernel
theorem dX5_digestMinute_123 : decode cX5_digestMinute 123 = .ok (.iload 6, 2) := by decide +kernel
theorem dX5_digestMinute_125 : decode cX5_digestMinute 125 = .ok (.invokevirtual 362, 3) := by decide +kernel
theorem dX5_digestMinute_128 : decode cX5_digestMinute 128 = .ok (.i2l, 1) := by decide +kernel
theorem dX5_digestMinute_129 : decode cX5_digestMinute 129 = .ok (.ladd, 1) := by decide +kernel
theorem dX5_digestMinute_130 : decode cX5_digestMinute 130 = .ok (.lstore 4, 2) := by decide +kernel
theorem dX5_digestMinute_132 : decode cX5_digestMinute 132 = .ok (.iinc 6 1, 3) := by decide +kernel
theorem dX5_digestMinute_135 : decode cX5_digestMinute 135 = .ok (.goto (-35), 3) := by decide +kernel
theorem dX5_digestMinute_138 : decode cX5_digestMinute 138 = .ok (.iconst 0, 1) := by decide +kernel
theorem dX5_digestMinute_139 : decode cX5_digestMinute 139 = .ok (.istore 6, 2) := by decide +kernel
theorem dX5_digestMinute_141 : decode cX5_digestMinute 141 = .ok (.iload 6, 2) := by decide +kernel
theorem dX5_digestMinute_143 : decode cX5_digestMinute 143 = .ok (.aload_n 0, 1) := by decide +kernel
theorem dX5_digestMinute_144 : decode cX5_digestMinute 144 = .ok (.getfield 22, 3) := by decide +kernel
theorem dX5_digestMinute_147 : decode cX5_digestMinute 147 = .ok (.getfield 91, 3) := by decide +kernel
theorem dX5_digestMinute_150 : decode cX5_digestMinute 150 = .ok (.getfield 167, 3) := by decide +kernel
theorem dX5_digestMinute_153 : decode cX5_digestMinute 153 = .ok (.if_icmp .ge 26, 3) := by decide +kernel
theorem dX5_digestMinute_156 : decode cX5_digestMinute 156 = .ok (.ldc2_w 319, 3) := by decide +kernel
theorem dX5_digestMinute_159 : decode cX5_digestMinute 159 = .ok (.lload 4, 2) := by decide +kernel
theorem dX5_digestMinute_161 : decode cX5_digestMinute 161 = .ok (.lmul, 1) := by decide +kernel
theorem dX5_digestMinute_162 : decode cX5_digestMinute 162 = .ok (.aload_n 0, 1) := by decide +kernel
theorem dX5_digestMinute_163 : decode cX5_digestMinute 163 = .ok (.iload_n 3, 1) := by decide +kernel
theorem dX5_digestMinute_164 : decode cX5_digestMinute 164 = .ok (.iload 6, 2) := by decide +kernel
theorem dX5_digestMinute_166 : decode cX5_digestMinute 166 = .ok (.invokevirtual 365, 3) := by decide +kernel
theorem dX5_digestMinute_169 : decode cX5_digestMinute 169 = .ok (.i2l, 1) := by decide +kernel
theorem dX5_digestMinute_170 : decode cX5_digestMinute 170 = .ok (.ladd, 1) := by decide +kernel
theorem dX5_digestMinute_171 : decode cX5_digestMinute 171 = .ok (.lstore 4, 2) := by decide +kernel
theorem dX5_digestMinute_173 : decode cX5_digestMinute 173 = .ok (.iinc 6 1, 3) := by decide +kernel
theorem dX5_digestMinute_176 : decode cX5_digestMinute 176 = .ok (.goto (-35), 3) := by decide +kernel
theorem dX5_digestMinute_179 : decode cX5_digestMinute 179 = .ok (.lload 4, 2) := by decide +kernel
theorem dX5_digestMinute_181 : decode cX5_digestMinute 181 = .ok (.lreturn, 1) := by decide +kernel
theorem dX5_digestCandidate_0 : decode cX5_digestCandidate 0 = .ok (.lload_n 1, 1) := by decide +kernel
theorem dX5_digestCandidate_1 : decode cX5_digestCandidate 1 = .ok (.lstore 4, 2) := by decide +kernel
theorem dX5_digestCandidate_3 : decode cX5_digestCandidate 3 = .ok (.iconst 0, 1) := by decide +kernel
theorem dX5_digestCandidate_4 : decode cX5_digestCandidate 4 = .ok (.istore 6, 2) := by decide +kernel
theorem dX5_digestCandidate_6 : decode cX5_digestCandidate 6 = .ok (.iload 6, 2) := by decide +kernel
theorem dX5_digestCandidate_8 : decode cX5_digestCandidate 8 = .ok (.iconst 3, 1) := by decide +kernel
theorem dX5_digestCandidate_9 : decode cX5_digestCandidate 9 = .ok (.if_icmp .gt 26, 3) := by decide +kernel
theorem dX5_digestCandidate_12 : decode cX5_digestCandidate 12 = .ok (.ldc2_w 319, 3) := by decide +kernel
theorem dX5_digestCandidate_15 : decode cX5_digestCandidate 15 = .ok (.lload 4, 2) := by decide +kernel
theorem dX5_digestCandidate_17 : decode cX5_digestCandidate 17 = .ok (.lmul, 1) := by decide +kernel
theorem dX5_digestCandidate_18 : decode cX5_digestCandidate 18 = .ok (.aload_n 0, 1) := by decide +kernel
theorem dX5_digestCandidate_19 : decode cX5_digestCandidate 19 = .ok (.iload_n 3, 1) := by decide +kernel
theorem dX5_digestCandidate_20 : decode cX5_digestCandidate 20 = .ok (.iload 6, 2) := by decide +kernel
theorem dX5_digestCandidate_22 : decode cX5_digestCandidate 22 = .ok (.invokevirtual 367, 3) := by decide +kernel
theorem dX5_digestCandidate_25 : decode cX5_digestCandidate 25 = .ok (.i2l, 1) := by decide +kernel
theorem dX5_digestCandidate_26 : decode cX5_digestCandidate 26 = .ok (.ladd, 1) := by decide +kernel
theorem dX5_digestCandidate_27 : decode cX5_digestCandidate 27 = .ok (.lstore 4, 2) := by decide +kernel
theorem dX5_digestCandidate_29 : decode cX5_digestCandidate 29 = .ok (.iinc 6 1, 3) := by decide +kernel
theorem dX5_digestCandidate_32 : decode cX5_digestCandidate 32 = .ok (.goto (-26), 3) := by decide +kernel
theorem dX5_digestCandidate_35 : decode cX5_digestCandidate 35 = .ok (.iconst 0, 1) := by decide +kernel
theorem dX5_digestCandidate_36 : decode cX5_digestCandidate 36 = .ok (.istore 6, 2) := by decide +kernel
theorem dX5_digestCandidate_38 : decode cX5_digestCandidate 38 = .ok (.iload 6, 2) := by decide +kernel
theorem dX5_digestCandidate_40 : decode cX5_digestCandidate 40 = .ok (.iconst 3, 1) := by decide +kernel
theorem dX5_digestCandidate_41 : decode cX5_digestCandidate 41 = .ok (.if_icmp .gt 26, 3) := by decide +kernel
theorem dX5_digestCandidate_44 : decode cX5_digestCandidate 44 = .ok (.ldc2_w 319, 3) := by decide +kernel
theorem dX5_digestCandidate_47 : decode cX5_digestCandidate 47 = .ok (.lload 4, 2) := by decide +kernel
theorem dX5_digestCandidate_49 : decode cX5_digestCandidate 49 = .ok (.lmul, 1) := by decide +kernel
theorem dX5_digestCandidate_50 : decode cX5_digestCandidate 50 = .ok (.aload_n 0, 1) := by decide +kernel
theorem dX5_digestCandidate_51 : decode cX5_digestCandidate 51 = .ok (.iload_n 3, 1) := by decide +kernel
theorem dX5_digestCandidate_52 : decode cX5_digestCandidate 52 = .ok (.iload 6, 2) := by decide +kernel
theorem dX5_digestCandidate_54 : decode cX5_digestCandidate 54 = .ok (.invokevirtual 370, 3) := by decide +kernel
theorem dX5_digestCandidate_57 : decode cX5_digestCandidate 57 = .ok (.i2l, 1) := by decide +kernel
theorem dX5_digestCandidate_58 : decode cX5_digestCandidate 58 = .ok (.ladd, 1) := by decide +kernel
theorem dX5_digestCandidate_59 : decode cX5_digestCandidate 59 = .ok (.lstore 4, 2) := by decide +kernel
theorem dX5_digestCandidate_61 : decode cX5_digestCandidate 61 = .ok (.iinc 6 1, 3) := by decide +kernel
theorem dX5_digestCandidate_64 : decode cX5_digestCandidate 64 = .ok (.goto (-26), 3) := by decide +kernel
theorem dX5_digestCandidate_67 : decode cX5_digestCandidate 67 = .ok (.ldc2_w 319, 3) := by decide +kernel
theorem dX5_digestCandidate_70 : decode cX5_digestCandidate 70 = .ok (.lload 4, 2) := by decide +kernel
theorem dX5_digestCandidate_72 : decode cX5_digestCandidate 72 = .ok (.lmul, 1) := by decide +kernel
theorem dX5_digestCandidate_73 : decode cX5_digestCandidate 73 = .ok (.aload_n 0, 1) := by decide +kernel
theorem dX5_digestCandidate_74 : decode cX5_digestCandidate 74 = .ok (.iload_n 3, 1) := by decide +kernel
theorem dX5_digestCandidate_75 : decode cX5_digestCandidate 75 = .ok (.iconst 0, 1) := by decide +kernel
theorem dX5_digestCandidate_76 : decode cX5_digestCandidate 76 = .ok (.invokevirtual 373, 3) := by decide +kernel
theorem dX5_digestCandidate_79 : decode cX5_digestCandidate 79 = .ok (.i2l, 1) := by decide +kernel
theorem dX5_digestCandidate_80 : decode cX5_digestCandidate 80 = .ok (.ladd, 1) := by decide +kernel
theorem dX5_digestCandidate_81 : decode cX5_digestCandidate 81 = .ok (.lstore 4, 2) := by decide +kernel
theorem dX5_digestCandidate_83 : decode cX5_digestCandidate 83 = .ok (.ldc2_w 319, 3) := by decide +kernel
theorem dX5_digestCandidate_86 : decode cX5_digestCandidate 86 = .ok (.lload 4, 2) := by decide +kernel
theorem dX5_digestCandidate_88 : decode cX5_digestCandidate 88 = .ok (.lmul, 1) := by decide +kernel
theorem dX5_digestCandidate_89 : decode cX5_digestCandidate 89 = .ok (.aload_n 0, 1) := by decide +kernel
theorem dX5_digestCandidate_90 : decode cX5_digestCandidate 90 = .ok (.iload_n 3, 1) := by decide +kernel
theorem dX5_digestCandidate_91 : decode cX5_digestCandidate 91 = .ok (.iconst 1, 1) := by decide +kernel
theorem dX5_digestCandidate_92 : decode cX5_digestCandidate 92 = .ok (.invokevirtual 373, 3) := by decide +kernel
theorem dX5_digestCandidate_95 : decode cX5_digestCandidate 95 = .ok (.i2l, 1) := by decide +kernel
theorem dX5_digestCandidate_96 : decode cX5_digestCandidate 96 = .ok (.ladd, 1) := by decide +kernel
theorem dX5_digestCandidate_97 : decode cX5_digestCandidate 97 = .ok (.lstore 4, 2) := by decide +kernel
theorem dX5_digestCandidate_99 : decode cX5_digestCandidate 99 = .ok (.ldc2_w 319, 3) := by decide +kernel
theorem dX5_digestCandidate_102 : decode cX5_digestCandidate 102 = .ok (.lload 4, 2) := by decide +kernel
theorem dX5_digestCandidate_104 : decode cX5_digestCandidate 104 = .ok (.lmul, 1) := by decide +kernel
theorem dX5_digestCandidate_105 : decode cX5_digestCandidate 105 = .ok (.aload_n 0, 1) := by decide +kernel
theorem dX5_digestCandidate_106 : decode cX5_digestCandidate 106 = .ok (.iload_n 3, 1) := by decide +kernel
theorem dX5_digestCandidate_107 : decode cX5_digestCandidate 107 = .ok (.invokevirtual 376, 3) := by decide +kernel
theorem dX5_digestCandidate_110 : decode cX5_digestCandidate 110 = .ok (.i2l, 1) := by decide +kernel
theorem dX5_digestCandidate_111 : decode cX5_digestCandidate 111 = .ok (.ladd, 1) := by decide +kernel
theorem dX5_digestCandidate_112 : decode cX5_digestCandidate 112 = .ok (.lstore 4, 2) := by decide +kernel
theorem dX5_digestCandidate_114 : decode cX5_digestCandidate 114 = .ok (.ldc2_w 319, 3) := by decide +kernel
theorem dX5_digestCandidate_117 : decode cX5_digestCandidate 117 = .ok (.lload 4, 2) := by decide +kernel
theorem dX5_digestCandidate_119 : decode cX5_digestCandidate 119 = .ok (.lmul, 1) := by decide +kernel
theorem dX5_digestCandidate_120 : decode cX5_digestCandidate 120 = .ok (.aload_n 0, 1) := by decide +kernel
theorem dX5_digestCandidate_121 : decode cX5_digestCandidate 121 = .ok (.iload_n 3, 1) := by decide +kernel
theorem dX5_digestCandidate_122 : decode cX5_digestCandidate 122 = .ok (.invokevirtual 379, 3) := by decide +kernel
theorem dX5_digestCandidate_125 : decode cX5_digestCandidate 125 = .ok (.i2l, 1) := by decide +kernel
theorem dX5_digestCandidate_126 : decode cX5_digestCandidate 126 = .ok (.ladd, 1) := by decide +kernel
theorem dX5_digestCandidate_127 : decode cX5_digestCandidate 127 = .ok (.lstore 4, 2) := by decide +kernel
theorem dX5_digestCandidate_129 : decode cX5_digestCandidate 129 = .ok (.ldc2_w 319, 3) := by decide +kernel
theorem dX5_digestCandidate_132 : decode cX5_digestCandidate 132 = .ok (.lload 4, 2) := by decide +kernel
theorem dX5_digestCandidate_134 : decode cX5_digestCandidate 134 = .ok (.lmul, 1) := by decide +kernel
theorem dX5_digestCandidate_135 : decode cX5_digestCandidate 135 = .ok (.aload_n 0, 1) := by decide +kernel
theorem dX5_digestCandidate_136 : decode cX5_digestCandidate 136 = .ok (.iload_n 3, 1) := by decide +kernel
theorem dX5_digestCandidate_137 : decode cX5_digestCandidate 137 = .ok (.invokevirtual 382, 3) := by decide +kernel
theorem dX5_digestCandidate_140 : decode cX5_digestCandidate 140 = .ok (.i2l, 1) := by decide +kernel
theorem dX5_digestCandidate_141 : decode cX5_digestCandidate 141 = .ok (.ladd, 1) := by decide +kernel
theorem dX5_digestCandidate_142 : decode cX5_digestCandidate 142 = .ok (.lstore 4, 2) := by decide +kernel
theorem dX5_digestCandidate_144 : decode cX5_digestCandidate 144 = .ok (.ldc2_w 319, 3) := by decide +kernel
theorem dX5_digestCandidate_147 : decode cX5_digestCandidate 147 = .ok (.lload 4, 2) := by decide +kernel
theorem dX5_digestCandidate_149 : decode cX5_digestCandidate 149 = .ok (.lmul, 1) := by decide +kernel
theorem dX5_digestCandidate_150 : decode cX5_digestCandidate 150 = .ok (.aload_n 0, 1) := by decide +kernel
theorem dX5_digestCandidate_151 : decode cX5_digestCandidate 151 = .ok (.iconst 5, 1) := by decide +kernel
theorem dX5_digestCandidate_152 : decode cX5_digestCandidate 152 = .ok (.iload_n 3, 1) := by decide +kernel
theorem dX5_digestCandidate_153 : decode cX5_digestCandidate 153 = .ok (.iconst 0, 1) := by decide +kernel
theorem dX5_digestCandidate_154 : decode cX5_digestCandidate 154 = .ok (.invokevirtual 385, 3) := by decide +kernel
theorem dX5_digestCandidate_157 : decode cX5_digestCandidate 157 = .ok (.ladd, 1) := by decide +kernel
theorem dX5_digestCandidate_158 : decode cX5_digestCandidate 158 = .ok (.lstore 4, 2) := by decide +kernel
theorem dX5_digestCandidate_160 : decode cX5_digestCandidate 160 = .ok (.ldc2_w 319, 3) := by decide +kernel
theorem dX5_digestCandidate_163 : decode cX5_digestCandidate 163 = .ok (.lload 4, 2) := by decide +kernel
theorem dX5_digestCandidate_165 : decode cX5_digestCandidate 165 = .ok (.lmul, 1) := by decide +kernel
theorem dX5_digestCandidate_166 : decode cX5_digestCandidate 166 = .ok (.aload_n 0, 1) := by decide +kernel
theorem dX5_digestCandidate_167 : decode cX5_digestCandidate 167 = .ok (.iconst 5, 1) := by decide +kernel
theorem dX5_digestCandidate_168 : decode cX5_digestCandidate 168 = .ok (.iload_n 3, 1) := by decide +kernel
theorem dX5_digestCandidate_169 : decode cX5_digestCandidate 169 = .ok (.iconst 1, 1) := by decide +kernel
theorem dX5_digestCandidate_170 : decode cX5_digestCandidate 170 = .ok (.invokevirtual 385, 3) := by decide +kernel
theorem dX5_digestCandidate_173 : decode cX5_digestCandidate 173 = .ok (.ladd, 1) := by decide +kernel
theorem dX5_digestCandidate_174 : decode cX5_digestCandidate 174 = .ok (.lstore 4, 2) := by decide +kernel
theorem dX5_digestCandidate_176 : decode cX5_digestCandidate 176 = .ok (.lload 4, 2) := by decide +kernel
theorem dX5_digestCandidate_178 : decode cX5_digestCandidate 178 = .ok (.lreturn, 1) := by decide +kernel
theorem dX5_isText_0 : decode cX5_isText 0 = .ok (.iload_n 0, 1) := by decide +kernel
theorem dX5_isText_1 : decode cX5_isText 1 = .ok (.ifCond .lt 12, 3) := by decide +kernel
theorem dX5_isText_4 : decode cX5_isText 4 = .ok (.iload_n 0, 1) := by decide +kernel
theorem dX5_isText_5 : decode cX5_isText 5 = .ok (.iconst 3, 1) := by decide +kernel
theorem dX5_isText_6 : decode cX5_isText 6 = .ok (.if_icmp .ge 7, 3) := by decide +kernel
theorem dX5_isText_9 : decode cX5_isText 9 = .ok (.iconst 1, 1) := by decide +kernel
theorem dX5_isText_10 : decode cX5_isText 10 = .ok (.goto 4, 3) := by decide +kernel
theorem dX5_isText_13 : decode cX5_isText 13 = .ok (.iconst 0, 1) := by decide +kernel
theorem dX5_isText_14 : decode cX5_isText 14 = .ok (.ireturn, 1) := by decide +kernel
theorem dX5_isSheet_0 : decode cX5_isSheet 0 = .ok (.iload_n 0, 1) := by decide +kernel
theorem dX5_isSheet_1 : decode cX5_isSheet 1 = .ok (.ifCond .lt 12, 3) := by decide +kernel
theorem dX5_isSheet_4 : decode cX5_isSheet 4 = .ok (.iload_n 0, 1) := by decide +kernel
theorem dX5_isSheet_5 : decode cX5_isSheet 5 = .ok (.iconst 4, 1) := by decide +kernel
theorem dX5_isSheet_6 : decode cX5_isSheet 6 = .ok (.if_icmp .ge 7, 3) := by decide +kernel
theorem dX5_isSheet_9 : decode cX5_isSheet 9 = .ok (.iconst 1, 1) := by decide +kernel
theorem dX5_isSheet_10 : decode cX5_isSheet 10 = .ok (.goto 4, 3) := by decide +kernel
theorem dX5_isSheet_13 : decode cX5_isSheet 13 = .ok (.iconst 0, 1) := by decide +kernel
theorem dX5_isSheet_14 : decode cX5_isSheet 14 = .ok (.ireturn, 1) := by decide +kernel
theorem dX5_isForm_0 : decode cX5_isForm 0 = .ok (.iload_n 0, 1) := by decide +kernel
theorem dX5_isForm_1 : decode cX5_isForm 1 = .ok (.ifCond .lt 12, 3) := by decide +kernel
theorem dX5_isForm_4 : decode cX5_isForm 4 = .ok (.iload_n 0, 1) := by decide +kernel
theorem dX5_isForm_5 : decode cX5_isForm 5 = .ok (.iconst 3, 1) := by decide +kernel
theorem dX5_isForm_6 : decode cX5_isForm 6 = .ok (.if_icmp .ge 7, 3) := by decide +kernel
theorem dX5_isForm_9 : decode cX5_isForm 9 = .ok (.iconst 1, 1) := by decide +kernel
theorem dX5_isForm_10 : decode cX5_isForm 10 = .ok (.goto 4, 3) := by decide +kernel
theorem dX5_isForm_13 : decode cX5_isForm 13 = .ok (.iconst 0, 1) := by decide +kernel
theorem dX5_isForm_14 : decode cX5_isForm 14 = .ok (.ireturn, 1) := by decide +kernel
theorem dX5_isMinute_0 : decode cX5_isMinute 0 = .ok (.iload_n 1, 1) := by decide +kernel
theorem dX5_isMinute_1 : decode cX5_isMinute 1 = .ok (.ifCond .lt 27, 3) := by decide +kernel
theorem dX5_isMinute_4 : decode cX5_isMinute 4 = .ok (.iload_n 1, 1) := by decide +kernel
theorem dX5_isMinute_5 : decode cX5_isMinute 5 = .ok (.aload_n 0, 1) := by decide +kernel
theorem dX5_isMinute_6 : decode cX5_isMinute 6 = .ok (.getfield 22, 3) := by decide +kernel
theorem dX5_isMinute_9 : decode cX5_isMinute 9 = .ok (.getfield 91, 3) := by decide +kernel
theorem dX5_isMinute_12 : decode cX5_isMinute 12 = .ok (.getfield 150, 3) := by decide +kernel
theorem dX5_isMinute_15 : decode cX5_isMinute 15 = .ok (.if_icmp .ge 13, 3) := by decide +kernel
theorem dX5_isMinute_18 : decode cX5_isMinute 18 = .ok (.iload_n 1, 1) := by decide +kernel
theorem dX5_isMinute_19 : decode cX5_isMinute 19 = .ok (.bipush 12, 2) := by decide +kernel
theorem dX5_isMinute_21 : decode cX5_isMinute 21 = .ok (.if_icmp .ge 7, 3) := by decide +kernel
theorem dX5_isMinute_24 : decode cX5_isMinute 24 = .ok (.iconst 1, 1) := by decide +kernel
theorem dX5_isMinute_25 : decode cX5_isMinute 25 = .ok (.goto 4, 3) := by decide +kernel
theorem dX5_isMinute_28 : decode cX5_isMinute 28 = .ok (.iconst 0, 1) := by decide +kernel
theorem dX5_isMinute_29 : decode cX5_isMinute 29 = .ok (.ireturn, 1) := by decide +kernel
theorem dX5_isCandidate_0 : decode cX5_isCandidate 0 = .ok (.iload_n 1, 1) := by decide +kernel
theorem dX5_isCandidate_1 : decode cX5_isCandidate 1 = .ok (.ifCond .lt 27, 3) := by decide +kernel
theorem dX5_isCandidate_4 : decode cX5_isCandidate 4 = .ok (.iload_n 1, 1) := by decide +kernel
theorem dX5_isCandidate_5 : decode cX5_isCandidate 5 = .ok (.aload_n 0, 1) := by decide +kernel
theorem dX5_isCandidate_6 : decode cX5_isCandidate 6 = .ok (.getfield 22, 3) := by decide +kernel
theorem dX5_isCandidate_9 : decode cX5_isCandidate 9 = .ok (.getfield 91, 3) := by decide +kernel
theorem dX5_isCandidate_12 : decode cX5_isCandidate 12 = .ok (.getfield 167, 3) := by decide +kernel
theorem dX5_isCandidate_15 : decode cX5_isCandidate 15 = .ok (.if_icmp .ge 13, 3) := by decide +kernel
theorem dX5_isCandidate_18 : decode cX5_isCandidate 18 = .ok (.iload_n 1, 1) := by decide +kernel
theorem dX5_isCandidate_19 : decode cX5_isCandidate 19 = .ok (.bipush 8, 2) := by decide +kernel
theorem dX5_isCandidate_21 : decode cX5_isCandidate 21 = .ok (.if_icmp .ge 7, 3) := by decide +kernel
theorem dX5_isCandidate_24 : decode cX5_isCandidate 24 = .ok (.iconst 1, 1) := by decide +kernel
theorem dX5_isCandidate_25 : decode cX5_isCandidate 25 = .ok (.goto 4, 3) := by decide +kernel
theorem dX5_isCandidate_28 : decode cX5_isCandidate 28 = .ok (.iconst 0, 1) := by decide +kernel
theorem dX5_isCandidate_29 : decode cX5_isCandidate 29 = .ok (.ireturn, 1) := by decide +kernel
theorem dX5_finding_0 : decode cX5_finding 0 = .ok (.aload_n 0, 1) := by decide +kernel
theorem dX5_finding_1 : decode cX5_finding 1 = .ok (.iload_n 1, 1) := by decide +kernel
theorem dX5_finding_2 : decode cX5_finding 2 = .ok (.putfield 42, 3) := by decide +kernel
theorem dX5_finding_5 : decode cX5_finding 5 = .ok (.bipush (-10), 2) := by decide +kernel
theorem dX5_finding_7 : decode cX5_finding 7 = .ok (.iload_n 1, 1) := by decide +kernel
theorem dX5_finding_8 : decode cX5_finding 8 = .ok (.isub, 1) := by decide +kernel
theorem dX5_finding_9 : decode cX5_finding 9 = .ok (.ireturn, 1) := by decide +kernel
theorem dX5_retell_0 : decode cX5_retell 0 = .ok (.iload_n 1, 1) := by decide +kernel
theorem dX5_retell_1 : decode cX5_retell 1 = .ok (.ifCond .ne 28, 3) := by decide +kernel
theorem dX5_retell_4 : decode cX5_retell 4 = .ok (.aload_n 0, 1) := by decide +kernel
theorem dX5_retell_5 : decode cX5_retell 5 = .ok (.getfield 15, 3) := by decide +kernel
theorem dX5_retell_8 : decode cX5_retell 8 = .ok (.iconst 0, 1) := by decide +kernel
theorem dX5_retell_9 : decode cX5_retell 9 = .ok (.aload_n 0, 1) := by decide +kernel
theorem dX5_retell_10 : decode cX5_retell 10 = .ok (.getfield 22, 3) := by decide +kernel
theorem dX5_retell_13 : decode cX5_retell 13 = .ok (.getfield 91, 3) := by decide +kernel
theorem dX5_retell_16 : decode cX5_retell 16 = .ok (.aload_n 0, 1) := by decide +kernel
theorem dX5_retell_17 : decode cX5_retell 17 = .ok (.getfield 11, 3) := by decide +kernel
theorem dX5_retell_20 : decode cX5_retell 20 = .ok (.iconst 0, 1) := by decide +kernel
theorem dX5_retell_21 : decode cX5_retell 21 = .ok (.aaload, 1) := by decide +kernel
theorem dX5_retell_22 : decode cX5_retell 22 = .ok (.invokevirtual 389, 3) := by decide +kernel
theorem dX5_retell_25 : decode cX5_retell 25 = .ok (.iastore, 1) := by decide +kernel
theorem dX5_retell_26 : decode cX5_retell 26 = .ok (.goto 60, 3) := by decide +kernel
theorem dX5_retell_29 : decode cX5_retell 29 = .ok (.iload_n 1, 1) := by decide +kernel
theorem dX5_retell_30 : decode cX5_retell 30 = .ok (.iconst 1, 1) := by decide +kernel
theorem dX5_retell_31 : decode cX5_retell 31 = .ok (.if_icmp .ne 28, 3) := by decide +kernel
theorem dX5_retell_34 : decode cX5_retell 34 = .ok (.aload_n 0, 1) := by decide +kernel
theorem dX5_retell_35 : decode cX5_retell 35 = .ok (.getfield 15, 3) := by decide +kernel
theorem dX5_retell_38 : decode cX5_retell 38 = .ok (.iconst 1, 1) := by decide +kernel
theorem dX5_retell_39 : decode cX5_retell 39 = .ok (.aload_n 0, 1) := by decide +kernel
theorem dX5_retell_40 : decode cX5_retell 40 = .ok (.getfield 22, 3) := by decide +kernel
theorem dX5_retell_43 : decode cX5_retell 43 = .ok (.getfield 91, 3) := by decide +kernel
theorem dX5_retell_46 : decode cX5_retell 46 = .ok (.aload_n 0, 1) := by decide +kernel
theorem dX5_retell_47 : decode cX5_retell 47 = .ok (.getfield 11, 3) := by decide +kernel
theorem dX5_retell_50 : decode cX5_retell 50 = .ok (.iconst 1, 1) := by decide +kernel
theorem dX5_retell_51 : decode cX5_retell 51 = .ok (.aaload, 1) := by decide +kernel
theorem dX5_retell_52 : decode cX5_retell 52 = .ok (.invokevirtual 393, 3) := by decide +kernel
theorem dX5_retell_55 : decode cX5_retell 55 = .ok (.iastore, 1) := by decide +kernel
theorem dX5_retell_56 : decode cX5_retell 56 = .ok (.goto 30, 3) := by decide +kernel
theorem dX5_retell_59 : decode cX5_retell 59 = .ok (.iload_n 1, 1) := by decide +kernel
theorem dX5_retell_60 : decode cX5_retell 60 = .ok (.iconst 2, 1) := by decide +kernel
theorem dX5_retell_61 : decode cX5_retell 61 = .ok (.if_icmp .ne 25, 3) := by decide +kernel
theorem dX5_retell_64 : decode cX5_retell 64 = .ok (.aload_n 0, 1) := by decide +kernel
theorem dX5_retell_65 : decode cX5_retell 65 = .ok (.getfield 15, 3) := by decide +kernel
theorem dX5_retell_68 : decode cX5_retell 68 = .ok (.iconst 2, 1) := by decide +kernel
theorem dX5_retell_69 : decode cX5_retell 69 = .ok (.aload_n 0, 1) := by decide +kernel
theorem dX5_retell_70 : decode cX5_retell 70 = .ok (.getfield 22, 3) := by decide +kernel
theorem dX5_retell_73 : decode cX5_retell 73 = .ok (.getfield 91, 3) := by decide +kernel
theorem dX5_retell_76 : decode cX5_retell 76 = .ok (.aload_n 0, 1) := by decide +kernel
theorem dX5_retell_77 : decode cX5_retell 77 = .ok (.getfield 11, 3) := by decide +kernel
theorem dX5_retell_80 : decode cX5_retell 80 = .ok (.iconst 2, 1) := by decide +kernel
theorem dX5_retell_81 : decode cX5_retell 81 = .ok (.aaload, 1) := by decide +kernel
theorem dX5_retell_82 : decode cX5_retell 82 = .ok (.invokevirtual 396, 3) := by decide +kernel
theorem dX5_retell_85 : decode cX5_retell 85 = .ok (.iastore, 1) := by decide +kernel
theorem dX5_retell_86 : decode cX5_retell 86 = .ok (.aload_n 0, 1) := by decide +kernel
theorem dX5_retell_87 : decode cX5_retell 87 = .ok (.getfield 22, 3) := by decide +kernel
theorem dX5_retell_90 : decode cX5_retell 90 = .ok (.invokevirtual 176, 3) := by decide +kernel
theorem dX5_retell_93 : decode cX5_retell 93 = .ok (.aload_n 0, 1) := by decide +kernel
theorem dX5_retell_94 : decode cX5_retell 94 = .ok (.iconst (-1), 1) := by decide +kernel
theorem dX5_retell_95 : decode cX5_retell 95 = .ok (.putfield 46, 3) := by decide +kernel
theorem dX5_retell_98 : decode cX5_retell 98 = .ok (.aload_n 0, 1) := by decide +kernel
theorem dX5_retell_99 : decode cX5_retell 99 = .ok (.iconst (-1), 1) := by decide +kernel
theorem dX5_retell_100 : decode cX5_retell 100 = .ok (.putfield 56, 3) := by decide +kernel
theorem dX5_retell_103 : decode cX5_retell 103 = .ok (.return_, 1) := by decide +kernel
