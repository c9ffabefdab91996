theorem dX0_init_0 : decode cX0_init 0 = .ok (.aload_n 0, 1) := by decide +kernel
theorem dX0_init_1 : decode cX0_init 1 = .ok (.invokespecial 3, 3) := by decide +kernel
theorem dX0_init_4 : decode cX0_init 4 = .ok (.aload_n 0, 1) := by decide +kernel
theorem dX0_init_5 : decode cX0_init 5 = .ok (.new 9, 3) := by decide +kernel
theorem dX0_init_8 : decode cX0_init 8 = .ok (.dup, 1) := by decide +kernel
theorem dX0_init_9 : decode cX0_init 9 = .ok (.invokespecial 11, 3) := by decide +kernel
theorem dX0_init_12 : decode cX0_init 12 = .ok (.putfield 12, 3) := by decide +kernel
theorem dX0_init_15 : decode cX0_init 15 = .ok (.aload_n 0, 1) := by decide +kernel
theorem dX0_init_16 : decode cX0_init 16 = .ok (.iconst 0, 1) := by decide +kernel
theorem dX0_init_17 : decode cX0_init 17 = .ok (.putfield 18, 3) := by decide +kernel
theorem dX0_init_20 : decode cX0_init 20 = .ok (.aload_n 0, 1) := by decide +kernel
theorem dX0_init_21 : decode cX0_init 21 = .ok (.bipush 25, 2) := by decide +kernel
theorem dX0_init_23 : decode cX0_init 23 = .ok (.newarray .int, 2) := by decide +kernel
theorem dX0_init_25 : decode cX0_init 25 = .ok (.putfield 22, 3) := by decide +kernel
theorem dX0_init_28 : decode cX0_init 28 = .ok (.aload_n 0, 1) := by decide +kernel
theorem dX0_init_29 : decode cX0_init 29 = .ok (.bipush 13, 2) := by decide +kernel
theorem dX0_init_31 : decode cX0_init 31 = .ok (.newarray .int, 2) := by decide +kernel
theorem dX0_init_33 : decode cX0_init 33 = .ok (.putfield 26, 3) := by decide +kernel
theorem dX0_init_36 : decode cX0_init 36 = .ok (.aload_n 0, 1) := by decide +kernel
theorem dX0_init_37 : decode cX0_init 37 = .ok (.bipush 104, 2) := by decide +kernel
theorem dX0_init_39 : decode cX0_init 39 = .ok (.newarray .int, 2) := by decide +kernel
theorem dX0_init_41 : decode cX0_init 41 = .ok (.putfield 29, 3) := by decide +kernel
theorem dX0_init_44 : decode cX0_init 44 = .ok (.aload_n 0, 1) := by decide +kernel
theorem dX0_init_45 : decode cX0_init 45 = .ok (.bipush 12, 2) := by decide +kernel
theorem dX0_init_47 : decode cX0_init 47 = .ok (.newarray .int, 2) := by decide +kernel
theorem dX0_init_49 : decode cX0_init 49 = .ok (.putfield 32, 3) := by decide +kernel
theorem dX0_init_52 : decode cX0_init 52 = .ok (.aload_n 0, 1) := by decide +kernel
theorem dX0_init_53 : decode cX0_init 53 = .ok (.bipush 12, 2) := by decide +kernel
theorem dX0_init_55 : decode cX0_init 55 = .ok (.newarray .int, 2) := by decide +kernel
theorem dX0_init_57 : decode cX0_init 57 = .ok (.putfield 35, 3) := by decide +kernel
theorem dX0_init_60 : decode cX0_init 60 = .ok (.aload_n 0, 1) := by decide +kernel
theorem dX0_init_61 : decode cX0_init 61 = .ok (.bipush 12, 2) := by decide +kernel
theorem dX0_init_63 : decode cX0_init 63 = .ok (.newarray .int, 2) := by decide +kernel
theorem dX0_init_65 : decode cX0_init 65 = .ok (.putfield 38, 3) := by decide +kernel
theorem dX0_init_68 : decode cX0_init 68 = .ok (.return_, 1) := by decide +kernel
theorem dX0_run_0 : decode cX0_run 0 = .ok (.aload_n 0, 1) := by decide +kernel
theorem dX0_run_1 : decode cX0_run 1 = .ok (.invokevirtual 41, 3) := by decide +kernel
theorem dX0_run_4 : decode cX0_run 4 = .ok (.aload_n 0, 1) := by decide +kernel
theorem dX0_run_5 : decode cX0_run 5 = .ok (.iconst 0, 1) := by decide +kernel
theorem dX0_run_6 : decode cX0_run 6 = .ok (.invokevirtual 44, 3) := by decide +kernel
theorem dX0_run_9 : decode cX0_run 9 = .ok (.return_, 1) := by decide +kernel
theorem dX0_runOnFrom_0 : decode cX0_runOnFrom 0 = .ok (.iconst 0, 1) := by decide +kernel
theorem dX0_runOnFrom_1 : decode cX0_runOnFrom 1 = .ok (.iload_n 1, 1) := by decide +kernel
theorem dX0_runOnFrom_2 : decode cX0_runOnFrom 2 = .ok (.invokestatic 48, 3) := by decide +kernel
theorem dX0_runOnFrom_5 : decode cX0_runOnFrom 5 = .ok (.istore_n 2, 1) := by decide +kernel
theorem dX0_runOnFrom_6 : decode cX0_runOnFrom 6 = .ok (.iload_n 2, 1) := by decide +kernel
theorem dX0_runOnFrom_7 : decode cX0_runOnFrom 7 = .ok (.aload_n 0, 1) := by decide +kernel
theorem dX0_runOnFrom_8 : decode cX0_runOnFrom 8 = .ok (.getfield 12, 3) := by decide +kernel
theorem dX0_runOnFrom_11 : decode cX0_runOnFrom 11 = .ok (.getfield 54, 3) := by decide +kernel
theorem dX0_runOnFrom_14 : decode cX0_runOnFrom 14 = .ok (.if_icmp .ge 14, 3) := by decide +kernel
theorem dX0_runOnFrom_17 : decode cX0_runOnFrom 17 = .ok (.aload_n 0, 1) := by decide +kernel
theorem dX0_runOnFrom_18 : decode cX0_runOnFrom 18 = .ok (.iload_n 2, 1) := by decide +kernel
theorem dX0_runOnFrom_19 : decode cX0_runOnFrom 19 = .ok (.invokevirtual 57, 3) := by decide +kernel
theorem dX0_runOnFrom_22 : decode cX0_runOnFrom 22 = .ok (.iinc 2 1, 3) := by decide +kernel
theorem dX0_runOnFrom_25 : decode cX0_runOnFrom 25 = .ok (.goto (-19), 3) := by decide +kernel
theorem dX0_runOnFrom_28 : decode cX0_runOnFrom 28 = .ok (.aload_n 0, 1) := by decide +kernel
theorem dX0_runOnFrom_29 : decode cX0_runOnFrom 29 = .ok (.invokevirtual 60, 3) := by decide +kernel
theorem dX0_runOnFrom_32 : decode cX0_runOnFrom 32 = .ok (.return_, 1) := by decide +kernel
theorem dX0_runUntilTurned_0 : decode cX0_runUntilTurned 0 = .ok (.aload_n 0, 1) := by decide +kernel
theorem dX0_runUntilTurned_1 : decode cX0_runUntilTurned 1 = .ok (.invokevirtual 41, 3) := by decide +kernel
theorem dX0_runUntilTurned_4 : decode cX0_runUntilTurned 4 = .ok (.iconst 0, 1) := by decide +kernel
theorem dX0_runUntilTurned_5 : decode cX0_runUntilTurned 5 = .ok (.istore_n 2, 1) := by decide +kernel
theorem dX0_runUntilTurned_6 : decode cX0_runUntilTurned 6 = .ok (.iload_n 2, 1) := by decide +kernel
theorem dX0_runUntilTurned_7 : decode cX0_runUntilTurned 7 = .ok (.aload_n 0, 1) := by decide +kernel
theorem dX0_runUntilTurned_8 : decode cX0_runUntilTurned 8 = .ok (.getfield 12, 3) := by decide +kernel
theorem dX0_runUntilTurned_11 : decode cX0_runUntilTurned 11 = .ok (.getfield 54, 3) := by decide +kernel
theorem dX0_runUntilTurned_14 : decode cX0_runUntilTurned 14 = .ok (.if_icmp .ge 37, 3) := by decide +kernel
theorem dX0_runUntilTurned_17 : decode cX0_runUntilTurned 17 = .ok (.iload_n 2, 1) := by decide +kernel
theorem dX0_runUntilTurned_18 : decode cX0_runUntilTurned 18 = .ok (.bipush 12, 2) := by decide +kernel
theorem dX0_runUntilTurned_20 : decode cX0_runUntilTurned 20 = .ok (.if_icmp .ge 31, 3) := by decide +kernel
theorem dX0_runUntilTurned_23 : decode cX0_runUntilTurned 23 = .ok (.aload_n 0, 1) := by decide +kernel
theorem dX0_runUntilTurned_24 : decode cX0_runUntilTurned 24 = .ok (.iload_n 2, 1) := by decide +kernel
theorem dX0_runUntilTurned_25 : decode cX0_runUntilTurned 25 = .ok (.invokevirtual 57, 3) := by decide +kernel
theorem dX0_runUntilTurned_28 : decode cX0_runUntilTurned 28 = .ok (.aload_n 0, 1) := by decide +kernel
theorem dX0_runUntilTurned_29 : decode cX0_runUntilTurned 29 = .ok (.getfield 26, 3) := by decide +kernel
theorem dX0_runUntilTurned_32 : decode cX0_runUntilTurned 32 = .ok (.iload_n 2, 1) := by decide +kernel
theorem dX0_runUntilTurned_33 : decode cX0_runUntilTurned 33 = .ok (.iconst 1, 1) := by decide +kernel
theorem dX0_runUntilTurned_34 : decode cX0_runUntilTurned 34 = .ok (.iadd, 1) := by decide +kernel
theorem dX0_runUntilTurned_35 : decode cX0_runUntilTurned 35 = .ok (.iaload, 1) := by decide +kernel
theorem dX0_runUntilTurned_36 : decode cX0_runUntilTurned 36 = .ok (.iload_n 1, 1) := by decide +kernel
theorem dX0_runUntilTurned_37 : decode cX0_runUntilTurned 37 = .ok (.invokestatic 63, 3) := by decide +kernel
theorem dX0_runUntilTurned_40 : decode cX0_runUntilTurned 40 = .ok (.ifCond .eq 5, 3) := by decide +kernel
theorem dX0_runUntilTurned_43 : decode cX0_runUntilTurned 43 = .ok (.iload_n 2, 1) := by decide +kernel
theorem dX0_runUntilTurned_44 : decode cX0_runUntilTurned 44 = .ok (.ireturn, 1) := by decide +kernel
theorem dX0_runUntilTurned_45 : decode cX0_runUntilTurned 45 = .ok (.iinc 2 1, 3) := by decide +kernel
theorem dX0_runUntilTurned_48 : decode cX0_runUntilTurned 48 = .ok (.goto (-42), 3) := by decide +kernel
theorem dX0_runUntilTurned_51 : decode cX0_runUntilTurned 51 = .ok (.iconst (-1), 1) := by decide +kernel
theorem dX0_runUntilTurned_52 : decode cX0_runUntilTurned 52 = .ok (.ireturn, 1) := by decide +kernel
theorem dX0_start_0 : decode cX0_start 0 = .ok (.aload_n 0, 1) := by decide +kernel
theorem dX0_start_1 : decode cX0_start 1 = .ok (.getfield 22, 3) := by decide +kernel
theorem dX0_start_4 : decode cX0_start 4 = .ok (.iconst 0, 1) := by decide +kernel
theorem dX0_start_5 : decode cX0_start 5 = .ok (.invokestatic 67, 3) := by decide +kernel
theorem dX0_start_8 : decode cX0_start 8 = .ok (.aload_n 0, 1) := by decide +kernel
theorem dX0_start_9 : decode cX0_start 9 = .ok (.iconst 0, 1) := by decide +kernel
theorem dX0_start_10 : decode cX0_start 10 = .ok (.putfield 18, 3) := by decide +kernel
theorem dX0_start_13 : decode cX0_start 13 = .ok (.aload_n 0, 1) := by decide +kernel
theorem dX0_start_14 : decode cX0_start 14 = .ok (.getfield 26, 3) := by decide +kernel
theorem dX0_start_17 : decode cX0_start 17 = .ok (.iconst 0, 1) := by decide +kernel
theorem dX0_start_18 : decode cX0_start 18 = .ok (.iconst 0, 1) := by decide +kernel
theorem dX0_start_19 : decode cX0_start 19 = .ok (.iastore, 1) := by decide +kernel
theorem dX0_start_20 : decode cX0_start 20 = .ok (.iconst 0, 1) := by decide +kernel
theorem dX0_start_21 : decode cX0_start 21 = .ok (.istore_n 1, 1) := by decide +kernel
theorem dX0_start_22 : decode cX0_start 22 = .ok (.iload_n 1, 1) := by decide +kernel
theorem dX0_start_23 : decode cX0_start 23 = .ok (.aload_n 0, 1) := by decide +kernel
theorem dX0_start_24 : decode cX0_start 24 = .ok (.getfield 12, 3) := by decide +kernel
theorem dX0_start_27 : decode cX0_start 27 = .ok (.getfield 73, 3) := by decide +kernel
theorem dX0_start_30 : decode cX0_start 30 = .ok (.if_icmp .ge 86, 3) := by decide +kernel
theorem dX0_start_33 : decode cX0_start 33 = .ok (.iload_n 1, 1) := by decide +kernel
theorem dX0_start_34 : decode cX0_start 34 = .ok (.bipush 8, 2) := by decide +kernel
theorem dX0_start_36 : decode cX0_start 36 = .ok (.if_icmp .ge 80, 3) := by decide +kernel
theorem dX0_start_39 : decode cX0_start 39 = .ok (.aload_n 0, 1) := by decide +kernel
theorem dX0_start_40 : decode cX0_start 40 = .ok (.getfield 12, 3) := by decide +kernel
theorem dX0_start_43 : decode cX0_start 43 = .ok (.getfield 76, 3) := by decide +kernel
theorem dX0_start_46 : decode cX0_start 46 = .ok (.iload_n 1, 1) := by decide +kernel
theorem dX0_start_47 : decode cX0_start 47 = .ok (.iaload, 1) := by decide +kernel
theorem dX0_start_48 : decode cX0_start 48 = .ok (.istore_n 2, 1) := by decide +kernel
theorem dX0_start_49 : decode cX0_start 49 = .ok (.aload_n 0, 1) := by decide +kernel
theorem dX0_start_50 : decode cX0_start 50 = .ok (.getfield 29, 3) := by decide +kernel
theorem dX0_start_53 : decode cX0_start 53 = .ok (.iload_n 1, 1) := by decide +kernel
theorem dX0_start_54 : decode cX0_start 54 = .ok (.aload_n 0, 1) := by decide +kernel
theorem dX0_start_55 : decode cX0_start 55 = .ok (.getfield 12, 3) := by decide +kernel
theorem dX0_start_58 : decode cX0_start 58 = .ok (.getfield 79, 3) := by decide +kernel
theorem dX0_start_61 : decode cX0_start 61 = .ok (.iload_n 1, 1) := by decide +kernel
theorem dX0_start_62 : decode cX0_start 62 = .ok (.iaload, 1) := by decide +kernel
theorem dX0_start_63 : decode cX0_start 63 = .ok (.iastore, 1) := by decide +kernel
theorem dX0_start_64 : decode cX0_start 64 = .ok (.aload_n 0, 1) := by decide +kernel
theorem dX0_start_65 : decode cX0_start 65 = .ok (.getfield 12, 3) := by decide +kernel
theorem dX0_start_68 : decode cX0_start 68 = .ok (.iload_n 2, 1) := by decide +kernel
theorem dX0_start_69 : decode cX0_start 69 = .ok (.invokevirtual 80, 3) := by decide +kernel
theorem dX0_start_72 : decode cX0_start 72 = .ok (.ifCond .eq 38, 3) := by decide +kernel
theorem dX0_start_75 : decode cX0_start 75 = .ok (.aload_n 0, 1) := by decide +kernel
theorem dX0_start_76 : decode cX0_start 76 = .ok (.getfield 12, 3) := by decide +kernel
theorem dX0_start_79 : decode cX0_start 79 = .ok (.iload_n 2, 1) := by decide +kernel
theorem dX0_start_80 : decode cX0_start 80 = .ok (.invokevirtual 84, 3) := by decide +kernel
theorem dX0_start_83 : decode cX0_start 83 = .ok (.ifCond .ne 27, 3) := by decide +kernel
theorem dX0_start_86 : decode cX0_start 86 = .ok (.aload_n 0, 1) := by decide +kernel
theorem dX0_start_87 : decode cX0_start 87 = .ok (.dup, 1) := by decide +kernel
theorem dX0_start_88 : decode cX0_start 88 = .ok (.getfield 18, 3) := by decide +kernel
theorem dX0_start_91 : decode cX0_start 91 = .ok (.iconst 1, 1) := by decide +kernel
theorem dX0_start_92 : decode cX0_start 92 = .ok (.iload_n 1, 1) := by decide +kernel
theorem dX0_start_93 : decode cX0_start 93 = .ok (.ishl, 1) := by decide +kernel
theorem dX0_start_94 : decode cX0_start 94 = .ok (.ior, 1) := by decide +kernel
theorem dX0_start_95 : decode cX0_start 95 = .ok (.putfield 18, 3) := by decide +kernel
theorem dX0_start_98 : decode cX0_start 98 = .ok (.aload_n 0, 1) := by decide +kernel
theorem dX0_start_99 : decode cX0_start 99 = .ok (.getfield 22, 3) := by decide +kernel
theorem dX0_start_102 : decode cX0_start 102 = .ok (.iload_n 2, 1) := by decide +kernel
theorem dX0_start_103 : decode cX0_start 103 = .ok (.dup2, 1) := by decide +kernel
theorem dX0_start_104 : decode cX0_start 104 = .ok (.iaload, 1) := by decide +kernel
theorem dX0_start_105 : decode cX0_start 105 = .ok (.iconst 1, 1) := by decide +kernel
theorem dX0_start_106 : decode cX0_start 106 = .ok (.iload_n 1, 1) := by decide +kernel
theorem dX0_start_107 : decode cX0_start 107 = .ok (.ishl, 1) := by decide +kernel
theorem dX0_start_108 : decode cX0_start 108 = .ok (.ior, 1) := by decide +kernel
theorem dX0_start_109 : decode cX0_start 109 = .ok (.iastore, 1) := by decide +kernel
theorem dX0_start_110 : decode cX0_start 110 = .ok (.iinc 1 1, 3) := by decide +kernel
theorem dX0_start_113 : decode cX0_start 113 = .ok (.goto (-91), 3) := by decide +kernel
theorem dX0_start_116 : decode cX0_start 116 = .ok (.return_, 1) := by decide +kernel
theorem dX0_pass_0 : decode cX0_pass 0 = .ok (.iload_n 1, 1) := by decide +kernel
theorem dX0_pass_1 : decode cX0_pass 1 = .ok (.ifCond .lt 20, 3) := by decide +kernel
theorem dX0_pass_4 : decode cX0_pass 4 = .ok (.iload_n 1, 1) := by decide +kernel
theorem dX0_pass_5 : decode cX0_pass 5 = .ok (.aload_n 0, 1) := by decide +kernel
theorem dX0_pass_6 : decode cX0_pass 6 = .ok (.getfield 12, 3) := by decide +kernel
theorem dX0_pass_9 : decode cX0_pass 9 = .ok (.getfield 54, 3) := by decide +kernel
theorem dX0_pass_12 : decode cX0_pass 12 = .ok (.if_icmp .ge 9, 3) := by decide +kernel
theorem dX0_pass_15 : decode cX0_pass 15 = .ok (.iload_n 1, 1) := by decide +kernel
theorem dX0_pass_16 : decode cX0_pass 16 = .ok (.bipush 12, 2) := by decide +kernel
theorem dX0_pass_18 : decode cX0_pass 18 = .ok (.if_icmp .lt 4, 3) := by decide +kernel
theorem dX0_pass_21 : decode cX0_pass 21 = .ok (.return_, 1) := by decide +kernel
theorem dX0_pass_22 : decode cX0_pass 22 = .ok (.aload_n 0, 1) := by decide +kernel
theorem dX0_pass_23 : decode cX0_pass 23 = .ok (.getfield 26, 3) := by decide +kernel
theorem dX0_pass_26 : decode cX0_pass 26 = .ok (.iload_n 1, 1) := by decide +kernel
theorem dX0_pass_27 : decode cX0_pass 27 = .ok (.iaload, 1) := by decide +kernel
theorem dX0_pass_28 : decode cX0_pass 28 = .ok (.istore_n 2, 1) := by decide +kernel
theorem dX0_pass_29 : decode cX0_pass 29 = .ok (.iload_n 1, 1) := by decide +kernel
theorem dX0_pass_30 : decode cX0_pass 30 = .ok (.ifCond .ne 7, 3) := by decide +kernel
theorem dX0_pass_33 : decode cX0_pass 33 = .ok (.iconst 0, 1) := by decide +kernel
theorem dX0_pass_34 : decode cX0_pass 34 = .ok (.goto 15, 3) := by decide +kernel
theorem dX0_pass_37 : decode cX0_pass 37 = .ok (.iload_n 2, 1) := by decide +kernel
theorem dX0_pass_38 : decode cX0_pass 38 = .ok (.aload_n 0, 1) := by decide +kernel
theorem dX0_pass_39 : decode cX0_pass 39 = .ok (.getfield 26, 3) := by decide +kernel
theorem dX0_pass_42 : decode cX0_pass 42 = .ok (.iload_n 1, 1) := by decide +kernel
theorem dX0_pass_43 : decode cX0_pass 43 = .ok (.iconst 1, 1) := by decide +kernel
theorem dX0_pass_44 : decode cX0_pass 44 = .ok (.isub, 1) := by decide +kernel
theorem dX0_pass_45 : decode cX0_pass 45 = .ok (.iaload, 1) := by decide +kernel
theorem dX0_pass_46 : decode cX0_pass 46 = .ok (.iconst (-1), 1) := by decide +kernel
theorem dX0_pass_47 : decode cX0_pass 47 = .ok (.ixor, 1) := by decide +kernel
theorem dX0_pass_48 : decode cX0_pass 48 = .ok (.iand, 1) := by decide +kernel
theorem dX0_pass_49 : decode cX0_pass 49 = .ok (.istore_n 3, 1) := by decide +kernel
theorem dX0_pass_50 : decode cX0_pass 50 = .ok (.iconst 0, 1) := by decide +kernel
theorem dX0_pass_51 : decode cX0_pass 51 = .ok (.istore 4, 2) := by decide +kernel
theorem dX0_pass_53 : decode cX0_pass 53 = .ok (.iconst 0, 1) := by decide +kernel
theorem dX0_pass_54 : decode cX0_pass 54 = .ok (.istore 5, 2) := by decide +kernel
theorem dX0_pass_56 : decode cX0_pass 56 = .ok (.iconst 0, 1) := by decide +kernel
theorem dX0_pass_57 : decode cX0_pass 57 = .ok (.istore 6, 2) := by decide +kernel
theorem dX0_pass_59 : decode cX0_pass 59 = .ok (.iload 6, 2) := by decide +kernel
theorem dX0_pass_61 : decode cX0_pass 61 = .ok (.aload_n 0, 1) := by decide +kernel
theorem dX0_pass_62 : decode cX0_pass 62 = .ok (.getfield 12, 3) := by decide +kernel
theorem dX0_pass_65 : decode cX0_pass 65 = .ok (.getfield 73, 3) := by decide +kernel
theorem dX0_pass_68 : decode cX0_pass 68 = .ok (.if_icmp .ge 160, 3) := by decide +kernel
theorem dX0_pass_71 : decode cX0_pass 71 = .ok (.iload 6, 2) := by decide +kernel
theorem dX0_pass_73 : decode cX0_pass 73 = .ok (.bipush 8, 2) := by decide +kernel
theorem dX0_pass_75 : decode cX0_pass 75 = .ok (.if_icmp .ge 153, 3) := by decide +kernel
theorem dX0_pass_78 : decode cX0_pass 78 = .ok (.aload_n 0, 1) := by decide +kernel
theorem dX0_pass_79 : decode cX0_pass 79 = .ok (.getfield 29, 3) := by decide +kernel
theorem dX0_pass_82 : decode cX0_pass 82 = .ok (.iload_n 1, 1) := by decide +kernel
theorem dX0_pass_83 : decode cX0_pass 83 = .ok (.bipush 8, 2) := by decide +kernel
theorem dX0_pass_85 : decode cX0_pass 85 = .ok (.imul, 1) := by decide +kernel
theorem dX0_pass_86 : decode cX0_pass 86 = .ok (.iload 6, 2) := by decide +kernel
theorem dX0_pass_88 : decode cX0_pass 88 = .ok (.iadd, 1) := by decide +kernel
theorem dX0_pass_89 : decode cX0_pass 89 = .ok (.iaload, 1) := by decide +kernel
theorem dX0_pass_90 : decode cX0_pass 90 = .ok (.istore 7, 2) := by decide +kernel
theorem dX0_pass_92 : decode cX0_pass 92 = .ok (.aload_n 0, 1) := by decide +kernel
theorem dX0_pass_93 : decode cX0_pass 93 = .ok (.iload_n 1, 1) := by decide +kernel
theorem dX0_pass_94 : decode cX0_pass 94 = .ok (.aload_n 0, 1) := by decide +kernel
theorem dX0_pass_95 : decode cX0_pass 95 = .ok (.getfield 12, 3) := by decide +kernel
theorem dX0_pass_98 : decode cX0_pass 98 = .ok (.getfield 76, 3) := by decide +kernel
theorem dX0_pass_101 : decode cX0_pass 101 = .ok (.iload 6, 2) := by decide +kernel
theorem dX0_pass_103 : decode cX0_pass 103 = .ok (.iaload, 1) := by decide +kernel
theorem dX0_pass_104 : decode cX0_pass 104 = .ok (.invokevirtual 87, 3) := by decide +kernel
theorem dX0_pass_107 : decode cX0_pass 107 = .ok (.istore 8, 2) := by decide +kernel
theorem dX0_pass_109 : decode cX0_pass 109 = .ok (.iload 8, 2) := by decide +kernel
theorem dX0_pass_111 : decode cX0_pass 111 = .ok (.aload_n 0, 1) := by decide +kernel
theorem dX0_pass_112 : decode cX0_pass 112 = .ok (.getfield 12, 3) := by decide +kernel
theorem dX0_pass_115 : decode cX0_pass 115 = .ok (.getfield 90, 3) := by decide +kernel
theorem dX0_pass_118 : decode cX0_pass 118 = .ok (.iload 6, 2) := by decide +kernel
theorem dX0_pass_120 : decode cX0_pass 120 = .ok (.iaload, 1) := by decide +kernel
theorem dX0_pass_121 : decode cX0_pass 121 = .ok (.invokestatic 93, 3) := by decide +kernel
theorem dX0_pass_124 : decode cX0_pass 124 = .ok (.istore 9, 2) := by decide +kernel
theorem dX0_pass_126 : decode cX0_pass 126 = .ok (.aload_n 0, 1) := by decide +kernel
theorem dX0_pass_127 : decode cX0_pass 127 = .ok (.getfield 18, 3) := by decide +kernel
theorem dX0_pass_130 : decode cX0_pass 130 = .ok (.iload_n 2, 1) := by decide +kernel
theorem dX0_pass_131 : decode cX0_pass 131 = .ok (.iconst (-1), 1) := by decide +kernel
theorem dX0_pass_132 : decode cX0_pass 132 = .ok (.ixor, 1) := by decide +kernel
theorem dX0_pass_133 : decode cX0_pass 133 = .ok (.iand, 1) := by decide +kernel
theorem dX0_pass_134 : decode cX0_pass 134 = .ok (.iload 6, 2) := by decide +kernel
theorem dX0_pass_136 : decode cX0_pass 136 = .ok (.invokestatic 63, 3) := by decide +kernel
theorem dX0_pass_139 : decode cX0_pass 139 = .ok (.istore 10, 2) := by decide +kernel
theorem dX0_pass_141 : decode cX0_pass 141 = .ok (.iload_n 3, 1) := by decide +kernel
theorem dX0_pass_142 : decode cX0_pass 142 = .ok (.iload 6, 2) := by decide +kernel
theorem dX0_pass_144 : decode cX0_pass 144 = .ok (.invokestatic 63, 3) := by decide +kernel
theorem dX0_pass_147 : decode cX0_pass 147 = .ok (.ifCond .eq 17, 3) := by decide +kernel
theorem dX0_pass_150 : decode cX0_pass 150 = .ok (.iload 8, 2) := by decide +kernel
theorem dX0_pass_152 : decode cX0_pass 152 = .ok (.ifCond .ne 12, 3) := by decide +kernel
theorem dX0_pass_155 : decode cX0_pass 155 = .ok (.iload 4, 2) := by decide +kernel
theorem dX0_pass_157 : decode cX0_pass 157 = .ok (.iconst 1, 1) := by decide +kernel
theorem dX0_pass_158 : decode cX0_pass 158 = .ok (.iload 6, 2) := by decide +kernel
theorem dX0_pass_160 : decode cX0_pass 160 = .ok (.ishl, 1) := by decide +kernel
theorem dX0_pass_161 : decode cX0_pass 161 = .ok (.ior, 1) := by decide +kernel
theorem dX0_pass_162 : decode cX0_pass 162 = .ok (.istore 4, 2) := by decide +kernel
theorem dX0_pass_164 : decode cX0_pass 164 = .ok (.iload 10, 2) := by decide +kernel
theorem dX0_pass_166 : decode cX0_pass 166 = .ok (.ifCond .eq 19, 3) := by decide +kernel
theorem dX0_pass_169 : decode cX0_pass 169 = .ok (.iload 9, 2) := by decide +kernel
theorem dX0_pass_171 : decode cX0_pass 171 = .ok (.iload 7, 2) := by decide +kernel
theorem dX0_pass_173 : decode cX0_pass 173 = .ok (.if_icmp .le 12, 3) := by decide +kernel
theorem dX0_pass_176 : decode cX0_pass 176 = .ok (.iload 5, 2) := by decide +kernel
theorem dX0_pass_178 : decode cX0_pass 178 = .ok (.iconst 1, 1) := by decide +kernel
theorem dX0_pass_179 : decode cX0_pass 179 = .ok (.iload 6, 2) := by decide +kernel
theorem dX0_pass_181 : decode cX0_pass 181 = .ok (.ishl, 1) := by decide +kernel
theorem dX0_pass_182 : decode cX0_pass 182 = .ok (.ior, 1) := by decide +kernel
theorem dX0_pass_183 : decode cX0_pass 183 = .ok (.istore 5, 2) := by decide +kernel
theorem dX0_pass_185 : decode cX0_pass 185 = .ok (.iload 10, 2) := by decide +kernel
theorem dX0_pass_187 : decode cX0_pass 187 = .ok (.ifCond .eq 19, 3) := by decide +kernel
theorem dX0_pass_190 : decode cX0_pass 190 = .ok (.iload 9, 2) := by decide +kernel
theorem dX0_pass_192 : decode cX0_pass 192 = .ok (.iload 7, 2) := by decide +kernel
theorem dX0_pass_194 : decode cX0_pass 194 = .ok (.if_icmp .ne 12, 3) := by decide +kernel
theorem dX0_pass_197 : decode cX0_pass 197 = .ok (.iload 7, 2) := by decide +kernel
theorem dX0_pass_199 : decode cX0_pass 199 = .ok (.iconst 1, 1) := by decide +kernel
theorem dX0_pass_200 : decode cX0_pass 200 = .ok (.if_icmp .le 6, 3) := by decide +kernel
theorem dX0_pass_203 : decode cX0_pass 203 = .ok (.iinc 7 (-1), 3) := by decide +kernel
theorem dX0_pass_206 : decode cX0_pass 206 = .ok (.aload_n 0, 1) := by decide +kernel
theorem dX0_pass_207 : decode cX0_pass 207 = .ok (.getfield 29, 3) := by decide +kernel
theorem dX0_pass_210 : decode cX0_pass 210 = .ok (.iload_n 1, 1) := by decide +kernel
theorem dX0_pass_211 : decode cX0_pass 211 = .ok (.iconst 1, 1) := by decide +kernel
theorem dX0_pass_212 : decode cX0_pass 212 = .ok (.iadd, 1) := by decide +kernel
theorem dX0_pass_213 : decode cX0_pass 213 = .ok (.bipush 8, 2) := by decide +kernel
theorem dX0_pass_215 : decode cX0_pass 215 = .ok (.imul, 1) := by decide +kernel
theorem dX0_pass_216 : decode cX0_pass 216 = .ok (.iload 6, 2) := by decide +kernel
theorem dX0_pass_218 : decode cX0_pass 218 = .ok (.iadd, 1) := by decide +kernel
theorem dX0_pass_219 : decode cX0_pass 219 = .ok (.iload 7, 2) := by decide +kernel
theorem dX0_pass_221 : decode cX0_pass 221 = .ok (.iastore, 1) := by decide +kernel
theorem dX0_pass_222 : decode cX0_pass 222 = .ok (.iinc 6 1, 3) := by decide +kernel
theorem dX0_pass_225 : decode cX0_pass 225 = .ok (.goto (-166), 3) := by decide +kernel
theorem dX0_pass_228 : decode cX0_pass 228 = .ok (.aload_n 0, 1) := by decide +kernel
theorem dX0_pass_229 : decode cX0_pass 229 = .ok (.getfield 26, 3) := by decide +kernel
theorem dX0_pass_232 : decode cX0_pass 232 = .ok (.iload_n 1, 1) := by decide +kernel
theorem dX0_pass_233 : decode cX0_pass 233 = .ok (.iconst 1, 1) := by decide +kernel
theorem dX0_pass_234 : decode cX0_pass 234 = .ok (.iadd, 1) := by decide +kernel
theorem dX0_pass_235 : decode cX0_pass 235 = .ok (.iload_n 2, 1) := by decide +kernel
theorem dX0_pass_236 : decode cX0_pass 236 = .ok (.iload 5, 2) := by decide +kernel
theorem dX0_pass_238 : decode cX0_pass 238 = .ok (.ior, 1) := by decide +kernel
theorem dX0_pass_239 : decode cX0_pass 239 = .ok (.iastore, 1) := by decide +kernel
theorem dX0_pass_240 : decode cX0_pass 240 = .ok (.iload_n 1, 1) := by decide +kernel
theorem dX0_pass_241 : decode cX0_pass 241 = .ok (.ifCond .le 12, 3) := by decide +kernel
theorem dX0_pass_244 : decode cX0_pass 244 = .ok (.aload_n 0, 1) := by decide +kernel
theorem dX0_pass_245 : decode cX0_pass 245 = .ok (.iload_n 1, 1) := by decide +kernel
theorem dX0_pass_246 : decode cX0_pass 246 = .ok (.iconst 1, 1) := by decide +kernel
theorem dX0_pass_247 : decode cX0_pass 247 = .ok (.isub, 1) := by decide +kernel
theorem dX0_pass_248 : decode cX0_pass 248 = .ok (.iload 4, 2) := by decide +kernel
theorem dX0_pass_250 : decode cX0_pass 250 = .ok (.invokevirtual 96, 3) := by decide +kernel
theorem dX0_pass_253 : decode cX0_pass 253 = .ok (.return_, 1) := by decide +kernel
theorem dX0_end_0 : decode cX0_end 0 = .ok (.aload_n 0, 1) := by decide +kernel
theorem dX0_end_1 : decode cX0_end 1 = .ok (.aload_n 0, 1) := by decide +kernel
theorem dX0_end_2 : decode cX0_end 2 = .ok (.getfield 12, 3) := by decide +kernel
theorem dX0_end_5 : decode cX0_end 5 = .ok (.getfield 54, 3) := by decide +kernel
theorem dX0_end_8 : decode cX0_end 8 = .ok (.iconst 1, 1) := by decide +kernel
theorem dX0_end_9 : decode cX0_end 9 = .ok (.isub, 1) := by decide +kernel
theorem dX0_end_10 : decode cX0_end 10 = .ok (.iconst 0, 1) := by decide +kernel
theorem dX0_end_11 : decode cX0_end 11 = .ok (.invokevirtual 96, 3) := by decide +kernel
theorem dX0_end_14 : decode cX0_end 14 = .ok (.return_, 1) := by decide +kernel
theorem dX0_strainOf_0 : decode cX0_strainOf 0 = .ok (.iload_n 1, 1) := by decide +kernel
theorem dX0_strainOf_1 : decode cX0_strainOf 1 = .ok (.ifCond .ne 7, 3) := by decide +kernel
theorem dX0_strainOf_4 : decode cX0_strainOf 4 = .ok (.iload_n 0, 1) := by decide +kernel
theorem dX0_strainOf_5 : decode cX0_strainOf 5 = .ok (.iconst 2, 1) := by decide +kernel
theorem dX0_strainOf_6 : decode cX0_strainOf 6 = .ok (.idiv, 1) := by decide +kernel
theorem dX0_strainOf_7 : decode cX0_strainOf 7 = .ok (.ireturn, 1) := by decide +kernel
theorem dX0_strainOf_8 : decode cX0_strainOf 8 = .ok (.iload_n 1, 1) := by decide +kernel
theorem dX0_strainOf_9 : decode cX0_strainOf 9 = .ok (.iconst 2, 1) := by decide +kernel
theorem dX0_strainOf_10 : decode cX0_strainOf 10 = .ok (.if_icmp .ne 9, 3) := by decide +kernel
theorem dX0_strainOf_13 : decode cX0_strainOf 13 = .ok (.iconst 2, 1) := by decide +kernel
theorem dX0_strainOf_14 : decode cX0_strainOf 14 = .ok (.iload_n 0, 1) := by decide +kernel
theorem dX0_strainOf_15 : decode cX0_strainOf 15 = .ok (.imul, 1) := by decide +kernel
theorem dX0_strainOf_16 : decode cX0_strainOf 16 = .ok (.goto 4, 3) := by decide +kernel
theorem dX0_strainOf_19 : decode cX0_strainOf 19 = .ok (.iload_n 0, 1) := by decide +kernel
theorem dX0_strainOf_20 : decode cX0_strainOf 20 = .ok (.ireturn, 1) := by decide +kernel
theorem dX0_elect_0 : decode cX0_elect 0 = .ok (.iload_n 1, 1) := by decide +kernel
theorem dX0_elect_1 : decode cX0_elect 1 = .ok (.ifCond .lt 9, 3) := by decide +kernel
theorem dX0_elect_4 : decode cX0_elect 4 = .ok (.iload_n 1, 1) := by decide +kernel
theorem dX0_elect_5 : decode cX0_elect 5 = .ok (.bipush 12, 2) := by decide +kernel
theorem dX0_elect_7 : decode cX0_elect 7 = .ok (.if_icmp .lt 4, 3) := by decide +kernel
theorem dX0_elect_10 : decode cX0_elect 10 = .ok (.return_, 1) := by decide +kernel
theorem dX0_elect_11 : decode cX0_elect 11 = .ok (.aload_n 0, 1) := by decide +kernel
theorem dX0_elect_12 : decode cX0_elect 12 = .ok (.getfield 26, 3) := by decide +kernel
theorem dX0_elect_15 : decode cX0_elect 15 = .ok (.iload_n 1, 1) := by decide +kernel
theorem dX0_elect_16 : decode cX0_elect 16 = .ok (.iconst 1, 1) := by decide +kernel
theorem dX0_elect_17 : decode cX0_elect 17 = .ok (.iadd, 1) := by decide +kernel
theorem dX0_elect_18 : decode cX0_elect 18 = .ok (.iaload, 1) := by decide +kernel
theorem dX0_elect_19 : decode cX0_elect 19 = .ok (.aload_n 0, 1) := by decide +kernel
theorem dX0_elect_20 : decode cX0_elect 20 = .ok (.getfield 26, 3) := by decide +kernel
theorem dX0_elect_23 : decode cX0_elect 23 = .ok (.iload_n 1, 1) := by decide +kernel
theorem dX0_elect_24 : decode cX0_elect 24 = .ok (.iaload, 1) := by decide +kernel
theorem dX0_elect_25 : decode cX0_elect 25 = .ok (.iconst (-1), 1) := by decide +kernel
theorem dX0_elect_26 : decode cX0_elect 26 = .ok (.ixor, 1) := by decide +kernel
theorem dX0_elect_27 : decode cX0_elect 27 = .ok (.iand, 1) := by decide +kernel
theorem dX0_elect_28 : decode cX0_elect 28 = .ok (.iload_n 2, 1) := by decide +kernel
theorem dX0_elect_29 : decode cX0_elect 29 = .ok (.iconst (-1), 1) := by decide +kernel
theorem dX0_elect_30 : decode cX0_elect 30 = .ok (.ixor, 1) := by decide +kernel
theorem dX0_elect_31 : decode cX0_elect 31 = .ok (.iand, 1) := by decide +kernel
theorem dX0_elect_32 : decode cX0_elect 32 = .ok (.istore_n 3, 1) := by decide +kernel
theorem dX0_elect_33 : decode cX0_elect 33 = .ok (.iload_n 1, 1) := by decide +kernel
theorem dX0_elect_34 : decode cX0_elect 34 = .ok (.bipush 8, 2) := by decide +kernel
theorem dX0_elect_36 : decode cX0_elect 36 = .ok (.imul, 1) := by decide +kernel
theorem dX0_elect_37 : decode cX0_elect 37 = .ok (.istore 4, 2) := by decide +kernel
theorem dX0_elect_39 : decode cX0_elect 39 = .ok (.iconst (-1), 1) := by decide +kernel
theorem dX0_elect_40 : decode cX0_elect 40 = .ok (.istore 5, 2) := by decide +kernel
theorem dX0_elect_42 : decode cX0_elect 42 = .ok (.iconst 0, 1) := by decide +kernel
theorem dX0_elect_43 : decode cX0_elect 43 = .ok (.istore 6, 2) := by decide +kernel
theorem dX0_elect_45 : decode cX0_elect 45 = .ok (.iload 6, 2) := by decide +kernel
theorem dX0_elect_47 : decode cX0_elect 47 = .ok (.bipush 8, 2) := by decide +kernel
theorem dX0_elect_49 : decode cX0_elect 49 = .ok (.if_icmp .ge 64, 3) := by decide +kernel
theorem dX0_elect_52 : decode cX0_elect 52 = .ok (.iload 5, 2) := by decide +kernel
theorem dX0_elect_54 : decode cX0_elect 54 = .ok (.iconst (-1), 1) := by decide +kernel
theorem dX0_elect_55 : decode cX0_elect 55 = .ok (.if_icmp .eq 26, 3) := by decide +kernel
theorem dX0_elect_58 : decode cX0_elect 58 = .ok (.aload_n 0, 1) := by decide +kernel
theorem dX0_elect_59 : decode cX0_elect 59 = .ok (.getfield 29, 3) := by decide +kernel
theorem dX0_elect_62 : decode cX0_elect 62 = .ok (.iload 4, 2) := by decide +kernel
theorem dX0_elect_64 : decode cX0_elect 64 = .ok (.iload 6, 2) := by decide +kernel
theorem dX0_elect_66 : decode cX0_elect 66 = .ok (.iadd, 1) := by decide +kernel
theorem dX0_elect_67 : decode cX0_elect 67 = .ok (.iaload, 1) := by decide +kernel
theorem dX0_elect_68 : decode cX0_elect 68 = .ok (.aload_n 0, 1) := by decide +kernel
theorem dX0_elect_69 : decode cX0_elect 69 = .ok (.getfield 29, 3) := by decide +kernel
theorem dX0_elect_72 : decode cX0_elect 72 = .ok (.iload 4, 2) := by decide +kernel
theorem dX0_elect_74 : decode cX0_elect 74 = .ok (.iload 5, 2) := by decide +kernel
theorem dX0_elect_76 : decode cX0_elect 76 = .ok (.iadd, 1) := by decide +kernel
theorem dX0_elect_77 : decode cX0_elect 77 = .ok (.iaload, 1) := by decide +kernel
theorem dX0_elect_78 : decode cX0_elect 78 = .ok (.if_icmp .ge 7, 3) := by decide +kernel
theorem dX0_elect_81 : decode cX0_elect 81 = .ok (.iconst 1, 1) := by decide +kernel
theorem dX0_elect_82 : decode cX0_elect 82 = .ok (.goto 4, 3) := by decide +kernel
theorem dX0_elect_85 : decode cX0_elect 85 = .ok (.iconst 0, 1) := by decide +kernel
theorem dX0_elect_86 : decode cX0_elect 86 = .ok (.istore 7, 2) := by decide +kernel
theorem dX0_elect_88 : decode cX0_elect 88 = .ok (.iload_n 3, 1) := by decide +kernel
theorem dX0_elect_89 : decode cX0_elect 89 = .ok (.iload 6, 2) := by decide +kernel
theorem dX0_elect_91 : decode cX0_elect 91 = .ok (.ishr, 1) := by decide +kernel
theorem dX0_elect_92 : decode cX0_elect 92 = .ok (.iconst 1, 1) := by decide +kernel
theorem dX0_elect_93 : decode cX0_elect 93 = .ok (.iand, 1) := by decide +kernel
theorem dX0_elect_94 : decode cX0_elect 94 = .ok (.iconst 1, 1) := by decide +kernel
theorem dX0_elect_95 : decode cX0_elect 95 = .ok (.if_icmp .ne 12, 3) := by decide +kernel
theorem dX0_elect_98 : decode cX0_elect 98 = .ok (.iload 7, 2) := by decide +kernel
theorem dX0_elect_100 : decode cX0_elect 100 = .ok (.ifCond .eq 7, 3) := by decide +kernel
theorem dX0_elect_103 : decode cX0_elect 103 = .ok (.iload 6, 2) := by decide +kernel
theorem dX0_elect_105 : decode cX0_elect 105 = .ok (.istore 5, 2) := by decide +kernel
theorem dX0_elect_107 : decode cX0_elect 107 = .ok (.iinc 6 1, 3) := by decide +kernel
theorem dX0_elect_110 : decode cX0_elect 110 = .ok (.goto (-65), 3) := by decide +kernel
theorem dX0_elect_113 : decode cX0_elect 113 = .ok (.aload_n 0, 1) := by decide +kernel
theorem dX0_elect_114 : decode cX0_elect 114 = .ok (.getfield 32, 3) := by decide +kernel
theorem dX0_elect_117 : decode cX0_elect 117 = .ok (.iload_n 1, 1) := by decide +kernel
theorem dX0_elect_118 : decode cX0_elect 118 = .ok (.iload_n 2, 1) := by decide +kernel
theorem dX0_elect_119 : decode cX0_elect 119 = .ok (.iastore, 1) := by decide +kernel
theorem dX0_elect_120 : decode cX0_elect 120 = .ok (.aload_n 0, 1) := by decide +kernel
theorem dX0_elect_121 : decode cX0_elect 121 = .ok (.getfield 35, 3) := by decide +kernel
theorem dX0_elect_124 : decode cX0_elect 124 = .ok (.iload_n 1, 1) := by decide +kernel
theorem dX0_elect_125 : decode cX0_elect 125 = .ok (.iload 5, 2) := by decide +kernel
theorem dX0_elect_127 : decode cX0_elect 127 = .ok (.iastore, 1) := by decide +kernel
theorem dX0_elect_128 : decode cX0_elect 128 = .ok (.iload 5, 2) := by decide +kernel
theorem dX0_elect_130 : decode cX0_elect 130 = .ok (.iconst (-1), 1) := by decide +kernel
theorem dX0_elect_131 : decode cX0_elect 131 = .ok (.if_icmp .ne 17, 3) := by decide +kernel
theorem dX0_elect_134 : decode cX0_elect 134 = .ok (.iload_n 1, 1) := by decide +kernel
theorem dX0_elect_135 : decode cX0_elect 135 = .ok (.ifCond .le 13, 3) := by decide +kernel
theorem dX0_elect_138 : decode cX0_elect 138 = .ok (.aload_n 0, 1) := by decide +kernel
theorem dX0_elect_139 : decode cX0_elect 139 = .ok (.getfield 38, 3) := by decide +kernel
theorem dX0_elect_142 : decode cX0_elect 142 = .ok (.iload_n 1, 1) := by decide +kernel
theorem dX0_elect_143 : decode cX0_elect 143 = .ok (.iconst 1, 1) := by decide +kernel
theorem dX0_elect_144 : decode cX0_elect 144 = .ok (.isub, 1) := by decide +kernel
theorem dX0_elect_145 : decode cX0_elect 145 = .ok (.iaload, 1) := by decide +kernel
theorem dX0_elect_146 : decode cX0_elect 146 = .ok (.istore 5, 2) := by decide +kernel
theorem dX0_elect_148 : decode cX0_elect 148 = .ok (.aload_n 0, 1) := by decide +kernel
theorem dX0_elect_149 : decode cX0_elect 149 = .ok (.getfield 38, 3) := by decide +kernel
theorem dX0_elect_152 : decode cX0_elect 152 = .ok (.iload_n 1, 1) := by decide +kernel
theorem dX0_elect_153 : decode cX0_elect 153 = .ok (.iload 5, 2) := by decide +kernel
theorem dX0_elect_155 : decode cX0_elect 155 = .ok (.iastore, 1) := by decide +kernel
theorem dX0_elect_156 : decode cX0_elect 156 = .ok (.return_, 1) := by decide +kernel
theorem dX0_windOn_0 : decode cX0_windOn 0 = .ok (.iload_n 1, 1) := by decide +kernel
theorem dX0_windOn_1 : decode cX0_windOn 1 = .ok (.ifCond .lt 24, 3) := by decide +kernel
theorem dX0_windOn_4 : decode cX0_windOn 4 = .ok (.iload_n 1, 1) := by decide +kernel
theorem dX0_windOn_5 : decode cX0_windOn 5 = .ok (.bipush 12, 2) := by decide +kernel
theorem dX0_windOn_7 : decode cX0_windOn 7 = .ok (.if_icmp .ge 18, 3) := by decide +kernel
theorem dX0_windOn_10 : decode cX0_windOn 10 = .ok (.iload_n 2, 1) := by decide +kernel
theorem dX0_windOn_11 : decode cX0_windOn 11 = .ok (.ifCond .lt 14, 3) := by decide +kernel
theorem dX0_windOn_14 : decode cX0_windOn 14 = .ok (.iload_n 2, 1) := by decide +kernel
theorem dX0_windOn_15 : decode cX0_windOn 15 = .ok (.aload_n 0, 1) := by decide +kernel
theorem dX0_windOn_16 : decode cX0_windOn 16 = .ok (.getfield 12, 3) := by decide +kernel
theorem dX0_windOn_19 : decode cX0_windOn 19 = .ok (.getfield 100, 3) := by decide +kernel
theorem dX0_windOn_22 : decode cX0_windOn 22 = .ok (.if_icmp .lt 5, 3) := by decide +kernel
theorem dX0_windOn_25 : decode cX0_windOn 25 = .ok (.iconst 0, 1) := by decide +kernel
theorem dX0_windOn_26 : decode cX0_windOn 26 = .ok (.ireturn, 1) := by decide +kernel
theorem dX0_windOn_27 : decode cX0_windOn 27 = .ok (.aload_n 0, 1) := by decide +kernel
theorem dX0_windOn_28 : decode cX0_windOn 28 = .ok (.getfield 12, 3) := by decide +kernel
theorem dX0_windOn_31 : decode cX0_windOn 31 = .ok (.getfield 103, 3) := by decide +kernel
theorem dX0_windOn_34 : decode cX0_windOn 34 = .ok (.iload_n 1, 1) := by decide +kernel
theorem dX0_windOn_35 : decode cX0_windOn 35 = .ok (.iaload, 1) := by decide +kernel
theorem dX0_windOn_36 : decode cX0_windOn 36 = .ok (.bipush 25, 2) := by decide +kernel
theorem dX0_windOn_38 : decode cX0_windOn 38 = .ok (.imul, 1) := by decide +kernel
theorem dX0_windOn_39 : decode cX0_windOn 39 = .ok (.iload_n 2, 1) := by decide +kernel
theorem dX0_windOn_40 : decode cX0_windOn 40 = .ok (.iadd, 1) := by decide +kernel
theorem dX0_windOn_41 : decode cX0_windOn 41 = .ok (.istore_n 3, 1) := by decide +kernel
theorem dX0_windOn_42 : decode cX0_windOn 42 = .ok (.iload_n 3, 1) := by decide +kernel
theorem dX0_windOn_43 : decode cX0_windOn 43 = .ok (.ifCond .lt 21, 3) := by decide +kernel
theorem dX0_windOn_46 : decode cX0_windOn 46 = .ok (.iload_n 3, 1) := by decide +kernel
theorem dX0_windOn_47 : decode cX0_windOn 47 = .ok (.bipush 100, 2) := by decide +kernel
theorem dX0_windOn_49 : decode cX0_windOn 49 = .ok (.if_icmp .ge 15, 3) := by decide +kernel
theorem dX0_windOn_52 : decode cX0_windOn 52 = .ok (.aload_n 0, 1) := by decide +kernel
theorem dX0_windOn_53 : decode cX0_windOn 53 = .ok (.getfield 12, 3) := by decide +kernel
theorem dX0_windOn_56 : decode cX0_windOn 56 = .ok (.getfield 106, 3) := by decide +kernel
theorem dX0_windOn_59 : decode cX0_windOn 59 = .ok (.iload_n 3, 1) := by decide +kernel
theorem dX0_windOn_60 : decode cX0_windOn 60 = .ok (.iaload, 1) := by decide +kernel
theorem dX0_windOn_61 : decode cX0_windOn 61 = .ok (.ifCond .ne 5, 3) := by decide +kernel
theorem dX0_windOn_64 : decode cX0_windOn 64 = .ok (.iconst 0, 1) := by decide +kernel
theorem dX0_windOn_65 : decode cX0_windOn 65 = .ok (.ireturn, 1) := by decide +kernel
theorem dX0_windOn_66 : decode cX0_windOn 66 = .ok (.aload_n 0, 1) := by decide +kernel
theorem dX0_windOn_67 : decode cX0_windOn 67 = .ok (.getfield 12, 3) := by decide +kernel
theorem dX0_windOn_70 : decode cX0_windOn 70 = .ok (.getfield 106, 3) := by decide +kernel
theorem dX0_windOn_73 : decode cX0_windOn 73 = .ok (.iload_n 3, 1) := by decide +kernel
theorem dX0_windOn_74 : decode cX0_windOn 74 = .ok (.iaload, 1) := by decide +kernel
theorem dX0_windOn_75 : decode cX0_windOn 75 = .ok (.istore 4, 2) := by decide +kernel
theorem dX0_windOn_77 : decode cX0_windOn 77 = .ok (.iload 4, 2) := by decide +kernel
theorem dX0_windOn_79 : decode cX0_windOn 79 = .ok (.iconst 4, 1) := by decide +kernel
theorem dX0_windOn_80 : decode cX0_windOn 80 = .ok (.irem, 1) := by decide +kernel
theorem dX0_windOn_81 : decode cX0_windOn 81 = .ok (.iconst 1, 1) := by decide +kernel
theorem dX0_windOn_82 : decode cX0_windOn 82 = .ok (.if_icmp .ne 17, 3) := by decide +kernel
theorem dX0_windOn_85 : decode cX0_windOn 85 = .ok (.aload_n 0, 1) := by decide +kernel
theorem dX0_windOn_86 : decode cX0_windOn 86 = .ok (.getfield 12, 3) := by decide +kernel
theorem dX0_windOn_89 : decode cX0_windOn 89 = .ok (.getfield 109, 3) := by decide +kernel
theorem dX0_windOn_92 : decode cX0_windOn 92 = .ok (.iload_n 1, 1) := by decide +kernel
theorem dX0_windOn_93 : decode cX0_windOn 93 = .ok (.iaload, 1) := by decide +kernel
theorem dX0_windOn_94 : decode cX0_windOn 94 = .ok (.iconst 2, 1) := by decide +kernel
theorem dX0_windOn_95 : decode cX0_windOn 95 = .ok (.idiv, 1) := by decide +kernel
theorem dX0_windOn_96 : decode cX0_windOn 96 = .ok (.goto 12, 3) := by decide +kernel
theorem dX0_windOn_99 : decode cX0_windOn 99 = .ok (.aload_n 0, 1) := by decide +kernel
theorem dX0_windOn_100 : decode cX0_windOn 100 = .ok (.getfield 12, 3) := by decide +kernel
theorem dX0_windOn_103 : decode cX0_windOn 103 = .ok (.getfield 109, 3) := by decide +kernel
theorem dX0_windOn_106 : decode cX0_windOn 106 = .ok (.iload_n 1, 1) := by decide +kernel
theorem dX0_windOn_107 : decode cX0_windOn 107 = .ok (.iaload, 1) := by decide +kernel
theorem dX0_windOn_108 : decode cX0_windOn 108 = .ok (.istore 5, 2) := by decide +kernel
theorem dX0_windOn_110 : decode cX0_windOn 110 = .ok (.iload 5, 2) := by decide +kernel
theorem dX0_windOn_112 : decode cX0_windOn 112 = .ok (.ifCond .eq 12, 3) := by decide +kernel
theorem dX0_windOn_115 : decode cX0_windOn 115 = .ok (.iload 4, 2) := by decide +kernel
theorem dX0_windOn_117 : decode cX0_windOn 117 = .ok (.iconst 4, 1) := by decide +kernel
theorem dX0_windOn_118 : decode cX0_windOn 118 = .ok (.if_icmp .lt 6, 3) := by decide +kernel
theorem dX0_windOn_121 : decode cX0_windOn 121 = .ok (.iinc 5 3, 3) := by decide +kernel
theorem dX0_windOn_124 : decode cX0_windOn 124 = .ok (.aload_n 0, 1) := by decide +kernel
theorem dX0_windOn_125 : decode cX0_windOn 125 = .ok (.getfield 12, 3) := by decide +kernel
theorem dX0_windOn_128 : decode cX0_windOn 128 = .ok (.getfield 112, 3) := by decide +kernel
theorem dX0_windOn_131 : decode cX0_windOn 131 = .ok (.iload_n 3, 1) := by decide +kernel
theorem dX0_windOn_132 : decode cX0_windOn 132 = .ok (.iaload, 1) := by decide +kernel
theorem dX0_windOn_133 : decode cX0_windOn 133 = .ok (.istore 6, 2) := by decide +kernel
theorem dX0_windOn_135 : decode cX0_windOn 135 = .ok (.iload 6, 2) := by decide +kernel
theorem dX0_windOn_137 : decode cX0_windOn 137 = .ok (.ifCond .lt 33, 3) := by decide +kernel
theorem dX0_windOn_140 : decode cX0_windOn 140 = .ok (.iload 6, 2) := by decide +kernel
theorem dX0_windOn_142 : decode cX0_windOn 142 = .ok (.bipush 25, 2) := by decide +kernel
theorem dX0_windOn_144 : decode cX0_windOn 144 = .ok (.if_icmp .ge 26, 3) := by decide +kernel
theorem dX0_windOn_147 : decode cX0_windOn 147 = .ok (.aload_n 0, 1) := by decide +kernel
theorem dX0_windOn_148 : decode cX0_windOn 148 = .ok (.getfield 22, 3) := by decide +kernel
theorem dX0_windOn_151 : decode cX0_windOn 151 = .ok (.iload 6, 2) := by decide +kernel
theorem dX0_windOn_153 : decode cX0_windOn 153 = .ok (.iaload, 1) := by decide +kernel
theorem dX0_windOn_154 : decode cX0_windOn 154 = .ok (.aload_n 0, 1) := by decide +kernel
theorem dX0_windOn_155 : decode cX0_windOn 155 = .ok (.getfield 26, 3) := by decide +kernel
theorem dX0_windOn_158 : decode cX0_windOn 158 = .ok (.iload_n 1, 1) := by decide +kernel
theorem dX0_windOn_159 : decode cX0_windOn 159 = .ok (.iaload, 1) := by decide +kernel
theorem dX0_windOn_160 : decode cX0_windOn 160 = .ok (.iconst (-1), 1) := by decide +kernel
theorem dX0_windOn_161 : decode cX0_windOn 161 = .ok (.ixor, 1) := by decide +kernel
theorem dX0_windOn_162 : decode cX0_windOn 162 = .ok (.iand, 1) := by decide +kernel
theorem dX0_windOn_163 : decode cX0_windOn 163 = .ok (.ifCond .eq 7, 3) := by decide +kernel
theorem dX0_windOn_166 : decode cX0_windOn 166 = .ok (.iconst 1, 1) := by decide +kernel
theorem dX0_windOn_167 : decode cX0_windOn 167 = .ok (.goto 4, 3) := by decide +kernel
theorem dX0_windOn_170 : decode cX0_windOn 170 = .ok (.iconst 0, 1) := by decide +kernel
theorem dX0_windOn_171 : decode cX0_windOn 171 = .ok (.istore 7, 2) := by decide +kernel
theorem dX0_windOn_173 : decode cX0_windOn 173 = .ok (.iload 7, 2) := by decide +kernel
theorem dX0_windOn_175 : decode cX0_windOn 175 = .ok (.ifCond .eq 10, 3) := by decide +kernel
theorem dX0_windOn_178 : decode cX0_windOn 178 = .ok (.iload 5, 2) := by decide +kernel
theorem dX0_windOn_180 : decode cX0_windOn 180 = .ok (.iconst 2, 1) := by decide +kernel
theorem dX0_windOn_181 : decode cX0_windOn 181 = .ok (.idiv, 1) := by decide +kernel
theorem dX0_windOn_182 : decode cX0_windOn 182 = .ok (.goto 5, 3) := by decide +kernel
theorem dX0_windOn_185 : decode cX0_windOn 185 = .ok (.iload 5, 2) := by decide +kernel
theorem dX0_windOn_187 : decode cX0_windOn 187 = .ok (.ireturn, 1) := by decide +kernel
theorem dX0_has_0 : decode cX0_has 0 = .ok (.iload_n 0, 1) := by decide +kernel
theorem dX0_has_1 : decode cX0_has 1 = .ok (.iload_n 1, 1) := by decide +kernel
theorem dX0_has_2 : decode cX0_has 2 = .ok (.ishr, 1) := by decide +kernel
theorem dX0_has_3 : decode cX0_has 3 = .ok (.iconst 1, 1) := by decide +kernel
theorem dX0_has_4 : decode cX0_has 4 = .ok (.iand, 1) := by decide +kernel
theorem dX0_has_5 : decode cX0_has 5 = .ok (.iconst 1, 1) := by decide +kernel
theorem dX0_has_6 : decode cX0_has 6 = .ok (.if_icmp .ne 7, 3) := by decide +kernel
theorem dX0_has_9 : decode cX0_has 9 = .ok (.iconst 1, 1) := by decide +kernel
theorem dX0_has_10 : decode cX0_has 10 = .ok (.goto 4, 3) := by decide +kernel
theorem dX0_has_13 : decode cX0_has 13 = .ok (.iconst 0, 1) := by decide +kernel
theorem dX0_has_14 : decode cX0_has 14 = .ok (.ireturn, 1) := by decide +kernel
theorem dX0_isSomewhere_0 : decode cX0_isSomewhere 0 = .ok (.aload_n 0, 1) := by decide +kernel
theorem dX0_isSomewhere_1 : decode cX0_isSomewhere 1 = .ok (.getfield 18, 3) := by decide +kernel
theorem dX0_isSomewhere_4 : decode cX0_isSomewhere 4 = .ok (.iload_n 1, 1) := by decide +kernel
theorem dX0_isSomewhere_5 : decode cX0_isSomewhere 5 = .ok (.invokestatic 63, 3) := by decide +kernel
theorem dX0_isSomewhere_8 : decode cX0_isSomewhere 8 = .ok (.ireturn, 1) := by decide +kernel
theorem dX0_isFree_0 : decode cX0_isFree 0 = .ok (.aload_n 0, 1) := by decide +kernel
theorem dX0_isFree_1 : decode cX0_isFree 1 = .ok (.getfield 12, 3) := by decide +kernel
theorem dX0_isFree_4 : decode cX0_isFree 4 = .ok (.iload_n 1, 1) := by decide +kernel
theorem dX0_isFree_5 : decode cX0_isFree 5 = .ok (.invokevirtual 80, 3) := by decide +kernel
theorem dX0_isFree_8 : decode cX0_isFree 8 = .ok (.ifCond .eq 27, 3) := by decide +kernel
theorem dX0_isFree_11 : decode cX0_isFree 11 = .ok (.aload_n 0, 1) := by decide +kernel
theorem dX0_isFree_12 : decode cX0_isFree 12 = .ok (.getfield 12, 3) := by decide +kernel
theorem dX0_isFree_15 : decode cX0_isFree 15 = .ok (.iload_n 1, 1) := by decide +kernel
theorem dX0_isFree_16 : decode cX0_isFree 16 = .ok (.invokevirtual 84, 3) := by decide +kernel
theorem dX0_isFree_19 : decode cX0_isFree 19 = .ok (.ifCond .ne 16, 3) := by decide +kernel
theorem dX0_isFree_22 : decode cX0_isFree 22 = .ok (.aload_n 0, 1) := by decide +kernel
theorem dX0_isFree_23 : decode cX0_isFree 23 = .ok (.getfield 22, 3) := by decide +kernel
theorem dX0_isFree_26 : decode cX0_isFree 26 = .ok (.iload_n 1, 1) := by decide +kernel
theorem dX0_isFree_27 : decode cX0_isFree 27 = .ok (.iaload, 1) := by decide +kernel
theorem dX0_isFree_28 : decode cX0_isFree 28 = .ok (.ifCond .ne 7, 3) := by decide +kernel
theorem dX0_isFree_31 : decode cX0_isFree 31 = .ok (.iconst 1, 1) := by decide +kernel
theorem dX0_isFree_32 : decode cX0_isFree 32 = .ok (.goto 4, 3) := by decide +kernel
theorem dX0_isFree_35 : decode cX0_isFree 35 = .ok (.iconst 0, 1) := by decide +kernel
theorem dX0_isFree_36 : decode cX0_isFree 36 = .ok (.ireturn, 1) := by decide +kernel
theorem dX0_isFreeFor_0 : decode cX0_isFreeFor 0 = .ok (.aload_n 0, 1) := by decide +kernel
theorem dX0_isFreeFor_1 : decode cX0_isFreeFor 1 = .ok (.getfield 12, 3) := by decide +kernel
theorem dX0_isFreeFor_4 : decode cX0_isFreeFor 4 = .ok (.iload_n 2, 1) := by decide +kernel
theorem dX0_isFreeFor_5 : decode cX0_isFreeFor 5 = .ok (.invokevirtual 80, 3) := by decide +kernel
theorem dX0_isFreeFor_8 : decode cX0_isFreeFor 8 = .ok (.ifCond .eq 33, 3) := by decide +kernel
theorem dX0_isFreeFor_11 : decode cX0_isFreeFor 11 = .ok (.aload_n 0, 1) := by decide +kernel
theorem dX0_isFreeFor_12 : decode cX0_isFreeFor 12 = .ok (.getfield 12, 3) := by decide +kernel
theorem dX0_isFreeFor_15 : decode cX0_isFreeFor 15 = .ok (.iload_n 2, 1) := by decide +kernel
theorem dX0_isFreeFor_16 : decode cX0_isFreeFor 16 = .ok (.invokevirtual 84, 3) := by decide +kernel
theorem dX0_isFreeFor_19 : decode cX0_isFreeFor 19 = .ok (.ifCond .ne 22, 3) := by decide +kernel
theorem dX0_isFreeFor_22 : decode cX0_isFreeFor 22 = .ok (.aload_n 0, 1) := by decide +kernel
theorem dX0_isFreeFor_23 : decode cX0_isFreeFor 23 = .ok (.getfield 22, 3) := by decide +kernel
theorem dX0_isFreeFor_26 : decode cX0_isFreeFor 26 = .ok (.iload_n 2, 1) := by decide +kernel
theorem dX0_isFreeFor_27 : decode cX0_isFreeFor 27 = .ok (.iaload, 1) := by decide +kernel
theorem dX0_isFreeFor_28 : decode cX0_isFreeFor 28 = .ok (.iconst 1, 1) := by decide +kernel
theorem dX0_isFreeFor_29 : decode cX0_isFreeFor 29 = .ok (.iload_n 1, 1) := by decide +kernel
theorem dX0_isFreeFor_30 : decode cX0_isFreeFor 30 = .ok (.ishl, 1) := by decide +kernel
theorem dX0_isFreeFor_31 : decode cX0_isFreeFor 31 = .ok (.iconst (-1), 1) := by decide +kernel
theorem dX0_isFreeFor_32 : decode cX0_isFreeFor 32 = .ok (.ixor, 1) := by decide +kernel
theorem dX0_isFreeFor_33 : decode cX0_isFreeFor 33 = .ok (.iand, 1) := by decide +kernel
theorem dX0_isFreeFor_34 : decode cX0_isFreeFor 34 = .ok (.ifCond .ne 7, 3) := by decide +kernel
theorem dX0_isFreeFor_37 : decode cX0_isFreeFor 37 = .ok (.iconst 1, 1) := by decide +kernel
theorem dX0_isFreeFor_38 : decode cX0_isFreeFor 38 = .ok (.goto 4, 3) := by decide +kernel
theorem dX0_isFreeFor_41 : decode cX0_isFreeFor 41 = .ok (.iconst 0, 1) := by decide +kernel
theorem dX0_isFreeFor_42 : decode cX0_isFreeFor 42 = .ok (.ireturn, 1) := by decide +kernel
theorem dX0_ribsAhead_0 : decode cX0_ribsAhead 0 = .ok (.iload_n 1, 1) := by decide +kernel
theorem dX0_ribsAhead_1 : decode cX0_ribsAhead 1 = .ok (.bipush 8, 2) := by decide +kernel
theorem dX0_ribsAhead_3 : decode cX0_ribsAhead 3 = .ok (.imul, 1) := by decide +kernel
theorem dX0_ribsAhead_4 : decode cX0_ribsAhead 4 = .ok (.iload_n 2, 1) := by decide +kernel
theorem dX0_ribsAhead_5 : decode cX0_ribsAhead 5 = .ok (.iadd, 1) := by decide +kernel
theorem dX0_ribsAhead_6 : decode cX0_ribsAhead 6 = .ok (.istore_n 3, 1) := by decide +kernel
theorem dX0_ribsAhead_7 : decode cX0_ribsAhead 7 = .ok (.iload_n 3, 1) := by decide +kernel
theorem dX0_ribsAhead_8 : decode cX0_ribsAhead 8 = .ok (.ifCond .lt 21, 3) := by decide +kernel
theorem dX0_ribsAhead_11 : decode cX0_ribsAhead 11 = .ok (.iload_n 3, 1) := by decide +kernel
theorem dX0_ribsAhead_12 : decode cX0_ribsAhead 12 = .ok (.aload_n 0, 1) := by decide +kernel
theorem dX0_ribsAhead_13 : decode cX0_ribsAhead 13 = .ok (.getfield 29, 3) := by decide +kernel
theorem dX0_ribsAhead_16 : decode cX0_ribsAhead 16 = .ok (.arraylength, 1) := by decide +kernel
theorem dX0_ribsAhead_17 : decode cX0_ribsAhead 17 = .ok (.if_icmp .ge 12, 3) := by decide +kernel
theorem dX0_ribsAhead_20 : decode cX0_ribsAhead 20 = .ok (.aload_n 0, 1) := by decide +kernel
theorem dX0_ribsAhead_21 : decode cX0_ribsAhead 21 = .ok (.getfield 29, 3) := by decide +kernel
theorem dX0_ribsAhead_24 : decode cX0_ribsAhead 24 = .ok (.iload_n 3, 1) := by decide +kernel
theorem dX0_ribsAhead_25 : decode cX0_ribsAhead 25 = .ok (.iaload, 1) := by decide +kernel
theorem dX0_ribsAhead_26 : decode cX0_ribsAhead 26 = .ok (.goto 4, 3) := by decide +kernel
theorem dX0_ribsAhead_29 : decode cX0_ribsAhead 29 = .ok (.iconst 0, 1) := by decide +kernel
theorem dX0_ribsAhead_30 : decode cX0_ribsAhead 30 = .ok (.ireturn, 1) := by decide +kernel
theorem dX0_turnsWhen_0 : decode cX0_turnsWhen 0 = .ok (.iconst 0, 1) := by decide +kernel
theorem dX0_turnsWhen_1 : decode cX0_turnsWhen 1 = .ok (.istore_n 2, 1) := by decide +kernel
theorem dX0_turnsWhen_2 : decode cX0_turnsWhen 2 = .ok (.iload_n 2, 1) := by decide +kernel
theorem dX0_turnsWhen_3 : decode cX0_turnsWhen 3 = .ok (.aload_n 0, 1) := by decide +kernel
theorem dX0_turnsWhen_4 : decode cX0_turnsWhen 4 = .ok (.getfield 12, 3) := by decide +kernel
theorem dX0_turnsWhen_7 : decode cX0_turnsWhen 7 = .ok (.getfield 54, 3) := by decide +kernel
theorem dX0_turnsWhen_10 : decode cX0_turnsWhen 10 = .ok (.if_icmp .ge 32, 3) := by decide +kernel
theorem dX0_turnsWhen_13 : decode cX0_turnsWhen 13 = .ok (.iload_n 2, 1) := by decide +kernel
theorem dX0_turnsWhen_14 : decode cX0_turnsWhen 14 = .ok (.bipush 12, 2) := by decide +kernel
theorem dX0_turnsWhen_16 : decode cX0_turnsWhen 16 = .ok (.if_icmp .ge 26, 3) := by decide +kernel
theorem dX0_turnsWhen_19 : decode cX0_turnsWhen 19 = .ok (.aload_n 0, 1) := by decide +kernel
theorem dX0_turnsWhen_20 : decode cX0_turnsWhen 20 = .ok (.getfield 26, 3) := by decide +kernel
theorem dX0_turnsWhen_23 : decode cX0_turnsWhen 23 = .ok (.iload_n 2, 1) := by decide +kernel
theorem dX0_turnsWhen_24 : decode cX0_turnsWhen 24 = .ok (.iconst 1, 1) := by decide +kernel
theorem dX0_turnsWhen_25 : decode cX0_turnsWhen 25 = .ok (.iadd, 1) := by decide +kernel
theorem dX0_turnsWhen_26 : decode cX0_turnsWhen 26 = .ok (.iaload, 1) := by decide +kernel
theorem dX0_turnsWhen_27 : decode cX0_turnsWhen 27 = .ok (.iload_n 1, 1) := by decide +kernel
theorem dX0_turnsWhen_28 : decode cX0_turnsWhen 28 = .ok (.invokestatic 63, 3) := by decide +kernel
theorem dX0_turnsWhen_31 : decode cX0_turnsWhen 31 = .ok (.ifCond .eq 5, 3) := by decide +kernel
theorem dX0_turnsWhen_34 : decode cX0_turnsWhen 34 = .ok (.iload_n 2, 1) := by decide +kernel
theorem dX0_turnsWhen_35 : decode cX0_turnsWhen 35 = .ok (.ireturn, 1) := by decide +kernel
theorem dX0_turnsWhen_36 : decode cX0_turnsWhen 36 = .ok (.iinc 2 1, 3) := by decide +kernel
theorem dX0_turnsWhen_39 : decode cX0_turnsWhen 39 = .ok (.goto (-37), 3) := by decide +kernel
theorem dX0_turnsWhen_42 : decode cX0_turnsWhen 42 = .ok (.iconst (-1), 1) := by decide +kernel
theorem dX0_turnsWhen_43 : decode cX0_turnsWhen 43 = .ok (.ireturn, 1) := by decide +kernel
theorem dX0_isReturned_0 : decode cX0_isReturned 0 = .ok (.aload_n 0, 1) := by decide +kernel
theorem dX0_isReturned_1 : decode cX0_isReturned 1 = .ok (.iload_n 1, 1) := by decide +kernel
theorem dX0_isReturned_2 : decode cX0_isReturned 2 = .ok (.invokevirtual 115, 3) := by decide +kernel
theorem dX0_isReturned_5 : decode cX0_isReturned 5 = .ok (.istore_n 2, 1) := by decide +kernel
theorem dX0_isReturned_6 : decode cX0_isReturned 6 = .ok (.iload_n 2, 1) := by decide +kernel
theorem dX0_isReturned_7 : decode cX0_isReturned 7 = .ok (.ifCond .lt 26, 3) := by decide +kernel
theorem dX0_isReturned_10 : decode cX0_isReturned 10 = .ok (.iload_n 2, 1) := by decide +kernel
theorem dX0_isReturned_11 : decode cX0_isReturned 11 = .ok (.bipush 12, 2) := by decide +kernel
theorem dX0_isReturned_13 : decode cX0_isReturned 13 = .ok (.if_icmp .ge 20, 3) := by decide +kernel
theorem dX0_isReturned_16 : decode cX0_isReturned 16 = .ok (.aload_n 0, 1) := by decide +kernel
theorem dX0_isReturned_17 : decode cX0_isReturned 17 = .ok (.getfield 32, 3) := by decide +kernel
theorem dX0_isReturned_20 : decode cX0_isReturned 20 = .ok (.iload_n 2, 1) := by decide +kernel
theorem dX0_isReturned_21 : decode cX0_isReturned 21 = .ok (.iaload, 1) := by decide +kernel
theorem dX0_isReturned_22 : decode cX0_isReturned 22 = .ok (.iload_n 1, 1) := by decide +kernel
theorem dX0_isReturned_23 : decode cX0_isReturned 23 = .ok (.invokestatic 63, 3) := by decide +kernel
theorem dX0_isReturned_26 : decode cX0_isReturned 26 = .ok (.ifCond .eq 7, 3) := by decide +kernel
theorem dX0_isReturned_29 : decode cX0_isReturned 29 = .ok (.iconst 1, 1) := by decide +kernel
theorem dX0_isReturned_30 : decode cX0_isReturned 30 = .ok (.goto 4, 3) := by decide +kernel
theorem dX0_isReturned_33 : decode cX0_isReturned 33 = .ok (.iconst 0, 1) := by decide +kernel
theorem dX0_isReturned_34 : decode cX0_isReturned 34 = .ok (.ireturn, 1) := by decide +kernel
theorem dX0_isElected_0 : decode cX0_isElected 0 = .ok (.aload_n 0, 1) := by decide +kernel
theorem dX0_isElected_1 : decode cX0_isElected 1 = .ok (.iload_n 1, 1) := by decide +kernel
theorem dX0_isElected_2 : decode cX0_isElected 2 = .ok (.invokevirtual 115, 3) := by decide +kernel
theorem dX0_isElected_5 : decode cX0_isElected 5 = .ok (.istore_n 2, 1) := by decide +kernel
theorem dX0_isElected_6 : decode cX0_isElected 6 = .ok (.iload_n 2, 1) := by decide +kernel
theorem dX0_isElected_7 : decode cX0_isElected 7 = .ok (.ifCond .lt 23, 3) := by decide +kernel
theorem dX0_isElected_10 : decode cX0_isElected 10 = .ok (.iload_n 2, 1) := by decide +kernel
theorem dX0_isElected_11 : decode cX0_isElected 11 = .ok (.bipush 12, 2) := by decide +kernel
theorem dX0_isElected_13 : decode cX0_isElected 13 = .ok (.if_icmp .ge 17, 3) := by decide +kernel
theorem dX0_isElected_16 : decode cX0_isElected 16 = .ok (.aload_n 0, 1) := by decide +kernel
theorem dX0_isElected_17 : decode cX0_isElected 17 = .ok (.getfield 35, 3) := by decide +kernel
theorem dX0_isElected_20 : decode cX0_isElected 20 = .ok (.iload_n 2, 1) := by decide +kernel
theorem dX0_isElected_21 : decode cX0_isElected 21 = .ok (.iaload, 1) := by decide +kernel
theorem dX0_isElected_22 : decode cX0_isElected 22 = .ok (.iload_n 1, 1) := by decide +kernel
theorem dX0_isElected_23 : decode cX0_isElected 23 = .ok (.if_icmp .ne 7, 3) := by decide +kernel
theorem dX0_isElected_26 : decode cX0_isElected 26 = .ok (.iconst 1, 1) := by decide +kernel
theorem dX0_isElected_27 : decode cX0_isElected 27 = .ok (.goto 4, 3) := by decide +kernel
theorem dX0_isElected_30 : decode cX0_isElected 30 = .ok (.iconst 0, 1) := by decide +kernel
theorem dX0_isElected_31 : decode cX0_isElected 31 = .ok (.ireturn, 1) := by decide +kernel
theorem dX0_minutesBehindWhichIn_0 : decode cX0_minutesBehindWhichIn 0 = .ok (.iconst 0, 1) := by decide +kernel
theorem dX0_minutesBehindWhichIn_1 : decode cX0_minutesBehindWhichIn 1 = .ok (.istore_n 2, 1) := by decide +kernel
theorem dX0_minutesBehindWhichIn_2 : decode cX0_minutesBehindWhichIn 2 = .ok (.iconst 0, 1) := by decide +kernel
theorem dX0_minutesBehindWhichIn_3 : decode cX0_minutesBehindWhichIn 3 = .ok (.istore_n 3, 1) := by decide +kernel
theorem dX0_minutesBehindWhichIn_4 : decode cX0_minutesBehindWhichIn 4 = .ok (.iload_n 3, 1) := by decide +kernel
theorem dX0_minutesBehindWhichIn_5 : decode cX0_minutesBehindWhichIn 5 = .ok (.aload_n 0, 1) := by decide +kernel
theorem dX0_minutesBehindWhichIn_6 : decode cX0_minutesBehindWhichIn 6 = .ok (.getfield 12, 3) := by decide +kernel
theorem dX0_minutesBehindWhichIn_9 : decode cX0_minutesBehindWhichIn 9 = .ok (.getfield 54, 3) := by decide +kernel
theorem dX0_minutesBehindWhichIn_12 : decode cX0_minutesBehindWhichIn 12 = .ok (.if_icmp .ge 26, 3) := by decide +kernel
theorem dX0_minutesBehindWhichIn_15 : decode cX0_minutesBehindWhichIn 15 = .ok (.iload_n 2, 1) := by decide +kernel
theorem dX0_minutesBehindWhichIn_16 : decode cX0_minutesBehindWhichIn 16 = .ok (.aload_n 0, 1) := by decide +kernel
theorem dX0_minutesBehindWhichIn_17 : decode cX0_minutesBehindWhichIn 17 = .ok (.iload_n 3, 1) := by decide +kernel
theorem dX0_minutesBehindWhichIn_18 : decode cX0_minutesBehindWhichIn 18 = .ok (.invokevirtual 119, 3) := by decide +kernel
theorem dX0_minutesBehindWhichIn_21 : decode cX0_minutesBehindWhichIn 21 = .ok (.iload_n 1, 1) := by decide +kernel
theorem dX0_minutesBehindWhichIn_22 : decode cX0_minutesBehindWhichIn 22 = .ok (.if_icmp .ne 7, 3) := by decide +kernel
theorem dX0_minutesBehindWhichIn_25 : decode cX0_minutesBehindWhichIn 25 = .ok (.iconst 1, 1) := by decide +kernel
theorem dX0_minutesBehindWhichIn_26 : decode cX0_minutesBehindWhichIn 26 = .ok (.goto 4, 3) := by decide +kernel
theorem dX0_minutesBehindWhichIn_29 : decode cX0_minutesBehindWhichIn 29 = .ok (.iconst 0, 1) := by decide +kernel
theorem dX0_minutesBehindWhichIn_30 : decode cX0_minutesBehindWhichIn 30 = .ok (.iadd, 1) := by decide +kernel
theorem dX0_minutesBehindWhichIn_31 : decode cX0_minutesBehindWhichIn 31 = .ok (.istore_n 2, 1) := by decide +kernel
theorem dX0_minutesBehindWhichIn_32 : decode cX0_minutesBehindWhichIn 32 = .ok (.iinc 3 1, 3) := by decide +kernel
theorem dX0_minutesBehindWhichIn_35 : decode cX0_minutesBehindWhichIn 35 = .ok (.goto (-31), 3) := by decide +kernel
theorem dX0_minutesBehindWhichIn_38 : decode cX0_minutesBehindWhichIn 38 = .ok (.iload_n 2, 1) := by decide +kernel
theorem dX0_minutesBehindWhichIn_39 : decode cX0_minutesBehindWhichIn 39 = .ok (.ireturn, 1) := by decide +kernel
theorem dX0_whoIsIn_0 : decode cX0_whoIsIn 0 = .ok (.iload_n 1, 1) := by decide +kernel
theorem dX0_whoIsIn_1 : decode cX0_whoIsIn 1 = .ok (.ifCond .lt 29, 3) := by decide +kernel
theorem dX0_whoIsIn_4 : decode cX0_whoIsIn 4 = .ok (.iload_n 1, 1) := by decide +kernel
theorem dX0_whoIsIn_5 : decode cX0_whoIsIn 5 = .ok (.aload_n 0, 1) := by decide +kernel
theorem dX0_whoIsIn_6 : decode cX0_whoIsIn 6 = .ok (.getfield 12, 3) := by decide +kernel
theorem dX0_whoIsIn_9 : decode cX0_whoIsIn 9 = .ok (.getfield 54, 3) := by decide +kernel
theorem dX0_whoIsIn_12 : decode cX0_whoIsIn 12 = .ok (.if_icmp .ge 18, 3) := by decide +kernel
theorem dX0_whoIsIn_15 : decode cX0_whoIsIn 15 = .ok (.iload_n 1, 1) := by decide +kernel
theorem dX0_whoIsIn_16 : decode cX0_whoIsIn 16 = .ok (.bipush 12, 2) := by decide +kernel
theorem dX0_whoIsIn_18 : decode cX0_whoIsIn 18 = .ok (.if_icmp .ge 12, 3) := by decide +kernel
theorem dX0_whoIsIn_21 : decode cX0_whoIsIn 21 = .ok (.aload_n 0, 1) := by decide +kernel
theorem dX0_whoIsIn_22 : decode cX0_whoIsIn 22 = .ok (.getfield 38, 3) := by decide +kernel
theorem dX0_whoIsIn_25 : decode cX0_whoIsIn 25 = .ok (.iload_n 1, 1) := by decide +kernel
theorem dX0_whoIsIn_26 : decode cX0_whoIsIn 26 = .ok (.iaload, 1) := by decide +kernel
theorem dX0_whoIsIn_27 : decode cX0_whoIsIn 27 = .ok (.goto 4, 3) := by decide +kernel
theorem dX0_whoIsIn_30 : decode cX0_whoIsIn 30 = .ok (.iconst (-1), 1) := by decide +kernel
theorem dX0_whoIsIn_31 : decode cX0_whoIsIn 31 = .ok (.ireturn, 1) := by decide +kernel
theorem dX0_whoIsInLast_0 : decode cX0_whoIsInLast 0 = .ok (.aload_n 0, 1) := by decide +kernel
theorem dX0_whoIsInLast_1 : decode cX0_whoIsInLast 1 = .ok (.aload_n 0, 1) := by decide +kernel
theorem dX0_whoIsInLast_2 : decode cX0_whoIsInLast 2 = .ok (.getfield 12, 3) := by decide +kernel
theorem dX0_whoIsInLast_5 : decode cX0_whoIsInLast 5 = .ok (.getfield 54, 3) := by decide +kernel
theorem dX0_whoIsInLast_8 : decode cX0_whoIsInLast 8 = .ok (.iconst 1, 1) := by decide +kernel
theorem dX0_whoIsInLast_9 : decode cX0_whoIsInLast 9 = .ok (.isub, 1) := by decide +kernel
theorem dX0_whoIsInLast_10 : decode cX0_whoIsInLast 10 = .ok (.invokevirtual 119, 3) := by decide +kernel
theorem dX0_whoIsInLast_13 : decode cX0_whoIsInLast 13 = .ok (.ireturn, 1) := by decide +kernel
theorem dX0_manyTurned_0 : decode cX0_manyTurned 0 = .ok (.aload_n 0, 1) := by decide +kernel
theorem dX0_manyTurned_1 : decode cX0_manyTurned 1 = .ok (.getfield 12, 3) := by decide +kernel
theorem dX0_manyTurned_4 : decode cX0_manyTurned 4 = .ok (.getfield 54, 3) := by decide +kernel
theorem dX0_manyTurned_7 : decode cX0_manyTurned 7 = .ok (.istore_n 1, 1) := by decide +kernel
theorem dX0_manyTurned_8 : decode cX0_manyTurned 8 = .ok (.iload_n 1, 1) := by decide +kernel
theorem dX0_manyTurned_9 : decode cX0_manyTurned 9 = .ok (.ifCond .lt 21, 3) := by decide +kernel
theorem dX0_manyTurned_12 : decode cX0_manyTurned 12 = .ok (.iload_n 1, 1) := by decide +kernel
theorem dX0_manyTurned_13 : decode cX0_manyTurned 13 = .ok (.bipush 12, 2) := by decide +kernel
theorem dX0_manyTurned_15 : decode cX0_manyTurned 15 = .ok (.if_icmp .gt 15, 3) := by decide +kernel
theorem dX0_manyTurned_18 : decode cX0_manyTurned 18 = .ok (.aload_n 0, 1) := by decide +kernel
theorem dX0_manyTurned_19 : decode cX0_manyTurned 19 = .ok (.getfield 26, 3) := by decide +kernel
theorem dX0_manyTurned_22 : decode cX0_manyTurned 22 = .ok (.iload_n 1, 1) := by decide +kernel
theorem dX0_manyTurned_23 : decode cX0_manyTurned 23 = .ok (.iaload, 1) := by decide +kernel
theorem dX0_manyTurned_24 : decode cX0_manyTurned 24 = .ok (.invokestatic 122, 3) := by decide +kernel
theorem dX0_manyTurned_27 : decode cX0_manyTurned 27 = .ok (.goto 4, 3) := by decide +kernel
theorem dX0_manyTurned_30 : decode cX0_manyTurned 30 = .ok (.iconst 0, 1) := by decide +kernel
theorem dX0_manyTurned_31 : decode cX0_manyTurned 31 = .ok (.ireturn, 1) := by decide +kernel
theorem dX1_init_0 : decode cX1_init 0 = .ok (.aload_n 0, 1) := by decide +kernel
theorem dX1_init_1 : decode cX1_init 1 = .ok (.invokespecial 3, 3) := by decide +kernel
theorem dX1_init_4 : decode cX1_init 4 = .ok (.aload_n 0, 1) := by decide +kernel
theorem dX1_init_5 : decode cX1_init 5 = .ok (.iconst 0, 1) := by decide +kernel
theorem dX1_init_6 : decode cX1_init 6 = .ok (.putfield 9, 3) := by decide +kernel
theorem dX1_init_9 : decode cX1_init 9 = .ok (.aload_n 0, 1) := by decide +kernel
theorem dX1_init_10 : decode cX1_init 10 = .ok (.iconst 0, 1) := by decide +kernel
theorem dX1_init_11 : decode cX1_init 11 = .ok (.putfield 15, 3) := by decide +kernel
theorem dX1_init_14 : decode cX1_init 14 = .ok (.aload_n 0, 1) := by decide +kernel
theorem dX1_init_15 : decode cX1_init 15 = .ok (.iconst 0, 1) := by decide +kernel
theorem dX1_init_16 : decode cX1_init 16 = .ok (.putfield 18, 3) := by decide +kernel
theorem dX1_init_19 : decode cX1_init 19 = .ok (.aload_n 0, 1) := by decide +kernel
theorem dX1_init_20 : decode cX1_init 20 = .ok (.iconst 0, 1) := by decide +kernel
theorem dX1_init_21 : decode cX1_init 21 = .ok (.putfield 21, 3) := by decide +kernel
theorem dX1_init_24 : decode cX1_init 24 = .ok (.aload_n 0, 1) := by decide +kernel
theorem dX1_init_25 : decode cX1_init 25 = .ok (.bipush 25, 2) := by decide +kernel
theorem dX1_init_27 : decode cX1_init 27 = .ok (.newarray .int, 2) := by decide +kernel
theorem dX1_init_29 : decode cX1_init 29 = .ok (.putfield 24, 3) := by decide +kernel
theorem dX1_init_32 : decode cX1_init 32 = .ok (.aload_n 0, 1) := by decide +kernel
theorem dX1_init_33 : decode cX1_init 33 = .ok (.bipush 100, 2) := by decide +kernel
theorem dX1_init_35 : decode cX1_init 35 = .ok (.newarray .int, 2) := by decide +kernel
theorem dX1_init_37 : decode cX1_init 37 = .ok (.putfield 28, 3) := by decide +kernel
theorem dX1_init_40 : decode cX1_init 40 = .ok (.aload_n 0, 1) := by decide +kernel
theorem dX1_init_41 : decode cX1_init 41 = .ok (.bipush 100, 2) := by decide +kernel
theorem dX1_init_43 : decode cX1_init 43 = .ok (.newarray .int, 2) := by decide +kernel
theorem dX1_init_45 : decode cX1_init 45 = .ok (.putfield 31, 3) := by decide +kernel
theorem dX1_init_48 : decode cX1_init 48 = .ok (.aload_n 0, 1) := by decide +kernel
theorem dX1_init_49 : decode cX1_init 49 = .ok (.bipush 12, 2) := by decide +kernel
theorem dX1_init_51 : decode cX1_init 51 = .ok (.newarray .int, 2) := by decide +kernel
theorem dX1_init_53 : decode cX1_init 53 = .ok (.putfield 34, 3) := by decide +kernel
theorem dX1_init_56 : decode cX1_init 56 = .ok (.aload_n 0, 1) := by decide +kernel
theorem dX1_init_57 : decode cX1_init 57 = .ok (.bipush 12, 2) := by decide +kernel
theorem dX1_init_59 : decode cX1_init 59 = .ok (.newarray .int, 2) := by decide +kernel
theorem dX1_init_61 : decode cX1_init 61 = .ok (.putfield 37, 3) := by decide +kernel
theorem dX1_init_64 : decode cX1_init 64 = .ok (.aload_n 0, 1) := by decide +kernel
theorem dX1_init_65 : decode cX1_init 65 = .ok (.bipush 8, 2) := by decide +kernel
theorem dX1_init_67 : decode cX1_init 67 = .ok (.newarray .int, 2) := by decide +kernel
theorem dX1_init_69 : decode cX1_init 69 = .ok (.putfield 40, 3) := by decide +kernel
theorem dX1_init_72 : decode cX1_init 72 = .ok (.aload_n 0, 1) := by decide +kernel
theorem dX1_init_73 : decode cX1_init 73 = .ok (.bipush 8, 2) := by decide +kernel
theorem dX1_init_75 : decode cX1_init 75 = .ok (.newarray .int, 2) := by decide +kernel
theorem dX1_init_77 : decode cX1_init 77 = .ok (.putfield 43, 3) := by decide +kernel
theorem dX1_init_80 : decode cX1_init 80 = .ok (.aload_n 0, 1) := by decide +kernel
theorem dX1_init_81 : decode cX1_init 81 = .ok (.bipush 8, 2) := by decide +kernel
theorem dX1_init_83 : decode cX1_init 83 = .ok (.newarray .int, 2) := by decide +kernel
theorem dX1_init_85 : decode cX1_init 85 = .ok (.putfield 46, 3) := by decide +kernel
theorem dX1_init_88 : decode cX1_init 88 = .ok (.return_, 1) := by decide +kernel
theorem dX1_tellAs_0 : decode cX1_tellAs 0 = .ok (.aload_n 0, 1) := by decide +kernel
theorem dX1_tellAs_1 : decode cX1_tellAs 1 = .ok (.aload_n 1, 1) := by decide +kernel
theorem dX1_tellAs_2 : decode cX1_tellAs 2 = .ok (.getfield 9, 3) := by decide +kernel
theorem dX1_tellAs_5 : decode cX1_tellAs 5 = .ok (.putfield 9, 3) := by decide +kernel
theorem dX1_tellAs_8 : decode cX1_tellAs 8 = .ok (.aload_n 0, 1) := by decide +kernel
theorem dX1_tellAs_9 : decode cX1_tellAs 9 = .ok (.aload_n 1, 1) := by decide +kernel
theorem dX1_tellAs_10 : decode cX1_tellAs 10 = .ok (.getfield 15, 3) := by decide +kernel
theorem dX1_tellAs_13 : decode cX1_tellAs 13 = .ok (.putfield 15, 3) := by decide +kernel
theorem dX1_tellAs_16 : decode cX1_tellAs 16 = .ok (.aload_n 0, 1) := by decide +kernel
theorem dX1_tellAs_17 : decode cX1_tellAs 17 = .ok (.aload_n 1, 1) := by decide +kernel
theorem dX1_tellAs_18 : decode cX1_tellAs 18 = .ok (.getfield 18, 3) := by decide +kernel
theorem dX1_tellAs_21 : decode cX1_tellAs 21 = .ok (.putfield 18, 3) := by decide +kernel
theorem dX1_tellAs_24 : decode cX1_tellAs 24 = .ok (.aload_n 0, 1) := by decide +kernel
theorem dX1_tellAs_25 : decode cX1_tellAs 25 = .ok (.aload_n 1, 1) := by decide +kernel
theorem dX1_tellAs_26 : decode cX1_tellAs 26 = .ok (.getfield 21, 3) := by decide +kernel
theorem dX1_tellAs_29 : decode cX1_tellAs 29 = .ok (.putfield 21, 3) := by decide +kernel
theorem dX1_tellAs_32 : decode cX1_tellAs 32 = .ok (.aload_n 1, 1) := by decide +kernel
theorem dX1_tellAs_33 : decode cX1_tellAs 33 = .ok (.getfield 24, 3) := by decide +kernel
theorem dX1_tellAs_36 : decode cX1_tellAs 36 = .ok (.iconst 0, 1) := by decide +kernel
theorem dX1_tellAs_37 : decode cX1_tellAs 37 = .ok (.aload_n 0, 1) := by decide +kernel
theorem dX1_tellAs_38 : decode cX1_tellAs 38 = .ok (.getfield 24, 3) := by decide +kernel
theorem dX1_tellAs_41 : decode cX1_tellAs 41 = .ok (.iconst 0, 1) := by decide +kernel
theorem dX1_tellAs_42 : decode cX1_tellAs 42 = .ok (.bipush 25, 2) := by decide +kernel
theorem dX1_tellAs_44 : decode cX1_tellAs 44 = .ok (.invokestatic 49, 3) := by decide +kernel
theorem dX1_tellAs_47 : decode cX1_tellAs 47 = .ok (.aload_n 1, 1) := by decide +kernel
theorem dX1_tellAs_48 : decode cX1_tellAs 48 = .ok (.getfield 28, 3) := by decide +kernel
theorem dX1_tellAs_51 : decode cX1_tellAs 51 = .ok (.iconst 0, 1) := by decide +kernel
theorem dX1_tellAs_52 : decode cX1_tellAs 52 = .ok (.aload_n 0, 1) := by decide +kernel
theorem dX1_tellAs_53 : decode cX1_tellAs 53 = .ok (.getfield 28, 3) := by decide +kernel
theorem dX1_tellAs_56 : decode cX1_tellAs 56 = .ok (.iconst 0, 1) := by decide +kernel
theorem dX1_tellAs_57 : decode cX1_tellAs 57 = .ok (.bipush 100, 2) := by decide +kernel
theorem dX1_tellAs_59 : decode cX1_tellAs 59 = .ok (.invokestatic 49, 3) := by decide +kernel
theorem dX1_tellAs_62 : decode cX1_tellAs 62 = .ok (.aload_n 1, 1) := by decide +kernel
theorem dX1_tellAs_63 : decode cX1_tellAs 63 = .ok (.getfield 31, 3) := by decide +kernel
theorem dX1_tellAs_66 : decode cX1_tellAs 66 = .ok (.iconst 0, 1) := by decide +kernel
theorem dX1_tellAs_67 : decode cX1_tellAs 67 = .ok (.aload_n 0, 1) := by decide +kernel
theorem dX1_tellAs_68 : decode cX1_tellAs 68 = .ok (.getfield 31, 3) := by decide +kernel
theorem dX1_tellAs_71 : decode cX1_tellAs 71 = .ok (.iconst 0, 1) := by decide +kernel
theorem dX1_tellAs_72 : decode cX1_tellAs 72 = .ok (.bipush 100, 2) := by decide +kernel
theorem dX1_tellAs_74 : decode cX1_tellAs 74 = .ok (.invokestatic 49, 3) := by decide +kernel
theorem dX1_tellAs_77 : decode cX1_tellAs 77 = .ok (.aload_n 1, 1) := by decide +kernel
theorem dX1_tellAs_78 : decode cX1_tellAs 78 = .ok (.getfield 34, 3) := by decide +kernel
theorem dX1_tellAs_81 : decode cX1_tellAs 81 = .ok (.iconst 0, 1) := by decide +kernel
theorem dX1_tellAs_82 : decode cX1_tellAs 82 = .ok (.aload_n 0, 1) := by decide +kernel
theorem dX1_tellAs_83 : decode cX1_tellAs 83 = .ok (.getfield 34, 3) := by decide +kernel
theorem dX1_tellAs_86 : decode cX1_tellAs 86 = .ok (.iconst 0, 1) := by decide +kernel
theorem dX1_tellAs_87 : decode cX1_tellAs 87 = .ok (.bipush 12, 2) := by decide +kernel
theorem dX1_tellAs_89 : decode cX1_tellAs 89 = .ok (.invokestatic 49, 3) := by decide +kernel
theorem dX1_tellAs_92 : decode cX1_tellAs 92 = .ok (.aload_n 1, 1) := by decide +kernel
theorem dX1_tellAs_93 : decode cX1_tellAs 93 = .ok (.getfield 37, 3) := by decide +kernel
theorem dX1_tellAs_96 : decode cX1_tellAs 96 = .ok (.iconst 0, 1) := by decide +kernel
theorem dX1_tellAs_97 : decode cX1_tellAs 97 = .ok (.aload_n 0, 1) := by decide +kernel
theorem dX1_tellAs_98 : decode cX1_tellAs 98 = .ok (.getfield 37, 3) := by decide +kernel
theorem dX1_tellAs_101 : decode cX1_tellAs 101 = .ok (.iconst 0, 1) := by decide +kernel
theorem dX1_tellAs_102 : decode cX1_tellAs 102 = .ok (.bipush 12, 2) := by decide +kernel
theorem dX1_tellAs_104 : decode cX1_tellAs 104 = .ok (.invokestatic 49, 3) := by decide +kernel
theorem dX1_tellAs_107 : decode cX1_tellAs 107 = .ok (.aload_n 1, 1) := by decide +kernel
theorem dX1_tellAs_108 : decode cX1_tellAs 108 = .ok (.getfield 40, 3) := by decide +kernel
theorem dX1_tellAs_111 : decode cX1_tellAs 111 = .ok (.iconst 0, 1) := by decide +kernel
theorem dX1_tellAs_112 : decode cX1_tellAs 112 = .ok (.aload_n 0, 1) := by decide +kernel
theorem dX1_tellAs_113 : decode cX1_tellAs 113 = .ok (.getfield 40, 3) := by decide +kernel
theorem dX1_tellAs_116 : decode cX1_tellAs 116 = .ok (.iconst 0, 1) := by decide +kernel
theorem dX1_tellAs_117 : decode cX1_tellAs 117 = .ok (.bipush 8, 2) := by decide +kernel
theorem dX1_tellAs_119 : decode cX1_tellAs 119 = .ok (.invokestatic 49, 3) := by decide +kernel
theorem dX1_tellAs_122 : decode cX1_tellAs 122 = .ok (.aload_n 1, 1) := by decide +kernel
theorem dX1_tellAs_123 : decode cX1_tellAs 123 = .ok (.getfield 43, 3) := by decide +kernel
theorem dX1_tellAs_126 : decode cX1_tellAs 126 = .ok (.iconst 0, 1) := by decide +kernel
theorem dX1_tellAs_127 : decode cX1_tellAs 127 = .ok (.aload_n 0, 1) := by decide +kernel
theorem dX1_tellAs_128 : decode cX1_tellAs 128 = .ok (.getfield 43, 3) := by decide +kernel
theorem dX1_tellAs_131 : decode cX1_tellAs 131 = .ok (.iconst 0, 1) := by decide +kernel
theorem dX1_tellAs_132 : decode cX1_tellAs 132 = .ok (.bipush 8, 2) := by decide +kernel
theorem dX1_tellAs_134 : decode cX1_tellAs 134 = .ok (.invokestatic 49, 3) := by decide +kernel
theorem dX1_tellAs_137 : decode cX1_tellAs 137 = .ok (.aload_n 1, 1) := by decide +kernel
theorem dX1_tellAs_138 : decode cX1_tellAs 138 = .ok (.getfield 46, 3) := by decide +kernel
theorem dX1_tellAs_141 : decode cX1_tellAs 141 = .ok (.iconst 0, 1) := by decide +kernel
theorem dX1_tellAs_142 : decode cX1_tellAs 142 = .ok (.aload_n 0, 1) := by decide +kernel
theorem dX1_tellAs_143 : decode cX1_tellAs 143 = .ok (.getfield 46, 3) := by decide +kernel
theorem dX1_tellAs_146 : decode cX1_tellAs 146 = .ok (.iconst 0, 1) := by decide +kernel
theorem dX1_tellAs_147 : decode cX1_tellAs 147 = .ok (.bipush 8, 2) := by decide +kernel
theorem dX1_tellAs_149 : decode cX1_tellAs 149 = .ok (.invokestatic 49, 3) := by decide +kernel
theorem dX1_tellAs_152 : decode cX1_tellAs 152 = .ok (.return_, 1) := by decide +kernel
theorem dX1_readCorner_0 : decode cX1_readCorner 0 = .ok (.aload_n 0, 1) := by decide +kernel
theorem dX1_readCorner_1 : decode cX1_readCorner 1 = .ok (.iconst 0, 1) := by decide +kernel
theorem dX1_readCorner_2 : decode cX1_readCorner 2 = .ok (.putfield 9, 3) := by decide +kernel
theorem dX1_readCorner_5 : decode cX1_readCorner 5 = .ok (.aload_n 0, 1) := by decide +kernel
theorem dX1_readCorner_6 : decode cX1_readCorner 6 = .ok (.iconst 0, 1) := by decide +kernel
theorem dX1_readCorner_7 : decode cX1_readCorner 7 = .ok (.putfield 15, 3) := by decide +kernel
theorem dX1_readCorner_10 : decode cX1_readCorner 10 = .ok (.aload_n 1, 1) := by decide +kernel
theorem dX1_readCorner_11 : decode cX1_readCorner 11 = .ok (.invokevirtual 55, 3) := by decide +kernel
theorem dX1_readCorner_14 : decode cX1_readCorner 14 = .ok (.ifCond .ne 7, 3) := by decide +kernel
theorem dX1_readCorner_17 : decode cX1_readCorner 17 = .ok (.iconst (-1), 1) := by decide +kernel
theorem dX1_readCorner_18 : decode cX1_readCorner 18 = .ok (.goto 8, 3) := by decide +kernel
theorem dX1_readCorner_21 : decode cX1_readCorner 21 = .ok (.aload_n 0, 1) := by decide +kernel
theorem dX1_readCorner_22 : decode cX1_readCorner 22 = .ok (.aload_n 1, 1) := by decide +kernel
theorem dX1_readCorner_23 : decode cX1_readCorner 23 = .ok (.invokevirtual 61, 3) := by decide +kernel
theorem dX1_readCorner_26 : decode cX1_readCorner 26 = .ok (.istore_n 2, 1) := by decide +kernel
theorem dX1_readCorner_27 : decode cX1_readCorner 27 = .ok (.iload_n 2, 1) := by decide +kernel
theorem dX1_readCorner_28 : decode cX1_readCorner 28 = .ok (.iconst (-1), 1) := by decide +kernel
theorem dX1_readCorner_29 : decode cX1_readCorner 29 = .ok (.if_icmp .eq 13, 3) := by decide +kernel
theorem dX1_readCorner_32 : decode cX1_readCorner 32 = .ok (.aload_n 0, 1) := by decide +kernel
theorem dX1_readCorner_33 : decode cX1_readCorner 33 = .ok (.iconst 0, 1) := by decide +kernel
theorem dX1_readCorner_34 : decode cX1_readCorner 34 = .ok (.putfield 9, 3) := by decide +kernel
theorem dX1_readCorner_37 : decode cX1_readCorner 37 = .ok (.aload_n 0, 1) := by decide +kernel
theorem dX1_readCorner_38 : decode cX1_readCorner 38 = .ok (.iconst 0, 1) := by decide +kernel
theorem dX1_readCorner_39 : decode cX1_readCorner 39 = .ok (.putfield 15, 3) := by decide +kernel
theorem dX1_readCorner_42 : decode cX1_readCorner 42 = .ok (.aload_n 0, 1) := by decide +kernel
theorem dX1_readCorner_43 : decode cX1_readCorner 43 = .ok (.invokevirtual 65, 3) := by decide +kernel
theorem dX1_readCorner_46 : decode cX1_readCorner 46 = .ok (.iload_n 2, 1) := by decide +kernel
theorem dX1_readCorner_47 : decode cX1_readCorner 47 = .ok (.ireturn, 1) := by decide +kernel
theorem dX1_readRows_0 : decode cX1_readRows 0 = .ok (.iconst 0, 1) := by decide +kernel
theorem dX1_readRows_1 : decode cX1_readRows 1 = .ok (.istore_n 2, 1) := by decide +kernel
theorem dX1_readRows_2 : decode cX1_readRows 2 = .ok (.iconst 0, 1) := by decide +kernel
theorem dX1_readRows_3 : decode cX1_readRows 3 = .ok (.istore_n 3, 1) := by decide +kernel
theorem dX1_readRows_4 : decode cX1_readRows 4 = .ok (.aload_n 1, 1) := by decide +kernel
theorem dX1_readRows_5 : decode cX1_readRows 5 = .ok (.invokevirtual 55, 3) := by decide +kernel
theorem dX1_readRows_8 : decode cX1_readRows 8 = .ok (.istore 4, 2) := by decide +kernel
theorem dX1_readRows_10 : decode cX1_readRows 10 = .ok (.iconst 0, 1) := by decide +kernel
theorem dX1_readRows_11 : decode cX1_readRows 11 = .ok (.istore 5, 2) := by decide +kernel
theorem dX1_readRows_13 : decode cX1_readRows 13 = .ok (.iload 5, 2) := by decide +kernel
theorem dX1_readRows_15 : decode cX1_readRows 15 = .ok (.iload 4, 2) := by decide +kernel
theorem dX1_readRows_17 : decode cX1_readRows 17 = .ok (.if_icmp .ge 128, 3) := by decide +kernel
theorem dX1_readRows_20 : decode cX1_readRows 20 = .ok (.aload_n 1, 1) := by decide +kernel
theorem dX1_readRows_21 : decode cX1_readRows 21 = .ok (.iload 5, 2) := by decide +kernel
theorem dX1_readRows_23 : decode cX1_readRows 23 = .ok (.invokevirtual 68, 3) := by decide +kernel
theorem dX1_readRows_26 : decode cX1_readRows 26 = .ok (.istore 6, 2) := by decide +kernel
theorem dX1_readRows_28 : decode cX1_readRows 28 = .ok (.iload_n 3, 1) := by decide +kernel
theorem dX1_readRows_29 : decode cX1_readRows 29 = .ok (.ifCond .le 19, 3) := by decide +kernel
theorem dX1_readRows_32 : decode cX1_readRows 32 = .ok (.iload_n 2, 1) := by decide +kernel
theorem dX1_readRows_33 : decode cX1_readRows 33 = .ok (.ifCond .eq 11, 3) := by decide +kernel
theorem dX1_readRows_36 : decode cX1_readRows 36 = .ok (.iload_n 3, 1) := by decide +kernel
theorem dX1_readRows_37 : decode cX1_readRows 37 = .ok (.aload_n 0, 1) := by decide +kernel
theorem dX1_readRows_38 : decode cX1_readRows 38 = .ok (.getfield 9, 3) := by decide +kernel
theorem dX1_readRows_41 : decode cX1_readRows 41 = .ok (.if_icmp .ne 7, 3) := by decide +kernel
theorem dX1_readRows_44 : decode cX1_readRows 44 = .ok (.iconst 1, 1) := by decide +kernel
theorem dX1_readRows_45 : decode cX1_readRows 45 = .ok (.goto 4, 3) := by decide +kernel
theorem dX1_readRows_48 : decode cX1_readRows 48 = .ok (.iconst 0, 1) := by decide +kernel
theorem dX1_readRows_49 : decode cX1_readRows 49 = .ok (.istore 7, 2) := by decide +kernel
theorem dX1_readRows_51 : decode cX1_readRows 51 = .ok (.iload_n 2, 1) := by decide +kernel
theorem dX1_readRows_52 : decode cX1_readRows 52 = .ok (.iconst 5, 1) := by decide +kernel
theorem dX1_readRows_53 : decode cX1_readRows 53 = .ok (.if_icmp .ne 6, 3) := by decide +kernel
theorem dX1_readRows_56 : decode cX1_readRows 56 = .ok (.iload 5, 2) := by decide +kernel
theorem dX1_readRows_58 : decode cX1_readRows 58 = .ok (.ireturn, 1) := by decide +kernel
theorem dX1_readRows_59 : decode cX1_readRows 59 = .ok (.iload 6, 2) := by decide +kernel
theorem dX1_readRows_61 : decode cX1_readRows 61 = .ok (.bipush 59, 2) := by decide +kernel
theorem dX1_readRows_63 : decode cX1_readRows 63 = .ok (.if_icmp .ne 21, 3) := by decide +kernel
theorem dX1_readRows_66 : decode cX1_readRows 66 = .ok (.iload 7, 2) := by decide +kernel
theorem dX1_readRows_68 : decode cX1_readRows 68 = .ok (.ifCond .eq 16, 3) := by decide +kernel
theorem dX1_readRows_71 : decode cX1_readRows 71 = .ok (.aload_n 0, 1) := by decide +kernel
theorem dX1_readRows_72 : decode cX1_readRows 72 = .ok (.iload_n 3, 1) := by decide +kernel
theorem dX1_readRows_73 : decode cX1_readRows 73 = .ok (.putfield 9, 3) := by decide +kernel
theorem dX1_readRows_76 : decode cX1_readRows 76 = .ok (.iinc 2 1, 3) := by decide +kernel
theorem dX1_readRows_79 : decode cX1_readRows 79 = .ok (.iconst 0, 1) := by decide +kernel
theorem dX1_readRows_80 : decode cX1_readRows 80 = .ok (.istore_n 3, 1) := by decide +kernel
theorem dX1_readRows_81 : decode cX1_readRows 81 = .ok (.goto 58, 3) := by decide +kernel
theorem dX1_readRows_84 : decode cX1_readRows 84 = .ok (.iload 6, 2) := by decide +kernel
theorem dX1_readRows_86 : decode cX1_readRows 86 = .ok (.bipush 46, 2) := by decide +kernel
theorem dX1_readRows_88 : decode cX1_readRows 88 = .ok (.if_icmp .eq 10, 3) := by decide +kernel
theorem dX1_readRows_91 : decode cX1_readRows 91 = .ok (.iload 6, 2) := by decide +kernel
theorem dX1_readRows_93 : decode cX1_readRows 93 = .ok (.bipush 35, 2) := by decide +kernel
theorem dX1_readRows_95 : decode cX1_readRows 95 = .ok (.if_icmp .ne 41, 3) := by decide +kernel
theorem dX1_readRows_98 : decode cX1_readRows 98 = .ok (.iload_n 3, 1) := by decide +kernel
theorem dX1_readRows_99 : decode cX1_readRows 99 = .ok (.iload_n 2, 1) := by decide +kernel
theorem dX1_readRows_100 : decode cX1_readRows 100 = .ok (.ifCond .ne 7, 3) := by decide +kernel
theorem dX1_readRows_103 : decode cX1_readRows 103 = .ok (.iconst 5, 1) := by decide +kernel
theorem dX1_readRows_104 : decode cX1_readRows 104 = .ok (.goto 7, 3) := by decide +kernel
theorem dX1_readRows_107 : decode cX1_readRows 107 = .ok (.aload_n 0, 1) := by decide +kernel
theorem dX1_readRows_108 : decode cX1_readRows 108 = .ok (.getfield 9, 3) := by decide +kernel
theorem dX1_readRows_111 : decode cX1_readRows 111 = .ok (.if_icmp .ge 25, 3) := by decide +kernel
theorem dX1_readRows_114 : decode cX1_readRows 114 = .ok (.aload_n 0, 1) := by decide +kernel
theorem dX1_readRows_115 : decode cX1_readRows 115 = .ok (.iload 6, 2) := by decide +kernel
theorem dX1_readRows_117 : decode cX1_readRows 117 = .ok (.bipush 35, 2) := by decide +kernel
theorem dX1_readRows_119 : decode cX1_readRows 119 = .ok (.if_icmp .ne 7, 3) := by decide +kernel
theorem dX1_readRows_122 : decode cX1_readRows 122 = .ok (.iconst 1, 1) := by decide +kernel
theorem dX1_readRows_123 : decode cX1_readRows 123 = .ok (.goto 4, 3) := by decide +kernel
theorem dX1_readRows_126 : decode cX1_readRows 126 = .ok (.iconst 0, 1) := by decide +kernel
theorem dX1_readRows_127 : decode cX1_readRows 127 = .ok (.invokevirtual 71, 3) := by decide +kernel
theorem dX1_readRows_130 : decode cX1_readRows 130 = .ok (.iinc 3 1, 3) := by decide +kernel
theorem dX1_readRows_133 : decode cX1_readRows 133 = .ok (.goto 6, 3) := by decide +kernel
theorem dX1_readRows_136 : decode cX1_readRows 136 = .ok (.iload 5, 2) := by decide +kernel
theorem dX1_readRows_138 : decode cX1_readRows 138 = .ok (.ireturn, 1) := by decide +kernel
theorem dX1_readRows_139 : decode cX1_readRows 139 = .ok (.iinc 5 1, 3) := by decide +kernel
theorem dX1_readRows_142 : decode cX1_readRows 142 = .ok (.goto (-129), 3) := by decide +kernel
theorem dX1_readRows_145 : decode cX1_readRows 145 = .ok (.iload_n 2, 1) := by decide +kernel
theorem dX1_readRows_146 : decode cX1_readRows 146 = .ok (.ifCond .ne 8, 3) := by decide +kernel
theorem dX1_readRows_149 : decode cX1_readRows 149 = .ok (.aload_n 0, 1) := by decide +kernel
theorem dX1_readRows_150 : decode cX1_readRows 150 = .ok (.iload_n 3, 1) := by decide +kernel
theorem dX1_readRows_151 : decode cX1_readRows 151 = .ok (.putfield 9, 3) := by decide +kernel
theorem dX1_readRows_154 : decode cX1_readRows 154 = .ok (.iload_n 3, 1) := by decide +kernel
theorem dX1_readRows_155 : decode cX1_readRows 155 = .ok (.ifCond .le 15, 3) := by decide +kernel
theorem dX1_readRows_158 : decode cX1_readRows 158 = .ok (.iload_n 3, 1) := by decide +kernel
theorem dX1_readRows_159 : decode cX1_readRows 159 = .ok (.aload_n 0, 1) := by decide +kernel
theorem dX1_readRows_160 : decode cX1_readRows 160 = .ok (.getfield 9, 3) := by decide +kernel
theorem dX1_readRows_163 : decode cX1_readRows 163 = .ok (.if_icmp .ne 7, 3) := by decide +kernel
theorem dX1_readRows_166 : decode cX1_readRows 166 = .ok (.iconst (-1), 1) := by decide +kernel
theorem dX1_readRows_167 : decode cX1_readRows 167 = .ok (.goto 5, 3) := by decide +kernel
theorem dX1_readRows_170 : decode cX1_readRows 170 = .ok (.iload 4, 2) := by decide +kernel
theorem dX1_readRows_172 : decode cX1_readRows 172 = .ok (.ireturn, 1) := by decide +kernel
theorem dX1_addCell_0 : decode cX1_addCell 0 = .ok (.aload_n 0, 1) := by decide +kernel
theorem dX1_addCell_1 : decode cX1_addCell 1 = .ok (.getfield 15, 3) := by decide +kernel
theorem dX1_addCell_4 : decode cX1_addCell 4 = .ok (.ifCond .lt 32, 3) := by decide +kernel
theorem dX1_addCell_7 : decode cX1_addCell 7 = .ok (.aload_n 0, 1) := by decide +kernel
theorem dX1_addCell_8 : decode cX1_addCell 8 = .ok (.getfield 15, 3) := by decide +kernel
theorem dX1_addCell_11 : decode cX1_addCell 11 = .ok (.bipush 25, 2) := by decide +kernel
theorem dX1_addCell_13 : decode cX1_addCell 13 = .ok (.if_icmp .ge 23, 3) := by decide +kernel
theorem dX1_addCell_16 : decode cX1_addCell 16 = .ok (.aload_n 0, 1) := by decide +kernel
theorem dX1_addCell_17 : decode cX1_addCell 17 = .ok (.getfield 24, 3) := by decide +kernel
theorem dX1_addCell_20 : decode cX1_addCell 20 = .ok (.aload_n 0, 1) := by decide +kernel
theorem dX1_addCell_21 : decode cX1_addCell 21 = .ok (.getfield 15, 3) := by decide +kernel
theorem dX1_addCell_24 : decode cX1_addCell 24 = .ok (.iload_n 1, 1) := by decide +kernel
theorem dX1_addCell_25 : decode cX1_addCell 25 = .ok (.iastore, 1) := by decide +kernel
theorem dX1_addCell_26 : decode cX1_addCell 26 = .ok (.aload_n 0, 1) := by decide +kernel
theorem dX1_addCell_27 : decode cX1_addCell 27 = .ok (.dup, 1) := by decide +kernel
theorem dX1_addCell_28 : decode cX1_addCell 28 = .ok (.getfield 15, 3) := by decide +kernel
theorem dX1_addCell_31 : decode cX1_addCell 31 = .ok (.iconst 1, 1) := by decide +kernel
theorem dX1_addCell_32 : decode cX1_addCell 32 = .ok (.iadd, 1) := by decide +kernel
theorem dX1_addCell_33 : decode cX1_addCell 33 = .ok (.putfield 15, 3) := by decide +kernel
theorem dX1_addCell_36 : decode cX1_addCell 36 = .ok (.return_, 1) := by decide +kernel
theorem dX1_readGusts_0 : decode cX1_readGusts 0 = .ok (.aload_n 0, 1) := by decide +kernel
theorem dX1_readGusts_1 : decode cX1_readGusts 1 = .ok (.iconst 0, 1) := by decide +kernel
theorem dX1_readGusts_2 : decode cX1_readGusts 2 = .ok (.putfield 18, 3) := by decide +kernel
theorem dX1_readGusts_5 : decode cX1_readGusts 5 = .ok (.aload_n 1, 1) := by decide +kernel
theorem dX1_readGusts_6 : decode cX1_readGusts 6 = .ok (.invokevirtual 55, 3) := by decide +kernel
theorem dX1_readGusts_9 : decode cX1_readGusts 9 = .ok (.istore_n 2, 1) := by decide +kernel
theorem dX1_readGusts_10 : decode cX1_readGusts 10 = .ok (.iconst 0, 1) := by decide +kernel
theorem dX1_readGusts_11 : decode cX1_readGusts 11 = .ok (.istore_n 3, 1) := by decide +kernel
theorem dX1_readGusts_12 : decode cX1_readGusts 12 = .ok (.iload_n 3, 1) := by decide +kernel
theorem dX1_readGusts_13 : decode cX1_readGusts 13 = .ok (.iload_n 2, 1) := by decide +kernel
theorem dX1_readGusts_14 : decode cX1_readGusts 14 = .ok (.if_icmp .ge 87, 3) := by decide +kernel
theorem dX1_readGusts_17 : decode cX1_readGusts 17 = .ok (.iload_n 3, 1) := by decide +kernel
theorem dX1_readGusts_18 : decode cX1_readGusts 18 = .ok (.iconst 2, 1) := by decide +kernel
theorem dX1_readGusts_19 : decode cX1_readGusts 19 = .ok (.idiv, 1) := by decide +kernel
theorem dX1_readGusts_20 : decode cX1_readGusts 20 = .ok (.istore 4, 2) := by decide +kernel
theorem dX1_readGusts_22 : decode cX1_readGusts 22 = .ok (.aload_n 1, 1) := by decide +kernel
theorem dX1_readGusts_23 : decode cX1_readGusts 23 = .ok (.iload_n 3, 1) := by decide +kernel
theorem dX1_readGusts_24 : decode cX1_readGusts 24 = .ok (.invokevirtual 68, 3) := by decide +kernel
theorem dX1_readGusts_27 : decode cX1_readGusts 27 = .ok (.istore 5, 2) := by decide +kernel
theorem dX1_readGusts_29 : decode cX1_readGusts 29 = .ok (.iload_n 3, 1) := by decide +kernel
theorem dX1_readGusts_30 : decode cX1_readGusts 30 = .ok (.iconst 2, 1) := by decide +kernel
theorem dX1_readGusts_31 : decode cX1_readGusts 31 = .ok (.irem, 1) := by decide +kernel
theorem dX1_readGusts_32 : decode cX1_readGusts 32 = .ok (.ifCond .ne 11, 3) := by decide +kernel
theorem dX1_readGusts_35 : decode cX1_readGusts 35 = .ok (.iload 5, 2) := by decide +kernel
theorem dX1_readGusts_37 : decode cX1_readGusts 37 = .ok (.invokestatic 75, 3) := by decide +kernel
theorem dX1_readGusts_40 : decode cX1_readGusts 40 = .ok (.goto 11, 3) := by decide +kernel
theorem dX1_readGusts_43 : decode cX1_readGusts 43 = .ok (.iload 5, 2) := by decide +kernel
theorem dX1_readGusts_45 : decode cX1_readGusts 45 = .ok (.iconst 0, 1) := by decide +kernel
theorem dX1_readGusts_46 : decode cX1_readGusts 46 = .ok (.bipush 9, 2) := by decide +kernel
theorem dX1_readGusts_48 : decode cX1_readGusts 48 = .ok (.invokestatic 78, 3) := by decide +kernel
theorem dX1_readGusts_51 : decode cX1_readGusts 51 = .ok (.istore 6, 2) := by decide +kernel
theorem dX1_readGusts_53 : decode cX1_readGusts 53 = .ok (.iload 6, 2) := by decide +kernel
theorem dX1_readGusts_55 : decode cX1_readGusts 55 = .ok (.iconst (-1), 1) := by decide +kernel
theorem dX1_readGusts_56 : decode cX1_readGusts 56 = .ok (.if_icmp .eq 10, 3) := by decide +kernel
theorem dX1_readGusts_59 : decode cX1_readGusts 59 = .ok (.iload 4, 2) := by decide +kernel
theorem dX1_readGusts_61 : decode cX1_readGusts 61 = .ok (.bipush 12, 2) := by decide +kernel
theorem dX1_readGusts_63 : decode cX1_readGusts 63 = .ok (.if_icmp .lt 5, 3) := by decide +kernel
theorem dX1_readGusts_66 : decode cX1_readGusts 66 = .ok (.iload_n 3, 1) := by decide +kernel
theorem dX1_readGusts_67 : decode cX1_readGusts 67 = .ok (.ireturn, 1) := by decide +kernel
theorem dX1_readGusts_68 : decode cX1_readGusts 68 = .ok (.iload_n 3, 1) := by decide +kernel
theorem dX1_readGusts_69 : decode cX1_readGusts 69 = .ok (.iconst 2, 1) := by decide +kernel
theorem dX1_readGusts_70 : decode cX1_readGusts 70 = .ok (.irem, 1) := by decide +kernel
theorem dX1_readGusts_71 : decode cX1_readGusts 71 = .ok (.ifCond .ne 15, 3) := by decide +kernel
theorem dX1_readGusts_74 : decode cX1_readGusts 74 = .ok (.aload_n 0, 1) := by decide +kernel
theorem dX1_readGusts_75 : decode cX1_readGusts 75 = .ok (.getfield 34, 3) := by decide +kernel
theorem dX1_readGusts_78 : decode cX1_readGusts 78 = .ok (.iload 4, 2) := by decide +kernel
theorem dX1_readGusts_80 : decode cX1_readGusts 80 = .ok (.iload 6, 2) := by decide +kernel
theorem dX1_readGusts_82 : decode cX1_readGusts 82 = .ok (.iastore, 1) := by decide +kernel
theorem dX1_readGusts_83 : decode cX1_readGusts 83 = .ok (.goto 12, 3) := by decide +kernel
theorem dX1_readGusts_86 : decode cX1_readGusts 86 = .ok (.aload_n 0, 1) := by decide +kernel
theorem dX1_readGusts_87 : decode cX1_readGusts 87 = .ok (.getfield 37, 3) := by decide +kernel
theorem dX1_readGusts_90 : decode cX1_readGusts 90 = .ok (.iload 4, 2) := by decide +kernel
theorem dX1_readGusts_92 : decode cX1_readGusts 92 = .ok (.iload 6, 2) := by decide +kernel
theorem dX1_readGusts_94 : decode cX1_readGusts 94 = .ok (.iastore, 1) := by decide +kernel
theorem dX1_readGusts_95 : decode cX1_readGusts 95 = .ok (.iinc 3 1, 3) := by decide +kernel
theorem dX1_readGusts_98 : decode cX1_readGusts 98 = .ok (.goto (-86), 3) := by decide +kernel
theorem dX1_readGusts_101 : decode cX1_readGusts 101 = .ok (.iload_n 2, 1) := by decide +kernel
theorem dX1_readGusts_102 : decode cX1_readGusts 102 = .ok (.iconst 2, 1) := by decide +kernel
theorem dX1_readGusts_103 : decode cX1_readGusts 103 = .ok (.irem, 1) := by decide +kernel
theorem dX1_readGusts_104 : decode cX1_readGusts 104 = .ok (.ifCond .eq 5, 3) := by decide +kernel
theorem dX1_readGusts_107 : decode cX1_readGusts 107 = .ok (.iload_n 2, 1) := by decide +kernel
theorem dX1_readGusts_108 : decode cX1_readGusts 108 = .ok (.ireturn, 1) := by decide +kernel
theorem dX1_readGusts_109 : decode cX1_readGusts 109 = .ok (.aload_n 0, 1) := by decide +kernel
theorem dX1_readGusts_110 : decode cX1_readGusts 110 = .ok (.iload_n 2, 1) := by decide +kernel
theorem dX1_readGusts_111 : decode cX1_readGusts 111 = .ok (.iconst 2, 1) := by decide +kernel
theorem dX1_readGusts_112 : decode cX1_readGusts 112 = .ok (.idiv, 1) := by decide +kernel
theorem dX1_readGusts_113 : decode cX1_readGusts 113 = .ok (.bipush 12, 2) := by decide +kernel
theorem dX1_readGusts_115 : decode cX1_readGusts 115 = .ok (.invokestatic 82, 3) := by decide +kernel
theorem dX1_readGusts_118 : decode cX1_readGusts 118 = .ok (.putfield 18, 3) := by decide +kernel
theorem dX1_readGusts_121 : decode cX1_readGusts 121 = .ok (.iconst (-1), 1) := by decide +kernel
theorem dX1_readGusts_122 : decode cX1_readGusts 122 = .ok (.ireturn, 1) := by decide +kernel
theorem dX1_readCandidates_0 : decode cX1_readCandidates 0 = .ok (.aload_n 0, 1) := by decide +kernel
theorem dX1_readCandidates_1 : decode cX1_readCandidates 1 = .ok (.iconst 0, 1) := by decide +kernel
theorem dX1_readCandidates_2 : decode cX1_readCandidates 2 = .ok (.putfield 21, 3) := by decide +kernel
theorem dX1_readCandidates_5 : decode cX1_readCandidates 5 = .ok (.aload_n 1, 1) := by decide +kernel
theorem dX1_readCandidates_6 : decode cX1_readCandidates 6 = .ok (.invokevirtual 55, 3) := by decide +kernel
theorem dX1_readCandidates_9 : decode cX1_readCandidates 9 = .ok (.istore_n 2, 1) := by decide +kernel
theorem dX1_readCandidates_10 : decode cX1_readCandidates 10 = .ok (.iconst 0, 1) := by decide +kernel
theorem dX1_readCandidates_11 : decode cX1_readCandidates 11 = .ok (.istore_n 3, 1) := by decide +kernel
theorem dX1_readCandidates_12 : decode cX1_readCandidates 12 = .ok (.iload_n 3, 1) := by decide +kernel
theorem dX1_readCandidates_13 : decode cX1_readCandidates 13 = .ok (.iload_n 2, 1) := by decide +kernel
theorem dX1_readCandidates_14 : decode cX1_readCandidates 14 = .ok (.if_icmp .ge 29, 3) := by decide +kernel
theorem dX1_readCandidates_17 : decode cX1_readCandidates 17 = .ok (.aload_n 0, 1) := by decide +kernel
theorem dX1_readCandidates_18 : decode cX1_readCandidates 18 = .ok (.iload_n 3, 1) := by decide +kernel
theorem dX1_readCandidates_19 : decode cX1_readCandidates 19 = .ok (.iconst 5, 1) := by decide +kernel
theorem dX1_readCandidates_20 : decode cX1_readCandidates 20 = .ok (.idiv, 1) := by decide +kernel
theorem dX1_readCandidates_21 : decode cX1_readCandidates 21 = .ok (.iload_n 3, 1) := by decide +kernel
theorem dX1_readCandidates_22 : decode cX1_readCandidates 22 = .ok (.iconst 5, 1) := by decide +kernel
theorem dX1_readCandidates_23 : decode cX1_readCandidates 23 = .ok (.irem, 1) := by decide +kernel
theorem dX1_readCandidates_24 : decode cX1_readCandidates 24 = .ok (.aload_n 1, 1) := by decide +kernel
theorem dX1_readCandidates_25 : decode cX1_readCandidates 25 = .ok (.iload_n 3, 1) := by decide +kernel
theorem dX1_readCandidates_26 : decode cX1_readCandidates 26 = .ok (.invokevirtual 68, 3) := by decide +kernel
theorem dX1_readCandidates_29 : decode cX1_readCandidates 29 = .ok (.invokevirtual 88, 3) := by decide +kernel
theorem dX1_readCandidates_32 : decode cX1_readCandidates 32 = .ok (.ifCond .ne 5, 3) := by decide +kernel
theorem dX1_readCandidates_35 : decode cX1_readCandidates 35 = .ok (.iload_n 3, 1) := by decide +kernel
theorem dX1_readCandidates_36 : decode cX1_readCandidates 36 = .ok (.ireturn, 1) := by decide +kernel
theorem dX1_readCandidates_37 : decode cX1_readCandidates 37 = .ok (.iinc 3 1, 3) := by decide +kernel
theorem dX1_readCandidates_40 : decode cX1_readCandidates 40 = .ok (.goto (-28), 3) := by decide +kernel
theorem dX1_readCandidates_43 : decode cX1_readCandidates 43 = .ok (.iload_n 2, 1) := by decide +kernel
theorem dX1_readCandidates_44 : decode cX1_readCandidates 44 = .ok (.ifCond .le 12, 3) := by decide +kernel
theorem dX1_readCandidates_47 : decode cX1_readCandidates 47 = .ok (.iload_n 2, 1) := by decide +kernel
theorem dX1_readCandidates_48 : decode cX1_readCandidates 48 = .ok (.iconst 5, 1) := by decide +kernel
theorem dX1_readCandidates_49 : decode cX1_readCandidates 49 = .ok (.irem, 1) := by decide +kernel
theorem dX1_readCandidates_50 : decode cX1_readCandidates 50 = .ok (.iconst 4, 1) := by decide +kernel
theorem dX1_readCandidates_51 : decode cX1_readCandidates 51 = .ok (.if_icmp .eq 5, 3) := by decide +kernel
theorem dX1_readCandidates_54 : decode cX1_readCandidates 54 = .ok (.iload_n 2, 1) := by decide +kernel
theorem dX1_readCandidates_55 : decode cX1_readCandidates 55 = .ok (.ireturn, 1) := by decide +kernel
theorem dX1_readCandidates_56 : decode cX1_readCandidates 56 = .ok (.aload_n 0, 1) := by decide +kernel
theorem dX1_readCandidates_57 : decode cX1_readCandidates 57 = .ok (.iload_n 2, 1) := by decide +kernel
theorem dX1_readCandidates_58 : decode cX1_readCandidates 58 = .ok (.iconst 1, 1) := by decide +kernel
theorem dX1_readCandidates_59 : decode cX1_readCandidates 59 = .ok (.iadd, 1) := by decide +kernel
theorem dX1_readCandidates_60 : decode cX1_readCandidates 60 = .ok (.iconst 5, 1) := by decide +kernel
theorem dX1_readCandidates_61 : decode cX1_readCandidates 61 = .ok (.idiv, 1) := by decide +kernel
theorem dX1_readCandidates_62 : decode cX1_readCandidates 62 = .ok (.bipush 8, 2) := by decide +kernel
theorem dX1_readCandidates_64 : decode cX1_readCandidates 64 = .ok (.invokestatic 82, 3) := by decide +kernel
theorem dX1_readCandidates_67 : decode cX1_readCandidates 67 = .ok (.putfield 21, 3) := by decide +kernel
theorem dX1_readCandidates_70 : decode cX1_readCandidates 70 = .ok (.iconst (-1), 1) := by decide +kernel
theorem dX1_readCandidates_71 : decode cX1_readCandidates 71 = .ok (.ireturn, 1) := by decide +kernel
theorem dX1_readOfCandidate_0 : decode cX1_readOfCandidate 0 = .ok (.iload_n 1, 1) := by decide +kernel
theorem dX1_readOfCandidate_1 : decode cX1_readOfCandidate 1 = .ok (.ifCond .lt 9, 3) := by decide +kernel
theorem dX1_readOfCandidate_4 : decode cX1_readOfCandidate 4 = .ok (.iload_n 1, 1) := by decide +kernel
theorem dX1_readOfCandidate_5 : decode cX1_readOfCandidate 5 = .ok (.bipush 8, 2) := by decide +kernel
theorem dX1_readOfCandidate_7 : decode cX1_readOfCandidate 7 = .ok (.if_icmp .lt 5, 3) := by decide +kernel
theorem dX1_readOfCandidate_10 : decode cX1_readOfCandidate 10 = .ok (.iconst 0, 1) := by decide +kernel
theorem dX1_readOfCandidate_11 : decode cX1_readOfCandidate 11 = .ok (.ireturn, 1) := by decide +kernel
theorem dX1_readOfCandidate_12 : decode cX1_readOfCandidate 12 = .ok (.iload_n 2, 1) := by decide +kernel
theorem dX1_readOfCandidate_13 : decode cX1_readOfCandidate 13 = .ok (.ifCond .ne 34, 3) := by decide +kernel
theorem dX1_readOfCandidate_16 : decode cX1_readOfCandidate 16 = .ok (.aload_n 0, 1) := by decide +kernel
theorem dX1_readOfCandidate_17 : decode cX1_readOfCandidate 17 = .ok (.getfield 40, 3) := by decide +kernel
theorem dX1_readOfCandidate_20 : decode cX1_readOfCandidate 20 = .ok (.iload_n 1, 1) := by decide +kernel
theorem dX1_readOfCandidate_21 : decode cX1_readOfCandidate 21 = .ok (.bipush 10, 2) := by decide +kernel
theorem dX1_readOfCandidate_23 : decode cX1_readOfCandidate 23 = .ok (.iload_n 3, 1) := by decide +kernel
theorem dX1_readOfCandidate_24 : decode cX1_readOfCandidate 24 = .ok (.iconst 0, 1) := by decide +kernel
theorem dX1_readOfCandidate_25 : decode cX1_readOfCandidate 25 = .ok (.iconst 2, 1) := by decide +kernel
theorem dX1_readOfCandidate_26 : decode cX1_readOfCandidate 26 = .ok (.invokestatic 78, 3) := by decide +kernel
theorem dX1_readOfCandidate_29 : decode cX1_readOfCandidate 29 = .ok (.imul, 1) := by decide +kernel
theorem dX1_readOfCandidate_30 : decode cX1_readOfCandidate 30 = .ok (.iastore, 1) := by decide +kernel
theorem dX1_readOfCandidate_31 : decode cX1_readOfCandidate 31 = .ok (.iload_n 3, 1) := by decide +kernel
theorem dX1_readOfCandidate_32 : decode cX1_readOfCandidate 32 = .ok (.iconst 0, 1) := by decide +kernel
theorem dX1_readOfCandidate_33 : decode cX1_readOfCandidate 33 = .ok (.iconst 2, 1) := by decide +kernel
theorem dX1_readOfCandidate_34 : decode cX1_readOfCandidate 34 = .ok (.invokestatic 78, 3) := by decide +kernel
theorem dX1_readOfCandidate_37 : decode cX1_readOfCandidate 37 = .ok (.iconst (-1), 1) := by decide +kernel
theorem dX1_readOfCandidate_38 : decode cX1_readOfCandidate 38 = .ok (.if_icmp .eq 7, 3) := by decide +kernel
theorem dX1_readOfCandidate_41 : decode cX1_readOfCandidate 41 = .ok (.iconst 1, 1) := by decide +kernel
theorem dX1_readOfCandidate_42 : decode cX1_readOfCandidate 42 = .ok (.goto 4, 3) := by decide +kernel
theorem dX1_readOfCandidate_45 : decode cX1_readOfCandidate 45 = .ok (.iconst 0, 1) := by decide +kernel
theorem dX1_readOfCandidate_46 : decode cX1_readOfCandidate 46 = .ok (.ireturn, 1) := by decide +kernel
theorem dX1_readOfCandidate_47 : decode cX1_readOfCandidate 47 = .ok (.iload_n 2, 1) := by decide +kernel
theorem dX1_readOfCandidate_48 : decode cX1_readOfCandidate 48 = .ok (.iconst 1, 1) := by decide +kernel
theorem dX1_readOfCandidate_49 : decode cX1_readOfCandidate 49 = .ok (.if_icmp .ne 36, 3) := by decide +kernel
theorem dX1_readOfCandidate_52 : decode cX1_readOfCandidate 52 = .ok (.aload_n 0, 1) := by decide +kernel
theorem dX1_readOfCandidate_53 : decode cX1_readOfCandidate 53 = .ok (.getfield 40, 3) := by decide +kernel
theorem dX1_readOfCandidate_56 : decode cX1_readOfCandidate 56 = .ok (.iload_n 1, 1) := by decide +kernel
theorem dX1_readOfCandidate_57 : decode cX1_readOfCandidate 57 = .ok (.dup2, 1) := by decide +kernel
theorem dX1_readOfCandidate_58 : decode cX1_readOfCandidate 58 = .ok (.iaload, 1) := by decide +kernel
theorem dX1_readOfCandidate_59 : decode cX1_readOfCandidate 59 = .ok (.iload_n 3, 1) := by decide +kernel
theorem dX1_readOfCandidate_60 : decode cX1_readOfCandidate 60 = .ok (.iconst 0, 1) := by decide +kernel
theorem dX1_readOfCandidate_61 : decode cX1_readOfCandidate 61 = .ok (.bipush 9, 2) := by decide +kernel
theorem dX1_readOfCandidate_63 : decode cX1_readOfCandidate 63 = .ok (.invokestatic 78, 3) := by decide +kernel
theorem dX1_readOfCandidate_66 : decode cX1_readOfCandidate 66 = .ok (.iadd, 1) := by decide +kernel
theorem dX1_readOfCandidate_67 : decode cX1_readOfCandidate 67 = .ok (.iastore, 1) := by decide +kernel
theorem dX1_readOfCandidate_68 : decode cX1_readOfCandidate 68 = .ok (.iload_n 3, 1) := by decide +kernel
theorem dX1_readOfCandidate_69 : decode cX1_readOfCandidate 69 = .ok (.iconst 0, 1) := by decide +kernel
theorem dX1_readOfCandidate_70 : decode cX1_readOfCandidate 70 = .ok (.bipush 9, 2) := by decide +kernel
theorem dX1_readOfCandidate_72 : decode cX1_readOfCandidate 72 = .ok (.invokestatic 78, 3) := by decide +kernel
theorem dX1_readOfCandidate_75 : decode cX1_readOfCandidate 75 = .ok (.iconst (-1), 1) := by decide +kernel
theorem dX1_readOfCandidate_76 : decode cX1_readOfCandidate 76 = .ok (.if_icmp .eq 7, 3) := by decide +kernel
theorem dX1_readOfCandidate_79 : decode cX1_readOfCandidate 79 = .ok (.iconst 1, 1) := by decide +kernel
theorem dX1_readOfCandidate_80 : decode cX1_readOfCandidate 80 = .ok (.goto 4, 3) := by decide +kernel
theorem dX1_readOfCandidate_83 : decode cX1_readOfCandidate 83 = .ok (.iconst 0, 1) := by decide +kernel
theorem dX1_readOfCandidate_84 : decode cX1_readOfCandidate 84 = .ok (.ireturn, 1) := by decide +kernel
theorem dX1_readOfCandidate_85 : decode cX1_readOfCandidate 85 = .ok (.iload_n 2, 1) := by decide +kernel
theorem dX1_readOfCandidate_86 : decode cX1_readOfCandidate 86 = .ok (.iconst 2, 1) := by decide +kernel
theorem dX1_readOfCandidate_87 : decode cX1_readOfCandidate 87 = .ok (.if_icmp .ne 32, 3) := by decide +kernel
theorem dX1_readOfCandidate_90 : decode cX1_readOfCandidate 90 = .ok (.aload_n 0, 1) := by decide +kernel
theorem dX1_readOfCandidate_91 : decode cX1_readOfCandidate 91 = .ok (.getfield 43, 3) := by decide +kernel
theorem dX1_readOfCandidate_94 : decode cX1_readOfCandidate 94 = .ok (.iload_n 1, 1) := by decide +kernel
theorem dX1_readOfCandidate_95 : decode cX1_readOfCandidate 95 = .ok (.iload_n 3, 1) := by decide +kernel
theorem dX1_readOfCandidate_96 : decode cX1_readOfCandidate 96 = .ok (.iconst 1, 1) := by decide +kernel
theorem dX1_readOfCandidate_97 : decode cX1_readOfCandidate 97 = .ok (.bipush 9, 2) := by decide +kernel
theorem dX1_readOfCandidate_99 : decode cX1_readOfCandidate 99 = .ok (.invokestatic 78, 3) := by decide +kernel
theorem dX1_readOfCandidate_102 : decode cX1_readOfCandidate 102 = .ok (.iastore, 1) := by decide +kernel
theorem dX1_readOfCandidate_103 : decode cX1_readOfCandidate 103 = .ok (.aload_n 0, 1) := by decide +kernel
theorem dX1_readOfCandidate_104 : decode cX1_readOfCandidate 104 = .ok (.getfield 43, 3) := by decide +kernel
theorem dX1_readOfCandidate_107 : decode cX1_readOfCandidate 107 = .ok (.iload_n 1, 1) := by decide +kernel
theorem dX1_readOfCandidate_108 : decode cX1_readOfCandidate 108 = .ok (.iaload, 1) := by decide +kernel
theorem dX1_readOfCandidate_109 : decode cX1_readOfCandidate 109 = .ok (.iconst (-1), 1) := by decide +kernel
theorem dX1_readOfCandidate_110 : decode cX1_readOfCandidate 110 = .ok (.if_icmp .eq 7, 3) := by decide +kernel
theorem dX1_readOfCandidate_113 : decode cX1_readOfCandidate 113 = .ok (.iconst 1, 1) := by decide +kernel
theorem dX1_readOfCandidate_114 : decode cX1_readOfCandidate 114 = .ok (.goto 4, 3) := by decide +kernel
theorem dX1_readOfCandidate_117 : decode cX1_readOfCandidate 117 = .ok (.iconst 0, 1) := by decide +kernel
theorem dX1_readOfCandidate_118 : decode cX1_readOfCandidate 118 = .ok (.ireturn, 1) := by decide +kernel
theorem dX1_readOfCandidate_119 : decode cX1_readOfCandidate 119 = .ok (.iload_n 2, 1) := by decide +kernel
theorem dX1_readOfCandidate_120 : decode cX1_readOfCandidate 120 = .ok (.iconst 3, 1) := by decide +kernel
theorem dX1_readOfCandidate_121 : decode cX1_readOfCandidate 121 = .ok (.if_icmp .ne 29, 3) := by decide +kernel
theorem dX1_readOfCandidate_124 : decode cX1_readOfCandidate 124 = .ok (.aload_n 0, 1) := by decide +kernel
theorem dX1_readOfCandidate_125 : decode cX1_readOfCandidate 125 = .ok (.getfield 46, 3) := by decide +kernel
theorem dX1_readOfCandidate_128 : decode cX1_readOfCandidate 128 = .ok (.iload_n 1, 1) := by decide +kernel
theorem dX1_readOfCandidate_129 : decode cX1_readOfCandidate 129 = .ok (.iload_n 3, 1) := by decide +kernel
theorem dX1_readOfCandidate_130 : decode cX1_readOfCandidate 130 = .ok (.invokestatic 92, 3) := by decide +kernel
theorem dX1_readOfCandidate_133 : decode cX1_readOfCandidate 133 = .ok (.iastore, 1) := by decide +kernel
theorem dX1_readOfCandidate_134 : decode cX1_readOfCandidate 134 = .ok (.aload_n 0, 1) := by decide +kernel
theorem dX1_readOfCandidate_135 : decode cX1_readOfCandidate 135 = .ok (.getfield 46, 3) := by decide +kernel
theorem dX1_readOfCandidate_138 : decode cX1_readOfCandidate 138 = .ok (.iload_n 1, 1) := by decide +kernel
theorem dX1_readOfCandidate_139 : decode cX1_readOfCandidate 139 = .ok (.iaload, 1) := by decide +kernel
theorem dX1_readOfCandidate_140 : decode cX1_readOfCandidate 140 = .ok (.iconst (-1), 1) := by decide +kernel
theorem dX1_readOfCandidate_141 : decode cX1_readOfCandidate 141 = .ok (.if_icmp .eq 7, 3) := by decide +kernel
theorem dX1_readOfCandidate_144 : decode cX1_readOfCandidate 144 = .ok (.iconst 1, 1) := by decide +kernel
theorem dX1_readOfCandidate_145 : decode cX1_readOfCandidate 145 = .ok (.goto 4, 3) := by decide +kernel
theorem dX1_readOfCandidate_148 : decode cX1_readOfCandidate 148 = .ok (.iconst 0, 1) := by decide +kernel
theorem dX1_readOfCandidate_149 : decode cX1_readOfCandidate 149 = .ok (.ireturn, 1) := by decide +kernel
theorem dX1_readOfCandidate_150 : decode cX1_readOfCandidate 150 = .ok (.iload_n 3, 1) := by decide +kernel
theorem dX1_readOfCandidate_151 : decode cX1_readOfCandidate 151 = .ok (.bipush 59, 2) := by decide +kernel
theorem dX1_readOfCandidate_153 : decode cX1_readOfCandidate 153 = .ok (.if_icmp .ne 7, 3) := by decide +kernel
theorem dX1_readOfCandidate_156 : decode cX1_readOfCandidate 156 = .ok (.iconst 1, 1) := by decide +kernel
theorem dX1_readOfCandidate_157 : decode cX1_readOfCandidate 157 = .ok (.goto 4, 3) := by decide +kernel
theorem dX1_readOfCandidate_160 : decode cX1_readOfCandidate 160 = .ok (.iconst 0, 1) := by decide +kernel
theorem dX1_readOfCandidate_161 : decode cX1_readOfCandidate 161 = .ok (.ireturn, 1) := by decide +kernel
theorem dX1_figureOf_0 : decode cX1_figureOf 0 = .ok (.iload_n 0, 1) := by decide +kernel
theorem dX1_figureOf_1 : decode cX1_figureOf 1 = .ok (.bipush 48, 2) := by decide +kernel
theorem dX1_figureOf_3 : decode cX1_figureOf 3 = .ok (.isub, 1) := by decide +kernel
theorem dX1_figureOf_4 : decode cX1_figureOf 4 = .ok (.istore_n 3, 1) := by decide +kernel
theorem dX1_figureOf_5 : decode cX1_figureOf 5 = .ok (.iload_n 3, 1) := by decide +kernel
theorem dX1_figureOf_6 : decode cX1_figureOf 6 = .ok (.iload_n 1, 1) := by decide +kernel
theorem dX1_figureOf_7 : decode cX1_figureOf 7 = .ok (.if_icmp .lt 12, 3) := by decide +kernel
theorem dX1_figureOf_10 : decode cX1_figureOf 10 = .ok (.iload_n 3, 1) := by decide +kernel
theorem dX1_figureOf_11 : decode cX1_figureOf 11 = .ok (.iload_n 2, 1) := by decide +kernel
theorem dX1_figureOf_12 : decode cX1_figureOf 12 = .ok (.if_icmp .gt 7, 3) := by decide +kernel
theorem dX1_figureOf_15 : decode cX1_figureOf 15 = .ok (.iload_n 3, 1) := by decide +kernel
theorem dX1_figureOf_16 : decode cX1_figureOf 16 = .ok (.goto 4, 3) := by decide +kernel
theorem dX1_figureOf_19 : decode cX1_figureOf 19 = .ok (.iconst (-1), 1) := by decide +kernel
theorem dX1_figureOf_20 : decode cX1_figureOf 20 = .ok (.ireturn, 1) := by decide +kernel
theorem dX1_wayOf_0 : decode cX1_wayOf 0 = .ok (.iload_n 0, 1) := by decide +kernel
theorem dX1_wayOf_1 : decode cX1_wayOf 1 = .ok (.lookupswitch 51 #[(101, 45), (110, 43), (115, 47), (119, 49)], 43) := by decide +kernel
theorem dX1_wayOf_44 : decode cX1_wayOf 44 = .ok (.iconst 0, 1) := by decide +kernel
theorem dX1_wayOf_45 : decode cX1_wayOf 45 = .ok (.ireturn, 1) := by decide +kernel
theorem dX1_wayOf_46 : decode cX1_wayOf 46 = .ok (.iconst 1, 1) := by decide +kernel
theorem dX1_wayOf_47 : decode cX1_wayOf 47 = .ok (.ireturn, 1) := by decide +kernel
theorem dX1_wayOf_48 : decode cX1_wayOf 48 = .ok (.iconst 2, 1) := by decide +kernel
theorem dX1_wayOf_49 : decode cX1_wayOf 49 = .ok (.ireturn, 1) := by decide +kernel
theorem dX1_wayOf_50 : decode cX1_wayOf 50 = .ok (.iconst 3, 1) := by decide +kernel
theorem dX1_wayOf_51 : decode cX1_wayOf 51 = .ok (.ireturn, 1) := by decide +kernel
theorem dX1_wayOf_52 : decode cX1_wayOf 52 = .ok (.iconst (-1), 1) := by decide +kernel
theorem dX1_wayOf_53 : decode cX1_wayOf 53 = .ok (.ireturn, 1) := by decide +kernel
theorem dX1_holdOf_0 : decode cX1_holdOf 0 = .ok (.iload_n 0, 1) := by decide +kernel
theorem dX1_holdOf_1 : decode cX1_holdOf 1 = .ok (.lookupswitch 41 #[(104, 35), (111, 37), (120, 39)], 35) := by decide +kernel
theorem dX1_holdOf_36 : decode cX1_holdOf 36 = .ok (.iconst 0, 1) := by decide +kernel
theorem dX1_holdOf_37 : decode cX1_holdOf 37 = .ok (.ireturn, 1) := by decide +kernel
theorem dX1_holdOf_38 : decode cX1_holdOf 38 = .ok (.iconst 1, 1) := by decide +kernel
theorem dX1_holdOf_39 : decode cX1_holdOf 39 = .ok (.ireturn, 1) := by decide +kernel
theorem dX1_holdOf_40 : decode cX1_holdOf 40 = .ok (.iconst 2, 1) := by decide +kernel
theorem dX1_holdOf_41 : decode cX1_holdOf 41 = .ok (.ireturn, 1) := by decide +kernel
theorem dX1_holdOf_42 : decode cX1_holdOf 42 = .ok (.iconst (-1), 1) := by decide +kernel
theorem dX1_holdOf_43 : decode cX1_holdOf 43 = .ok (.ireturn, 1) := by decide +kernel
theorem dX1_isCell_0 : decode cX1_isCell 0 = .ok (.iload_n 1, 1) := by decide +kernel
theorem dX1_isCell_1 : decode cX1_isCell 1 = .ok (.ifCond .lt 21, 3) := by decide +kernel
theorem dX1_isCell_4 : decode cX1_isCell 4 = .ok (.iload_n 1, 1) := by decide +kernel
theorem dX1_isCell_5 : decode cX1_isCell 5 = .ok (.aload_n 0, 1) := by decide +kernel
theorem dX1_isCell_6 : decode cX1_isCell 6 = .ok (.getfield 15, 3) := by decide +kernel
theorem dX1_isCell_9 : decode cX1_isCell 9 = .ok (.if_icmp .ge 13, 3) := by decide +kernel
theorem dX1_isCell_12 : decode cX1_isCell 12 = .ok (.iload_n 1, 1) := by decide +kernel
theorem dX1_isCell_13 : decode cX1_isCell 13 = .ok (.bipush 25, 2) := by decide +kernel
theorem dX1_isCell_15 : decode cX1_isCell 15 = .ok (.if_icmp .ge 7, 3) := by decide +kernel
theorem dX1_isCell_18 : decode cX1_isCell 18 = .ok (.iconst 1, 1) := by decide +kernel
theorem dX1_isCell_19 : decode cX1_isCell 19 = .ok (.goto 4, 3) := by decide +kernel
theorem dX1_isCell_22 : decode cX1_isCell 22 = .ok (.iconst 0, 1) := by decide +kernel
theorem dX1_isCell_23 : decode cX1_isCell 23 = .ok (.ireturn, 1) := by decide +kernel
theorem dX1_isWall_0 : decode cX1_isWall 0 = .ok (.iload_n 1, 1) := by decide +kernel
theorem dX1_isWall_1 : decode cX1_isWall 1 = .ok (.ifCond .lt 31, 3) := by decide +kernel
theorem dX1_isWall_4 : decode cX1_isWall 4 = .ok (.iload_n 1, 1) := by decide +kernel
theorem dX1_isWall_5 : decode cX1_isWall 5 = .ok (.aload_n 0, 1) := by decide +kernel
theorem dX1_isWall_6 : decode cX1_isWall 6 = .ok (.getfield 15, 3) := by decide +kernel
theorem dX1_isWall_9 : decode cX1_isWall 9 = .ok (.if_icmp .ge 23, 3) := by decide +kernel
theorem dX1_isWall_12 : decode cX1_isWall 12 = .ok (.iload_n 1, 1) := by decide +kernel
theorem dX1_isWall_13 : decode cX1_isWall 13 = .ok (.bipush 25, 2) := by decide +kernel
theorem dX1_isWall_15 : decode cX1_isWall 15 = .ok (.if_icmp .ge 17, 3) := by decide +kernel
theorem dX1_isWall_18 : decode cX1_isWall 18 = .ok (.aload_n 0, 1) := by decide +kernel
theorem dX1_isWall_19 : decode cX1_isWall 19 = .ok (.getfield 24, 3) := by decide +kernel
theorem dX1_isWall_22 : decode cX1_isWall 22 = .ok (.iload_n 1, 1) := by decide +kernel
theorem dX1_isWall_23 : decode cX1_isWall 23 = .ok (.iaload, 1) := by decide +kernel
theorem dX1_isWall_24 : decode cX1_isWall 24 = .ok (.iconst 1, 1) := by decide +kernel
theorem dX1_isWall_25 : decode cX1_isWall 25 = .ok (.if_icmp .ne 7, 3) := by decide +kernel
theorem dX1_isWall_28 : decode cX1_isWall 28 = .ok (.iconst 1, 1) := by decide +kernel
theorem dX1_isWall_29 : decode cX1_isWall 29 = .ok (.goto 4, 3) := by decide +kernel
theorem dX1_isWall_32 : decode cX1_isWall 32 = .ok (.iconst 0, 1) := by decide +kernel
theorem dX1_isWall_33 : decode cX1_isWall 33 = .ok (.ireturn, 1) := by decide +kernel
theorem dX1_beside_0 : decode cX1_beside 0 = .ok (.aload_n 0, 1) := by decide +kernel
theorem dX1_beside_1 : decode cX1_beside 1 = .ok (.iload_n 1, 1) := by decide +kernel
theorem dX1_beside_2 : decode cX1_beside 2 = .ok (.invokevirtual 95, 3) := by decide +kernel
theorem dX1_beside_5 : decode cX1_beside 5 = .ok (.ifCond .eq 11, 3) := by decide +kernel
theorem dX1_beside_8 : decode cX1_beside 8 = .ok (.aload_n 0, 1) := by decide +kernel
theorem dX1_beside_9 : decode cX1_beside 9 = .ok (.getfield 9, 3) := by decide +kernel
theorem dX1_beside_12 : decode cX1_beside 12 = .ok (.iconst 1, 1) := by decide +kernel
theorem dX1_beside_13 : decode cX1_beside 13 = .ok (.if_icmp .ge 5, 3) := by decide +kernel
theorem dX1_beside_16 : decode cX1_beside 16 = .ok (.iconst (-1), 1) := by decide +kernel
theorem dX1_beside_17 : decode cX1_beside 17 = .ok (.ireturn, 1) := by decide +kernel
theorem dX1_beside_18 : decode cX1_beside 18 = .ok (.iload_n 1, 1) := by decide +kernel
theorem dX1_beside_19 : decode cX1_beside 19 = .ok (.aload_n 0, 1) := by decide +kernel
theorem dX1_beside_20 : decode cX1_beside 20 = .ok (.getfield 9, 3) := by decide +kernel
theorem dX1_beside_23 : decode cX1_beside 23 = .ok (.irem, 1) := by decide +kernel
theorem dX1_beside_24 : decode cX1_beside 24 = .ok (.istore_n 3, 1) := by decide +kernel
theorem dX1_beside_25 : decode cX1_beside 25 = .ok (.iload_n 2, 1) := by decide +kernel
theorem dX1_beside_26 : decode cX1_beside 26 = .ok (.tableswitch 103 0 3 #[30, 49, 67, 91], 30) := by decide +kernel
theorem dX1_beside_56 : decode cX1_beside 56 = .ok (.iload_n 1, 1) := by decide +kernel
theorem dX1_beside_57 : decode cX1_beside 57 = .ok (.aload_n 0, 1) := by decide +kernel
theorem dX1_beside_58 : decode cX1_beside 58 = .ok (.getfield 9, 3) := by decide +kernel
theorem dX1_beside_61 : decode cX1_beside 61 = .ok (.if_icmp .lt 12, 3) := by decide +kernel
theorem dX1_beside_64 : decode cX1_beside 64 = .ok (.iload_n 1, 1) := by decide +kernel
theorem dX1_beside_65 : decode cX1_beside 65 = .ok (.aload_n 0, 1) := by decide +kernel
theorem dX1_beside_66 : decode cX1_beside 66 = .ok (.getfield 9, 3) := by decide +kernel
theorem dX1_beside_69 : decode cX1_beside 69 = .ok (.isub, 1) := by decide +kernel
theorem dX1_beside_70 : decode cX1_beside 70 = .ok (.goto 4, 3) := by decide +kernel
theorem dX1_beside_73 : decode cX1_beside 73 = .ok (.iconst (-1), 1) := by decide +kernel
theorem dX1_beside_74 : decode cX1_beside 74 = .ok (.ireturn, 1) := by decide +kernel
theorem dX1_beside_75 : decode cX1_beside 75 = .ok (.iload_n 3, 1) := by decide +kernel
theorem dX1_beside_76 : decode cX1_beside 76 = .ok (.iconst 1, 1) := by decide +kernel
theorem dX1_beside_77 : decode cX1_beside 77 = .ok (.iadd, 1) := by decide +kernel
theorem dX1_beside_78 : decode cX1_beside 78 = .ok (.aload_n 0, 1) := by decide +kernel
theorem dX1_beside_79 : decode cX1_beside 79 = .ok (.getfield 9, 3) := by decide +kernel
theorem dX1_beside_82 : decode cX1_beside 82 = .ok (.if_icmp .ge 9, 3) := by decide +kernel
theorem dX1_beside_85 : decode cX1_beside 85 = .ok (.iload_n 1, 1) := by decide +kernel
theorem dX1_beside_86 : decode cX1_beside 86 = .ok (.iconst 1, 1) := by decide +kernel
theorem dX1_beside_87 : decode cX1_beside 87 = .ok (.iadd, 1) := by decide +kernel
theorem dX1_beside_88 : decode cX1_beside 88 = .ok (.goto 4, 3) := by decide +kernel
theorem dX1_beside_91 : decode cX1_beside 91 = .ok (.iconst (-1), 1) := by decide +kernel
theorem dX1_beside_92 : decode cX1_beside 92 = .ok (.ireturn, 1) := by decide +kernel
theorem dX1_beside_93 : decode cX1_beside 93 = .ok (.iload_n 1, 1) := by decide +kernel
theorem dX1_beside_94 : decode cX1_beside 94 = .ok (.aload_n 0, 1) := by decide +kernel
theorem dX1_beside_95 : decode cX1_beside 95 = .ok (.getfield 9, 3) := by decide +kernel
theorem dX1_beside_98 : decode cX1_beside 98 = .ok (.iadd, 1) := by decide +kernel
theorem dX1_beside_99 : decode cX1_beside 99 = .ok (.aload_n 0, 1) := by decide +kernel
theorem dX1_beside_100 : decode cX1_beside 100 = .ok (.getfield 15, 3) := by decide +kernel
theorem dX1_beside_103 : decode cX1_beside 103 = .ok (.if_icmp .ge 12, 3) := by decide +kernel
theorem dX1_beside_106 : decode cX1_beside 106 = .ok (.iload_n 1, 1) := by decide +kernel
theorem dX1_beside_107 : decode cX1_beside 107 = .ok (.aload_n 0, 1) := by decide +kernel
theorem dX1_beside_108 : decode cX1_beside 108 = .ok (.getfield 9, 3) := by decide +kernel
theorem dX1_beside_111 : decode cX1_beside 111 = .ok (.iadd, 1) := by decide +kernel
theorem dX1_beside_112 : decode cX1_beside 112 = .ok (.goto 4, 3) := by decide +kernel
theorem dX1_beside_115 : decode cX1_beside 115 = .ok (.iconst (-1), 1) := by decide +kernel
theorem dX1_beside_116 : decode cX1_beside 116 = .ok (.ireturn, 1) := by decide +kernel
theorem dX1_beside_117 : decode cX1_beside 117 = .ok (.iload_n 3, 1) := by decide +kernel
theorem dX1_beside_118 : decode cX1_beside 118 = .ok (.ifCond .le 9, 3) := by decide +kernel
theorem dX1_beside_121 : decode cX1_beside 121 = .ok (.iload_n 1, 1) := by decide +kernel
theorem dX1_beside_122 : decode cX1_beside 122 = .ok (.iconst 1, 1) := by decide +kernel
theorem dX1_beside_123 : decode cX1_beside 123 = .ok (.isub, 1) := by decide +kernel
theorem dX1_beside_124 : decode cX1_beside 124 = .ok (.goto 4, 3) := by decide +kernel
theorem dX1_beside_127 : decode cX1_beside 127 = .ok (.iconst (-1), 1) := by decide +kernel
theorem dX1_beside_128 : decode cX1_beside 128 = .ok (.ireturn, 1) := by decide +kernel
theorem dX1_beside_129 : decode cX1_beside 129 = .ok (.iconst (-1), 1) := by decide +kernel
theorem dX1_beside_130 : decode cX1_beside 130 = .ok (.ireturn, 1) := by decide +kernel
theorem dX1_survey_0 : decode cX1_survey 0 = .ok (.iconst 0, 1) := by decide +kernel
theorem dX1_survey_1 : decode cX1_survey 1 = .ok (.istore_n 1, 1) := by decide +kernel
theorem dX1_survey_2 : decode cX1_survey 2 = .ok (.iload_n 1, 1) := by decide +kernel
theorem dX1_survey_3 : decode cX1_survey 3 = .ok (.iconst 4, 1) := by decide +kernel
theorem dX1_survey_4 : decode cX1_survey 4 = .ok (.if_icmp .ge 65, 3) := by decide +kernel
theorem dX1_survey_7 : decode cX1_survey 7 = .ok (.iconst 0, 1) := by decide +kernel
theorem dX1_survey_8 : decode cX1_survey 8 = .ok (.istore_n 2, 1) := by decide +kernel
theorem dX1_survey_9 : decode cX1_survey 9 = .ok (.iload_n 2, 1) := by decide +kernel
theorem dX1_survey_10 : decode cX1_survey 10 = .ok (.aload_n 0, 1) := by decide +kernel
theorem dX1_survey_11 : decode cX1_survey 11 = .ok (.getfield 15, 3) := by decide +kernel
theorem dX1_survey_14 : decode cX1_survey 14 = .ok (.if_icmp .ge 49, 3) := by decide +kernel
theorem dX1_survey_17 : decode cX1_survey 17 = .ok (.iload_n 2, 1) := by decide +kernel
theorem dX1_survey_18 : decode cX1_survey 18 = .ok (.bipush 25, 2) := by decide +kernel
theorem dX1_survey_20 : decode cX1_survey 20 = .ok (.if_icmp .ge 43, 3) := by decide +kernel
theorem dX1_survey_23 : decode cX1_survey 23 = .ok (.aload_n 0, 1) := by decide +kernel
theorem dX1_survey_24 : decode cX1_survey 24 = .ok (.getfield 28, 3) := by decide +kernel
theorem dX1_survey_27 : decode cX1_survey 27 = .ok (.iload_n 1, 1) := by decide +kernel
theorem dX1_survey_28 : decode cX1_survey 28 = .ok (.bipush 25, 2) := by decide +kernel
theorem dX1_survey_30 : decode cX1_survey 30 = .ok (.imul, 1) := by decide +kernel
theorem dX1_survey_31 : decode cX1_survey 31 = .ok (.iload_n 2, 1) := by decide +kernel
theorem dX1_survey_32 : decode cX1_survey 32 = .ok (.iadd, 1) := by decide +kernel
theorem dX1_survey_33 : decode cX1_survey 33 = .ok (.aload_n 0, 1) := by decide +kernel
theorem dX1_survey_34 : decode cX1_survey 34 = .ok (.iload_n 2, 1) := by decide +kernel
theorem dX1_survey_35 : decode cX1_survey 35 = .ok (.iload_n 1, 1) := by decide +kernel
theorem dX1_survey_36 : decode cX1_survey 36 = .ok (.invokevirtual 99, 3) := by decide +kernel
theorem dX1_survey_39 : decode cX1_survey 39 = .ok (.iastore, 1) := by decide +kernel
theorem dX1_survey_40 : decode cX1_survey 40 = .ok (.aload_n 0, 1) := by decide +kernel
theorem dX1_survey_41 : decode cX1_survey 41 = .ok (.getfield 31, 3) := by decide +kernel
theorem dX1_survey_44 : decode cX1_survey 44 = .ok (.iload_n 1, 1) := by decide +kernel
theorem dX1_survey_45 : decode cX1_survey 45 = .ok (.bipush 25, 2) := by decide +kernel
theorem dX1_survey_47 : decode cX1_survey 47 = .ok (.imul, 1) := by decide +kernel
theorem dX1_survey_48 : decode cX1_survey 48 = .ok (.iload_n 2, 1) := by decide +kernel
theorem dX1_survey_49 : decode cX1_survey 49 = .ok (.iadd, 1) := by decide +kernel
theorem dX1_survey_50 : decode cX1_survey 50 = .ok (.aload_n 0, 1) := by decide +kernel
theorem dX1_survey_51 : decode cX1_survey 51 = .ok (.iload_n 2, 1) := by decide +kernel
theorem dX1_survey_52 : decode cX1_survey 52 = .ok (.iload_n 1, 1) := by decide +kernel
theorem dX1_survey_53 : decode cX1_survey 53 = .ok (.invokevirtual 102, 3) := by decide +kernel
theorem dX1_survey_56 : decode cX1_survey 56 = .ok (.iastore, 1) := by decide +kernel
theorem dX1_survey_57 : decode cX1_survey 57 = .ok (.iinc 2 1, 3) := by decide +kernel
theorem dX1_survey_60 : decode cX1_survey 60 = .ok (.goto (-51), 3) := by decide +kernel
theorem dX1_survey_63 : decode cX1_survey 63 = .ok (.iinc 1 1, 3) := by decide +kernel
theorem dX1_survey_66 : decode cX1_survey 66 = .ok (.goto (-64), 3) := by decide +kernel
theorem dX1_survey_69 : decode cX1_survey 69 = .ok (.return_, 1) := by decide +kernel
theorem dX1_layOf_0 : decode cX1_layOf 0 = .ok (.aload_n 0, 1) := by decide +kernel
theorem dX1_layOf_1 : decode cX1_layOf 1 = .ok (.iload_n 1, 1) := by decide +kernel
theorem dX1_layOf_2 : decode cX1_layOf 2 = .ok (.iload_n 2, 1) := by decide +kernel
theorem dX1_layOf_3 : decode cX1_layOf 3 = .ok (.invokevirtual 99, 3) := by decide +kernel
theorem dX1_layOf_6 : decode cX1_layOf 6 = .ok (.istore_n 3, 1) := by decide +kernel
theorem dX1_layOf_7 : decode cX1_layOf 7 = .ok (.aload_n 0, 1) := by decide +kernel
theorem dX1_layOf_8 : decode cX1_layOf 8 = .ok (.iload_n 1, 1) := by decide +kernel
theorem dX1_layOf_9 : decode cX1_layOf 9 = .ok (.invokevirtual 105, 3) := by decide +kernel
theorem dX1_layOf_12 : decode cX1_layOf 12 = .ok (.ifCond .ne 11, 3) := by decide +kernel
theorem dX1_layOf_15 : decode cX1_layOf 15 = .ok (.aload_n 0, 1) := by decide +kernel
theorem dX1_layOf_16 : decode cX1_layOf 16 = .ok (.iload_n 3, 1) := by decide +kernel
theorem dX1_layOf_17 : decode cX1_layOf 17 = .ok (.invokevirtual 105, 3) := by decide +kernel
theorem dX1_layOf_20 : decode cX1_layOf 20 = .ok (.ifCond .eq 5, 3) := by decide +kernel
theorem dX1_layOf_23 : decode cX1_layOf 23 = .ok (.iconst 0, 1) := by decide +kernel
theorem dX1_layOf_24 : decode cX1_layOf 24 = .ok (.ireturn, 1) := by decide +kernel
theorem dX1_layOf_25 : decode cX1_layOf 25 = .ok (.aload_n 0, 1) := by decide +kernel
theorem dX1_layOf_26 : decode cX1_layOf 26 = .ok (.aload_n 0, 1) := by decide +kernel
theorem dX1_layOf_27 : decode cX1_layOf 27 = .ok (.iload_n 3, 1) := by decide +kernel
theorem dX1_layOf_28 : decode cX1_layOf 28 = .ok (.iload_n 2, 1) := by decide +kernel
theorem dX1_layOf_29 : decode cX1_layOf 29 = .ok (.invokevirtual 99, 3) := by decide +kernel
theorem dX1_layOf_32 : decode cX1_layOf 32 = .ok (.invokevirtual 105, 3) := by decide +kernel
theorem dX1_layOf_35 : decode cX1_layOf 35 = .ok (.ifCond .eq 7, 3) := by decide +kernel
theorem dX1_layOf_38 : decode cX1_layOf 38 = .ok (.iconst 1, 1) := by decide +kernel
theorem dX1_layOf_39 : decode cX1_layOf 39 = .ok (.goto 4, 3) := by decide +kernel
theorem dX1_layOf_42 : decode cX1_layOf 42 = .ok (.iconst 2, 1) := by decide +kernel
theorem dX1_layOf_43 : decode cX1_layOf 43 = .ok (.istore 4, 2) := by decide +kernel
theorem dX1_layOf_45 : decode cX1_layOf 45 = .ok (.aload_n 0, 1) := by decide +kernel
theorem dX1_layOf_46 : decode cX1_layOf 46 = .ok (.aload_n 0, 1) := by decide +kernel
theorem dX1_layOf_47 : decode cX1_layOf 47 = .ok (.iload_n 1, 1) := by decide +kernel
theorem dX1_layOf_48 : decode cX1_layOf 48 = .ok (.iload_n 2, 1) := by decide +kernel
theorem dX1_layOf_49 : decode cX1_layOf 49 = .ok (.iconst 1, 1) := by decide +kernel
theorem dX1_layOf_50 : decode cX1_layOf 50 = .ok (.iadd, 1) := by decide +kernel
theorem dX1_layOf_51 : decode cX1_layOf 51 = .ok (.iconst 4, 1) := by decide +kernel
theorem dX1_layOf_52 : decode cX1_layOf 52 = .ok (.irem, 1) := by decide +kernel
theorem dX1_layOf_53 : decode cX1_layOf 53 = .ok (.invokevirtual 99, 3) := by decide +kernel
theorem dX1_layOf_56 : decode cX1_layOf 56 = .ok (.invokevirtual 105, 3) := by decide +kernel
theorem dX1_layOf_59 : decode cX1_layOf 59 = .ok (.ifCond .eq 24, 3) := by decide +kernel
theorem dX1_layOf_62 : decode cX1_layOf 62 = .ok (.aload_n 0, 1) := by decide +kernel
theorem dX1_layOf_63 : decode cX1_layOf 63 = .ok (.aload_n 0, 1) := by decide +kernel
theorem dX1_layOf_64 : decode cX1_layOf 64 = .ok (.iload_n 1, 1) := by decide +kernel
theorem dX1_layOf_65 : decode cX1_layOf 65 = .ok (.iload_n 2, 1) := by decide +kernel
theorem dX1_layOf_66 : decode cX1_layOf 66 = .ok (.iconst 3, 1) := by decide +kernel
theorem dX1_layOf_67 : decode cX1_layOf 67 = .ok (.iadd, 1) := by decide +kernel
theorem dX1_layOf_68 : decode cX1_layOf 68 = .ok (.iconst 4, 1) := by decide +kernel
theorem dX1_layOf_69 : decode cX1_layOf 69 = .ok (.irem, 1) := by decide +kernel
theorem dX1_layOf_70 : decode cX1_layOf 70 = .ok (.invokevirtual 99, 3) := by decide +kernel
theorem dX1_layOf_73 : decode cX1_layOf 73 = .ok (.invokevirtual 105, 3) := by decide +kernel
theorem dX1_layOf_76 : decode cX1_layOf 76 = .ok (.ifCond .eq 7, 3) := by decide +kernel
theorem dX1_layOf_79 : decode cX1_layOf 79 = .ok (.iconst 1, 1) := by decide +kernel
theorem dX1_layOf_80 : decode cX1_layOf 80 = .ok (.goto 4, 3) := by decide +kernel
theorem dX1_layOf_83 : decode cX1_layOf 83 = .ok (.iconst 0, 1) := by decide +kernel
theorem dX1_layOf_84 : decode cX1_layOf 84 = .ok (.istore 5, 2) := by decide +kernel
theorem dX1_layOf_86 : decode cX1_layOf 86 = .ok (.iload 5, 2) := by decide +kernel
theorem dX1_layOf_88 : decode cX1_layOf 88 = .ok (.ifCond .eq 10, 3) := by decide +kernel
theorem dX1_layOf_91 : decode cX1_layOf 91 = .ok (.iload 4, 2) := by decide +kernel
theorem dX1_layOf_93 : decode cX1_layOf 93 = .ok (.iconst 4, 1) := by decide +kernel
theorem dX1_layOf_94 : decode cX1_layOf 94 = .ok (.iadd, 1) := by decide +kernel
theorem dX1_layOf_95 : decode cX1_layOf 95 = .ok (.goto 5, 3) := by decide +kernel
theorem dX1_layOf_98 : decode cX1_layOf 98 = .ok (.iload 4, 2) := by decide +kernel
theorem dX1_layOf_100 : decode cX1_layOf 100 = .ok (.ireturn, 1) := by decide +kernel
theorem dX2_init_0 : decode cX2_init 0 = .ok (.aload_n 0, 1) := by decide +kernel
theorem dX2_init_1 : decode cX2_init 1 = .ok (.invokespecial 3, 3) := by decide +kernel
theorem dX2_init_4 : decode cX2_init 4 = .ok (.aload_n 0, 1) := by decide +kernel
theorem dX2_init_5 : decode cX2_init 5 = .ok (.bipush 39, 2) := by decide +kernel
theorem dX2_init_7 : decode cX2_init 7 = .ok (.newarray .int, 2) := by decide +kernel
theorem dX2_init_9 : decode cX2_init 9 = .ok (.putfield 9, 3) := by decide +kernel
theorem dX2_init_12 : decode cX2_init 12 = .ok (.aload_n 0, 1) := by decide +kernel
theorem dX2_init_13 : decode cX2_init 13 = .ok (.iconst 0, 1) := by decide +kernel
theorem dX2_init_14 : decode cX2_init 14 = .ok (.putfield 15, 3) := by decide +kernel
theorem dX2_init_17 : decode cX2_init 17 = .ok (.aload_n 0, 1) := by decide +kernel
theorem dX2_init_18 : decode cX2_init 18 = .ok (.iload_n 1, 1) := by decide +kernel
theorem dX2_init_19 : decode cX2_init 19 = .ok (.bipush 39, 2) := by decide +kernel
theorem dX2_init_21 : decode cX2_init 21 = .ok (.invokestatic 19, 3) := by decide +kernel
theorem dX2_init_24 : decode cX2_init 24 = .ok (.putfield 25, 3) := by decide +kernel
theorem dX2_init_27 : decode cX2_init 27 = .ok (.return_, 1) := by decide +kernel
theorem dX2_isFull_0 : decode cX2_isFull 0 = .ok (.aload_n 0, 1) := by decide +kernel
theorem dX2_isFull_1 : decode cX2_isFull 1 = .ok (.getfield 15, 3) := by decide +kernel
theorem dX2_isFull_4 : decode cX2_isFull 4 = .ok (.aload_n 0, 1) := by decide +kernel
theorem dX2_isFull_5 : decode cX2_isFull 5 = .ok (.getfield 25, 3) := by decide +kernel
theorem dX2_isFull_8 : decode cX2_isFull 8 = .ok (.if_icmp .lt 7, 3) := by decide +kernel
theorem dX2_isFull_11 : decode cX2_isFull 11 = .ok (.iconst 1, 1) := by decide +kernel
theorem dX2_isFull_12 : decode cX2_isFull 12 = .ok (.goto 4, 3) := by decide +kernel
theorem dX2_isFull_15 : decode cX2_isFull 15 = .ok (.iconst 0, 1) := by decide +kernel
theorem dX2_isFull_16 : decode cX2_isFull 16 = .ok (.ireturn, 1) := by decide +kernel
theorem dX2_length_0 : decode cX2_length 0 = .ok (.aload_n 0, 1) := by decide +kernel
theorem dX2_length_1 : decode cX2_length 1 = .ok (.getfield 15, 3) := by decide +kernel
theorem dX2_length_4 : decode cX2_length 4 = .ok (.ireturn, 1) := by decide +kernel
theorem dX2_at_0 : decode cX2_at 0 = .ok (.iload_n 1, 1) := by decide +kernel
theorem dX2_at_1 : decode cX2_at 1 = .ok (.ifCond .lt 20, 3) := by decide +kernel
theorem dX2_at_4 : decode cX2_at 4 = .ok (.iload_n 1, 1) := by decide +kernel
theorem dX2_at_5 : decode cX2_at 5 = .ok (.aload_n 0, 1) := by decide +kernel
theorem dX2_at_6 : decode cX2_at 6 = .ok (.getfield 15, 3) := by decide +kernel
theorem dX2_at_9 : decode cX2_at 9 = .ok (.if_icmp .ge 12, 3) := by decide +kernel
theorem dX2_at_12 : decode cX2_at 12 = .ok (.aload_n 0, 1) := by decide +kernel
theorem dX2_at_13 : decode cX2_at 13 = .ok (.getfield 9, 3) := by decide +kernel
theorem dX2_at_16 : decode cX2_at 16 = .ok (.iload_n 1, 1) := by decide +kernel
theorem dX2_at_17 : decode cX2_at 17 = .ok (.iaload, 1) := by decide +kernel
theorem dX2_at_18 : decode cX2_at 18 = .ok (.goto 4, 3) := by decide +kernel
theorem dX2_at_21 : decode cX2_at 21 = .ok (.iconst (-1), 1) := by decide +kernel
theorem dX2_at_22 : decode cX2_at 22 = .ok (.ireturn, 1) := by decide +kernel
theorem dX2_append_0 : decode cX2_append 0 = .ok (.aload_n 0, 1) := by decide +kernel
theorem dX2_append_1 : decode cX2_append 1 = .ok (.getfield 15, 3) := by decide +kernel
theorem dX2_append_4 : decode cX2_append 4 = .ok (.ifCond .lt 34, 3) := by decide +kernel
theorem dX2_append_7 : decode cX2_append 7 = .ok (.aload_n 0, 1) := by decide +kernel
theorem dX2_append_8 : decode cX2_append 8 = .ok (.getfield 15, 3) := by decide +kernel
theorem dX2_append_11 : decode cX2_append 11 = .ok (.aload_n 0, 1) := by decide +kernel
theorem dX2_append_12 : decode cX2_append 12 = .ok (.getfield 25, 3) := by decide +kernel
theorem dX2_append_15 : decode cX2_append 15 = .ok (.if_icmp .ge 23, 3) := by decide +kernel
theorem dX2_append_18 : decode cX2_append 18 = .ok (.aload_n 0, 1) := by decide +kernel
theorem dX2_append_19 : decode cX2_append 19 = .ok (.getfield 9, 3) := by decide +kernel
theorem dX2_append_22 : decode cX2_append 22 = .ok (.aload_n 0, 1) := by decide +kernel
theorem dX2_append_23 : decode cX2_append 23 = .ok (.getfield 15, 3) := by decide +kernel
theorem dX2_append_26 : decode cX2_append 26 = .ok (.iload_n 1, 1) := by decide +kernel
theorem dX2_append_27 : decode cX2_append 27 = .ok (.iastore, 1) := by decide +kernel
theorem dX2_append_28 : decode cX2_append 28 = .ok (.aload_n 0, 1) := by decide +kernel
theorem dX2_append_29 : decode cX2_append 29 = .ok (.dup, 1) := by decide +kernel
theorem dX2_append_30 : decode cX2_append 30 = .ok (.getfield 15, 3) := by decide +kernel
theorem dX2_append_33 : decode cX2_append 33 = .ok (.iconst 1, 1) := by decide +kernel
theorem dX2_append_34 : decode cX2_append 34 = .ok (.iadd, 1) := by decide +kernel
theorem dX2_append_35 : decode cX2_append 35 = .ok (.putfield 15, 3) := by decide +kernel
theorem dX2_append_38 : decode cX2_append 38 = .ok (.return_, 1) := by decide +kernel
theorem dX2_shorten_0 : decode cX2_shorten 0 = .ok (.aload_n 0, 1) := by decide +kernel
theorem dX2_shorten_1 : decode cX2_shorten 1 = .ok (.iconst 0, 1) := by decide +kernel
theorem dX2_shorten_2 : decode cX2_shorten 2 = .ok (.aload_n 0, 1) := by decide +kernel
theorem dX2_shorten_3 : decode cX2_shorten 3 = .ok (.getfield 15, 3) := by decide +kernel
theorem dX2_shorten_6 : decode cX2_shorten 6 = .ok (.iload_n 1, 1) := by decide +kernel
theorem dX2_shorten_7 : decode cX2_shorten 7 = .ok (.isub, 1) := by decide +kernel
theorem dX2_shorten_8 : decode cX2_shorten 8 = .ok (.invokestatic 28, 3) := by decide +kernel
theorem dX2_shorten_11 : decode cX2_shorten 11 = .ok (.putfield 15, 3) := by decide +kernel
theorem dX2_shorten_14 : decode cX2_shorten 14 = .ok (.return_, 1) := by decide +kernel
theorem dX3_init_0 : decode cX3_init 0 = .ok (.aload_n 0, 1) := by decide +kernel
theorem dX3_init_1 : decode cX3_init 1 = .ok (.invokespecial 3, 3) := by decide +kernel
theorem dX3_init_4 : decode cX3_init 4 = .ok (.aload_n 0, 1) := by decide +kernel
theorem dX3_init_5 : decode cX3_init 5 = .ok (.iconst (-1), 1) := by decide +kernel
theorem dX3_init_6 : decode cX3_init 6 = .ok (.putfield 9, 3) := by decide +kernel
theorem dX3_init_9 : decode cX3_init 9 = .ok (.aload_n 0, 1) := by decide +kernel
theorem dX3_init_10 : decode cX3_init 10 = .ok (.iconst 0, 1) := by decide +kernel
theorem dX3_init_11 : decode cX3_init 11 = .ok (.putfield 15, 3) := by decide +kernel
theorem dX3_init_14 : decode cX3_init 14 = .ok (.aload_n 0, 1) := by decide +kernel
theorem dX3_init_15 : decode cX3_init 15 = .ok (.bipush 60, 2) := by decide +kernel
theorem dX3_init_17 : decode cX3_init 17 = .ok (.newarray .int, 2) := by decide +kernel
theorem dX3_init_19 : decode cX3_init 19 = .ok (.putfield 18, 3) := by decide +kernel
theorem dX3_init_22 : decode cX3_init 22 = .ok (.return_, 1) := by decide +kernel
theorem dX3_isLost_0 : decode cX3_isLost 0 = .ok (.aload_n 0, 1) := by decide +kernel
theorem dX3_isLost_1 : decode cX3_isLost 1 = .ok (.getfield 9, 3) := by decide +kernel
theorem dX3_isLost_4 : decode cX3_isLost 4 = .ok (.iconst (-1), 1) := by decide +kernel
theorem dX3_isLost_5 : decode cX3_isLost 5 = .ok (.if_icmp .ne 7, 3) := by decide +kernel
theorem dX3_isLost_8 : decode cX3_isLost 8 = .ok (.iconst 1, 1) := by decide +kernel
theorem dX3_isLost_9 : decode cX3_isLost 9 = .ok (.goto 4, 3) := by decide +kernel
theorem dX3_isLost_12 : decode cX3_isLost 12 = .ok (.iconst 0, 1) := by decide +kernel
theorem dX3_isLost_13 : decode cX3_isLost 13 = .ok (.ireturn, 1) := by decide +kernel
theorem dX3_renew_0 : decode cX3_renew 0 = .ok (.aload_n 0, 1) := by decide +kernel
theorem dX3_renew_1 : decode cX3_renew 1 = .ok (.iload_n 1, 1) := by decide +kernel
theorem dX3_renew_2 : decode cX3_renew 2 = .ok (.putfield 9, 3) := by decide +kernel
theorem dX3_renew_5 : decode cX3_renew 5 = .ok (.aload_n 0, 1) := by decide +kernel
theorem dX3_renew_6 : decode cX3_renew 6 = .ok (.iconst 0, 1) := by decide +kernel
theorem dX3_renew_7 : decode cX3_renew 7 = .ok (.iload_n 2, 1) := by decide +kernel
theorem dX3_renew_8 : decode cX3_renew 8 = .ok (.bipush 60, 2) := by decide +kernel
theorem dX3_renew_10 : decode cX3_renew 10 = .ok (.invokestatic 22, 3) := by decide +kernel
theorem dX3_renew_13 : decode cX3_renew 13 = .ok (.invokestatic 28, 3) := by decide +kernel
theorem dX3_renew_16 : decode cX3_renew 16 = .ok (.putfield 15, 3) := by decide +kernel
theorem dX3_renew_19 : decode cX3_renew 19 = .ok (.aload_n 0, 1) := by decide +kernel
theorem dX3_renew_20 : decode cX3_renew 20 = .ok (.getfield 18, 3) := by decide +kernel
theorem dX3_renew_23 : decode cX3_renew 23 = .ok (.iconst 0, 1) := by decide +kernel
theorem dX3_renew_24 : decode cX3_renew 24 = .ok (.invokestatic 31, 3) := by decide +kernel
theorem dX3_renew_27 : decode cX3_renew 27 = .ok (.return_, 1) := by decide +kernel
theorem dX3_discard_0 : decode cX3_discard 0 = .ok (.aload_n 0, 1) := by decide +kernel
theorem dX3_discard_1 : decode cX3_discard 1 = .ok (.iconst (-1), 1) := by decide +kernel
theorem dX3_discard_2 : decode cX3_discard 2 = .ok (.putfield 9, 3) := by decide +kernel
theorem dX3_discard_5 : decode cX3_discard 5 = .ok (.aload_n 0, 1) := by decide +kernel
theorem dX3_discard_6 : decode cX3_discard 6 = .ok (.iconst 0, 1) := by decide +kernel
theorem dX3_discard_7 : decode cX3_discard 7 = .ok (.putfield 15, 3) := by decide +kernel
theorem dX3_discard_10 : decode cX3_discard 10 = .ok (.return_, 1) := by decide +kernel
theorem dX3_hindrance_0 : decode cX3_hindrance 0 = .ok (.aload_n 0, 1) := by decide +kernel
theorem dX3_hindrance_1 : decode cX3_hindrance 1 = .ok (.invokevirtual 37, 3) := by decide +kernel
theorem dX3_hindrance_4 : decode cX3_hindrance 4 = .ok (.ifCond .eq 5, 3) := by decide +kernel
theorem dX3_hindrance_7 : decode cX3_hindrance 7 = .ok (.iconst 1, 1) := by decide +kernel
theorem dX3_hindrance_8 : decode cX3_hindrance 8 = .ok (.ireturn, 1) := by decide +kernel
theorem dX3_hindrance_9 : decode cX3_hindrance 9 = .ok (.aload_n 0, 1) := by decide +kernel
theorem dX3_hindrance_10 : decode cX3_hindrance 10 = .ok (.getfield 9, 3) := by decide +kernel
theorem dX3_hindrance_13 : decode cX3_hindrance 13 = .ok (.iload_n 1, 1) := by decide +kernel
theorem dX3_hindrance_14 : decode cX3_hindrance 14 = .ok (.if_icmp .eq 5, 3) := by decide +kernel
theorem dX3_hindrance_17 : decode cX3_hindrance 17 = .ok (.iconst 3, 1) := by decide +kernel
theorem dX3_hindrance_18 : decode cX3_hindrance 18 = .ok (.ireturn, 1) := by decide +kernel
theorem dX3_hindrance_19 : decode cX3_hindrance 19 = .ok (.iload_n 2, 1) := by decide +kernel
theorem dX3_hindrance_20 : decode cX3_hindrance 20 = .ok (.ifCond .lt 11, 3) := by decide +kernel
theorem dX3_hindrance_23 : decode cX3_hindrance 23 = .ok (.iload_n 2, 1) := by decide +kernel
theorem dX3_hindrance_24 : decode cX3_hindrance 24 = .ok (.aload_n 0, 1) := by decide +kernel
theorem dX3_hindrance_25 : decode cX3_hindrance 25 = .ok (.getfield 15, 3) := by decide +kernel
theorem dX3_hindrance_28 : decode cX3_hindrance 28 = .ok (.if_icmp .lt 7, 3) := by decide +kernel
theorem dX3_hindrance_31 : decode cX3_hindrance 31 = .ok (.iconst 2, 1) := by decide +kernel
theorem dX3_hindrance_32 : decode cX3_hindrance 32 = .ok (.goto 4, 3) := by decide +kernel
theorem dX3_hindrance_35 : decode cX3_hindrance 35 = .ok (.iconst 0, 1) := by decide +kernel
theorem dX3_hindrance_36 : decode cX3_hindrance 36 = .ok (.ireturn, 1) := by decide +kernel
theorem dX3_hasItems_0 : decode cX3_hasItems 0 = .ok (.iload_n 1, 1) := by decide +kernel
theorem dX3_hasItems_1 : decode cX3_hasItems 1 = .ok (.ifCond .lt 29, 3) := by decide +kernel
theorem dX3_hasItems_4 : decode cX3_hasItems 4 = .ok (.iload_n 2, 1) := by decide +kernel
theorem dX3_hasItems_5 : decode cX3_hasItems 5 = .ok (.ifCond .lt 25, 3) := by decide +kernel
theorem dX3_hasItems_8 : decode cX3_hasItems 8 = .ok (.iload_n 1, 1) := by decide +kernel
theorem dX3_hasItems_9 : decode cX3_hasItems 9 = .ok (.aload_n 0, 1) := by decide +kernel
theorem dX3_hasItems_10 : decode cX3_hasItems 10 = .ok (.getfield 15, 3) := by decide +kernel
theorem dX3_hasItems_13 : decode cX3_hasItems 13 = .ok (.if_icmp .gt 17, 3) := by decide +kernel
theorem dX3_hasItems_16 : decode cX3_hasItems 16 = .ok (.iload_n 2, 1) := by decide +kernel
theorem dX3_hasItems_17 : decode cX3_hasItems 17 = .ok (.aload_n 0, 1) := by decide +kernel
theorem dX3_hasItems_18 : decode cX3_hasItems 18 = .ok (.getfield 15, 3) := by decide +kernel
theorem dX3_hasItems_21 : decode cX3_hasItems 21 = .ok (.iload_n 1, 1) := by decide +kernel
theorem dX3_hasItems_22 : decode cX3_hasItems 22 = .ok (.isub, 1) := by decide +kernel
theorem dX3_hasItems_23 : decode cX3_hasItems 23 = .ok (.if_icmp .gt 7, 3) := by decide +kernel
theorem dX3_hasItems_26 : decode cX3_hasItems 26 = .ok (.iconst 1, 1) := by decide +kernel
theorem dX3_hasItems_27 : decode cX3_hasItems 27 = .ok (.goto 4, 3) := by decide +kernel
theorem dX3_hasItems_30 : decode cX3_hasItems 30 = .ok (.iconst 0, 1) := by decide +kernel
theorem dX3_hasItems_31 : decode cX3_hasItems 31 = .ok (.ireturn, 1) := by decide +kernel
theorem dX3_item_0 : decode cX3_item 0 = .ok (.iload_n 1, 1) := by decide +kernel
theorem dX3_item_1 : decode cX3_item 1 = .ok (.ifCond .lt 26, 3) := by decide +kernel
theorem dX3_item_4 : decode cX3_item 4 = .ok (.iload_n 1, 1) := by decide +kernel
theorem dX3_item_5 : decode cX3_item 5 = .ok (.aload_n 0, 1) := by decide +kernel
theorem dX3_item_6 : decode cX3_item 6 = .ok (.getfield 15, 3) := by decide +kernel
theorem dX3_item_9 : decode cX3_item 9 = .ok (.if_icmp .ge 18, 3) := by decide +kernel
theorem dX3_item_12 : decode cX3_item 12 = .ok (.iload_n 1, 1) := by decide +kernel
theorem dX3_item_13 : decode cX3_item 13 = .ok (.bipush 60, 2) := by decide +kernel
theorem dX3_item_15 : decode cX3_item 15 = .ok (.if_icmp .ge 12, 3) := by decide +kernel
theorem dX3_item_18 : decode cX3_item 18 = .ok (.aload_n 0, 1) := by decide +kernel
theorem dX3_item_19 : decode cX3_item 19 = .ok (.getfield 18, 3) := by decide +kernel
theorem dX3_item_22 : decode cX3_item 22 = .ok (.iload_n 1, 1) := by decide +kernel
theorem dX3_item_23 : decode cX3_item 23 = .ok (.iaload, 1) := by decide +kernel
theorem dX3_item_24 : decode cX3_item 24 = .ok (.goto 4, 3) := by decide +kernel
theorem dX3_item_27 : decode cX3_item 27 = .ok (.iconst 0, 1) := by decide +kernel
theorem dX3_item_28 : decode cX3_item 28 = .ok (.ireturn, 1) := by decide +kernel
theorem dX3_setItem_0 : decode cX3_setItem 0 = .ok (.iload_n 1, 1) := by decide +kernel
theorem dX3_setItem_1 : decode cX3_setItem 1 = .ok (.ifCond .lt 49, 3) := by decide +kernel
theorem dX3_setItem_4 : decode cX3_setItem 4 = .ok (.iload_n 1, 1) := by decide +kernel
theorem dX3_setItem_5 : decode cX3_setItem 5 = .ok (.aload_n 0, 1) := by decide +kernel
theorem dX3_setItem_6 : decode cX3_setItem 6 = .ok (.getfield 15, 3) := by decide +kernel
theorem dX3_setItem_9 : decode cX3_setItem 9 = .ok (.if_icmp .ge 41, 3) := by decide +kernel
theorem dX3_setItem_12 : decode cX3_setItem 12 = .ok (.iload_n 1, 1) := by decide +kernel
theorem dX3_setItem_13 : decode cX3_setItem 13 = .ok (.bipush 60, 2) := by decide +kernel
theorem dX3_setItem_15 : decode cX3_setItem 15 = .ok (.if_icmp .ge 35, 3) := by decide +kernel
theorem dX3_setItem_18 : decode cX3_setItem 18 = .ok (.aload_n 0, 1) := by decide +kernel
theorem dX3_setItem_19 : decode cX3_setItem 19 = .ok (.getfield 18, 3) := by decide +kernel
theorem dX3_setItem_22 : decode cX3_setItem 22 = .ok (.iload_n 1, 1) := by decide +kernel
theorem dX3_setItem_23 : decode cX3_setItem 23 = .ok (.aload_n 0, 1) := by decide +kernel
theorem dX3_setItem_24 : decode cX3_setItem 24 = .ok (.getfield 9, 3) := by decide +kernel
theorem dX3_setItem_27 : decode cX3_setItem 27 = .ok (.ifCond .ne 8, 3) := by decide +kernel
theorem dX3_setItem_30 : decode cX3_setItem 30 = .ok (.iload_n 2, 1) := by decide +kernel
theorem dX3_setItem_31 : decode cX3_setItem 31 = .ok (.i2b, 1) := by decide +kernel
theorem dX3_setItem_32 : decode cX3_setItem 32 = .ok (.goto 17, 3) := by decide +kernel
theorem dX3_setItem_35 : decode cX3_setItem 35 = .ok (.aload_n 0, 1) := by decide +kernel
theorem dX3_setItem_36 : decode cX3_setItem 36 = .ok (.getfield 9, 3) := by decide +kernel
theorem dX3_setItem_39 : decode cX3_setItem 39 = .ok (.iconst 1, 1) := by decide +kernel
theorem dX3_setItem_40 : decode cX3_setItem 40 = .ok (.if_icmp .ne 8, 3) := by decide +kernel
theorem dX3_setItem_43 : decode cX3_setItem 43 = .ok (.iload_n 2, 1) := by decide +kernel
theorem dX3_setItem_44 : decode cX3_setItem 44 = .ok (.i2s, 1) := by decide +kernel
theorem dX3_setItem_45 : decode cX3_setItem 45 = .ok (.goto 4, 3) := by decide +kernel
theorem dX3_setItem_48 : decode cX3_setItem 48 = .ok (.iload_n 2, 1) := by decide +kernel
theorem dX3_setItem_49 : decode cX3_setItem 49 = .ok (.iastore, 1) := by decide +kernel
theorem dX3_setItem_50 : decode cX3_setItem 50 = .ok (.return_, 1) := by decide +kernel
theorem dX4_init_0 : decode cX4_init 0 = .ok (.aload_n 0, 1) := by decide +kernel
theorem dX4_init_1 : decode cX4_init 1 = .ok (.invokespecial 3, 3) := by decide +kernel
theorem dX4_init_4 : decode cX4_init 4 = .ok (.aload_n 0, 1) := by decide +kernel
theorem dX4_init_5 : decode cX4_init 5 = .ok (.iconst 0, 1) := by decide +kernel
theorem dX4_init_6 : decode cX4_init 6 = .ok (.putfield 9, 3) := by decide +kernel
theorem dX4_init_9 : decode cX4_init 9 = .ok (.aload_n 0, 1) := by decide +kernel
theorem dX4_init_10 : decode cX4_init 10 = .ok (.bipush 8, 2) := by decide +kernel
theorem dX4_init_12 : decode cX4_init 12 = .ok (.newarray .int, 2) := by decide +kernel
theorem dX4_init_14 : decode cX4_init 14 = .ok (.putfield 15, 3) := by decide +kernel
theorem dX4_init_17 : decode cX4_init 17 = .ok (.aload_n 0, 1) := by decide +kernel
theorem dX4_init_18 : decode cX4_init 18 = .ok (.bipush 8, 2) := by decide +kernel
theorem dX4_init_20 : decode cX4_init 20 = .ok (.newarray .int, 2) := by decide +kernel
theorem dX4_init_22 : decode cX4_init 22 = .ok (.putfield 19, 3) := by decide +kernel
theorem dX4_init_25 : decode cX4_init 25 = .ok (.return_, 1) := by decide +kernel
theorem dX4_isSighting_0 : decode cX4_isSighting 0 = .ok (.iload_n 1, 1) := by decide +kernel
theorem dX4_isSighting_1 : decode cX4_isSighting 1 = .ok (.ifCond .lt 23, 3) := by decide +kernel
theorem dX4_isSighting_4 : decode cX4_isSighting 4 = .ok (.iload_n 1, 1) := by decide +kernel
theorem dX4_isSighting_5 : decode cX4_isSighting 5 = .ok (.bipush 12, 2) := by decide +kernel
theorem dX4_isSighting_7 : decode cX4_isSighting 7 = .ok (.if_icmp .ge 17, 3) := by decide +kernel
theorem dX4_isSighting_10 : decode cX4_isSighting 10 = .ok (.iload_n 2, 1) := by decide +kernel
theorem dX4_isSighting_11 : decode cX4_isSighting 11 = .ok (.ifCond .lt 13, 3) := by decide +kernel
theorem dX4_isSighting_14 : decode cX4_isSighting 14 = .ok (.iload_n 2, 1) := by decide +kernel
theorem dX4_isSighting_15 : decode cX4_isSighting 15 = .ok (.bipush 8, 2) := by decide +kernel
theorem dX4_isSighting_17 : decode cX4_isSighting 17 = .ok (.if_icmp .gt 7, 3) := by decide +kernel
theorem dX4_isSighting_20 : decode cX4_isSighting 20 = .ok (.iconst 1, 1) := by decide +kernel
theorem dX4_isSighting_21 : decode cX4_isSighting 21 = .ok (.goto 4, 3) := by decide +kernel
theorem dX4_isSighting_24 : decode cX4_isSighting 24 = .ok (.iconst 0, 1) := by decide +kernel
theorem dX4_isSighting_25 : decode cX4_isSighting 25 = .ok (.ireturn, 1) := by decide +kernel
theorem dX4_isFull_0 : decode cX4_isFull 0 = .ok (.aload_n 0, 1) := by decide +kernel
theorem dX4_isFull_1 : decode cX4_isFull 1 = .ok (.getfield 9, 3) := by decide +kernel
theorem dX4_isFull_4 : decode cX4_isFull 4 = .ok (.bipush 8, 2) := by decide +kernel
theorem dX4_isFull_6 : decode cX4_isFull 6 = .ok (.if_icmp .lt 7, 3) := by decide +kernel
theorem dX4_isFull_9 : decode cX4_isFull 9 = .ok (.iconst 1, 1) := by decide +kernel
theorem dX4_isFull_10 : decode cX4_isFull 10 = .ok (.goto 4, 3) := by decide +kernel
theorem dX4_isFull_13 : decode cX4_isFull 13 = .ok (.iconst 0, 1) := by decide +kernel
theorem dX4_isFull_14 : decode cX4_isFull 14 = .ok (.ireturn, 1) := by decide +kernel
theorem dX4_append_0 : decode cX4_append 0 = .ok (.aload_n 0, 1) := by decide +kernel
theorem dX4_append_1 : decode cX4_append 1 = .ok (.getfield 9, 3) := by decide +kernel
theorem dX4_append_4 : decode cX4_append 4 = .ok (.ifCond .lt 42, 3) := by decide +kernel
theorem dX4_append_7 : decode cX4_append 7 = .ok (.aload_n 0, 1) := by decide +kernel
theorem dX4_append_8 : decode cX4_append 8 = .ok (.getfield 9, 3) := by decide +kernel
theorem dX4_append_11 : decode cX4_append 11 = .ok (.bipush 8, 2) := by decide +kernel
theorem dX4_append_13 : decode cX4_append 13 = .ok (.if_icmp .ge 33, 3) := by decide +kernel
theorem dX4_append_16 : decode cX4_append 16 = .ok (.aload_n 0, 1) := by decide +kernel
theorem dX4_append_17 : decode cX4_append 17 = .ok (.getfield 15, 3) := by decide +kernel
theorem dX4_append_20 : decode cX4_append 20 = .ok (.aload_n 0, 1) := by decide +kernel
theorem dX4_append_21 : decode cX4_append 21 = .ok (.getfield 9, 3) := by decide +kernel
theorem dX4_append_24 : decode cX4_append 24 = .ok (.iload_n 1, 1) := by decide +kernel
theorem dX4_append_25 : decode cX4_append 25 = .ok (.iastore, 1) := by decide +kernel
theorem dX4_append_26 : decode cX4_append 26 = .ok (.aload_n 0, 1) := by decide +kernel
theorem dX4_append_27 : decode cX4_append 27 = .ok (.getfield 19, 3) := by decide +kernel
theorem dX4_append_30 : decode cX4_append 30 = .ok (.aload_n 0, 1) := by decide +kernel
theorem dX4_append_31 : decode cX4_append 31 = .ok (.getfield 9, 3) := by decide +kernel
theorem dX4_append_34 : decode cX4_append 34 = .ok (.iload_n 2, 1) := by decide +kernel
theorem dX4_append_35 : decode cX4_append 35 = .ok (.iastore, 1) := by decide +kernel
theorem dX4_append_36 : decode cX4_append 36 = .ok (.aload_n 0, 1) := by decide +kernel
theorem dX4_append_37 : decode cX4_append 37 = .ok (.dup, 1) := by decide +kernel
theorem dX4_append_38 : decode cX4_append 38 = .ok (.getfield 9, 3) := by decide +kernel
theorem dX4_append_41 : decode cX4_append 41 = .ok (.iconst 1, 1) := by decide +kernel
theorem dX4_append_42 : decode cX4_append 42 = .ok (.iadd, 1) := by decide +kernel
theorem dX4_append_43 : decode cX4_append 43 = .ok (.putfield 9, 3) := by decide +kernel
theorem dX4_append_46 : decode cX4_append 46 = .ok (.return_, 1) := by decide +kernel
theorem dX4_comeOutSo_0 : decode cX4_comeOutSo 0 = .ok (.iconst 0, 1) := by decide +kernel
theorem dX4_comeOutSo_1 : decode cX4_comeOutSo 1 = .ok (.istore_n 2, 1) := by decide +kernel
theorem dX4_comeOutSo_2 : decode cX4_comeOutSo 2 = .ok (.iload_n 2, 1) := by decide +kernel
theorem dX4_comeOutSo_3 : decode cX4_comeOutSo 3 = .ok (.aload_n 0, 1) := by decide +kernel
theorem dX4_comeOutSo_4 : decode cX4_comeOutSo 4 = .ok (.getfield 9, 3) := by decide +kernel
theorem dX4_comeOutSo_7 : decode cX4_comeOutSo 7 = .ok (.if_icmp .ge 69, 3) := by decide +kernel
theorem dX4_comeOutSo_10 : decode cX4_comeOutSo 10 = .ok (.iload_n 2, 1) := by decide +kernel
theorem dX4_comeOutSo_11 : decode cX4_comeOutSo 11 = .ok (.bipush 8, 2) := by decide +kernel
theorem dX4_comeOutSo_13 : decode cX4_comeOutSo 13 = .ok (.if_icmp .ge 63, 3) := by decide +kernel
theorem dX4_comeOutSo_16 : decode cX4_comeOutSo 16 = .ok (.aload_n 0, 1) := by decide +kernel
theorem dX4_comeOutSo_17 : decode cX4_comeOutSo 17 = .ok (.getfield 19, 3) := by decide +kernel
theorem dX4_comeOutSo_20 : decode cX4_comeOutSo 20 = .ok (.iload_n 2, 1) := by decide +kernel
theorem dX4_comeOutSo_21 : decode cX4_comeOutSo 21 = .ok (.iaload, 1) := by decide +kernel
theorem dX4_comeOutSo_22 : decode cX4_comeOutSo 22 = .ok (.bipush 8, 2) := by decide +kernel
theorem dX4_comeOutSo_24 : decode cX4_comeOutSo 24 = .ok (.if_icmp .ne 7, 3) := by decide +kernel
theorem dX4_comeOutSo_27 : decode cX4_comeOutSo 27 = .ok (.iconst (-1), 1) := by decide +kernel
theorem dX4_comeOutSo_28 : decode cX4_comeOutSo 28 = .ok (.goto 9, 3) := by decide +kernel
theorem dX4_comeOutSo_31 : decode cX4_comeOutSo 31 = .ok (.aload_n 0, 1) := by decide +kernel
theorem dX4_comeOutSo_32 : decode cX4_comeOutSo 32 = .ok (.getfield 19, 3) := by decide +kernel
theorem dX4_comeOutSo_35 : decode cX4_comeOutSo 35 = .ok (.iload_n 2, 1) := by decide +kernel
theorem dX4_comeOutSo_36 : decode cX4_comeOutSo 36 = .ok (.iaload, 1) := by decide +kernel
theorem dX4_comeOutSo_37 : decode cX4_comeOutSo 37 = .ok (.istore_n 3, 1) := by decide +kernel
theorem dX4_comeOutSo_38 : decode cX4_comeOutSo 38 = .ok (.aload_n 0, 1) := by decide +kernel
theorem dX4_comeOutSo_39 : decode cX4_comeOutSo 39 = .ok (.getfield 15, 3) := by decide +kernel
theorem dX4_comeOutSo_42 : decode cX4_comeOutSo 42 = .ok (.iload_n 2, 1) := by decide +kernel
theorem dX4_comeOutSo_43 : decode cX4_comeOutSo 43 = .ok (.iaload, 1) := by decide +kernel
theorem dX4_comeOutSo_44 : decode cX4_comeOutSo 44 = .ok (.aload_n 1, 1) := by decide +kernel
theorem dX4_comeOutSo_45 : decode cX4_comeOutSo 45 = .ok (.getfield 22, 3) := by decide +kernel
theorem dX4_comeOutSo_48 : decode cX4_comeOutSo 48 = .ok (.getfield 28, 3) := by decide +kernel
theorem dX4_comeOutSo_51 : decode cX4_comeOutSo 51 = .ok (.if_icmp .ge 17, 3) := by decide +kernel
theorem dX4_comeOutSo_54 : decode cX4_comeOutSo 54 = .ok (.aload_n 1, 1) := by decide +kernel
theorem dX4_comeOutSo_55 : decode cX4_comeOutSo 55 = .ok (.aload_n 0, 1) := by decide +kernel
theorem dX4_comeOutSo_56 : decode cX4_comeOutSo 56 = .ok (.getfield 15, 3) := by decide +kernel
theorem dX4_comeOutSo_59 : decode cX4_comeOutSo 59 = .ok (.iload_n 2, 1) := by decide +kernel
theorem dX4_comeOutSo_60 : decode cX4_comeOutSo 60 = .ok (.iaload, 1) := by decide +kernel
theorem dX4_comeOutSo_61 : decode cX4_comeOutSo 61 = .ok (.invokevirtual 32, 3) := by decide +kernel
theorem dX4_comeOutSo_64 : decode cX4_comeOutSo 64 = .ok (.iload_n 3, 1) := by decide +kernel
theorem dX4_comeOutSo_65 : decode cX4_comeOutSo 65 = .ok (.if_icmp .eq 5, 3) := by decide +kernel
theorem dX4_comeOutSo_68 : decode cX4_comeOutSo 68 = .ok (.iconst 0, 1) := by decide +kernel
theorem dX4_comeOutSo_69 : decode cX4_comeOutSo 69 = .ok (.ireturn, 1) := by decide +kernel
theorem dX4_comeOutSo_70 : decode cX4_comeOutSo 70 = .ok (.iinc 2 1, 3) := by decide +kernel
theorem dX4_comeOutSo_73 : decode cX4_comeOutSo 73 = .ok (.goto (-71), 3) := by decide +kernel
theorem dX4_comeOutSo_76 : decode cX4_comeOutSo 76 = .ok (.iconst 1, 1) := by decide +kernel
theorem dX4_comeOutSo_77 : decode cX4_comeOutSo 77 = .ok (.ireturn, 1) := by decide +kernel
theorem dJ6_bitCount_0f7a4_0 : decode cJ6_bitCount_0f7a4 0 = .ok (.iload_n 0, 1) := by decide +kernel
theorem dJ6_bitCount_0f7a4_1 : decode cJ6_bitCount_0f7a4 1 = .ok (.iload_n 0, 1) := by decide +kernel
theorem dJ6_bitCount_0f7a4_2 : decode cJ6_bitCount_0f7a4 2 = .ok (.iconst 1, 1) := by decide +kernel
theorem dJ6_bitCount_0f7a4_3 : decode cJ6_bitCount_0f7a4 3 = .ok (.iushr, 1) := by decide +kernel
theorem dJ6_bitCount_0f7a4_4 : decode cJ6_bitCount_0f7a4 4 = .ok (.ldc_w 265, 3) := by decide +kernel
theorem dJ6_bitCount_0f7a4_7 : decode cJ6_bitCount_0f7a4 7 = .ok (.iand, 1) := by decide +kernel
theorem dJ6_bitCount_0f7a4_8 : decode cJ6_bitCount_0f7a4 8 = .ok (.isub, 1) := by decide +kernel
theorem dJ6_bitCount_0f7a4_9 : decode cJ6_bitCount_0f7a4 9 = .ok (.istore_n 0, 1) := by decide +kernel
theorem dJ6_bitCount_0f7a4_10 : decode cJ6_bitCount_0f7a4 10 = .ok (.iload_n 0, 1) := by decide +kernel
theorem dJ6_bitCount_0f7a4_11 : decode cJ6_bitCount_0f7a4 11 = .ok (.ldc_w 266, 3) := by decide +kernel
theorem dJ6_bitCount_0f7a4_14 : decode cJ6_bitCount_0f7a4 14 = .ok (.iand, 1) := by decide +kernel
theorem dJ6_bitCount_0f7a4_15 : decode cJ6_bitCount_0f7a4 15 = .ok (.iload_n 0, 1) := by decide +kernel
theorem dJ6_bitCount_0f7a4_16 : decode cJ6_bitCount_0f7a4 16 = .ok (.iconst 2, 1) := by decide +kernel
theorem dJ6_bitCount_0f7a4_17 : decode cJ6_bitCount_0f7a4 17 = .ok (.iushr, 1) := by decide +kernel
theorem dJ6_bitCount_0f7a4_18 : decode cJ6_bitCount_0f7a4 18 = .ok (.ldc_w 266, 3) := by decide +kernel
theorem dJ6_bitCount_0f7a4_21 : decode cJ6_bitCount_0f7a4 21 = .ok (.iand, 1) := by decide +kernel
theorem dJ6_bitCount_0f7a4_22 : decode cJ6_bitCount_0f7a4 22 = .ok (.iadd, 1) := by decide +kernel
theorem dJ6_bitCount_0f7a4_23 : decode cJ6_bitCount_0f7a4 23 = .ok (.istore_n 0, 1) := by decide +kernel
theorem dJ6_bitCount_0f7a4_24 : decode cJ6_bitCount_0f7a4 24 = .ok (.iload_n 0, 1) := by decide +kernel
theorem dJ6_bitCount_0f7a4_25 : decode cJ6_bitCount_0f7a4 25 = .ok (.iload_n 0, 1) := by decide +kernel
theorem dJ6_bitCount_0f7a4_26 : decode cJ6_bitCount_0f7a4 26 = .ok (.iconst 4, 1) := by decide +kernel
theorem dJ6_bitCount_0f7a4_27 : decode cJ6_bitCount_0f7a4 27 = .ok (.iushr, 1) := by decide +kernel
theorem dJ6_bitCount_0f7a4_28 : decode cJ6_bitCount_0f7a4 28 = .ok (.iadd, 1) := by decide +kernel
theorem dJ6_bitCount_0f7a4_29 : decode cJ6_bitCount_0f7a4 29 = .ok (.ldc_w 267, 3) := by decide +kernel
theorem dJ6_bitCount_0f7a4_32 : decode cJ6_bitCount_0f7a4 32 = .ok (.iand, 1) := by decide +kernel
theorem dJ6_bitCount_0f7a4_33 : decode cJ6_bitCount_0f7a4 33 = .ok (.istore_n 0, 1) := by decide +kernel
theorem dJ6_bitCount_0f7a4_34 : decode cJ6_bitCount_0f7a4 34 = .ok (.iload_n 0, 1) := by decide +kernel
theorem dJ6_bitCount_0f7a4_35 : decode cJ6_bitCount_0f7a4 35 = .ok (.iload_n 0, 1) := by decide +kernel
theorem dJ6_bitCount_0f7a4_36 : decode cJ6_bitCount_0f7a4 36 = .ok (.bipush 8, 2) := by decide +kernel
theorem dJ6_bitCount_0f7a4_38 : decode cJ6_bitCount_0f7a4 38 = .ok (.iushr, 1) := by decide +kernel
theorem dJ6_bitCount_0f7a4_39 : decode cJ6_bitCount_0f7a4 39 = .ok (.iadd, 1) := by decide +kernel
theorem dJ6_bitCount_0f7a4_40 : decode cJ6_bitCount_0f7a4 40 = .ok (.istore_n 0, 1) := by decide +kernel
theorem dJ6_bitCount_0f7a4_41 : decode cJ6_bitCount_0f7a4 41 = .ok (.iload_n 0, 1) := by decide +kernel
theorem dJ6_bitCount_0f7a4_42 : decode cJ6_bitCount_0f7a4 42 = .ok (.iload_n 0, 1) := by decide +kernel
theorem dJ6_bitCount_0f7a4_43 : decode cJ6_bitCount_0f7a4 43 = .ok (.bipush 16, 2) := by decide +kernel
theorem dJ6_bitCount_0f7a4_45 : decode cJ6_bitCount_0f7a4 45 = .ok (.iushr, 1) := by decide +kernel
theorem dJ6_bitCount_0f7a4_46 : decode cJ6_bitCount_0f7a4 46 = .ok (.iadd, 1) := by decide +kernel
theorem dJ6_bitCount_0f7a4_47 : decode cJ6_bitCount_0f7a4 47 = .ok (.istore_n 0, 1) := by decide +kernel
theorem dJ6_bitCount_0f7a4_48 : decode cJ6_bitCount_0f7a4 48 = .ok (.iload_n 0, 1) := by decide +kernel
theorem dJ6_bitCount_0f7a4_49 : decode cJ6_bitCount_0f7a4 49 = .ok (.bipush 63, 2) := by decide +kernel
theorem dJ6_bitCount_0f7a4_51 : decode cJ6_bitCount_0f7a4 51 = .ok (.iand, 1) := by decide +kernel
theorem dJ6_bitCount_0f7a4_52 : decode cJ6_bitCount_0f7a4 52 = .ok (.ireturn, 1) := by decide +kernel
theorem dJ9_max_7cf53_0 : decode cJ9_max_7cf53 0 = .ok (.iload_n 0, 1) := by decide +kernel
theorem dJ9_max_7cf53_1 : decode cJ9_max_7cf53 1 = .ok (.iload_n 1, 1) := by decide +kernel
theorem dJ9_max_7cf53_2 : decode cJ9_max_7cf53 2 = .ok (.if_icmp .lt 7, 3) := by decide +kernel
theorem dJ9_max_7cf53_5 : decode cJ9_max_7cf53 5 = .ok (.iload_n 0, 1) := by decide +kernel
theorem dJ9_max_7cf53_6 : decode cJ9_max_7cf53 6 = .ok (.goto 4, 3) := by decide +kernel
theorem dJ9_max_7cf53_9 : decode cJ9_max_7cf53 9 = .ok (.iload_n 1, 1) := by decide +kernel
theorem dJ9_max_7cf53_10 : decode cJ9_max_7cf53 10 = .ok (.ireturn, 1) := by decide +kernel
theorem dJ9_min_7cf53_0 : decode cJ9_min_7cf53 0 = .ok (.iload_n 0, 1) := by decide +kernel
theorem dJ9_min_7cf53_1 : decode cJ9_min_7cf53 1 = .ok (.iload_n 1, 1) := by decide +kernel
theorem dJ9_min_7cf53_2 : decode cJ9_min_7cf53 2 = .ok (.if_icmp .gt 7, 3) := by decide +kernel
theorem dJ9_min_7cf53_5 : decode cJ9_min_7cf53 5 = .ok (.iload_n 0, 1) := by decide +kernel
theorem dJ9_min_7cf53_6 : decode cJ9_min_7cf53 6 = .ok (.goto 4, 3) := by decide +kernel
theorem dJ9_min_7cf53_9 : decode cJ9_min_7cf53 9 = .ok (.iload_n 1, 1) := by decide +kernel
theorem dJ9_min_7cf53_10 : decode cJ9_min_7cf53 10 = .ok (.ireturn, 1) := by decide +kernel
theorem dJ7_fill_d0a16_0 : decode cJ7_fill_d0a16 0 = .ok (.iconst 0, 1) := by decide +kernel
theorem dJ7_fill_d0a16_1 : decode cJ7_fill_d0a16 1 = .ok (.istore_n 3, 1) := by decide +kernel
theorem dJ7_fill_d0a16_2 : decode cJ7_fill_d0a16 2 = .ok (.aload_n 0, 1) := by decide +kernel
theorem dJ7_fill_d0a16_3 : decode cJ7_fill_d0a16 3 = .ok (.arraylength, 1) := by decide +kernel
theorem dJ7_fill_d0a16_4 : decode cJ7_fill_d0a16 4 = .ok (.istore 4, 2) := by decide +kernel
theorem dJ7_fill_d0a16_6 : decode cJ7_fill_d0a16 6 = .ok (.iload_n 3, 1) := by decide +kernel
theorem dJ7_fill_d0a16_7 : decode cJ7_fill_d0a16 7 = .ok (.iload 4, 2) := by decide +kernel
theorem dJ7_fill_d0a16_9 : decode cJ7_fill_d0a16 9 = .ok (.if_icmp .ge 13, 3) := by decide +kernel
theorem dJ7_fill_d0a16_12 : decode cJ7_fill_d0a16 12 = .ok (.aload_n 0, 1) := by decide +kernel
theorem dJ7_fill_d0a16_13 : decode cJ7_fill_d0a16 13 = .ok (.iload_n 3, 1) := by decide +kernel
theorem dJ7_fill_d0a16_14 : decode cJ7_fill_d0a16 14 = .ok (.lload_n 1, 1) := by decide +kernel
theorem dJ7_fill_d0a16_15 : decode cJ7_fill_d0a16 15 = .ok (.lastore, 1) := by decide +kernel
theorem dJ7_fill_d0a16_16 : decode cJ7_fill_d0a16 16 = .ok (.iinc 3 1, 3) := by decide +kernel
theorem dJ7_fill_d0a16_19 : decode cJ7_fill_d0a16 19 = .ok (.goto (-13), 3) := by decide +kernel
theorem dJ7_fill_d0a16_22 : decode cJ7_fill_d0a16 22 = .ok (.return_, 1) := by decide +kernel
theorem dJ7_fill_53178_0 : decode cJ7_fill_53178 0 = .ok (.iconst 0, 1) := by decide +kernel
theorem dJ7_fill_53178_1 : decode cJ7_fill_53178 1 = .ok (.istore_n 2, 1) := by decide +kernel
theorem dJ7_fill_53178_2 : decode cJ7_fill_53178 2 = .ok (.aload_n 0, 1) := by decide +kernel
theorem dJ7_fill_53178_3 : decode cJ7_fill_53178 3 = .ok (.arraylength, 1) := by decide +kernel
theorem dJ7_fill_53178_4 : decode cJ7_fill_53178 4 = .ok (.istore_n 3, 1) := by decide +kernel
theorem dJ7_fill_53178_5 : decode cJ7_fill_53178 5 = .ok (.iload_n 2, 1) := by decide +kernel
theorem dJ7_fill_53178_6 : decode cJ7_fill_53178 6 = .ok (.iload_n 3, 1) := by decide +kernel
theorem dJ7_fill_53178_7 : decode cJ7_fill_53178 7 = .ok (.if_icmp .ge 13, 3) := by decide +kernel
theorem dJ7_fill_53178_10 : decode cJ7_fill_53178 10 = .ok (.aload_n 0, 1) := by decide +kernel
theorem dJ7_fill_53178_11 : decode cJ7_fill_53178 11 = .ok (.iload_n 2, 1) := by decide +kernel
theorem dJ7_fill_53178_12 : decode cJ7_fill_53178 12 = .ok (.iload_n 1, 1) := by decide +kernel
theorem dJ7_fill_53178_13 : decode cJ7_fill_53178 13 = .ok (.iastore, 1) := by decide +kernel
theorem dJ7_fill_53178_14 : decode cJ7_fill_53178 14 = .ok (.iinc 2 1, 3) := by decide +kernel
theorem dJ7_fill_53178_17 : decode cJ7_fill_53178 17 = .ok (.goto (-12), 3) := by decide +kernel
theorem dJ7_fill_53178_20 : decode cJ7_fill_53178 20 = .ok (.return_, 1) := by decide +kernel
