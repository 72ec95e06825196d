-- decode rows (printed)
theorem dX0_init_0 : decode cX0_init 0 = .ok (.aload_n 0, 1) := by decide +kernel
theorem dX0_init_1 : decode cX0_init 1 = .ok (.invokespecial 3, 3) := by decide +kernel
theorem dX0_init_4 : decode cX0_init 4 = .ok (.aload_n 0, 1) := by decide +kernel
theorem dX0_init_5 : decode cX0_init 5 = .ok (.iconst 0, 1) := by decide +kernel
theorem dX0_init_6 : decode cX0_init 6 = .ok (.putfield 9, 3) := by decide +kernel
theorem dX0_init_9 : decode cX0_init 9 = .ok (.aload_n 0, 1) := by decide +kernel
theorem dX0_init_10 : decode cX0_init 10 = .ok (.iconst 0, 1) := by decide +kernel
theorem dX0_init_11 : decode cX0_init 11 = .ok (.putfield 15, 3) := by decide +kernel
theorem dX0_init_14 : decode cX0_init 14 = .ok (.aload_n 0, 1) := by decide +kernel
theorem dX0_init_15 : decode cX0_init 15 = .ok (.iconst 0, 1) := by decide +kernel
theorem dX0_init_16 : decode cX0_init 16 = .ok (.putfield 18, 3) := by decide +kernel
theorem dX0_init_19 : decode cX0_init 19 = .ok (.aload_n 0, 1) := by decide +kernel
theorem dX0_init_20 : decode cX0_init 20 = .ok (.iconst 0, 1) := by decide +kernel
theorem dX0_init_21 : decode cX0_init 21 = .ok (.putfield 21, 3) := by decide +kernel
theorem dX0_init_24 : decode cX0_init 24 = .ok (.aload_n 0, 1) := by decide +kernel
theorem dX0_init_25 : decode cX0_init 25 = .ok (.new 24, 3) := by decide +kernel
theorem dX0_init_28 : decode cX0_init 28 = .ok (.dup, 1) := by decide +kernel
theorem dX0_init_29 : decode cX0_init 29 = .ok (.invokespecial 26, 3) := by decide +kernel
theorem dX0_init_32 : decode cX0_init 32 = .ok (.putfield 27, 3) := by decide +kernel
theorem dX0_init_35 : decode cX0_init 35 = .ok (.aload_n 0, 1) := by decide +kernel
theorem dX0_init_36 : decode cX0_init 36 = .ok (.bipush 8, 2) := by decide +kernel
theorem dX0_init_38 : decode cX0_init 38 = .ok (.newarray .int, 2) := by decide +kernel
theorem dX0_init_40 : decode cX0_init 40 = .ok (.putfield 31, 3) := by decide +kernel
theorem dX0_init_43 : decode cX0_init 43 = .ok (.aload_n 0, 1) := by decide +kernel
theorem dX0_init_44 : decode cX0_init 44 = .ok (.bipush 8, 2) := by decide +kernel
theorem dX0_init_46 : decode cX0_init 46 = .ok (.newarray .int, 2) := by decide +kernel
theorem dX0_init_48 : decode cX0_init 48 = .ok (.putfield 35, 3) := by decide +kernel
theorem dX0_init_51 : decode cX0_init 51 = .ok (.aload_n 0, 1) := by decide +kernel
theorem dX0_init_52 : decode cX0_init 52 = .ok (.bipush 7, 2) := by decide +kernel
theorem dX0_init_54 : decode cX0_init 54 = .ok (.newarray .int, 2) := by decide +kernel
theorem dX0_init_56 : decode cX0_init 56 = .ok (.putfield 38, 3) := by decide +kernel
theorem dX0_init_59 : decode cX0_init 59 = .ok (.aload_n 0, 1) := by decide +kernel
theorem dX0_init_60 : decode cX0_init 60 = .ok (.bipush 7, 2) := by decide +kernel
theorem dX0_init_62 : decode cX0_init 62 = .ok (.newarray .int, 2) := by decide +kernel
theorem dX0_init_64 : decode cX0_init 64 = .ok (.putfield 41, 3) := by decide +kernel
theorem dX0_init_67 : decode cX0_init 67 = .ok (.aload_n 0, 1) := by decide +kernel
theorem dX0_init_68 : decode cX0_init 68 = .ok (.bipush 7, 2) := by decide +kernel
theorem dX0_init_70 : decode cX0_init 70 = .ok (.newarray .int, 2) := by decide +kernel
theorem dX0_init_72 : decode cX0_init 72 = .ok (.putfield 44, 3) := by decide +kernel
theorem dX0_init_75 : decode cX0_init 75 = .ok (.aload_n 0, 1) := by decide +kernel
theorem dX0_init_76 : decode cX0_init 76 = .ok (.bipush 7, 2) := by decide +kernel
theorem dX0_init_78 : decode cX0_init 78 = .ok (.newarray .int, 2) := by decide +kernel
theorem dX0_init_80 : decode cX0_init 80 = .ok (.putfield 47, 3) := by decide +kernel
theorem dX0_init_83 : decode cX0_init 83 = .ok (.aload_n 0, 1) := by decide +kernel
theorem dX0_init_84 : decode cX0_init 84 = .ok (.sipush 168, 3) := by decide +kernel
theorem dX0_init_87 : decode cX0_init 87 = .ok (.newarray .int, 2) := by decide +kernel
theorem dX0_init_89 : decode cX0_init 89 = .ok (.putfield 50, 3) := by decide +kernel
theorem dX0_init_92 : decode cX0_init 92 = .ok (.aload_n 0, 1) := by decide +kernel
theorem dX0_init_93 : decode cX0_init 93 = .ok (.iconst 0, 1) := by decide +kernel
theorem dX0_init_94 : decode cX0_init 94 = .ok (.putfield 53, 3) := by decide +kernel
theorem dX0_init_97 : decode cX0_init 97 = .ok (.return_, 1) := by decide +kernel
theorem dX0_clear_0 : decode cX0_clear 0 = .ok (.aload_n 0, 1) := by decide +kernel
theorem dX0_clear_1 : decode cX0_clear 1 = .ok (.iconst 0, 1) := by decide +kernel
theorem dX0_clear_2 : decode cX0_clear 2 = .ok (.putfield 9, 3) := by decide +kernel
theorem dX0_clear_5 : decode cX0_clear 5 = .ok (.aload_n 0, 1) := by decide +kernel
theorem dX0_clear_6 : decode cX0_clear 6 = .ok (.iconst 0, 1) := by decide +kernel
theorem dX0_clear_7 : decode cX0_clear 7 = .ok (.putfield 15, 3) := by decide +kernel
theorem dX0_clear_10 : decode cX0_clear 10 = .ok (.aload_n 0, 1) := by decide +kernel
theorem dX0_clear_11 : decode cX0_clear 11 = .ok (.iconst 0, 1) := by decide +kernel
theorem dX0_clear_12 : decode cX0_clear 12 = .ok (.putfield 53, 3) := by decide +kernel
theorem dX0_clear_15 : decode cX0_clear 15 = .ok (.aload_n 0, 1) := by decide +kernel
theorem dX0_clear_16 : decode cX0_clear 16 = .ok (.getfield 27, 3) := by decide +kernel
theorem dX0_clear_19 : decode cX0_clear 19 = .ok (.iconst 0, 1) := by decide +kernel
theorem dX0_clear_20 : decode cX0_clear 20 = .ok (.invokevirtual 56, 3) := by decide +kernel
theorem dX0_clear_23 : decode cX0_clear 23 = .ok (.return_, 1) := by decide +kernel
theorem dX0_addBench_0 : decode cX0_addBench 0 = .ok (.aload_n 0, 1) := by decide +kernel
theorem dX0_addBench_1 : decode cX0_addBench 1 = .ok (.getfield 9, 3) := by decide +kernel
theorem dX0_addBench_4 : decode cX0_addBench 4 = .ok (.bipush 8, 2) := by decide +kernel
theorem dX0_addBench_6 : decode cX0_addBench 6 = .ok (.if_icmp .ge 33, 3) := by decide +kernel
theorem dX0_addBench_9 : decode cX0_addBench 9 = .ok (.aload_n 0, 1) := by decide +kernel
theorem dX0_addBench_10 : decode cX0_addBench 10 = .ok (.getfield 31, 3) := by decide +kernel
theorem dX0_addBench_13 : decode cX0_addBench 13 = .ok (.aload_n 0, 1) := by decide +kernel
theorem dX0_addBench_14 : decode cX0_addBench 14 = .ok (.getfield 9, 3) := by decide +kernel
theorem dX0_addBench_17 : decode cX0_addBench 17 = .ok (.iload_n 1, 1) := by decide +kernel
theorem dX0_addBench_18 : decode cX0_addBench 18 = .ok (.iastore, 1) := by decide +kernel
theorem dX0_addBench_19 : decode cX0_addBench 19 = .ok (.aload_n 0, 1) := by decide +kernel
theorem dX0_addBench_20 : decode cX0_addBench 20 = .ok (.getfield 35, 3) := by decide +kernel
theorem dX0_addBench_23 : decode cX0_addBench 23 = .ok (.aload_n 0, 1) := by decide +kernel
theorem dX0_addBench_24 : decode cX0_addBench 24 = .ok (.getfield 9, 3) := by decide +kernel
theorem dX0_addBench_27 : decode cX0_addBench 27 = .ok (.iconst 0, 1) := by decide +kernel
theorem dX0_addBench_28 : decode cX0_addBench 28 = .ok (.iastore, 1) := by decide +kernel
theorem dX0_addBench_29 : decode cX0_addBench 29 = .ok (.aload_n 0, 1) := by decide +kernel
theorem dX0_addBench_30 : decode cX0_addBench 30 = .ok (.dup, 1) := by decide +kernel
theorem dX0_addBench_31 : decode cX0_addBench 31 = .ok (.getfield 9, 3) := by decide +kernel
theorem dX0_addBench_34 : decode cX0_addBench 34 = .ok (.iconst 1, 1) := by decide +kernel
theorem dX0_addBench_35 : decode cX0_addBench 35 = .ok (.iadd, 1) := by decide +kernel
theorem dX0_addBench_36 : decode cX0_addBench 36 = .ok (.putfield 9, 3) := by decide +kernel
theorem dX0_addBench_39 : decode cX0_addBench 39 = .ok (.return_, 1) := by decide +kernel
theorem dX0_addGuest_0 : decode cX0_addGuest 0 = .ok (.aload_n 0, 1) := by decide +kernel
theorem dX0_addGuest_1 : decode cX0_addGuest 1 = .ok (.getfield 15, 3) := by decide +kernel
theorem dX0_addGuest_4 : decode cX0_addGuest 4 = .ok (.bipush 7, 2) := by decide +kernel
theorem dX0_addGuest_6 : decode cX0_addGuest 6 = .ok (.if_icmp .lt 4, 3) := by decide +kernel
theorem dX0_addGuest_9 : decode cX0_addGuest 9 = .ok (.return_, 1) := by decide +kernel
theorem dX0_addGuest_10 : decode cX0_addGuest 10 = .ok (.aload_n 0, 1) := by decide +kernel
theorem dX0_addGuest_11 : decode cX0_addGuest 11 = .ok (.getfield 15, 3) := by decide +kernel
theorem dX0_addGuest_14 : decode cX0_addGuest 14 = .ok (.istore 4, 2) := by decide +kernel
theorem dX0_addGuest_16 : decode cX0_addGuest 16 = .ok (.aload_n 0, 1) := by decide +kernel
theorem dX0_addGuest_17 : decode cX0_addGuest 17 = .ok (.dup, 1) := by decide +kernel
theorem dX0_addGuest_18 : decode cX0_addGuest 18 = .ok (.getfield 15, 3) := by decide +kernel
theorem dX0_addGuest_21 : decode cX0_addGuest 21 = .ok (.iconst 1, 1) := by decide +kernel
theorem dX0_addGuest_22 : decode cX0_addGuest 22 = .ok (.iadd, 1) := by decide +kernel
theorem dX0_addGuest_23 : decode cX0_addGuest 23 = .ok (.putfield 15, 3) := by decide +kernel
theorem dX0_addGuest_26 : decode cX0_addGuest 26 = .ok (.aload_n 0, 1) := by decide +kernel
theorem dX0_addGuest_27 : decode cX0_addGuest 27 = .ok (.getfield 38, 3) := by decide +kernel
theorem dX0_addGuest_30 : decode cX0_addGuest 30 = .ok (.iload 4, 2) := by decide +kernel
theorem dX0_addGuest_32 : decode cX0_addGuest 32 = .ok (.iload_n 1, 1) := by decide +kernel
theorem dX0_addGuest_33 : decode cX0_addGuest 33 = .ok (.iastore, 1) := by decide +kernel
theorem dX0_addGuest_34 : decode cX0_addGuest 34 = .ok (.aload_n 0, 1) := by decide +kernel
theorem dX0_addGuest_35 : decode cX0_addGuest 35 = .ok (.getfield 41, 3) := by decide +kernel
theorem dX0_addGuest_38 : decode cX0_addGuest 38 = .ok (.iload 4, 2) := by decide +kernel
theorem dX0_addGuest_40 : decode cX0_addGuest 40 = .ok (.iload_n 2, 1) := by decide +kernel
theorem dX0_addGuest_41 : decode cX0_addGuest 41 = .ok (.iastore, 1) := by decide +kernel
theorem dX0_addGuest_42 : decode cX0_addGuest 42 = .ok (.aload_n 0, 1) := by decide +kernel
theorem dX0_addGuest_43 : decode cX0_addGuest 43 = .ok (.getfield 44, 3) := by decide +kernel
theorem dX0_addGuest_46 : decode cX0_addGuest 46 = .ok (.iload 4, 2) := by decide +kernel
theorem dX0_addGuest_48 : decode cX0_addGuest 48 = .ok (.iload_n 3, 1) := by decide +kernel
theorem dX0_addGuest_49 : decode cX0_addGuest 49 = .ok (.iastore, 1) := by decide +kernel
theorem dX0_addGuest_50 : decode cX0_addGuest 50 = .ok (.aload_n 0, 1) := by decide +kernel
theorem dX0_addGuest_51 : decode cX0_addGuest 51 = .ok (.getfield 47, 3) := by decide +kernel
theorem dX0_addGuest_54 : decode cX0_addGuest 54 = .ok (.iload 4, 2) := by decide +kernel
theorem dX0_addGuest_56 : decode cX0_addGuest 56 = .ok (.bipush (-9), 2) := by decide +kernel
theorem dX0_addGuest_58 : decode cX0_addGuest 58 = .ok (.iastore, 1) := by decide +kernel
theorem dX0_addGuest_59 : decode cX0_addGuest 59 = .ok (.iload_n 1, 1) := by decide +kernel
theorem dX0_addGuest_60 : decode cX0_addGuest 60 = .ok (.iconst 3, 1) := by decide +kernel
theorem dX0_addGuest_61 : decode cX0_addGuest 61 = .ok (.if_icmp .eq 16, 3) := by decide +kernel
theorem dX0_addGuest_64 : decode cX0_addGuest 64 = .ok (.aload_n 0, 1) := by decide +kernel
theorem dX0_addGuest_65 : decode cX0_addGuest 65 = .ok (.dup, 1) := by decide +kernel
theorem dX0_addGuest_66 : decode cX0_addGuest 66 = .ok (.getfield 53, 3) := by decide +kernel
theorem dX0_addGuest_69 : decode cX0_addGuest 69 = .ok (.iconst 1, 1) := by decide +kernel
theorem dX0_addGuest_70 : decode cX0_addGuest 70 = .ok (.iload 4, 2) := by decide +kernel
theorem dX0_addGuest_72 : decode cX0_addGuest 72 = .ok (.ishl, 1) := by decide +kernel
theorem dX0_addGuest_73 : decode cX0_addGuest 73 = .ok (.ior, 1) := by decide +kernel
theorem dX0_addGuest_74 : decode cX0_addGuest 74 = .ok (.putfield 53, 3) := by decide +kernel
theorem dX0_addGuest_77 : decode cX0_addGuest 77 = .ok (.iconst 0, 1) := by decide +kernel
theorem dX0_addGuest_78 : decode cX0_addGuest 78 = .ok (.istore 5, 2) := by decide +kernel
theorem dX0_addGuest_80 : decode cX0_addGuest 80 = .ok (.iload 5, 2) := by decide +kernel
theorem dX0_addGuest_82 : decode cX0_addGuest 82 = .ok (.aload_n 0, 1) := by decide +kernel
theorem dX0_addGuest_83 : decode cX0_addGuest 83 = .ok (.getfield 9, 3) := by decide +kernel
theorem dX0_addGuest_86 : decode cX0_addGuest 86 = .ok (.if_icmp .ge 78, 3) := by decide +kernel
theorem dX0_addGuest_89 : decode cX0_addGuest 89 = .ok (.iconst 0, 1) := by decide +kernel
theorem dX0_addGuest_90 : decode cX0_addGuest 90 = .ok (.istore 6, 2) := by decide +kernel
theorem dX0_addGuest_92 : decode cX0_addGuest 92 = .ok (.iload 6, 2) := by decide +kernel
theorem dX0_addGuest_94 : decode cX0_addGuest 94 = .ok (.iconst 3, 1) := by decide +kernel
theorem dX0_addGuest_95 : decode cX0_addGuest 95 = .ok (.if_icmp .ge 63, 3) := by decide +kernel
theorem dX0_addGuest_98 : decode cX0_addGuest 98 = .ok (.iload_n 1, 1) := by decide +kernel
theorem dX0_addGuest_99 : decode cX0_addGuest 99 = .ok (.aload_n 0, 1) := by decide +kernel
theorem dX0_addGuest_100 : decode cX0_addGuest 100 = .ok (.getfield 31, 3) := by decide +kernel
theorem dX0_addGuest_103 : decode cX0_addGuest 103 = .ok (.iload 5, 2) := by decide +kernel
theorem dX0_addGuest_105 : decode cX0_addGuest 105 = .ok (.iaload, 1) := by decide +kernel
theorem dX0_addGuest_106 : decode cX0_addGuest 106 = .ok (.iload 6, 2) := by decide +kernel
theorem dX0_addGuest_108 : decode cX0_addGuest 108 = .ok (.invokestatic 60, 3) := by decide +kernel
theorem dX0_addGuest_111 : decode cX0_addGuest 111 = .ok (.istore 7, 2) := by decide +kernel
theorem dX0_addGuest_113 : decode cX0_addGuest 113 = .ok (.aload_n 0, 1) := by decide +kernel
theorem dX0_addGuest_114 : decode cX0_addGuest 114 = .ok (.getfield 50, 3) := by decide +kernel
theorem dX0_addGuest_117 : decode cX0_addGuest 117 = .ok (.iload 4, 2) := by decide +kernel
theorem dX0_addGuest_119 : decode cX0_addGuest 119 = .ok (.iload 5, 2) := by decide +kernel
theorem dX0_addGuest_121 : decode cX0_addGuest 121 = .ok (.iload 6, 2) := by decide +kernel
theorem dX0_addGuest_123 : decode cX0_addGuest 123 = .ok (.invokestatic 64, 3) := by decide +kernel
theorem dX0_addGuest_126 : decode cX0_addGuest 126 = .ok (.aload_n 0, 1) := by decide +kernel
theorem dX0_addGuest_127 : decode cX0_addGuest 127 = .ok (.iload 4, 2) := by decide +kernel
theorem dX0_addGuest_129 : decode cX0_addGuest 129 = .ok (.invokevirtual 67, 3) := by decide +kernel
theorem dX0_addGuest_132 : decode cX0_addGuest 132 = .ok (.aload_n 0, 1) := by decide +kernel
theorem dX0_addGuest_133 : decode cX0_addGuest 133 = .ok (.getfield 31, 3) := by decide +kernel
theorem dX0_addGuest_136 : decode cX0_addGuest 136 = .ok (.iload 5, 2) := by decide +kernel
theorem dX0_addGuest_138 : decode cX0_addGuest 138 = .ok (.iaload, 1) := by decide +kernel
theorem dX0_addGuest_139 : decode cX0_addGuest 139 = .ok (.ifCond .ge 9, 3) := by decide +kernel
theorem dX0_addGuest_142 : decode cX0_addGuest 142 = .ok (.iload 7, 2) := by decide +kernel
theorem dX0_addGuest_144 : decode cX0_addGuest 144 = .ok (.ineg, 1) := by decide +kernel
theorem dX0_addGuest_145 : decode cX0_addGuest 145 = .ok (.goto 5, 3) := by decide +kernel
theorem dX0_addGuest_148 : decode cX0_addGuest 148 = .ok (.iload 7, 2) := by decide +kernel
theorem dX0_addGuest_150 : decode cX0_addGuest 150 = .ok (.imul, 1) := by decide +kernel
theorem dX0_addGuest_151 : decode cX0_addGuest 151 = .ok (.iastore, 1) := by decide +kernel
theorem dX0_addGuest_152 : decode cX0_addGuest 152 = .ok (.iinc 6 1, 3) := by decide +kernel
theorem dX0_addGuest_155 : decode cX0_addGuest 155 = .ok (.goto (-63), 3) := by decide +kernel
theorem dX0_addGuest_158 : decode cX0_addGuest 158 = .ok (.iinc 5 1, 3) := by decide +kernel
theorem dX0_addGuest_161 : decode cX0_addGuest 161 = .ok (.goto (-81), 3) := by decide +kernel
theorem dX0_addGuest_164 : decode cX0_addGuest 164 = .ok (.return_, 1) := by decide +kernel
theorem dX0_farOut_0 : decode cX0_farOut 0 = .ok (.iload_n 1, 1) := by decide +kernel
theorem dX0_farOut_1 : decode cX0_farOut 1 = .ok (.invokestatic 71, 3) := by decide +kernel
theorem dX0_farOut_4 : decode cX0_farOut 4 = .ok (.istore_n 3, 1) := by decide +kernel
theorem dX0_farOut_5 : decode cX0_farOut 5 = .ok (.iload_n 3, 1) := by decide +kernel
theorem dX0_farOut_6 : decode cX0_farOut 6 = .ok (.ifCond .eq 7, 3) := by decide +kernel
theorem dX0_farOut_9 : decode cX0_farOut 9 = .ok (.iload_n 2, 1) := by decide +kernel
theorem dX0_farOut_10 : decode cX0_farOut 10 = .ok (.ifCond .ne 5, 3) := by decide +kernel
theorem dX0_farOut_13 : decode cX0_farOut 13 = .ok (.iload_n 3, 1) := by decide +kernel
theorem dX0_farOut_14 : decode cX0_farOut 14 = .ok (.ireturn, 1) := by decide +kernel
theorem dX0_farOut_15 : decode cX0_farOut 15 = .ok (.iload_n 2, 1) := by decide +kernel
theorem dX0_farOut_16 : decode cX0_farOut 16 = .ok (.iconst 1, 1) := by decide +kernel
theorem dX0_farOut_17 : decode cX0_farOut 17 = .ok (.if_icmp .ne 13, 3) := by decide +kernel
theorem dX0_farOut_20 : decode cX0_farOut 20 = .ok (.iload_n 3, 1) := by decide +kernel
theorem dX0_farOut_21 : decode cX0_farOut 21 = .ok (.getstatic 76, 3) := by decide +kernel
theorem dX0_farOut_24 : decode cX0_farOut 24 = .ok (.iload_n 0, 1) := by decide +kernel
theorem dX0_farOut_25 : decode cX0_farOut 25 = .ok (.invokestatic 79, 3) := by decide +kernel
theorem dX0_farOut_28 : decode cX0_farOut 28 = .ok (.iadd, 1) := by decide +kernel
theorem dX0_farOut_29 : decode cX0_farOut 29 = .ok (.ireturn, 1) := by decide +kernel
theorem dX0_farOut_30 : decode cX0_farOut 30 = .ok (.iconst 0, 1) := by decide +kernel
theorem dX0_farOut_31 : decode cX0_farOut 31 = .ok (.iload_n 3, 1) := by decide +kernel
theorem dX0_farOut_32 : decode cX0_farOut 32 = .ok (.getstatic 83, 3) := by decide +kernel
theorem dX0_farOut_35 : decode cX0_farOut 35 = .ok (.iload_n 0, 1) := by decide +kernel
theorem dX0_farOut_36 : decode cX0_farOut 36 = .ok (.invokestatic 79, 3) := by decide +kernel
theorem dX0_farOut_39 : decode cX0_farOut 39 = .ok (.isub, 1) := by decide +kernel
theorem dX0_farOut_40 : decode cX0_farOut 40 = .ok (.invokestatic 86, 3) := by decide +kernel
theorem dX0_farOut_43 : decode cX0_farOut 43 = .ok (.ireturn, 1) := by decide +kernel
theorem dX0_ofKind_0 : decode cX0_ofKind 0 = .ok (.iload_n 1, 1) := by decide +kernel
theorem dX0_ofKind_1 : decode cX0_ofKind 1 = .ok (.ifCond .lt 15, 3) := by decide +kernel
theorem dX0_ofKind_4 : decode cX0_ofKind 4 = .ok (.iload_n 1, 1) := by decide +kernel
theorem dX0_ofKind_5 : decode cX0_ofKind 5 = .ok (.aload_n 0, 1) := by decide +kernel
theorem dX0_ofKind_6 : decode cX0_ofKind 6 = .ok (.arraylength, 1) := by decide +kernel
theorem dX0_ofKind_7 : decode cX0_ofKind 7 = .ok (.if_icmp .ge 9, 3) := by decide +kernel
theorem dX0_ofKind_10 : decode cX0_ofKind 10 = .ok (.aload_n 0, 1) := by decide +kernel
theorem dX0_ofKind_11 : decode cX0_ofKind 11 = .ok (.iload_n 1, 1) := by decide +kernel
theorem dX0_ofKind_12 : decode cX0_ofKind 12 = .ok (.iaload, 1) := by decide +kernel
theorem dX0_ofKind_13 : decode cX0_ofKind 13 = .ok (.goto 4, 3) := by decide +kernel
theorem dX0_ofKind_16 : decode cX0_ofKind 16 = .ok (.iconst 0, 1) := by decide +kernel
theorem dX0_ofKind_17 : decode cX0_ofKind 17 = .ok (.ireturn, 1) := by decide +kernel
theorem dX0_momentPlace_0 : decode cX0_momentPlace 0 = .ok (.iload_n 0, 1) := by decide +kernel
theorem dX0_momentPlace_1 : decode cX0_momentPlace 1 = .ok (.bipush 8, 2) := by decide +kernel
theorem dX0_momentPlace_3 : decode cX0_momentPlace 3 = .ok (.imul, 1) := by decide +kernel
theorem dX0_momentPlace_4 : decode cX0_momentPlace 4 = .ok (.iload_n 1, 1) := by decide +kernel
theorem dX0_momentPlace_5 : decode cX0_momentPlace 5 = .ok (.iadd, 1) := by decide +kernel
theorem dX0_momentPlace_6 : decode cX0_momentPlace 6 = .ok (.iconst 3, 1) := by decide +kernel
theorem dX0_momentPlace_7 : decode cX0_momentPlace 7 = .ok (.imul, 1) := by decide +kernel
theorem dX0_momentPlace_8 : decode cX0_momentPlace 8 = .ok (.iload_n 2, 1) := by decide +kernel
theorem dX0_momentPlace_9 : decode cX0_momentPlace 9 = .ok (.iadd, 1) := by decide +kernel
theorem dX0_momentPlace_10 : decode cX0_momentPlace 10 = .ok (.ireturn, 1) := by decide +kernel
theorem dX0_isBench_0 : decode cX0_isBench 0 = .ok (.iload_n 1, 1) := by decide +kernel
theorem dX0_isBench_1 : decode cX0_isBench 1 = .ok (.ifCond .lt 15, 3) := by decide +kernel
theorem dX0_isBench_4 : decode cX0_isBench 4 = .ok (.iload_n 1, 1) := by decide +kernel
theorem dX0_isBench_5 : decode cX0_isBench 5 = .ok (.aload_n 0, 1) := by decide +kernel
theorem dX0_isBench_6 : decode cX0_isBench 6 = .ok (.getfield 9, 3) := by decide +kernel
theorem dX0_isBench_9 : decode cX0_isBench 9 = .ok (.if_icmp .ge 7, 3) := by decide +kernel
theorem dX0_isBench_12 : decode cX0_isBench 12 = .ok (.iconst 1, 1) := by decide +kernel
theorem dX0_isBench_13 : decode cX0_isBench 13 = .ok (.goto 4, 3) := by decide +kernel
theorem dX0_isBench_16 : decode cX0_isBench 16 = .ok (.iconst 0, 1) := by decide +kernel
theorem dX0_isBench_17 : decode cX0_isBench 17 = .ok (.ireturn, 1) := by decide +kernel
theorem dX0_isGuest_0 : decode cX0_isGuest 0 = .ok (.iload_n 1, 1) := by decide +kernel
theorem dX0_isGuest_1 : decode cX0_isGuest 1 = .ok (.ifCond .lt 15, 3) := by decide +kernel
theorem dX0_isGuest_4 : decode cX0_isGuest 4 = .ok (.iload_n 1, 1) := by decide +kernel
theorem dX0_isGuest_5 : decode cX0_isGuest 5 = .ok (.aload_n 0, 1) := by decide +kernel
theorem dX0_isGuest_6 : decode cX0_isGuest 6 = .ok (.getfield 15, 3) := by decide +kernel
theorem dX0_isGuest_9 : decode cX0_isGuest 9 = .ok (.if_icmp .ge 7, 3) := by decide +kernel
theorem dX0_isGuest_12 : decode cX0_isGuest 12 = .ok (.iconst 1, 1) := by decide +kernel
theorem dX0_isGuest_13 : decode cX0_isGuest 13 = .ok (.goto 4, 3) := by decide +kernel
theorem dX0_isGuest_16 : decode cX0_isGuest 16 = .ok (.iconst 0, 1) := by decide +kernel
theorem dX0_isGuest_17 : decode cX0_isGuest 17 = .ok (.ireturn, 1) := by decide +kernel
theorem dX0_xOf_0 : decode cX0_xOf 0 = .ok (.aload_n 0, 1) := by decide +kernel
theorem dX0_xOf_1 : decode cX0_xOf 1 = .ok (.iload_n 1, 1) := by decide +kernel
theorem dX0_xOf_2 : decode cX0_xOf 2 = .ok (.invokevirtual 90, 3) := by decide +kernel
theorem dX0_xOf_5 : decode cX0_xOf 5 = .ok (.ifCond .eq 12, 3) := by decide +kernel
theorem dX0_xOf_8 : decode cX0_xOf 8 = .ok (.aload_n 0, 1) := by decide +kernel
theorem dX0_xOf_9 : decode cX0_xOf 9 = .ok (.getfield 31, 3) := by decide +kernel
theorem dX0_xOf_12 : decode cX0_xOf 12 = .ok (.iload_n 1, 1) := by decide +kernel
theorem dX0_xOf_13 : decode cX0_xOf 13 = .ok (.iaload, 1) := by decide +kernel
theorem dX0_xOf_14 : decode cX0_xOf 14 = .ok (.goto 4, 3) := by decide +kernel
theorem dX0_xOf_17 : decode cX0_xOf 17 = .ok (.iconst 0, 1) := by decide +kernel
theorem dX0_xOf_18 : decode cX0_xOf 18 = .ok (.ireturn, 1) := by decide +kernel
theorem dX0_whoOn_0 : decode cX0_whoOn 0 = .ok (.aload_n 0, 1) := by decide +kernel
theorem dX0_whoOn_1 : decode cX0_whoOn 1 = .ok (.iload_n 1, 1) := by decide +kernel
theorem dX0_whoOn_2 : decode cX0_whoOn 2 = .ok (.invokevirtual 90, 3) := by decide +kernel
theorem dX0_whoOn_5 : decode cX0_whoOn 5 = .ok (.ifCond .eq 12, 3) := by decide +kernel
theorem dX0_whoOn_8 : decode cX0_whoOn 8 = .ok (.aload_n 0, 1) := by decide +kernel
theorem dX0_whoOn_9 : decode cX0_whoOn 9 = .ok (.getfield 35, 3) := by decide +kernel
theorem dX0_whoOn_12 : decode cX0_whoOn 12 = .ok (.iload_n 1, 1) := by decide +kernel
theorem dX0_whoOn_13 : decode cX0_whoOn 13 = .ok (.iaload, 1) := by decide +kernel
theorem dX0_whoOn_14 : decode cX0_whoOn 14 = .ok (.goto 4, 3) := by decide +kernel
theorem dX0_whoOn_17 : decode cX0_whoOn 17 = .ok (.iconst 0, 1) := by decide +kernel
theorem dX0_whoOn_18 : decode cX0_whoOn 18 = .ok (.ireturn, 1) := by decide +kernel
theorem dX0_kindOf_0 : decode cX0_kindOf 0 = .ok (.aload_n 0, 1) := by decide +kernel
theorem dX0_kindOf_1 : decode cX0_kindOf 1 = .ok (.iload_n 1, 1) := by decide +kernel
theorem dX0_kindOf_2 : decode cX0_kindOf 2 = .ok (.invokevirtual 94, 3) := by decide +kernel
theorem dX0_kindOf_5 : decode cX0_kindOf 5 = .ok (.ifCond .eq 12, 3) := by decide +kernel
theorem dX0_kindOf_8 : decode cX0_kindOf 8 = .ok (.aload_n 0, 1) := by decide +kernel
theorem dX0_kindOf_9 : decode cX0_kindOf 9 = .ok (.getfield 38, 3) := by decide +kernel
theorem dX0_kindOf_12 : decode cX0_kindOf 12 = .ok (.iload_n 1, 1) := by decide +kernel
theorem dX0_kindOf_13 : decode cX0_kindOf 13 = .ok (.iaload, 1) := by decide +kernel
theorem dX0_kindOf_14 : decode cX0_kindOf 14 = .ok (.goto 4, 3) := by decide +kernel
theorem dX0_kindOf_17 : decode cX0_kindOf 17 = .ok (.iconst 0, 1) := by decide +kernel
theorem dX0_kindOf_18 : decode cX0_kindOf 18 = .ok (.ireturn, 1) := by decide +kernel
theorem dX0_weightOf_0 : decode cX0_weightOf 0 = .ok (.aload_n 0, 1) := by decide +kernel
theorem dX0_weightOf_1 : decode cX0_weightOf 1 = .ok (.iload_n 1, 1) := by decide +kernel
theorem dX0_weightOf_2 : decode cX0_weightOf 2 = .ok (.invokevirtual 94, 3) := by decide +kernel
theorem dX0_weightOf_5 : decode cX0_weightOf 5 = .ok (.ifCond .eq 12, 3) := by decide +kernel
theorem dX0_weightOf_8 : decode cX0_weightOf 8 = .ok (.aload_n 0, 1) := by decide +kernel
theorem dX0_weightOf_9 : decode cX0_weightOf 9 = .ok (.getfield 41, 3) := by decide +kernel
theorem dX0_weightOf_12 : decode cX0_weightOf 12 = .ok (.iload_n 1, 1) := by decide +kernel
theorem dX0_weightOf_13 : decode cX0_weightOf 13 = .ok (.iaload, 1) := by decide +kernel
theorem dX0_weightOf_14 : decode cX0_weightOf 14 = .ok (.goto 4, 3) := by decide +kernel
theorem dX0_weightOf_17 : decode cX0_weightOf 17 = .ok (.iconst 0, 1) := by decide +kernel
theorem dX0_weightOf_18 : decode cX0_weightOf 18 = .ok (.ireturn, 1) := by decide +kernel
theorem dX0_kinOf_0 : decode cX0_kinOf 0 = .ok (.aload_n 0, 1) := by decide +kernel
theorem dX0_kinOf_1 : decode cX0_kinOf 1 = .ok (.iload_n 1, 1) := by decide +kernel
theorem dX0_kinOf_2 : decode cX0_kinOf 2 = .ok (.invokevirtual 94, 3) := by decide +kernel
theorem dX0_kinOf_5 : decode cX0_kinOf 5 = .ok (.ifCond .eq 12, 3) := by decide +kernel
theorem dX0_kinOf_8 : decode cX0_kinOf 8 = .ok (.aload_n 0, 1) := by decide +kernel
theorem dX0_kinOf_9 : decode cX0_kinOf 9 = .ok (.getfield 44, 3) := by decide +kernel
theorem dX0_kinOf_12 : decode cX0_kinOf 12 = .ok (.iload_n 1, 1) := by decide +kernel
theorem dX0_kinOf_13 : decode cX0_kinOf 13 = .ok (.iaload, 1) := by decide +kernel
theorem dX0_kinOf_14 : decode cX0_kinOf 14 = .ok (.goto 4, 3) := by decide +kernel
theorem dX0_kinOf_17 : decode cX0_kinOf 17 = .ok (.iconst 0, 1) := by decide +kernel
theorem dX0_kinOf_18 : decode cX0_kinOf 18 = .ok (.ireturn, 1) := by decide +kernel
theorem dX0_benchOf_0 : decode cX0_benchOf 0 = .ok (.aload_n 0, 1) := by decide +kernel
theorem dX0_benchOf_1 : decode cX0_benchOf 1 = .ok (.iload_n 1, 1) := by decide +kernel
theorem dX0_benchOf_2 : decode cX0_benchOf 2 = .ok (.invokevirtual 94, 3) := by decide +kernel
theorem dX0_benchOf_5 : decode cX0_benchOf 5 = .ok (.ifCond .eq 12, 3) := by decide +kernel
theorem dX0_benchOf_8 : decode cX0_benchOf 8 = .ok (.aload_n 0, 1) := by decide +kernel
theorem dX0_benchOf_9 : decode cX0_benchOf 9 = .ok (.getfield 47, 3) := by decide +kernel
theorem dX0_benchOf_12 : decode cX0_benchOf 12 = .ok (.iload_n 1, 1) := by decide +kernel
theorem dX0_benchOf_13 : decode cX0_benchOf 13 = .ok (.iaload, 1) := by decide +kernel
theorem dX0_benchOf_14 : decode cX0_benchOf 14 = .ok (.goto 5, 3) := by decide +kernel
theorem dX0_benchOf_17 : decode cX0_benchOf 17 = .ok (.bipush (-9), 2) := by decide +kernel
theorem dX0_benchOf_19 : decode cX0_benchOf 19 = .ok (.ireturn, 1) := by decide +kernel
theorem dX0_weighs_0 : decode cX0_weighs 0 = .ok (.aload_n 0, 1) := by decide +kernel
theorem dX0_weighs_1 : decode cX0_weighs 1 = .ok (.iload_n 1, 1) := by decide +kernel
theorem dX0_weighs_2 : decode cX0_weighs 2 = .ok (.invokevirtual 97, 3) := by decide +kernel
theorem dX0_weighs_5 : decode cX0_weighs 5 = .ok (.getstatic 100, 3) := by decide +kernel
theorem dX0_weighs_8 : decode cX0_weighs 8 = .ok (.aload_n 0, 1) := by decide +kernel
theorem dX0_weighs_9 : decode cX0_weighs 9 = .ok (.iload_n 1, 1) := by decide +kernel
theorem dX0_weighs_10 : decode cX0_weighs 10 = .ok (.invokevirtual 103, 3) := by decide +kernel
theorem dX0_weighs_13 : decode cX0_weighs 13 = .ok (.invokestatic 79, 3) := by decide +kernel
theorem dX0_weighs_16 : decode cX0_weighs 16 = .ok (.imul, 1) := by decide +kernel
theorem dX0_weighs_17 : decode cX0_weighs 17 = .ok (.ireturn, 1) := by decide +kernel
theorem dX0_isOf_0 : decode cX0_isOf 0 = .ok (.aload_n 0, 1) := by decide +kernel
theorem dX0_isOf_1 : decode cX0_isOf 1 = .ok (.iload_n 1, 1) := by decide +kernel
theorem dX0_isOf_2 : decode cX0_isOf 2 = .ok (.invokevirtual 103, 3) := by decide +kernel
theorem dX0_isOf_5 : decode cX0_isOf 5 = .ok (.iload_n 2, 1) := by decide +kernel
theorem dX0_isOf_6 : decode cX0_isOf 6 = .ok (.if_icmp .eq 18, 3) := by decide +kernel
theorem dX0_isOf_9 : decode cX0_isOf 9 = .ok (.getstatic 106, 3) := by decide +kernel
theorem dX0_isOf_12 : decode cX0_isOf 12 = .ok (.aload_n 0, 1) := by decide +kernel
theorem dX0_isOf_13 : decode cX0_isOf 13 = .ok (.iload_n 1, 1) := by decide +kernel
theorem dX0_isOf_14 : decode cX0_isOf 14 = .ok (.invokevirtual 103, 3) := by decide +kernel
theorem dX0_isOf_17 : decode cX0_isOf 17 = .ok (.invokestatic 79, 3) := by decide +kernel
theorem dX0_isOf_20 : decode cX0_isOf 20 = .ok (.iload_n 2, 1) := by decide +kernel
theorem dX0_isOf_21 : decode cX0_isOf 21 = .ok (.if_icmp .ne 7, 3) := by decide +kernel
theorem dX0_isOf_24 : decode cX0_isOf 24 = .ok (.iconst 1, 1) := by decide +kernel
theorem dX0_isOf_25 : decode cX0_isOf 25 = .ok (.goto 4, 3) := by decide +kernel
theorem dX0_isOf_28 : decode cX0_isOf 28 = .ok (.iconst 0, 1) := by decide +kernel
theorem dX0_isOf_29 : decode cX0_isOf 29 = .ok (.ireturn, 1) := by decide +kernel
theorem dX0_momentOf_0 : decode cX0_momentOf 0 = .ok (.aload_n 0, 1) := by decide +kernel
theorem dX0_momentOf_1 : decode cX0_momentOf 1 = .ok (.iload_n 1, 1) := by decide +kernel
theorem dX0_momentOf_2 : decode cX0_momentOf 2 = .ok (.invokevirtual 94, 3) := by decide +kernel
theorem dX0_momentOf_5 : decode cX0_momentOf 5 = .ok (.ifCond .eq 22, 3) := by decide +kernel
theorem dX0_momentOf_8 : decode cX0_momentOf 8 = .ok (.aload_n 0, 1) := by decide +kernel
theorem dX0_momentOf_9 : decode cX0_momentOf 9 = .ok (.iload_n 2, 1) := by decide +kernel
theorem dX0_momentOf_10 : decode cX0_momentOf 10 = .ok (.invokevirtual 90, 3) := by decide +kernel
theorem dX0_momentOf_13 : decode cX0_momentOf 13 = .ok (.ifCond .eq 14, 3) := by decide +kernel
theorem dX0_momentOf_16 : decode cX0_momentOf 16 = .ok (.iload_n 3, 1) := by decide +kernel
theorem dX0_momentOf_17 : decode cX0_momentOf 17 = .ok (.invokestatic 109, 3) := by decide +kernel
theorem dX0_momentOf_20 : decode cX0_momentOf 20 = .ok (.ifCond .eq 7, 3) := by decide +kernel
theorem dX0_momentOf_23 : decode cX0_momentOf 23 = .ok (.iconst 1, 1) := by decide +kernel
theorem dX0_momentOf_24 : decode cX0_momentOf 24 = .ok (.goto 4, 3) := by decide +kernel
theorem dX0_momentOf_27 : decode cX0_momentOf 27 = .ok (.iconst 0, 1) := by decide +kernel
theorem dX0_momentOf_28 : decode cX0_momentOf 28 = .ok (.istore 4, 2) := by decide +kernel
theorem dX0_momentOf_30 : decode cX0_momentOf 30 = .ok (.iload 4, 2) := by decide +kernel
theorem dX0_momentOf_32 : decode cX0_momentOf 32 = .ok (.ifCond .eq 17, 3) := by decide +kernel
theorem dX0_momentOf_35 : decode cX0_momentOf 35 = .ok (.aload_n 0, 1) := by decide +kernel
theorem dX0_momentOf_36 : decode cX0_momentOf 36 = .ok (.getfield 50, 3) := by decide +kernel
theorem dX0_momentOf_39 : decode cX0_momentOf 39 = .ok (.iload_n 1, 1) := by decide +kernel
theorem dX0_momentOf_40 : decode cX0_momentOf 40 = .ok (.iload_n 2, 1) := by decide +kernel
theorem dX0_momentOf_41 : decode cX0_momentOf 41 = .ok (.iload_n 3, 1) := by decide +kernel
theorem dX0_momentOf_42 : decode cX0_momentOf 42 = .ok (.invokestatic 64, 3) := by decide +kernel
theorem dX0_momentOf_45 : decode cX0_momentOf 45 = .ok (.iaload, 1) := by decide +kernel
theorem dX0_momentOf_46 : decode cX0_momentOf 46 = .ok (.goto 4, 3) := by decide +kernel
theorem dX0_momentOf_49 : decode cX0_momentOf 49 = .ok (.iconst 0, 1) := by decide +kernel
theorem dX0_momentOf_50 : decode cX0_momentOf 50 = .ok (.ireturn, 1) := by decide +kernel
theorem dX0_everybody_0 : decode cX0_everybody 0 = .ok (.iconst 1, 1) := by decide +kernel
theorem dX0_everybody_1 : decode cX0_everybody 1 = .ok (.aload_n 0, 1) := by decide +kernel
theorem dX0_everybody_2 : decode cX0_everybody 2 = .ok (.getfield 15, 3) := by decide +kernel
theorem dX0_everybody_5 : decode cX0_everybody 5 = .ok (.ishl, 1) := by decide +kernel
theorem dX0_everybody_6 : decode cX0_everybody 6 = .ok (.iconst 1, 1) := by decide +kernel
theorem dX0_everybody_7 : decode cX0_everybody 7 = .ok (.isub, 1) := by decide +kernel
theorem dX0_everybody_8 : decode cX0_everybody 8 = .ok (.ireturn, 1) := by decide +kernel
theorem dX0_seatedSet_0 : decode cX0_seatedSet 0 = .ok (.iconst 0, 1) := by decide +kernel
theorem dX0_seatedSet_1 : decode cX0_seatedSet 1 = .ok (.istore_n 1, 1) := by decide +kernel
theorem dX0_seatedSet_2 : decode cX0_seatedSet 2 = .ok (.iconst 0, 1) := by decide +kernel
theorem dX0_seatedSet_3 : decode cX0_seatedSet 3 = .ok (.istore_n 2, 1) := by decide +kernel
theorem dX0_seatedSet_4 : decode cX0_seatedSet 4 = .ok (.iload_n 2, 1) := by decide +kernel
theorem dX0_seatedSet_5 : decode cX0_seatedSet 5 = .ok (.aload_n 0, 1) := by decide +kernel
theorem dX0_seatedSet_6 : decode cX0_seatedSet 6 = .ok (.getfield 9, 3) := by decide +kernel
theorem dX0_seatedSet_9 : decode cX0_seatedSet 9 = .ok (.if_icmp .ge 18, 3) := by decide +kernel
theorem dX0_seatedSet_12 : decode cX0_seatedSet 12 = .ok (.iload_n 1, 1) := by decide +kernel
theorem dX0_seatedSet_13 : decode cX0_seatedSet 13 = .ok (.aload_n 0, 1) := by decide +kernel
theorem dX0_seatedSet_14 : decode cX0_seatedSet 14 = .ok (.getfield 35, 3) := by decide +kernel
theorem dX0_seatedSet_17 : decode cX0_seatedSet 17 = .ok (.iload_n 2, 1) := by decide +kernel
theorem dX0_seatedSet_18 : decode cX0_seatedSet 18 = .ok (.iaload, 1) := by decide +kernel
theorem dX0_seatedSet_19 : decode cX0_seatedSet 19 = .ok (.ior, 1) := by decide +kernel
theorem dX0_seatedSet_20 : decode cX0_seatedSet 20 = .ok (.istore_n 1, 1) := by decide +kernel
theorem dX0_seatedSet_21 : decode cX0_seatedSet 21 = .ok (.iinc 2 1, 3) := by decide +kernel
theorem dX0_seatedSet_24 : decode cX0_seatedSet 24 = .ok (.goto (-20), 3) := by decide +kernel
theorem dX0_seatedSet_27 : decode cX0_seatedSet 27 = .ok (.iload_n 1, 1) := by decide +kernel
theorem dX0_seatedSet_28 : decode cX0_seatedSet 28 = .ok (.ireturn, 1) := by decide +kernel
theorem dX0_seatedCount_0 : decode cX0_seatedCount 0 = .ok (.aload_n 0, 1) := by decide +kernel
theorem dX0_seatedCount_1 : decode cX0_seatedCount 1 = .ok (.invokevirtual 112, 3) := by decide +kernel
theorem dX0_seatedCount_4 : decode cX0_seatedCount 4 = .ok (.invokestatic 116, 3) := by decide +kernel
theorem dX0_seatedCount_7 : decode cX0_seatedCount 7 = .ok (.ireturn, 1) := by decide +kernel
theorem dX0_kinSet_0 : decode cX0_kinSet 0 = .ok (.iconst 0, 1) := by decide +kernel
theorem dX0_kinSet_1 : decode cX0_kinSet 1 = .ok (.istore_n 2, 1) := by decide +kernel
theorem dX0_kinSet_2 : decode cX0_kinSet 2 = .ok (.iconst 0, 1) := by decide +kernel
theorem dX0_kinSet_3 : decode cX0_kinSet 3 = .ok (.istore_n 3, 1) := by decide +kernel
theorem dX0_kinSet_4 : decode cX0_kinSet 4 = .ok (.iload_n 3, 1) := by decide +kernel
theorem dX0_kinSet_5 : decode cX0_kinSet 5 = .ok (.aload_n 0, 1) := by decide +kernel
theorem dX0_kinSet_6 : decode cX0_kinSet 6 = .ok (.getfield 15, 3) := by decide +kernel
theorem dX0_kinSet_9 : decode cX0_kinSet 9 = .ok (.if_icmp .ge 25, 3) := by decide +kernel
theorem dX0_kinSet_12 : decode cX0_kinSet 12 = .ok (.aload_n 0, 1) := by decide +kernel
theorem dX0_kinSet_13 : decode cX0_kinSet 13 = .ok (.getfield 44, 3) := by decide +kernel
theorem dX0_kinSet_16 : decode cX0_kinSet 16 = .ok (.iload_n 3, 1) := by decide +kernel
theorem dX0_kinSet_17 : decode cX0_kinSet 17 = .ok (.iaload, 1) := by decide +kernel
theorem dX0_kinSet_18 : decode cX0_kinSet 18 = .ok (.iload_n 1, 1) := by decide +kernel
theorem dX0_kinSet_19 : decode cX0_kinSet 19 = .ok (.if_icmp .ne 9, 3) := by decide +kernel
theorem dX0_kinSet_22 : decode cX0_kinSet 22 = .ok (.iload_n 2, 1) := by decide +kernel
theorem dX0_kinSet_23 : decode cX0_kinSet 23 = .ok (.iconst 1, 1) := by decide +kernel
theorem dX0_kinSet_24 : decode cX0_kinSet 24 = .ok (.iload_n 3, 1) := by decide +kernel
theorem dX0_kinSet_25 : decode cX0_kinSet 25 = .ok (.ishl, 1) := by decide +kernel
theorem dX0_kinSet_26 : decode cX0_kinSet 26 = .ok (.ior, 1) := by decide +kernel
theorem dX0_kinSet_27 : decode cX0_kinSet 27 = .ok (.istore_n 2, 1) := by decide +kernel
theorem dX0_kinSet_28 : decode cX0_kinSet 28 = .ok (.iinc 3 1, 3) := by decide +kernel
theorem dX0_kinSet_31 : decode cX0_kinSet 31 = .ok (.goto (-27), 3) := by decide +kernel
theorem dX0_kinSet_34 : decode cX0_kinSet 34 = .ok (.iload_n 2, 1) := by decide +kernel
theorem dX0_kinSet_35 : decode cX0_kinSet 35 = .ok (.ireturn, 1) := by decide +kernel
theorem dX0_howManyOf_0 : decode cX0_howManyOf 0 = .ok (.iconst 0, 1) := by decide +kernel
theorem dX0_howManyOf_1 : decode cX0_howManyOf 1 = .ok (.istore_n 2, 1) := by decide +kernel
theorem dX0_howManyOf_2 : decode cX0_howManyOf 2 = .ok (.iconst 0, 1) := by decide +kernel
theorem dX0_howManyOf_3 : decode cX0_howManyOf 3 = .ok (.istore_n 3, 1) := by decide +kernel
theorem dX0_howManyOf_4 : decode cX0_howManyOf 4 = .ok (.iload_n 3, 1) := by decide +kernel
theorem dX0_howManyOf_5 : decode cX0_howManyOf 5 = .ok (.aload_n 0, 1) := by decide +kernel
theorem dX0_howManyOf_6 : decode cX0_howManyOf 6 = .ok (.getfield 15, 3) := by decide +kernel
theorem dX0_howManyOf_9 : decode cX0_howManyOf 9 = .ok (.if_icmp .ge 26, 3) := by decide +kernel
theorem dX0_howManyOf_12 : decode cX0_howManyOf 12 = .ok (.iload_n 2, 1) := by decide +kernel
theorem dX0_howManyOf_13 : decode cX0_howManyOf 13 = .ok (.aload_n 0, 1) := by decide +kernel
theorem dX0_howManyOf_14 : decode cX0_howManyOf 14 = .ok (.iload_n 3, 1) := by decide +kernel
theorem dX0_howManyOf_15 : decode cX0_howManyOf 15 = .ok (.iload_n 1, 1) := by decide +kernel
theorem dX0_howManyOf_16 : decode cX0_howManyOf 16 = .ok (.invokevirtual 121, 3) := by decide +kernel
theorem dX0_howManyOf_19 : decode cX0_howManyOf 19 = .ok (.ifCond .eq 7, 3) := by decide +kernel
theorem dX0_howManyOf_22 : decode cX0_howManyOf 22 = .ok (.iconst 1, 1) := by decide +kernel
theorem dX0_howManyOf_23 : decode cX0_howManyOf 23 = .ok (.goto 4, 3) := by decide +kernel
theorem dX0_howManyOf_26 : decode cX0_howManyOf 26 = .ok (.iconst 0, 1) := by decide +kernel
theorem dX0_howManyOf_27 : decode cX0_howManyOf 27 = .ok (.iadd, 1) := by decide +kernel
theorem dX0_howManyOf_28 : decode cX0_howManyOf 28 = .ok (.istore_n 2, 1) := by decide +kernel
theorem dX0_howManyOf_29 : decode cX0_howManyOf 29 = .ok (.iinc 3 1, 3) := by decide +kernel
theorem dX0_howManyOf_32 : decode cX0_howManyOf 32 = .ok (.goto (-28), 3) := by decide +kernel
theorem dX0_howManyOf_35 : decode cX0_howManyOf 35 = .ok (.iload_n 2, 1) := by decide +kernel
theorem dX0_howManyOf_36 : decode cX0_howManyOf 36 = .ok (.ireturn, 1) := by decide +kernel
theorem dX0_weighAll_0 : decode cX0_weighAll 0 = .ok (.iconst 0, 1) := by decide +kernel
theorem dX0_weighAll_1 : decode cX0_weighAll 1 = .ok (.istore_n 2, 1) := by decide +kernel
theorem dX0_weighAll_2 : decode cX0_weighAll 2 = .ok (.iconst 0, 1) := by decide +kernel
theorem dX0_weighAll_3 : decode cX0_weighAll 3 = .ok (.istore_n 3, 1) := by decide +kernel
theorem dX0_weighAll_4 : decode cX0_weighAll 4 = .ok (.iload_n 3, 1) := by decide +kernel
theorem dX0_weighAll_5 : decode cX0_weighAll 5 = .ok (.aload_n 0, 1) := by decide +kernel
theorem dX0_weighAll_6 : decode cX0_weighAll 6 = .ok (.getfield 15, 3) := by decide +kernel
theorem dX0_weighAll_9 : decode cX0_weighAll 9 = .ok (.if_icmp .ge 25, 3) := by decide +kernel
theorem dX0_weighAll_12 : decode cX0_weighAll 12 = .ok (.iload_n 1, 1) := by decide +kernel
theorem dX0_weighAll_13 : decode cX0_weighAll 13 = .ok (.iconst 1, 1) := by decide +kernel
theorem dX0_weighAll_14 : decode cX0_weighAll 14 = .ok (.iload_n 3, 1) := by decide +kernel
theorem dX0_weighAll_15 : decode cX0_weighAll 15 = .ok (.ishl, 1) := by decide +kernel
theorem dX0_weighAll_16 : decode cX0_weighAll 16 = .ok (.iand, 1) := by decide +kernel
theorem dX0_weighAll_17 : decode cX0_weighAll 17 = .ok (.ifCond .eq 11, 3) := by decide +kernel
theorem dX0_weighAll_20 : decode cX0_weighAll 20 = .ok (.iload_n 2, 1) := by decide +kernel
theorem dX0_weighAll_21 : decode cX0_weighAll 21 = .ok (.aload_n 0, 1) := by decide +kernel
theorem dX0_weighAll_22 : decode cX0_weighAll 22 = .ok (.iload_n 3, 1) := by decide +kernel
theorem dX0_weighAll_23 : decode cX0_weighAll 23 = .ok (.invokevirtual 67, 3) := by decide +kernel
theorem dX0_weighAll_26 : decode cX0_weighAll 26 = .ok (.iadd, 1) := by decide +kernel
theorem dX0_weighAll_27 : decode cX0_weighAll 27 = .ok (.istore_n 2, 1) := by decide +kernel
theorem dX0_weighAll_28 : decode cX0_weighAll 28 = .ok (.iinc 3 1, 3) := by decide +kernel
theorem dX0_weighAll_31 : decode cX0_weighAll 31 = .ok (.goto (-27), 3) := by decide +kernel
theorem dX0_weighAll_34 : decode cX0_weighAll 34 = .ok (.iload_n 2, 1) := by decide +kernel
theorem dX0_weighAll_35 : decode cX0_weighAll 35 = .ok (.ireturn, 1) := by decide +kernel
theorem dX0_seatsFor_0 : decode cX0_seatsFor 0 = .ok (.aload_n 0, 1) := by decide +kernel
theorem dX0_seatsFor_1 : decode cX0_seatsFor 1 = .ok (.iload_n 1, 1) := by decide +kernel
theorem dX0_seatsFor_2 : decode cX0_seatsFor 2 = .ok (.invokevirtual 103, 3) := by decide +kernel
theorem dX0_seatsFor_5 : decode cX0_seatsFor 5 = .ok (.iconst 3, 1) := by decide +kernel
theorem dX0_seatsFor_6 : decode cX0_seatsFor 6 = .ok (.if_icmp .ne 7, 3) := by decide +kernel
theorem dX0_seatsFor_9 : decode cX0_seatsFor 9 = .ok (.iconst 0, 1) := by decide +kernel
theorem dX0_seatsFor_10 : decode cX0_seatsFor 10 = .ok (.goto 4, 3) := by decide +kernel
theorem dX0_seatsFor_13 : decode cX0_seatsFor 13 = .ok (.iconst 1, 1) := by decide +kernel
theorem dX0_seatsFor_14 : decode cX0_seatsFor 14 = .ok (.ireturn, 1) := by decide +kernel
theorem dX0_seatsTaken_0 : decode cX0_seatsTaken 0 = .ok (.aload_n 0, 1) := by decide +kernel
theorem dX0_seatsTaken_1 : decode cX0_seatsTaken 1 = .ok (.iload_n 1, 1) := by decide +kernel
theorem dX0_seatsTaken_2 : decode cX0_seatsTaken 2 = .ok (.invokevirtual 125, 3) := by decide +kernel
theorem dX0_seatsTaken_5 : decode cX0_seatsTaken 5 = .ok (.aload_n 0, 1) := by decide +kernel
theorem dX0_seatsTaken_6 : decode cX0_seatsTaken 6 = .ok (.getfield 53, 3) := by decide +kernel
theorem dX0_seatsTaken_9 : decode cX0_seatsTaken 9 = .ok (.iand, 1) := by decide +kernel
theorem dX0_seatsTaken_10 : decode cX0_seatsTaken 10 = .ok (.invokestatic 116, 3) := by decide +kernel
theorem dX0_seatsTaken_13 : decode cX0_seatsTaken 13 = .ok (.ireturn, 1) := by decide +kernel
theorem dX0_dryListIn_0 : decode cX0_dryListIn 0 = .ok (.iconst 0, 1) := by decide +kernel
theorem dX0_dryListIn_1 : decode cX0_dryListIn 1 = .ok (.istore_n 2, 1) := by decide +kernel
theorem dX0_dryListIn_2 : decode cX0_dryListIn 2 = .ok (.iconst 0, 1) := by decide +kernel
theorem dX0_dryListIn_3 : decode cX0_dryListIn 3 = .ok (.istore_n 3, 1) := by decide +kernel
theorem dX0_dryListIn_4 : decode cX0_dryListIn 4 = .ok (.iload_n 3, 1) := by decide +kernel
theorem dX0_dryListIn_5 : decode cX0_dryListIn 5 = .ok (.aload_n 0, 1) := by decide +kernel
theorem dX0_dryListIn_6 : decode cX0_dryListIn 6 = .ok (.getfield 15, 3) := by decide +kernel
theorem dX0_dryListIn_9 : decode cX0_dryListIn 9 = .ok (.if_icmp .ge 24, 3) := by decide +kernel
theorem dX0_dryListIn_12 : decode cX0_dryListIn 12 = .ok (.iload_n 2, 1) := by decide +kernel
theorem dX0_dryListIn_13 : decode cX0_dryListIn 13 = .ok (.aload_n 0, 1) := by decide +kernel
theorem dX0_dryListIn_14 : decode cX0_dryListIn 14 = .ok (.iload_n 3, 1) := by decide +kernel
theorem dX0_dryListIn_15 : decode cX0_dryListIn 15 = .ok (.aload_n 0, 1) := by decide +kernel
theorem dX0_dryListIn_16 : decode cX0_dryListIn 16 = .ok (.getfield 47, 3) := by decide +kernel
theorem dX0_dryListIn_19 : decode cX0_dryListIn 19 = .ok (.iload_n 3, 1) := by decide +kernel
theorem dX0_dryListIn_20 : decode cX0_dryListIn 20 = .ok (.iaload, 1) := by decide +kernel
theorem dX0_dryListIn_21 : decode cX0_dryListIn 21 = .ok (.iload_n 1, 1) := by decide +kernel
theorem dX0_dryListIn_22 : decode cX0_dryListIn 22 = .ok (.invokevirtual 128, 3) := by decide +kernel
theorem dX0_dryListIn_25 : decode cX0_dryListIn 25 = .ok (.iadd, 1) := by decide +kernel
theorem dX0_dryListIn_26 : decode cX0_dryListIn 26 = .ok (.istore_n 2, 1) := by decide +kernel
theorem dX0_dryListIn_27 : decode cX0_dryListIn 27 = .ok (.iinc 3 1, 3) := by decide +kernel
theorem dX0_dryListIn_30 : decode cX0_dryListIn 30 = .ok (.goto (-26), 3) := by decide +kernel
theorem dX0_dryListIn_33 : decode cX0_dryListIn 33 = .ok (.iload_n 2, 1) := by decide +kernel
theorem dX0_dryListIn_34 : decode cX0_dryListIn 34 = .ok (.ireturn, 1) := by decide +kernel
theorem dX0_listIn_0 : decode cX0_listIn 0 = .ok (.aload_n 0, 1) := by decide +kernel
theorem dX0_listIn_1 : decode cX0_listIn 1 = .ok (.iload_n 1, 1) := by decide +kernel
theorem dX0_listIn_2 : decode cX0_listIn 2 = .ok (.invokevirtual 131, 3) := by decide +kernel
theorem dX0_listIn_5 : decode cX0_listIn 5 = .ok (.aload_n 0, 1) := by decide +kernel
theorem dX0_listIn_6 : decode cX0_listIn 6 = .ok (.getfield 21, 3) := by decide +kernel
theorem dX0_listIn_9 : decode cX0_listIn 9 = .ok (.iadd, 1) := by decide +kernel
theorem dX0_listIn_10 : decode cX0_listIn 10 = .ok (.ireturn, 1) := by decide +kernel
theorem dX0_isLevel_0 : decode cX0_isLevel 0 = .ok (.iload_n 1, 1) := by decide +kernel
theorem dX0_isLevel_1 : decode cX0_isLevel 1 = .ok (.invokestatic 71, 3) := by decide +kernel
theorem dX0_isLevel_4 : decode cX0_isLevel 4 = .ok (.aload_n 0, 1) := by decide +kernel
theorem dX0_isLevel_5 : decode cX0_isLevel 5 = .ok (.getfield 18, 3) := by decide +kernel
theorem dX0_isLevel_8 : decode cX0_isLevel 8 = .ok (.if_icmp .gt 7, 3) := by decide +kernel
theorem dX0_isLevel_11 : decode cX0_isLevel 11 = .ok (.iconst 1, 1) := by decide +kernel
theorem dX0_isLevel_12 : decode cX0_isLevel 12 = .ok (.goto 4, 3) := by decide +kernel
theorem dX0_isLevel_15 : decode cX0_isLevel 15 = .ok (.iconst 0, 1) := by decide +kernel
theorem dX0_isLevel_16 : decode cX0_isLevel 16 = .ok (.ireturn, 1) := by decide +kernel
theorem dX0_mayTake_0 : decode cX0_mayTake 0 = .ok (.aload_n 0, 1) := by decide +kernel
theorem dX0_mayTake_1 : decode cX0_mayTake 1 = .ok (.iload_n 2, 1) := by decide +kernel
theorem dX0_mayTake_2 : decode cX0_mayTake 2 = .ok (.invokevirtual 134, 3) := by decide +kernel
theorem dX0_mayTake_5 : decode cX0_mayTake 5 = .ok (.aload_n 0, 1) := by decide +kernel
theorem dX0_mayTake_6 : decode cX0_mayTake 6 = .ok (.iload_n 1, 1) := by decide +kernel
theorem dX0_mayTake_7 : decode cX0_mayTake 7 = .ok (.invokevirtual 137, 3) := by decide +kernel
theorem dX0_mayTake_10 : decode cX0_mayTake 10 = .ok (.iadd, 1) := by decide +kernel
theorem dX0_mayTake_11 : decode cX0_mayTake 11 = .ok (.iconst 2, 1) := by decide +kernel
theorem dX0_mayTake_12 : decode cX0_mayTake 12 = .ok (.if_icmp .le 5, 3) := by decide +kernel
theorem dX0_mayTake_15 : decode cX0_mayTake 15 = .ok (.iconst 0, 1) := by decide +kernel
theorem dX0_mayTake_16 : decode cX0_mayTake 16 = .ok (.ireturn, 1) := by decide +kernel
theorem dX0_mayTake_17 : decode cX0_mayTake 17 = .ok (.aload_n 0, 1) := by decide +kernel
theorem dX0_mayTake_18 : decode cX0_mayTake 18 = .ok (.iload_n 2, 1) := by decide +kernel
theorem dX0_mayTake_19 : decode cX0_mayTake 19 = .ok (.iconst 1, 1) := by decide +kernel
theorem dX0_mayTake_20 : decode cX0_mayTake 20 = .ok (.isub, 1) := by decide +kernel
theorem dX0_mayTake_21 : decode cX0_mayTake 21 = .ok (.invokevirtual 125, 3) := by decide +kernel
theorem dX0_mayTake_24 : decode cX0_mayTake 24 = .ok (.aload_n 0, 1) := by decide +kernel
theorem dX0_mayTake_25 : decode cX0_mayTake 25 = .ok (.iload_n 2, 1) := by decide +kernel
theorem dX0_mayTake_26 : decode cX0_mayTake 26 = .ok (.invokevirtual 125, 3) := by decide +kernel
theorem dX0_mayTake_29 : decode cX0_mayTake 29 = .ok (.ior, 1) := by decide +kernel
theorem dX0_mayTake_30 : decode cX0_mayTake 30 = .ok (.aload_n 0, 1) := by decide +kernel
theorem dX0_mayTake_31 : decode cX0_mayTake 31 = .ok (.iload_n 2, 1) := by decide +kernel
theorem dX0_mayTake_32 : decode cX0_mayTake 32 = .ok (.iconst 1, 1) := by decide +kernel
theorem dX0_mayTake_33 : decode cX0_mayTake 33 = .ok (.iadd, 1) := by decide +kernel
theorem dX0_mayTake_34 : decode cX0_mayTake 34 = .ok (.invokevirtual 125, 3) := by decide +kernel
theorem dX0_mayTake_37 : decode cX0_mayTake 37 = .ok (.ior, 1) := by decide +kernel
theorem dX0_mayTake_38 : decode cX0_mayTake 38 = .ok (.istore_n 3, 1) := by decide +kernel
theorem dX0_mayTake_39 : decode cX0_mayTake 39 = .ok (.iload_n 3, 1) := by decide +kernel
theorem dX0_mayTake_40 : decode cX0_mayTake 40 = .ok (.aload_n 0, 1) := by decide +kernel
theorem dX0_mayTake_41 : decode cX0_mayTake 41 = .ok (.getfield 27, 3) := by decide +kernel
theorem dX0_mayTake_44 : decode cX0_mayTake 44 = .ok (.iload_n 1, 1) := by decide +kernel
theorem dX0_mayTake_45 : decode cX0_mayTake 45 = .ok (.invokevirtual 140, 3) := by decide +kernel
theorem dX0_mayTake_48 : decode cX0_mayTake 48 = .ok (.iand, 1) := by decide +kernel
theorem dX0_mayTake_49 : decode cX0_mayTake 49 = .ok (.ifCond .ne 7, 3) := by decide +kernel
theorem dX0_mayTake_52 : decode cX0_mayTake 52 = .ok (.iconst 1, 1) := by decide +kernel
theorem dX0_mayTake_53 : decode cX0_mayTake 53 = .ok (.goto 4, 3) := by decide +kernel
theorem dX0_mayTake_56 : decode cX0_mayTake 56 = .ok (.iconst 0, 1) := by decide +kernel
theorem dX0_mayTake_57 : decode cX0_mayTake 57 = .ok (.ireturn, 1) := by decide +kernel
theorem dX0_place_0 : decode cX0_place 0 = .ok (.aload_n 0, 1) := by decide +kernel
theorem dX0_place_1 : decode cX0_place 1 = .ok (.iload_n 1, 1) := by decide +kernel
theorem dX0_place_2 : decode cX0_place 2 = .ok (.invokevirtual 94, 3) := by decide +kernel
theorem dX0_place_5 : decode cX0_place 5 = .ok (.ifCond .ne 4, 3) := by decide +kernel
theorem dX0_place_8 : decode cX0_place 8 = .ok (.return_, 1) := by decide +kernel
theorem dX0_place_9 : decode cX0_place 9 = .ok (.aload_n 0, 1) := by decide +kernel
theorem dX0_place_10 : decode cX0_place 10 = .ok (.getfield 47, 3) := by decide +kernel
theorem dX0_place_13 : decode cX0_place 13 = .ok (.iload_n 1, 1) := by decide +kernel
theorem dX0_place_14 : decode cX0_place 14 = .ok (.iaload, 1) := by decide +kernel
theorem dX0_place_15 : decode cX0_place 15 = .ok (.istore_n 3, 1) := by decide +kernel
theorem dX0_place_16 : decode cX0_place 16 = .ok (.aload_n 0, 1) := by decide +kernel
theorem dX0_place_17 : decode cX0_place 17 = .ok (.iload_n 3, 1) := by decide +kernel
theorem dX0_place_18 : decode cX0_place 18 = .ok (.invokevirtual 90, 3) := by decide +kernel
theorem dX0_place_21 : decode cX0_place 21 = .ok (.ifCond .eq 17, 3) := by decide +kernel
theorem dX0_place_24 : decode cX0_place 24 = .ok (.aload_n 0, 1) := by decide +kernel
theorem dX0_place_25 : decode cX0_place 25 = .ok (.getfield 35, 3) := by decide +kernel
theorem dX0_place_28 : decode cX0_place 28 = .ok (.iload_n 3, 1) := by decide +kernel
theorem dX0_place_29 : decode cX0_place 29 = .ok (.dup2, 1) := by decide +kernel
theorem dX0_place_30 : decode cX0_place 30 = .ok (.iaload, 1) := by decide +kernel
theorem dX0_place_31 : decode cX0_place 31 = .ok (.iconst 1, 1) := by decide +kernel
theorem dX0_place_32 : decode cX0_place 32 = .ok (.iload_n 1, 1) := by decide +kernel
theorem dX0_place_33 : decode cX0_place 33 = .ok (.ishl, 1) := by decide +kernel
theorem dX0_place_34 : decode cX0_place 34 = .ok (.iconst (-1), 1) := by decide +kernel
theorem dX0_place_35 : decode cX0_place 35 = .ok (.ixor, 1) := by decide +kernel
theorem dX0_place_36 : decode cX0_place 36 = .ok (.iand, 1) := by decide +kernel
theorem dX0_place_37 : decode cX0_place 37 = .ok (.iastore, 1) := by decide +kernel
theorem dX0_place_38 : decode cX0_place 38 = .ok (.aload_n 0, 1) := by decide +kernel
theorem dX0_place_39 : decode cX0_place 39 = .ok (.getfield 47, 3) := by decide +kernel
theorem dX0_place_42 : decode cX0_place 42 = .ok (.iload_n 1, 1) := by decide +kernel
theorem dX0_place_43 : decode cX0_place 43 = .ok (.aload_n 0, 1) := by decide +kernel
theorem dX0_place_44 : decode cX0_place 44 = .ok (.iload_n 2, 1) := by decide +kernel
theorem dX0_place_45 : decode cX0_place 45 = .ok (.invokevirtual 90, 3) := by decide +kernel
theorem dX0_place_48 : decode cX0_place 48 = .ok (.ifCond .eq 7, 3) := by decide +kernel
theorem dX0_place_51 : decode cX0_place 51 = .ok (.iload_n 2, 1) := by decide +kernel
theorem dX0_place_52 : decode cX0_place 52 = .ok (.goto 5, 3) := by decide +kernel
theorem dX0_place_55 : decode cX0_place 55 = .ok (.bipush (-9), 2) := by decide +kernel
theorem dX0_place_57 : decode cX0_place 57 = .ok (.iastore, 1) := by decide +kernel
theorem dX0_place_58 : decode cX0_place 58 = .ok (.aload_n 0, 1) := by decide +kernel
theorem dX0_place_59 : decode cX0_place 59 = .ok (.iload_n 2, 1) := by decide +kernel
theorem dX0_place_60 : decode cX0_place 60 = .ok (.invokevirtual 90, 3) := by decide +kernel
theorem dX0_place_63 : decode cX0_place 63 = .ok (.ifCond .eq 15, 3) := by decide +kernel
theorem dX0_place_66 : decode cX0_place 66 = .ok (.aload_n 0, 1) := by decide +kernel
theorem dX0_place_67 : decode cX0_place 67 = .ok (.getfield 35, 3) := by decide +kernel
theorem dX0_place_70 : decode cX0_place 70 = .ok (.iload_n 2, 1) := by decide +kernel
theorem dX0_place_71 : decode cX0_place 71 = .ok (.dup2, 1) := by decide +kernel
theorem dX0_place_72 : decode cX0_place 72 = .ok (.iaload, 1) := by decide +kernel
theorem dX0_place_73 : decode cX0_place 73 = .ok (.iconst 1, 1) := by decide +kernel
theorem dX0_place_74 : decode cX0_place 74 = .ok (.iload_n 1, 1) := by decide +kernel
theorem dX0_place_75 : decode cX0_place 75 = .ok (.ishl, 1) := by decide +kernel
theorem dX0_place_76 : decode cX0_place 76 = .ok (.ior, 1) := by decide +kernel
theorem dX0_place_77 : decode cX0_place 77 = .ok (.iastore, 1) := by decide +kernel
theorem dX0_place_78 : decode cX0_place 78 = .ok (.return_, 1) := by decide +kernel
theorem dX0_swap_0 : decode cX0_swap 0 = .ok (.aload_n 0, 1) := by decide +kernel
theorem dX0_swap_1 : decode cX0_swap 1 = .ok (.iload_n 1, 1) := by decide +kernel
theorem dX0_swap_2 : decode cX0_swap 2 = .ok (.invokevirtual 143, 3) := by decide +kernel
theorem dX0_swap_5 : decode cX0_swap 5 = .ok (.istore_n 3, 1) := by decide +kernel
theorem dX0_swap_6 : decode cX0_swap 6 = .ok (.aload_n 0, 1) := by decide +kernel
theorem dX0_swap_7 : decode cX0_swap 7 = .ok (.iload_n 1, 1) := by decide +kernel
theorem dX0_swap_8 : decode cX0_swap 8 = .ok (.aload_n 0, 1) := by decide +kernel
theorem dX0_swap_9 : decode cX0_swap 9 = .ok (.iload_n 2, 1) := by decide +kernel
theorem dX0_swap_10 : decode cX0_swap 10 = .ok (.invokevirtual 143, 3) := by decide +kernel
theorem dX0_swap_13 : decode cX0_swap 13 = .ok (.invokevirtual 146, 3) := by decide +kernel
theorem dX0_swap_16 : decode cX0_swap 16 = .ok (.aload_n 0, 1) := by decide +kernel
theorem dX0_swap_17 : decode cX0_swap 17 = .ok (.iload_n 2, 1) := by decide +kernel
theorem dX0_swap_18 : decode cX0_swap 18 = .ok (.iload_n 3, 1) := by decide +kernel
theorem dX0_swap_19 : decode cX0_swap 19 = .ok (.invokevirtual 146, 3) := by decide +kernel
theorem dX0_swap_22 : decode cX0_swap 22 = .ok (.return_, 1) := by decide +kernel
theorem dX0_trade_0 : decode cX0_trade 0 = .ok (.aload_n 0, 1) := by decide +kernel
theorem dX0_trade_1 : decode cX0_trade 1 = .ok (.iload_n 1, 1) := by decide +kernel
theorem dX0_trade_2 : decode cX0_trade 2 = .ok (.invokevirtual 143, 3) := by decide +kernel
theorem dX0_trade_5 : decode cX0_trade 5 = .ok (.istore_n 3, 1) := by decide +kernel
theorem dX0_trade_6 : decode cX0_trade 6 = .ok (.aload_n 0, 1) := by decide +kernel
theorem dX0_trade_7 : decode cX0_trade 7 = .ok (.iload_n 2, 1) := by decide +kernel
theorem dX0_trade_8 : decode cX0_trade 8 = .ok (.invokevirtual 143, 3) := by decide +kernel
theorem dX0_trade_11 : decode cX0_trade 11 = .ok (.istore 4, 2) := by decide +kernel
theorem dX0_trade_13 : decode cX0_trade 13 = .ok (.iload_n 3, 1) := by decide +kernel
theorem dX0_trade_14 : decode cX0_trade 14 = .ok (.bipush (-9), 2) := by decide +kernel
theorem dX0_trade_16 : decode cX0_trade 16 = .ok (.if_icmp .eq 16, 3) := by decide +kernel
theorem dX0_trade_19 : decode cX0_trade 19 = .ok (.iload 4, 2) := by decide +kernel
theorem dX0_trade_21 : decode cX0_trade 21 = .ok (.bipush (-9), 2) := by decide +kernel
theorem dX0_trade_23 : decode cX0_trade 23 = .ok (.if_icmp .eq 9, 3) := by decide +kernel
theorem dX0_trade_26 : decode cX0_trade 26 = .ok (.iload_n 3, 1) := by decide +kernel
theorem dX0_trade_27 : decode cX0_trade 27 = .ok (.iload 4, 2) := by decide +kernel
theorem dX0_trade_29 : decode cX0_trade 29 = .ok (.if_icmp .ne 5, 3) := by decide +kernel
theorem dX0_trade_32 : decode cX0_trade 32 = .ok (.iconst 0, 1) := by decide +kernel
theorem dX0_trade_33 : decode cX0_trade 33 = .ok (.ireturn, 1) := by decide +kernel
theorem dX0_trade_34 : decode cX0_trade 34 = .ok (.aload_n 0, 1) := by decide +kernel
theorem dX0_trade_35 : decode cX0_trade 35 = .ok (.iload_n 2, 1) := by decide +kernel
theorem dX0_trade_36 : decode cX0_trade 36 = .ok (.bipush (-9), 2) := by decide +kernel
theorem dX0_trade_38 : decode cX0_trade 38 = .ok (.invokevirtual 146, 3) := by decide +kernel
theorem dX0_trade_41 : decode cX0_trade 41 = .ok (.aload_n 0, 1) := by decide +kernel
theorem dX0_trade_42 : decode cX0_trade 42 = .ok (.iload_n 1, 1) := by decide +kernel
theorem dX0_trade_43 : decode cX0_trade 43 = .ok (.iload 4, 2) := by decide +kernel
theorem dX0_trade_45 : decode cX0_trade 45 = .ok (.invokevirtual 150, 3) := by decide +kernel
theorem dX0_trade_48 : decode cX0_trade 48 = .ok (.istore 5, 2) := by decide +kernel
theorem dX0_trade_50 : decode cX0_trade 50 = .ok (.iload 5, 2) := by decide +kernel
theorem dX0_trade_52 : decode cX0_trade 52 = .ok (.ifCond .eq 18, 3) := by decide +kernel
theorem dX0_trade_55 : decode cX0_trade 55 = .ok (.aload_n 0, 1) := by decide +kernel
theorem dX0_trade_56 : decode cX0_trade 56 = .ok (.iload_n 1, 1) := by decide +kernel
theorem dX0_trade_57 : decode cX0_trade 57 = .ok (.iload 4, 2) := by decide +kernel
theorem dX0_trade_59 : decode cX0_trade 59 = .ok (.invokevirtual 146, 3) := by decide +kernel
theorem dX0_trade_62 : decode cX0_trade 62 = .ok (.aload_n 0, 1) := by decide +kernel
theorem dX0_trade_63 : decode cX0_trade 63 = .ok (.iload_n 2, 1) := by decide +kernel
theorem dX0_trade_64 : decode cX0_trade 64 = .ok (.iload_n 3, 1) := by decide +kernel
theorem dX0_trade_65 : decode cX0_trade 65 = .ok (.invokevirtual 150, 3) := by decide +kernel
theorem dX0_trade_68 : decode cX0_trade 68 = .ok (.istore 5, 2) := by decide +kernel
theorem dX0_trade_70 : decode cX0_trade 70 = .ok (.aload_n 0, 1) := by decide +kernel
theorem dX0_trade_71 : decode cX0_trade 71 = .ok (.iload_n 1, 1) := by decide +kernel
theorem dX0_trade_72 : decode cX0_trade 72 = .ok (.iload 5, 2) := by decide +kernel
theorem dX0_trade_74 : decode cX0_trade 74 = .ok (.ifCond .eq 8, 3) := by decide +kernel
theorem dX0_trade_77 : decode cX0_trade 77 = .ok (.iload 4, 2) := by decide +kernel
theorem dX0_trade_79 : decode cX0_trade 79 = .ok (.goto 4, 3) := by decide +kernel
theorem dX0_trade_82 : decode cX0_trade 82 = .ok (.iload_n 3, 1) := by decide +kernel
theorem dX0_trade_83 : decode cX0_trade 83 = .ok (.invokevirtual 146, 3) := by decide +kernel
theorem dX0_trade_86 : decode cX0_trade 86 = .ok (.aload_n 0, 1) := by decide +kernel
theorem dX0_trade_87 : decode cX0_trade 87 = .ok (.iload_n 2, 1) := by decide +kernel
theorem dX0_trade_88 : decode cX0_trade 88 = .ok (.iload 5, 2) := by decide +kernel
theorem dX0_trade_90 : decode cX0_trade 90 = .ok (.ifCond .eq 7, 3) := by decide +kernel
theorem dX0_trade_93 : decode cX0_trade 93 = .ok (.iload_n 3, 1) := by decide +kernel
theorem dX0_trade_94 : decode cX0_trade 94 = .ok (.goto 5, 3) := by decide +kernel
theorem dX0_trade_97 : decode cX0_trade 97 = .ok (.iload 4, 2) := by decide +kernel
theorem dX0_trade_99 : decode cX0_trade 99 = .ok (.invokevirtual 146, 3) := by decide +kernel
theorem dX0_trade_102 : decode cX0_trade 102 = .ok (.iload 5, 2) := by decide +kernel
theorem dX0_trade_104 : decode cX0_trade 104 = .ok (.ireturn, 1) := by decide +kernel
theorem dX1_init_0 : decode cX1_init 0 = .ok (.aload_n 0, 1) := by decide +kernel
theorem dX1_init_1 : decode cX1_init 1 = .ok (.invokespecial 3, 3) := by decide +kernel
theorem dX1_init_4 : decode cX1_init 4 = .ok (.aload_n 0, 1) := by decide +kernel
theorem dX1_init_5 : decode cX1_init 5 = .ok (.iconst 0, 1) := by decide +kernel
theorem dX1_init_6 : decode cX1_init 6 = .ok (.putfield 9, 3) := by decide +kernel
theorem dX1_init_9 : decode cX1_init 9 = .ok (.aload_n 0, 1) := by decide +kernel
theorem dX1_init_10 : decode cX1_init 10 = .ok (.bipush 60, 2) := by decide +kernel
theorem dX1_init_12 : decode cX1_init 12 = .ok (.newarray .int, 2) := by decide +kernel
theorem dX1_init_14 : decode cX1_init 14 = .ok (.putfield 15, 3) := by decide +kernel
theorem dX1_init_17 : decode cX1_init 17 = .ok (.aload_n 0, 1) := by decide +kernel
theorem dX1_init_18 : decode cX1_init 18 = .ok (.bipush 60, 2) := by decide +kernel
theorem dX1_init_20 : decode cX1_init 20 = .ok (.newarray .int, 2) := by decide +kernel
theorem dX1_init_22 : decode cX1_init 22 = .ok (.putfield 19, 3) := by decide +kernel
theorem dX1_init_25 : decode cX1_init 25 = .ok (.aload_n 0, 1) := by decide +kernel
theorem dX1_init_26 : decode cX1_init 26 = .ok (.bipush 60, 2) := by decide +kernel
theorem dX1_init_28 : decode cX1_init 28 = .ok (.newarray .int, 2) := by decide +kernel
theorem dX1_init_30 : decode cX1_init 30 = .ok (.putfield 22, 3) := by decide +kernel
theorem dX1_init_33 : decode cX1_init 33 = .ok (.return_, 1) := by decide +kernel
theorem dX1_remember_0 : decode cX1_remember 0 = .ok (.aload_n 0, 1) := by decide +kernel
theorem dX1_remember_1 : decode cX1_remember 1 = .ok (.getfield 9, 3) := by decide +kernel
theorem dX1_remember_4 : decode cX1_remember 4 = .ok (.bipush 60, 2) := by decide +kernel
theorem dX1_remember_6 : decode cX1_remember 6 = .ok (.if_icmp .lt 7, 3) := by decide +kernel
theorem dX1_remember_9 : decode cX1_remember 9 = .ok (.aload_n 0, 1) := by decide +kernel
theorem dX1_remember_10 : decode cX1_remember 10 = .ok (.invokevirtual 25, 3) := by decide +kernel
theorem dX1_remember_13 : decode cX1_remember 13 = .ok (.aload_n 0, 1) := by decide +kernel
theorem dX1_remember_14 : decode cX1_remember 14 = .ok (.getfield 9, 3) := by decide +kernel
theorem dX1_remember_17 : decode cX1_remember 17 = .ok (.bipush 60, 2) := by decide +kernel
theorem dX1_remember_19 : decode cX1_remember 19 = .ok (.if_icmp .ge 43, 3) := by decide +kernel
theorem dX1_remember_22 : decode cX1_remember 22 = .ok (.aload_n 0, 1) := by decide +kernel
theorem dX1_remember_23 : decode cX1_remember 23 = .ok (.getfield 15, 3) := by decide +kernel
theorem dX1_remember_26 : decode cX1_remember 26 = .ok (.aload_n 0, 1) := by decide +kernel
theorem dX1_remember_27 : decode cX1_remember 27 = .ok (.getfield 9, 3) := by decide +kernel
theorem dX1_remember_30 : decode cX1_remember 30 = .ok (.iload_n 1, 1) := by decide +kernel
theorem dX1_remember_31 : decode cX1_remember 31 = .ok (.iastore, 1) := by decide +kernel
theorem dX1_remember_32 : decode cX1_remember 32 = .ok (.aload_n 0, 1) := by decide +kernel
theorem dX1_remember_33 : decode cX1_remember 33 = .ok (.getfield 19, 3) := by decide +kernel
theorem dX1_remember_36 : decode cX1_remember 36 = .ok (.aload_n 0, 1) := by decide +kernel
theorem dX1_remember_37 : decode cX1_remember 37 = .ok (.getfield 9, 3) := by decide +kernel
theorem dX1_remember_40 : decode cX1_remember 40 = .ok (.iload_n 2, 1) := by decide +kernel
theorem dX1_remember_41 : decode cX1_remember 41 = .ok (.iastore, 1) := by decide +kernel
theorem dX1_remember_42 : decode cX1_remember 42 = .ok (.aload_n 0, 1) := by decide +kernel
theorem dX1_remember_43 : decode cX1_remember 43 = .ok (.getfield 22, 3) := by decide +kernel
theorem dX1_remember_46 : decode cX1_remember 46 = .ok (.aload_n 0, 1) := by decide +kernel
theorem dX1_remember_47 : decode cX1_remember 47 = .ok (.getfield 9, 3) := by decide +kernel
theorem dX1_remember_50 : decode cX1_remember 50 = .ok (.iload_n 3, 1) := by decide +kernel
theorem dX1_remember_51 : decode cX1_remember 51 = .ok (.iastore, 1) := by decide +kernel
theorem dX1_remember_52 : decode cX1_remember 52 = .ok (.aload_n 0, 1) := by decide +kernel
theorem dX1_remember_53 : decode cX1_remember 53 = .ok (.dup, 1) := by decide +kernel
theorem dX1_remember_54 : decode cX1_remember 54 = .ok (.getfield 9, 3) := by decide +kernel
theorem dX1_remember_57 : decode cX1_remember 57 = .ok (.iconst 1, 1) := by decide +kernel
theorem dX1_remember_58 : decode cX1_remember 58 = .ok (.iadd, 1) := by decide +kernel
theorem dX1_remember_59 : decode cX1_remember 59 = .ok (.putfield 9, 3) := by decide +kernel
theorem dX1_remember_62 : decode cX1_remember 62 = .ok (.return_, 1) := by decide +kernel
theorem dX1_forgetFirst_0 : decode cX1_forgetFirst 0 = .ok (.iconst 1, 1) := by decide +kernel
theorem dX1_forgetFirst_1 : decode cX1_forgetFirst 1 = .ok (.istore_n 1, 1) := by decide +kernel
theorem dX1_forgetFirst_2 : decode cX1_forgetFirst 2 = .ok (.iload_n 1, 1) := by decide +kernel
theorem dX1_forgetFirst_3 : decode cX1_forgetFirst 3 = .ok (.bipush 60, 2) := by decide +kernel
theorem dX1_forgetFirst_5 : decode cX1_forgetFirst 5 = .ok (.if_icmp .ge 51, 3) := by decide +kernel
theorem dX1_forgetFirst_8 : decode cX1_forgetFirst 8 = .ok (.aload_n 0, 1) := by decide +kernel
theorem dX1_forgetFirst_9 : decode cX1_forgetFirst 9 = .ok (.getfield 15, 3) := by decide +kernel
theorem dX1_forgetFirst_12 : decode cX1_forgetFirst 12 = .ok (.iload_n 1, 1) := by decide +kernel
theorem dX1_forgetFirst_13 : decode cX1_forgetFirst 13 = .ok (.iconst 1, 1) := by decide +kernel
theorem dX1_forgetFirst_14 : decode cX1_forgetFirst 14 = .ok (.isub, 1) := by decide +kernel
theorem dX1_forgetFirst_15 : decode cX1_forgetFirst 15 = .ok (.aload_n 0, 1) := by decide +kernel
theorem dX1_forgetFirst_16 : decode cX1_forgetFirst 16 = .ok (.getfield 15, 3) := by decide +kernel
theorem dX1_forgetFirst_19 : decode cX1_forgetFirst 19 = .ok (.iload_n 1, 1) := by decide +kernel
theorem dX1_forgetFirst_20 : decode cX1_forgetFirst 20 = .ok (.iaload, 1) := by decide +kernel
theorem dX1_forgetFirst_21 : decode cX1_forgetFirst 21 = .ok (.iastore, 1) := by decide +kernel
theorem dX1_forgetFirst_22 : decode cX1_forgetFirst 22 = .ok (.aload_n 0, 1) := by decide +kernel
theorem dX1_forgetFirst_23 : decode cX1_forgetFirst 23 = .ok (.getfield 19, 3) := by decide +kernel
theorem dX1_forgetFirst_26 : decode cX1_forgetFirst 26 = .ok (.iload_n 1, 1) := by decide +kernel
theorem dX1_forgetFirst_27 : decode cX1_forgetFirst 27 = .ok (.iconst 1, 1) := by decide +kernel
theorem dX1_forgetFirst_28 : decode cX1_forgetFirst 28 = .ok (.isub, 1) := by decide +kernel
theorem dX1_forgetFirst_29 : decode cX1_forgetFirst 29 = .ok (.aload_n 0, 1) := by decide +kernel
theorem dX1_forgetFirst_30 : decode cX1_forgetFirst 30 = .ok (.getfield 19, 3) := by decide +kernel
theorem dX1_forgetFirst_33 : decode cX1_forgetFirst 33 = .ok (.iload_n 1, 1) := by decide +kernel
theorem dX1_forgetFirst_34 : decode cX1_forgetFirst 34 = .ok (.iaload, 1) := by decide +kernel
theorem dX1_forgetFirst_35 : decode cX1_forgetFirst 35 = .ok (.iastore, 1) := by decide +kernel
theorem dX1_forgetFirst_36 : decode cX1_forgetFirst 36 = .ok (.aload_n 0, 1) := by decide +kernel
theorem dX1_forgetFirst_37 : decode cX1_forgetFirst 37 = .ok (.getfield 22, 3) := by decide +kernel
theorem dX1_forgetFirst_40 : decode cX1_forgetFirst 40 = .ok (.iload_n 1, 1) := by decide +kernel
theorem dX1_forgetFirst_41 : decode cX1_forgetFirst 41 = .ok (.iconst 1, 1) := by decide +kernel
theorem dX1_forgetFirst_42 : decode cX1_forgetFirst 42 = .ok (.isub, 1) := by decide +kernel
theorem dX1_forgetFirst_43 : decode cX1_forgetFirst 43 = .ok (.aload_n 0, 1) := by decide +kernel
theorem dX1_forgetFirst_44 : decode cX1_forgetFirst 44 = .ok (.getfield 22, 3) := by decide +kernel
theorem dX1_forgetFirst_47 : decode cX1_forgetFirst 47 = .ok (.iload_n 1, 1) := by decide +kernel
theorem dX1_forgetFirst_48 : decode cX1_forgetFirst 48 = .ok (.iaload, 1) := by decide +kernel
theorem dX1_forgetFirst_49 : decode cX1_forgetFirst 49 = .ok (.iastore, 1) := by decide +kernel
theorem dX1_forgetFirst_50 : decode cX1_forgetFirst 50 = .ok (.iinc 1 1, 3) := by decide +kernel
theorem dX1_forgetFirst_53 : decode cX1_forgetFirst 53 = .ok (.goto (-51), 3) := by decide +kernel
theorem dX1_forgetFirst_56 : decode cX1_forgetFirst 56 = .ok (.aload_n 0, 1) := by decide +kernel
theorem dX1_forgetFirst_57 : decode cX1_forgetFirst 57 = .ok (.bipush 59, 2) := by decide +kernel
theorem dX1_forgetFirst_59 : decode cX1_forgetFirst 59 = .ok (.putfield 9, 3) := by decide +kernel
theorem dX1_forgetFirst_62 : decode cX1_forgetFirst 62 = .ok (.return_, 1) := by decide +kernel
theorem dX1_forgetLast_0 : decode cX1_forgetLast 0 = .ok (.aload_n 0, 1) := by decide +kernel
theorem dX1_forgetLast_1 : decode cX1_forgetLast 1 = .ok (.iconst 0, 1) := by decide +kernel
theorem dX1_forgetLast_2 : decode cX1_forgetLast 2 = .ok (.aload_n 0, 1) := by decide +kernel
theorem dX1_forgetLast_3 : decode cX1_forgetLast 3 = .ok (.getfield 9, 3) := by decide +kernel
theorem dX1_forgetLast_6 : decode cX1_forgetLast 6 = .ok (.iconst 1, 1) := by decide +kernel
theorem dX1_forgetLast_7 : decode cX1_forgetLast 7 = .ok (.isub, 1) := by decide +kernel
theorem dX1_forgetLast_8 : decode cX1_forgetLast 8 = .ok (.invokestatic 28, 3) := by decide +kernel
theorem dX1_forgetLast_11 : decode cX1_forgetLast 11 = .ok (.putfield 9, 3) := by decide +kernel
theorem dX1_forgetLast_14 : decode cX1_forgetLast 14 = .ok (.return_, 1) := by decide +kernel
theorem dX1_forgetAll_0 : decode cX1_forgetAll 0 = .ok (.aload_n 0, 1) := by decide +kernel
theorem dX1_forgetAll_1 : decode cX1_forgetAll 1 = .ok (.iconst 0, 1) := by decide +kernel
theorem dX1_forgetAll_2 : decode cX1_forgetAll 2 = .ok (.putfield 9, 3) := by decide +kernel
theorem dX1_forgetAll_5 : decode cX1_forgetAll 5 = .ok (.return_, 1) := by decide +kernel
theorem dX1_lastSort_0 : decode cX1_lastSort 0 = .ok (.aload_n 0, 1) := by decide +kernel
theorem dX1_lastSort_1 : decode cX1_lastSort 1 = .ok (.getfield 9, 3) := by decide +kernel
theorem dX1_lastSort_4 : decode cX1_lastSort 4 = .ok (.ifCond .le 26, 3) := by decide +kernel
theorem dX1_lastSort_7 : decode cX1_lastSort 7 = .ok (.aload_n 0, 1) := by decide +kernel
theorem dX1_lastSort_8 : decode cX1_lastSort 8 = .ok (.getfield 9, 3) := by decide +kernel
theorem dX1_lastSort_11 : decode cX1_lastSort 11 = .ok (.bipush 60, 2) := by decide +kernel
theorem dX1_lastSort_13 : decode cX1_lastSort 13 = .ok (.if_icmp .gt 17, 3) := by decide +kernel
theorem dX1_lastSort_16 : decode cX1_lastSort 16 = .ok (.aload_n 0, 1) := by decide +kernel
theorem dX1_lastSort_17 : decode cX1_lastSort 17 = .ok (.getfield 15, 3) := by decide +kernel
theorem dX1_lastSort_20 : decode cX1_lastSort 20 = .ok (.aload_n 0, 1) := by decide +kernel
theorem dX1_lastSort_21 : decode cX1_lastSort 21 = .ok (.getfield 9, 3) := by decide +kernel
theorem dX1_lastSort_24 : decode cX1_lastSort 24 = .ok (.iconst 1, 1) := by decide +kernel
theorem dX1_lastSort_25 : decode cX1_lastSort 25 = .ok (.isub, 1) := by decide +kernel
theorem dX1_lastSort_26 : decode cX1_lastSort 26 = .ok (.iaload, 1) := by decide +kernel
theorem dX1_lastSort_27 : decode cX1_lastSort 27 = .ok (.goto 4, 3) := by decide +kernel
theorem dX1_lastSort_30 : decode cX1_lastSort 30 = .ok (.iconst 0, 1) := by decide +kernel
theorem dX1_lastSort_31 : decode cX1_lastSort 31 = .ok (.ireturn, 1) := by decide +kernel
theorem dX1_lastGuest_0 : decode cX1_lastGuest 0 = .ok (.aload_n 0, 1) := by decide +kernel
theorem dX1_lastGuest_1 : decode cX1_lastGuest 1 = .ok (.getfield 9, 3) := by decide +kernel
theorem dX1_lastGuest_4 : decode cX1_lastGuest 4 = .ok (.ifCond .le 26, 3) := by decide +kernel
theorem dX1_lastGuest_7 : decode cX1_lastGuest 7 = .ok (.aload_n 0, 1) := by decide +kernel
theorem dX1_lastGuest_8 : decode cX1_lastGuest 8 = .ok (.getfield 9, 3) := by decide +kernel
theorem dX1_lastGuest_11 : decode cX1_lastGuest 11 = .ok (.bipush 60, 2) := by decide +kernel
theorem dX1_lastGuest_13 : decode cX1_lastGuest 13 = .ok (.if_icmp .gt 17, 3) := by decide +kernel
theorem dX1_lastGuest_16 : decode cX1_lastGuest 16 = .ok (.aload_n 0, 1) := by decide +kernel
theorem dX1_lastGuest_17 : decode cX1_lastGuest 17 = .ok (.getfield 19, 3) := by decide +kernel
theorem dX1_lastGuest_20 : decode cX1_lastGuest 20 = .ok (.aload_n 0, 1) := by decide +kernel
theorem dX1_lastGuest_21 : decode cX1_lastGuest 21 = .ok (.getfield 9, 3) := by decide +kernel
theorem dX1_lastGuest_24 : decode cX1_lastGuest 24 = .ok (.iconst 1, 1) := by decide +kernel
theorem dX1_lastGuest_25 : decode cX1_lastGuest 25 = .ok (.isub, 1) := by decide +kernel
theorem dX1_lastGuest_26 : decode cX1_lastGuest 26 = .ok (.iaload, 1) := by decide +kernel
theorem dX1_lastGuest_27 : decode cX1_lastGuest 27 = .ok (.goto 5, 3) := by decide +kernel
theorem dX1_lastGuest_30 : decode cX1_lastGuest 30 = .ok (.bipush (-9), 2) := by decide +kernel
theorem dX1_lastGuest_32 : decode cX1_lastGuest 32 = .ok (.ireturn, 1) := by decide +kernel
theorem dX1_lastOther_0 : decode cX1_lastOther 0 = .ok (.aload_n 0, 1) := by decide +kernel
theorem dX1_lastOther_1 : decode cX1_lastOther 1 = .ok (.getfield 9, 3) := by decide +kernel
theorem dX1_lastOther_4 : decode cX1_lastOther 4 = .ok (.ifCond .le 26, 3) := by decide +kernel
theorem dX1_lastOther_7 : decode cX1_lastOther 7 = .ok (.aload_n 0, 1) := by decide +kernel
theorem dX1_lastOther_8 : decode cX1_lastOther 8 = .ok (.getfield 9, 3) := by decide +kernel
theorem dX1_lastOther_11 : decode cX1_lastOther 11 = .ok (.bipush 60, 2) := by decide +kernel
theorem dX1_lastOther_13 : decode cX1_lastOther 13 = .ok (.if_icmp .gt 17, 3) := by decide +kernel
theorem dX1_lastOther_16 : decode cX1_lastOther 16 = .ok (.aload_n 0, 1) := by decide +kernel
theorem dX1_lastOther_17 : decode cX1_lastOther 17 = .ok (.getfield 22, 3) := by decide +kernel
theorem dX1_lastOther_20 : decode cX1_lastOther 20 = .ok (.aload_n 0, 1) := by decide +kernel
theorem dX1_lastOther_21 : decode cX1_lastOther 21 = .ok (.getfield 9, 3) := by decide +kernel
theorem dX1_lastOther_24 : decode cX1_lastOther 24 = .ok (.iconst 1, 1) := by decide +kernel
theorem dX1_lastOther_25 : decode cX1_lastOther 25 = .ok (.isub, 1) := by decide +kernel
theorem dX1_lastOther_26 : decode cX1_lastOther 26 = .ok (.iaload, 1) := by decide +kernel
theorem dX1_lastOther_27 : decode cX1_lastOther 27 = .ok (.goto 5, 3) := by decide +kernel
theorem dX1_lastOther_30 : decode cX1_lastOther 30 = .ok (.bipush (-9), 2) := by decide +kernel
theorem dX1_lastOther_32 : decode cX1_lastOther 32 = .ok (.ireturn, 1) := by decide +kernel
theorem dX2_init_0 : decode cX2_init 0 = .ok (.aload_n 0, 1) := by decide +kernel
theorem dX2_init_1 : decode cX2_init 1 = .ok (.invokespecial 3, 3) := by decide +kernel
theorem dX2_init_4 : decode cX2_init 4 = .ok (.aload_n 0, 1) := by decide +kernel
theorem dX2_init_5 : decode cX2_init 5 = .ok (.iconst 0, 1) := by decide +kernel
theorem dX2_init_6 : decode cX2_init 6 = .ok (.putfield 9, 3) := by decide +kernel
theorem dX2_init_9 : decode cX2_init 9 = .ok (.aload_n 0, 1) := by decide +kernel
theorem dX2_init_10 : decode cX2_init 10 = .ok (.bipush (-9), 2) := by decide +kernel
theorem dX2_init_12 : decode cX2_init 12 = .ok (.putfield 15, 3) := by decide +kernel
theorem dX2_init_15 : decode cX2_init 15 = .ok (.aload_n 0, 1) := by decide +kernel
theorem dX2_init_16 : decode cX2_init 16 = .ok (.iconst 4, 1) := by decide +kernel
theorem dX2_init_17 : decode cX2_init 17 = .ok (.newarray .int, 2) := by decide +kernel
theorem dX2_init_19 : decode cX2_init 19 = .ok (.putfield 18, 3) := by decide +kernel
theorem dX2_init_22 : decode cX2_init 22 = .ok (.aload_n 0, 1) := by decide +kernel
theorem dX2_init_23 : decode cX2_init 23 = .ok (.iconst 4, 1) := by decide +kernel
theorem dX2_init_24 : decode cX2_init 24 = .ok (.newarray .int, 2) := by decide +kernel
theorem dX2_init_26 : decode cX2_init 26 = .ok (.putfield 22, 3) := by decide +kernel
theorem dX2_init_29 : decode cX2_init 29 = .ok (.aload_n 0, 1) := by decide +kernel
theorem dX2_init_30 : decode cX2_init 30 = .ok (.bipush 8, 2) := by decide +kernel
theorem dX2_init_32 : decode cX2_init 32 = .ok (.newarray .int, 2) := by decide +kernel
theorem dX2_init_34 : decode cX2_init 34 = .ok (.putfield 25, 3) := by decide +kernel
theorem dX2_init_37 : decode cX2_init 37 = .ok (.aload_n 0, 1) := by decide +kernel
theorem dX2_init_38 : decode cX2_init 38 = .ok (.iconst 4, 1) := by decide +kernel
theorem dX2_init_39 : decode cX2_init 39 = .ok (.newarray .int, 2) := by decide +kernel
theorem dX2_init_41 : decode cX2_init 41 = .ok (.putfield 28, 3) := by decide +kernel
theorem dX2_init_44 : decode cX2_init 44 = .ok (.aload_n 0, 1) := by decide +kernel
theorem dX2_init_45 : decode cX2_init 45 = .ok (.iconst 4, 1) := by decide +kernel
theorem dX2_init_46 : decode cX2_init 46 = .ok (.newarray .int, 2) := by decide +kernel
theorem dX2_init_48 : decode cX2_init 48 = .ok (.putfield 31, 3) := by decide +kernel
theorem dX2_init_51 : decode cX2_init 51 = .ok (.aload_n 0, 1) := by decide +kernel
theorem dX2_init_52 : decode cX2_init 52 = .ok (.aload_n 1, 1) := by decide +kernel
theorem dX2_init_53 : decode cX2_init 53 = .ok (.putfield 34, 3) := by decide +kernel
theorem dX2_init_56 : decode cX2_init 56 = .ok (.return_, 1) := by decide +kernel
theorem dX2_search_0 : decode cX2_search 0 = .ok (.aload_n 0, 1) := by decide +kernel
theorem dX2_search_1 : decode cX2_search 1 = .ok (.aload_n 1, 1) := by decide +kernel
theorem dX2_search_2 : decode cX2_search 2 = .ok (.getfield 38, 3) := by decide +kernel
theorem dX2_search_5 : decode cX2_search 5 = .ok (.iconst 4, 1) := by decide +kernel
theorem dX2_search_6 : decode cX2_search 6 = .ok (.invokestatic 43, 3) := by decide +kernel
theorem dX2_search_9 : decode cX2_search 9 = .ok (.putfield 9, 3) := by decide +kernel
theorem dX2_search_12 : decode cX2_search 12 = .ok (.aload_n 0, 1) := by decide +kernel
theorem dX2_search_13 : decode cX2_search 13 = .ok (.bipush (-9), 2) := by decide +kernel
theorem dX2_search_15 : decode cX2_search 15 = .ok (.putfield 15, 3) := by decide +kernel
theorem dX2_search_18 : decode cX2_search 18 = .ok (.iconst 0, 1) := by decide +kernel
theorem dX2_search_19 : decode cX2_search 19 = .ok (.istore_n 3, 1) := by decide +kernel
theorem dX2_search_20 : decode cX2_search 20 = .ok (.iload_n 3, 1) := by decide +kernel
theorem dX2_search_21 : decode cX2_search 21 = .ok (.aload_n 0, 1) := by decide +kernel
theorem dX2_search_22 : decode cX2_search 22 = .ok (.getfield 9, 3) := by decide +kernel
theorem dX2_search_25 : decode cX2_search 25 = .ok (.if_icmp .ge 31, 3) := by decide +kernel
theorem dX2_search_28 : decode cX2_search 28 = .ok (.aload_n 0, 1) := by decide +kernel
theorem dX2_search_29 : decode cX2_search 29 = .ok (.getfield 28, 3) := by decide +kernel
theorem dX2_search_32 : decode cX2_search 32 = .ok (.iload_n 3, 1) := by decide +kernel
theorem dX2_search_33 : decode cX2_search 33 = .ok (.aload_n 1, 1) := by decide +kernel
theorem dX2_search_34 : decode cX2_search 34 = .ok (.iload_n 3, 1) := by decide +kernel
theorem dX2_search_35 : decode cX2_search 35 = .ok (.invokevirtual 49, 3) := by decide +kernel
theorem dX2_search_38 : decode cX2_search 38 = .ok (.iastore, 1) := by decide +kernel
theorem dX2_search_39 : decode cX2_search 39 = .ok (.aload_n 0, 1) := by decide +kernel
theorem dX2_search_40 : decode cX2_search 40 = .ok (.getfield 31, 3) := by decide +kernel
theorem dX2_search_43 : decode cX2_search 43 = .ok (.iload_n 3, 1) := by decide +kernel
theorem dX2_search_44 : decode cX2_search 44 = .ok (.aload_n 2, 1) := by decide +kernel
theorem dX2_search_45 : decode cX2_search 45 = .ok (.iload_n 3, 1) := by decide +kernel
theorem dX2_search_46 : decode cX2_search 46 = .ok (.invokevirtual 49, 3) := by decide +kernel
theorem dX2_search_49 : decode cX2_search 49 = .ok (.iastore, 1) := by decide +kernel
theorem dX2_search_50 : decode cX2_search 50 = .ok (.iinc 3 1, 3) := by decide +kernel
theorem dX2_search_53 : decode cX2_search 53 = .ok (.goto (-33), 3) := by decide +kernel
theorem dX2_search_56 : decode cX2_search 56 = .ok (.aload_n 0, 1) := by decide +kernel
theorem dX2_search_57 : decode cX2_search 57 = .ok (.iconst 0, 1) := by decide +kernel
theorem dX2_search_58 : decode cX2_search 58 = .ok (.aload_n 0, 1) := by decide +kernel
theorem dX2_search_59 : decode cX2_search 59 = .ok (.getfield 34, 3) := by decide +kernel
theorem dX2_search_62 : decode cX2_search 62 = .ok (.iconst 0, 1) := by decide +kernel
theorem dX2_search_63 : decode cX2_search 63 = .ok (.invokevirtual 53, 3) := by decide +kernel
theorem dX2_search_66 : decode cX2_search 66 = .ok (.iconst 0, 1) := by decide +kernel
theorem dX2_search_67 : decode cX2_search 67 = .ok (.invokevirtual 58, 3) := by decide +kernel
theorem dX2_search_70 : decode cX2_search 70 = .ok (.return_, 1) := by decide +kernel
theorem dX2_tryCousin_0 : decode cX2_tryCousin 0 = .ok (.aload_n 0, 1) := by decide +kernel
theorem dX2_tryCousin_1 : decode cX2_tryCousin 1 = .ok (.getfield 15, 3) := by decide +kernel
theorem dX2_tryCousin_4 : decode cX2_tryCousin 4 = .ok (.bipush (-9), 2) := by decide +kernel
theorem dX2_tryCousin_6 : decode cX2_tryCousin 6 = .ok (.if_icmp .eq 12, 3) := by decide +kernel
theorem dX2_tryCousin_9 : decode cX2_tryCousin 9 = .ok (.iload_n 3, 1) := by decide +kernel
theorem dX2_tryCousin_10 : decode cX2_tryCousin 10 = .ok (.aload_n 0, 1) := by decide +kernel
theorem dX2_tryCousin_11 : decode cX2_tryCousin 11 = .ok (.getfield 15, 3) := by decide +kernel
theorem dX2_tryCousin_14 : decode cX2_tryCousin 14 = .ok (.if_icmp .lt 4, 3) := by decide +kernel
theorem dX2_tryCousin_17 : decode cX2_tryCousin 17 = .ok (.return_, 1) := by decide +kernel
theorem dX2_tryCousin_18 : decode cX2_tryCousin 18 = .ok (.iload_n 1, 1) := by decide +kernel
theorem dX2_tryCousin_19 : decode cX2_tryCousin 19 = .ok (.aload_n 0, 1) := by decide +kernel
theorem dX2_tryCousin_20 : decode cX2_tryCousin 20 = .ok (.getfield 9, 3) := by decide +kernel
theorem dX2_tryCousin_23 : decode cX2_tryCousin 23 = .ok (.if_icmp .ge 8, 3) := by decide +kernel
theorem dX2_tryCousin_26 : decode cX2_tryCousin 26 = .ok (.iload_n 1, 1) := by decide +kernel
theorem dX2_tryCousin_27 : decode cX2_tryCousin 27 = .ok (.iconst 4, 1) := by decide +kernel
theorem dX2_tryCousin_28 : decode cX2_tryCousin 28 = .ok (.if_icmp .lt 20, 3) := by decide +kernel
theorem dX2_tryCousin_31 : decode cX2_tryCousin 31 = .ok (.aload_n 0, 1) := by decide +kernel
theorem dX2_tryCousin_32 : decode cX2_tryCousin 32 = .ok (.getfield 34, 3) := by decide +kernel
theorem dX2_tryCousin_35 : decode cX2_tryCousin 35 = .ok (.iload_n 2, 1) := by decide +kernel
theorem dX2_tryCousin_36 : decode cX2_tryCousin 36 = .ok (.invokevirtual 62, 3) := by decide +kernel
theorem dX2_tryCousin_39 : decode cX2_tryCousin 39 = .ok (.ifCond .eq 8, 3) := by decide +kernel
theorem dX2_tryCousin_42 : decode cX2_tryCousin 42 = .ok (.aload_n 0, 1) := by decide +kernel
theorem dX2_tryCousin_43 : decode cX2_tryCousin 43 = .ok (.iload_n 3, 1) := by decide +kernel
theorem dX2_tryCousin_44 : decode cX2_tryCousin 44 = .ok (.invokevirtual 66, 3) := by decide +kernel
theorem dX2_tryCousin_47 : decode cX2_tryCousin 47 = .ok (.return_, 1) := by decide +kernel
theorem dX2_tryCousin_48 : decode cX2_tryCousin 48 = .ok (.iconst 0, 1) := by decide +kernel
theorem dX2_tryCousin_49 : decode cX2_tryCousin 49 = .ok (.istore 4, 2) := by decide +kernel
theorem dX2_tryCousin_51 : decode cX2_tryCousin 51 = .ok (.iload 4, 2) := by decide +kernel
theorem dX2_tryCousin_53 : decode cX2_tryCousin 53 = .ok (.aload_n 0, 1) := by decide +kernel
theorem dX2_tryCousin_54 : decode cX2_tryCousin 54 = .ok (.getfield 34, 3) := by decide +kernel
theorem dX2_tryCousin_57 : decode cX2_tryCousin 57 = .ok (.getfield 70, 3) := by decide +kernel
theorem dX2_tryCousin_60 : decode cX2_tryCousin 60 = .ok (.if_icmp .ge 39, 3) := by decide +kernel
theorem dX2_tryCousin_63 : decode cX2_tryCousin 63 = .ok (.aload_n 0, 1) := by decide +kernel
theorem dX2_tryCousin_64 : decode cX2_tryCousin 64 = .ok (.getfield 34, 3) := by decide +kernel
theorem dX2_tryCousin_67 : decode cX2_tryCousin 67 = .ok (.iload 4, 2) := by decide +kernel
theorem dX2_tryCousin_69 : decode cX2_tryCousin 69 = .ok (.invokevirtual 73, 3) := by decide +kernel
theorem dX2_tryCousin_72 : decode cX2_tryCousin 72 = .ok (.aload_n 0, 1) := by decide +kernel
theorem dX2_tryCousin_73 : decode cX2_tryCousin 73 = .ok (.getfield 25, 3) := by decide +kernel
theorem dX2_tryCousin_76 : decode cX2_tryCousin 76 = .ok (.iload 4, 2) := by decide +kernel
theorem dX2_tryCousin_78 : decode cX2_tryCousin 78 = .ok (.iaload, 1) := by decide +kernel
theorem dX2_tryCousin_79 : decode cX2_tryCousin 79 = .ok (.iadd, 1) := by decide +kernel
theorem dX2_tryCousin_80 : decode cX2_tryCousin 80 = .ok (.iconst 2, 1) := by decide +kernel
theorem dX2_tryCousin_81 : decode cX2_tryCousin 81 = .ok (.if_icmp .ge 12, 3) := by decide +kernel
theorem dX2_tryCousin_84 : decode cX2_tryCousin 84 = .ok (.aload_n 0, 1) := by decide +kernel
theorem dX2_tryCousin_85 : decode cX2_tryCousin 85 = .ok (.iload_n 1, 1) := by decide +kernel
theorem dX2_tryCousin_86 : decode cX2_tryCousin 86 = .ok (.iload 4, 2) := by decide +kernel
theorem dX2_tryCousin_88 : decode cX2_tryCousin 88 = .ok (.iload_n 2, 1) := by decide +kernel
theorem dX2_tryCousin_89 : decode cX2_tryCousin 89 = .ok (.iload_n 3, 1) := by decide +kernel
theorem dX2_tryCousin_90 : decode cX2_tryCousin 90 = .ok (.invokevirtual 76, 3) := by decide +kernel
theorem dX2_tryCousin_93 : decode cX2_tryCousin 93 = .ok (.iinc 4 1, 3) := by decide +kernel
theorem dX2_tryCousin_96 : decode cX2_tryCousin 96 = .ok (.goto (-45), 3) := by decide +kernel
theorem dX2_tryCousin_99 : decode cX2_tryCousin 99 = .ok (.aload_n 0, 1) := by decide +kernel
theorem dX2_tryCousin_100 : decode cX2_tryCousin 100 = .ok (.getfield 22, 3) := by decide +kernel
theorem dX2_tryCousin_103 : decode cX2_tryCousin 103 = .ok (.iload_n 1, 1) := by decide +kernel
theorem dX2_tryCousin_104 : decode cX2_tryCousin 104 = .ok (.bipush (-9), 2) := by decide +kernel
theorem dX2_tryCousin_106 : decode cX2_tryCousin 106 = .ok (.iastore, 1) := by decide +kernel
theorem dX2_tryCousin_107 : decode cX2_tryCousin 107 = .ok (.aload_n 0, 1) := by decide +kernel
theorem dX2_tryCousin_108 : decode cX2_tryCousin 108 = .ok (.iload_n 1, 1) := by decide +kernel
theorem dX2_tryCousin_109 : decode cX2_tryCousin 109 = .ok (.iconst 1, 1) := by decide +kernel
theorem dX2_tryCousin_110 : decode cX2_tryCousin 110 = .ok (.iadd, 1) := by decide +kernel
theorem dX2_tryCousin_111 : decode cX2_tryCousin 111 = .ok (.iload_n 2, 1) := by decide +kernel
theorem dX2_tryCousin_112 : decode cX2_tryCousin 112 = .ok (.iload_n 3, 1) := by decide +kernel
theorem dX2_tryCousin_113 : decode cX2_tryCousin 113 = .ok (.invokevirtual 58, 3) := by decide +kernel
theorem dX2_tryCousin_116 : decode cX2_tryCousin 116 = .ok (.return_, 1) := by decide +kernel
theorem dX2_seatCousin_0 : decode cX2_seatCousin 0 = .ok (.aload_n 0, 1) := by decide +kernel
theorem dX2_seatCousin_1 : decode cX2_seatCousin 1 = .ok (.getfield 22, 3) := by decide +kernel
theorem dX2_seatCousin_4 : decode cX2_seatCousin 4 = .ok (.iload_n 1, 1) := by decide +kernel
theorem dX2_seatCousin_5 : decode cX2_seatCousin 5 = .ok (.iload_n 2, 1) := by decide +kernel
theorem dX2_seatCousin_6 : decode cX2_seatCousin 6 = .ok (.iastore, 1) := by decide +kernel
theorem dX2_seatCousin_7 : decode cX2_seatCousin 7 = .ok (.aload_n 0, 1) := by decide +kernel
theorem dX2_seatCousin_8 : decode cX2_seatCousin 8 = .ok (.getfield 25, 3) := by decide +kernel
theorem dX2_seatCousin_11 : decode cX2_seatCousin 11 = .ok (.iload_n 2, 1) := by decide +kernel
theorem dX2_seatCousin_12 : decode cX2_seatCousin 12 = .ok (.dup2, 1) := by decide +kernel
theorem dX2_seatCousin_13 : decode cX2_seatCousin 13 = .ok (.iaload, 1) := by decide +kernel
theorem dX2_seatCousin_14 : decode cX2_seatCousin 14 = .ok (.iconst 1, 1) := by decide +kernel
theorem dX2_seatCousin_15 : decode cX2_seatCousin 15 = .ok (.iadd, 1) := by decide +kernel
theorem dX2_seatCousin_16 : decode cX2_seatCousin 16 = .ok (.iastore, 1) := by decide +kernel
theorem dX2_seatCousin_17 : decode cX2_seatCousin 17 = .ok (.aload_n 0, 1) := by decide +kernel
theorem dX2_seatCousin_18 : decode cX2_seatCousin 18 = .ok (.iload_n 1, 1) := by decide +kernel
theorem dX2_seatCousin_19 : decode cX2_seatCousin 19 = .ok (.iconst 1, 1) := by decide +kernel
theorem dX2_seatCousin_20 : decode cX2_seatCousin 20 = .ok (.iadd, 1) := by decide +kernel
theorem dX2_seatCousin_21 : decode cX2_seatCousin 21 = .ok (.iload_n 3, 1) := by decide +kernel
theorem dX2_seatCousin_22 : decode cX2_seatCousin 22 = .ok (.aload_n 0, 1) := by decide +kernel
theorem dX2_seatCousin_23 : decode cX2_seatCousin 23 = .ok (.getfield 28, 3) := by decide +kernel
theorem dX2_seatCousin_26 : decode cX2_seatCousin 26 = .ok (.iload_n 1, 1) := by decide +kernel
theorem dX2_seatCousin_27 : decode cX2_seatCousin 27 = .ok (.iaload, 1) := by decide +kernel
theorem dX2_seatCousin_28 : decode cX2_seatCousin 28 = .ok (.aload_n 0, 1) := by decide +kernel
theorem dX2_seatCousin_29 : decode cX2_seatCousin 29 = .ok (.getfield 34, 3) := by decide +kernel
theorem dX2_seatCousin_32 : decode cX2_seatCousin 32 = .ok (.iload_n 2, 1) := by decide +kernel
theorem dX2_seatCousin_33 : decode cX2_seatCousin 33 = .ok (.invokevirtual 80, 3) := by decide +kernel
theorem dX2_seatCousin_36 : decode cX2_seatCousin 36 = .ok (.imul, 1) := by decide +kernel
theorem dX2_seatCousin_37 : decode cX2_seatCousin 37 = .ok (.iadd, 1) := by decide +kernel
theorem dX2_seatCousin_38 : decode cX2_seatCousin 38 = .ok (.iload 4, 2) := by decide +kernel
theorem dX2_seatCousin_40 : decode cX2_seatCousin 40 = .ok (.aload_n 0, 1) := by decide +kernel
theorem dX2_seatCousin_41 : decode cX2_seatCousin 41 = .ok (.getfield 31, 3) := by decide +kernel
theorem dX2_seatCousin_44 : decode cX2_seatCousin 44 = .ok (.iload_n 1, 1) := by decide +kernel
theorem dX2_seatCousin_45 : decode cX2_seatCousin 45 = .ok (.iaload, 1) := by decide +kernel
theorem dX2_seatCousin_46 : decode cX2_seatCousin 46 = .ok (.iadd, 1) := by decide +kernel
theorem dX2_seatCousin_47 : decode cX2_seatCousin 47 = .ok (.invokevirtual 58, 3) := by decide +kernel
theorem dX2_seatCousin_50 : decode cX2_seatCousin 50 = .ok (.aload_n 0, 1) := by decide +kernel
theorem dX2_seatCousin_51 : decode cX2_seatCousin 51 = .ok (.getfield 25, 3) := by decide +kernel
theorem dX2_seatCousin_54 : decode cX2_seatCousin 54 = .ok (.iload_n 2, 1) := by decide +kernel
theorem dX2_seatCousin_55 : decode cX2_seatCousin 55 = .ok (.dup2, 1) := by decide +kernel
theorem dX2_seatCousin_56 : decode cX2_seatCousin 56 = .ok (.iaload, 1) := by decide +kernel
theorem dX2_seatCousin_57 : decode cX2_seatCousin 57 = .ok (.iconst 1, 1) := by decide +kernel
theorem dX2_seatCousin_58 : decode cX2_seatCousin 58 = .ok (.isub, 1) := by decide +kernel
theorem dX2_seatCousin_59 : decode cX2_seatCousin 59 = .ok (.iastore, 1) := by decide +kernel
theorem dX2_seatCousin_60 : decode cX2_seatCousin 60 = .ok (.return_, 1) := by decide +kernel
theorem dX2_noteCheaper_0 : decode cX2_noteCheaper 0 = .ok (.aload_n 0, 1) := by decide +kernel
theorem dX2_noteCheaper_1 : decode cX2_noteCheaper 1 = .ok (.iload_n 1, 1) := by decide +kernel
theorem dX2_noteCheaper_2 : decode cX2_noteCheaper 2 = .ok (.putfield 15, 3) := by decide +kernel
theorem dX2_noteCheaper_5 : decode cX2_noteCheaper 5 = .ok (.iconst 0, 1) := by decide +kernel
theorem dX2_noteCheaper_6 : decode cX2_noteCheaper 6 = .ok (.istore_n 2, 1) := by decide +kernel
theorem dX2_noteCheaper_7 : decode cX2_noteCheaper 7 = .ok (.iload_n 2, 1) := by decide +kernel
theorem dX2_noteCheaper_8 : decode cX2_noteCheaper 8 = .ok (.aload_n 0, 1) := by decide +kernel
theorem dX2_noteCheaper_9 : decode cX2_noteCheaper 9 = .ok (.getfield 9, 3) := by decide +kernel
theorem dX2_noteCheaper_12 : decode cX2_noteCheaper 12 = .ok (.if_icmp .ge 21, 3) := by decide +kernel
theorem dX2_noteCheaper_15 : decode cX2_noteCheaper 15 = .ok (.aload_n 0, 1) := by decide +kernel
theorem dX2_noteCheaper_16 : decode cX2_noteCheaper 16 = .ok (.getfield 18, 3) := by decide +kernel
theorem dX2_noteCheaper_19 : decode cX2_noteCheaper 19 = .ok (.iload_n 2, 1) := by decide +kernel
theorem dX2_noteCheaper_20 : decode cX2_noteCheaper 20 = .ok (.aload_n 0, 1) := by decide +kernel
theorem dX2_noteCheaper_21 : decode cX2_noteCheaper 21 = .ok (.getfield 22, 3) := by decide +kernel
theorem dX2_noteCheaper_24 : decode cX2_noteCheaper 24 = .ok (.iload_n 2, 1) := by decide +kernel
theorem dX2_noteCheaper_25 : decode cX2_noteCheaper 25 = .ok (.iaload, 1) := by decide +kernel
theorem dX2_noteCheaper_26 : decode cX2_noteCheaper 26 = .ok (.iastore, 1) := by decide +kernel
theorem dX2_noteCheaper_27 : decode cX2_noteCheaper 27 = .ok (.iinc 2 1, 3) := by decide +kernel
theorem dX2_noteCheaper_30 : decode cX2_noteCheaper 30 = .ok (.goto (-23), 3) := by decide +kernel
theorem dX2_noteCheaper_33 : decode cX2_noteCheaper 33 = .ok (.return_, 1) := by decide +kernel
theorem dX3_init_0 : decode cX3_init 0 = .ok (.aload_n 0, 1) := by decide +kernel
theorem dX3_init_1 : decode cX3_init 1 = .ok (.invokespecial 3, 3) := by decide +kernel
theorem dX3_init_4 : decode cX3_init 4 = .ok (.aload_n 0, 1) := by decide +kernel
theorem dX3_init_5 : decode cX3_init 5 = .ok (.iconst 3, 1) := by decide +kernel
theorem dX3_init_6 : decode cX3_init 6 = .ok (.newarray .boolean, 2) := by decide +kernel
theorem dX3_init_8 : decode cX3_init 8 = .ok (.putfield 9, 3) := by decide +kernel
theorem dX3_init_11 : decode cX3_init 11 = .ok (.aload_n 0, 1) := by decide +kernel
theorem dX3_init_12 : decode cX3_init 12 = .ok (.bipush 21, 2) := by decide +kernel
theorem dX3_init_14 : decode cX3_init 14 = .ok (.newarray .int, 2) := by decide +kernel
theorem dX3_init_16 : decode cX3_init 16 = .ok (.putfield 15, 3) := by decide +kernel
theorem dX3_init_19 : decode cX3_init 19 = .ok (.return_, 1) := by decide +kernel
theorem dX3_has_0 : decode cX3_has 0 = .ok (.iload_n 1, 1) := by decide +kernel
theorem dX3_has_1 : decode cX3_has 1 = .ok (.ifCond .lt 21, 3) := by decide +kernel
theorem dX3_has_4 : decode cX3_has 4 = .ok (.iload_n 1, 1) := by decide +kernel
theorem dX3_has_5 : decode cX3_has 5 = .ok (.iconst 3, 1) := by decide +kernel
theorem dX3_has_6 : decode cX3_has 6 = .ok (.if_icmp .ge 16, 3) := by decide +kernel
theorem dX3_has_9 : decode cX3_has 9 = .ok (.aload_n 0, 1) := by decide +kernel
theorem dX3_has_10 : decode cX3_has 10 = .ok (.getfield 9, 3) := by decide +kernel
theorem dX3_has_13 : decode cX3_has 13 = .ok (.iload_n 1, 1) := by decide +kernel
theorem dX3_has_14 : decode cX3_has 14 = .ok (.baload, 1) := by decide +kernel
theorem dX3_has_15 : decode cX3_has 15 = .ok (.ifCond .eq 7, 3) := by decide +kernel
theorem dX3_has_18 : decode cX3_has 18 = .ok (.iconst 1, 1) := by decide +kernel
theorem dX3_has_19 : decode cX3_has 19 = .ok (.goto 4, 3) := by decide +kernel
theorem dX3_has_22 : decode cX3_has 22 = .ok (.iconst 0, 1) := by decide +kernel
theorem dX3_has_23 : decode cX3_has 23 = .ok (.ireturn, 1) := by decide +kernel
theorem dX3_benchOf_0 : decode cX3_benchOf 0 = .ok (.aload_n 0, 1) := by decide +kernel
theorem dX3_benchOf_1 : decode cX3_benchOf 1 = .ok (.iload_n 1, 1) := by decide +kernel
theorem dX3_benchOf_2 : decode cX3_benchOf 2 = .ok (.invokevirtual 19, 3) := by decide +kernel
theorem dX3_benchOf_5 : decode cX3_benchOf 5 = .ok (.ifCond .eq 27, 3) := by decide +kernel
theorem dX3_benchOf_8 : decode cX3_benchOf 8 = .ok (.iload_n 2, 1) := by decide +kernel
theorem dX3_benchOf_9 : decode cX3_benchOf 9 = .ok (.ifCond .lt 23, 3) := by decide +kernel
theorem dX3_benchOf_12 : decode cX3_benchOf 12 = .ok (.iload_n 2, 1) := by decide +kernel
theorem dX3_benchOf_13 : decode cX3_benchOf 13 = .ok (.bipush 7, 2) := by decide +kernel
theorem dX3_benchOf_15 : decode cX3_benchOf 15 = .ok (.if_icmp .ge 17, 3) := by decide +kernel
theorem dX3_benchOf_18 : decode cX3_benchOf 18 = .ok (.aload_n 0, 1) := by decide +kernel
theorem dX3_benchOf_19 : decode cX3_benchOf 19 = .ok (.getfield 15, 3) := by decide +kernel
theorem dX3_benchOf_22 : decode cX3_benchOf 22 = .ok (.iload_n 1, 1) := by decide +kernel
theorem dX3_benchOf_23 : decode cX3_benchOf 23 = .ok (.bipush 7, 2) := by decide +kernel
theorem dX3_benchOf_25 : decode cX3_benchOf 25 = .ok (.imul, 1) := by decide +kernel
theorem dX3_benchOf_26 : decode cX3_benchOf 26 = .ok (.iload_n 2, 1) := by decide +kernel
theorem dX3_benchOf_27 : decode cX3_benchOf 27 = .ok (.iadd, 1) := by decide +kernel
theorem dX3_benchOf_28 : decode cX3_benchOf 28 = .ok (.iaload, 1) := by decide +kernel
theorem dX3_benchOf_29 : decode cX3_benchOf 29 = .ok (.goto 5, 3) := by decide +kernel
theorem dX3_benchOf_32 : decode cX3_benchOf 32 = .ok (.bipush (-9), 2) := by decide +kernel
theorem dX3_benchOf_34 : decode cX3_benchOf 34 = .ok (.ireturn, 1) := by decide +kernel
theorem dX3_forgetAll_0 : decode cX3_forgetAll 0 = .ok (.iconst 0, 1) := by decide +kernel
theorem dX3_forgetAll_1 : decode cX3_forgetAll 1 = .ok (.istore_n 1, 1) := by decide +kernel
theorem dX3_forgetAll_2 : decode cX3_forgetAll 2 = .ok (.iload_n 1, 1) := by decide +kernel
theorem dX3_forgetAll_3 : decode cX3_forgetAll 3 = .ok (.iconst 3, 1) := by decide +kernel
theorem dX3_forgetAll_4 : decode cX3_forgetAll 4 = .ok (.if_icmp .ge 16, 3) := by decide +kernel
theorem dX3_forgetAll_7 : decode cX3_forgetAll 7 = .ok (.aload_n 0, 1) := by decide +kernel
theorem dX3_forgetAll_8 : decode cX3_forgetAll 8 = .ok (.getfield 9, 3) := by decide +kernel
theorem dX3_forgetAll_11 : decode cX3_forgetAll 11 = .ok (.iload_n 1, 1) := by decide +kernel
theorem dX3_forgetAll_12 : decode cX3_forgetAll 12 = .ok (.iconst 0, 1) := by decide +kernel
theorem dX3_forgetAll_13 : decode cX3_forgetAll 13 = .ok (.bastore, 1) := by decide +kernel
theorem dX3_forgetAll_14 : decode cX3_forgetAll 14 = .ok (.iinc 1 1, 3) := by decide +kernel
theorem dX3_forgetAll_17 : decode cX3_forgetAll 17 = .ok (.goto (-15), 3) := by decide +kernel
theorem dX3_forgetAll_20 : decode cX3_forgetAll 20 = .ok (.return_, 1) := by decide +kernel
theorem dX3_take_0 : decode cX3_take 0 = .ok (.iload_n 1, 1) := by decide +kernel
theorem dX3_take_1 : decode cX3_take 1 = .ok (.iconst 0, 1) := by decide +kernel
theorem dX3_take_2 : decode cX3_take 2 = .ok (.iconst 2, 1) := by decide +kernel
theorem dX3_take_3 : decode cX3_take 3 = .ok (.invokestatic 23, 3) := by decide +kernel
theorem dX3_take_6 : decode cX3_take 6 = .ok (.ifCond .ne 4, 3) := by decide +kernel
theorem dX3_take_9 : decode cX3_take 9 = .ok (.return_, 1) := by decide +kernel
theorem dX3_take_10 : decode cX3_take 10 = .ok (.aload_n 0, 1) := by decide +kernel
theorem dX3_take_11 : decode cX3_take 11 = .ok (.getfield 9, 3) := by decide +kernel
theorem dX3_take_14 : decode cX3_take 14 = .ok (.iload_n 1, 1) := by decide +kernel
theorem dX3_take_15 : decode cX3_take 15 = .ok (.iconst 1, 1) := by decide +kernel
theorem dX3_take_16 : decode cX3_take 16 = .ok (.bastore, 1) := by decide +kernel
theorem dX3_take_17 : decode cX3_take 17 = .ok (.iconst 0, 1) := by decide +kernel
theorem dX3_take_18 : decode cX3_take 18 = .ok (.istore_n 3, 1) := by decide +kernel
theorem dX3_take_19 : decode cX3_take 19 = .ok (.iload_n 3, 1) := by decide +kernel
theorem dX3_take_20 : decode cX3_take 20 = .ok (.bipush 7, 2) := by decide +kernel
theorem dX3_take_22 : decode cX3_take 22 = .ok (.if_icmp .ge 25, 3) := by decide +kernel
theorem dX3_take_25 : decode cX3_take 25 = .ok (.aload_n 0, 1) := by decide +kernel
theorem dX3_take_26 : decode cX3_take 26 = .ok (.getfield 15, 3) := by decide +kernel
theorem dX3_take_29 : decode cX3_take 29 = .ok (.iload_n 1, 1) := by decide +kernel
theorem dX3_take_30 : decode cX3_take 30 = .ok (.bipush 7, 2) := by decide +kernel
theorem dX3_take_32 : decode cX3_take 32 = .ok (.imul, 1) := by decide +kernel
theorem dX3_take_33 : decode cX3_take 33 = .ok (.iload_n 3, 1) := by decide +kernel
theorem dX3_take_34 : decode cX3_take 34 = .ok (.iadd, 1) := by decide +kernel
theorem dX3_take_35 : decode cX3_take 35 = .ok (.aload_n 2, 1) := by decide +kernel
theorem dX3_take_36 : decode cX3_take 36 = .ok (.iload_n 3, 1) := by decide +kernel
theorem dX3_take_37 : decode cX3_take 37 = .ok (.invokevirtual 27, 3) := by decide +kernel
theorem dX3_take_40 : decode cX3_take 40 = .ok (.iastore, 1) := by decide +kernel
theorem dX3_take_41 : decode cX3_take 41 = .ok (.iinc 3 1, 3) := by decide +kernel
theorem dX3_take_44 : decode cX3_take 44 = .ok (.goto (-25), 3) := by decide +kernel
theorem dX3_take_47 : decode cX3_take 47 = .ok (.return_, 1) := by decide +kernel
theorem dX3_restore_0 : decode cX3_restore 0 = .ok (.iconst 0, 1) := by decide +kernel
theorem dX3_restore_1 : decode cX3_restore 1 = .ok (.istore_n 3, 1) := by decide +kernel
theorem dX3_restore_2 : decode cX3_restore 2 = .ok (.iload_n 3, 1) := by decide +kernel
theorem dX3_restore_3 : decode cX3_restore 3 = .ok (.aload_n 2, 1) := by decide +kernel
theorem dX3_restore_4 : decode cX3_restore 4 = .ok (.getfield 33, 3) := by decide +kernel
theorem dX3_restore_7 : decode cX3_restore 7 = .ok (.if_icmp .ge 20, 3) := by decide +kernel
theorem dX3_restore_10 : decode cX3_restore 10 = .ok (.aload_n 2, 1) := by decide +kernel
theorem dX3_restore_11 : decode cX3_restore 11 = .ok (.iload_n 3, 1) := by decide +kernel
theorem dX3_restore_12 : decode cX3_restore 12 = .ok (.aload_n 0, 1) := by decide +kernel
theorem dX3_restore_13 : decode cX3_restore 13 = .ok (.iload_n 1, 1) := by decide +kernel
theorem dX3_restore_14 : decode cX3_restore 14 = .ok (.iload_n 3, 1) := by decide +kernel
theorem dX3_restore_15 : decode cX3_restore 15 = .ok (.invokevirtual 37, 3) := by decide +kernel
theorem dX3_restore_18 : decode cX3_restore 18 = .ok (.invokevirtual 40, 3) := by decide +kernel
theorem dX3_restore_21 : decode cX3_restore 21 = .ok (.iinc 3 1, 3) := by decide +kernel
theorem dX3_restore_24 : decode cX3_restore 24 = .ok (.goto (-22), 3) := by decide +kernel
theorem dX3_restore_27 : decode cX3_restore 27 = .ok (.return_, 1) := by decide +kernel
theorem dX4_init_0 : decode cX4_init 0 = .ok (.aload_n 0, 1) := by decide +kernel
theorem dX4_init_1 : decode cX4_init 1 = .ok (.invokespecial 3, 3) := by decide +kernel
theorem dX4_init_4 : decode cX4_init 4 = .ok (.aload_n 0, 1) := by decide +kernel
theorem dX4_init_5 : decode cX4_init 5 = .ok (.sipush 128, 3) := by decide +kernel
theorem dX4_init_8 : decode cX4_init 8 = .ok (.newarray .boolean, 2) := by decide +kernel
theorem dX4_init_10 : decode cX4_init 10 = .ok (.putfield 11, 3) := by decide +kernel
theorem dX4_init_13 : decode cX4_init 13 = .ok (.aload_n 0, 1) := by decide +kernel
theorem dX4_init_14 : decode cX4_init 14 = .ok (.sipush 128, 3) := by decide +kernel
theorem dX4_init_17 : decode cX4_init 17 = .ok (.newarray .boolean, 2) := by decide +kernel
theorem dX4_init_19 : decode cX4_init 19 = .ok (.putfield 15, 3) := by decide +kernel
theorem dX4_init_22 : decode cX4_init 22 = .ok (.aload_n 0, 1) := by decide +kernel
theorem dX4_init_23 : decode cX4_init 23 = .ok (.sipush 128, 3) := by decide +kernel
theorem dX4_init_26 : decode cX4_init 26 = .ok (.newarray .boolean, 2) := by decide +kernel
theorem dX4_init_28 : decode cX4_init 28 = .ok (.putfield 18, 3) := by decide +kernel
theorem dX4_init_31 : decode cX4_init 31 = .ok (.aload_n 0, 1) := by decide +kernel
theorem dX4_init_32 : decode cX4_init 32 = .ok (.bipush 7, 2) := by decide +kernel
theorem dX4_init_34 : decode cX4_init 34 = .ok (.newarray .int, 2) := by decide +kernel
theorem dX4_init_36 : decode cX4_init 36 = .ok (.putfield 21, 3) := by decide +kernel
theorem dX4_init_39 : decode cX4_init 39 = .ok (.aload_n 0, 1) := by decide +kernel
theorem dX4_init_40 : decode cX4_init 40 = .ok (.iconst 0, 1) := by decide +kernel
theorem dX4_init_41 : decode cX4_init 41 = .ok (.putfield 25, 3) := by decide +kernel
theorem dX4_init_44 : decode cX4_init 44 = .ok (.aload_n 0, 1) := by decide +kernel
theorem dX4_init_45 : decode cX4_init 45 = .ok (.aload_n 1, 1) := by decide +kernel
theorem dX4_init_46 : decode cX4_init 46 = .ok (.putfield 29, 3) := by decide +kernel
theorem dX4_init_49 : decode cX4_init 49 = .ok (.return_, 1) := by decide +kernel
theorem dX4_plan_0 : decode cX4_plan 0 = .ok (.aload_n 0, 1) := by decide +kernel
theorem dX4_plan_1 : decode cX4_plan 1 = .ok (.aload_n 0, 1) := by decide +kernel
theorem dX4_plan_2 : decode cX4_plan 2 = .ok (.getfield 29, 3) := by decide +kernel
theorem dX4_plan_5 : decode cX4_plan 5 = .ok (.invokevirtual 33, 3) := by decide +kernel
theorem dX4_plan_8 : decode cX4_plan 8 = .ok (.bipush 127, 2) := by decide +kernel
theorem dX4_plan_10 : decode cX4_plan 10 = .ok (.iand, 1) := by decide +kernel
theorem dX4_plan_11 : decode cX4_plan 11 = .ok (.putfield 25, 3) := by decide +kernel
theorem dX4_plan_14 : decode cX4_plan 14 = .ok (.iconst 0, 1) := by decide +kernel
theorem dX4_plan_15 : decode cX4_plan 15 = .ok (.istore_n 1, 1) := by decide +kernel
theorem dX4_plan_16 : decode cX4_plan 16 = .ok (.iload_n 1, 1) := by decide +kernel
theorem dX4_plan_17 : decode cX4_plan 17 = .ok (.aload_n 0, 1) := by decide +kernel
theorem dX4_plan_18 : decode cX4_plan 18 = .ok (.getfield 25, 3) := by decide +kernel
theorem dX4_plan_21 : decode cX4_plan 21 = .ok (.if_icmp .gt 69, 3) := by decide +kernel
theorem dX4_plan_24 : decode cX4_plan 24 = .ok (.aload_n 0, 1) := by decide +kernel
theorem dX4_plan_25 : decode cX4_plan 25 = .ok (.getfield 11, 3) := by decide +kernel
theorem dX4_plan_28 : decode cX4_plan 28 = .ok (.iload_n 1, 1) := by decide +kernel
theorem dX4_plan_29 : decode cX4_plan 29 = .ok (.aload_n 0, 1) := by decide +kernel
theorem dX4_plan_30 : decode cX4_plan 30 = .ok (.getfield 29, 3) := by decide +kernel
theorem dX4_plan_33 : decode cX4_plan 33 = .ok (.aload_n 0, 1) := by decide +kernel
theorem dX4_plan_34 : decode cX4_plan 34 = .ok (.iload_n 1, 1) := by decide +kernel
theorem dX4_plan_35 : decode cX4_plan 35 = .ok (.invokevirtual 39, 3) := by decide +kernel
theorem dX4_plan_38 : decode cX4_plan 38 = .ok (.invokevirtual 43, 3) := by decide +kernel
theorem dX4_plan_41 : decode cX4_plan 41 = .ok (.bastore, 1) := by decide +kernel
theorem dX4_plan_42 : decode cX4_plan 42 = .ok (.aload_n 0, 1) := by decide +kernel
theorem dX4_plan_43 : decode cX4_plan 43 = .ok (.getfield 15, 3) := by decide +kernel
theorem dX4_plan_46 : decode cX4_plan 46 = .ok (.iload_n 1, 1) := by decide +kernel
theorem dX4_plan_47 : decode cX4_plan 47 = .ok (.iload_n 1, 1) := by decide +kernel
theorem dX4_plan_48 : decode cX4_plan 48 = .ok (.ifCond .eq 11, 3) := by decide +kernel
theorem dX4_plan_51 : decode cX4_plan 51 = .ok (.aload_n 0, 1) := by decide +kernel
theorem dX4_plan_52 : decode cX4_plan 52 = .ok (.iload_n 1, 1) := by decide +kernel
theorem dX4_plan_53 : decode cX4_plan 53 = .ok (.invokevirtual 47, 3) := by decide +kernel
theorem dX4_plan_56 : decode cX4_plan 56 = .ok (.ifCond .eq 7, 3) := by decide +kernel
theorem dX4_plan_59 : decode cX4_plan 59 = .ok (.iconst 1, 1) := by decide +kernel
theorem dX4_plan_60 : decode cX4_plan 60 = .ok (.goto 4, 3) := by decide +kernel
theorem dX4_plan_63 : decode cX4_plan 63 = .ok (.iconst 0, 1) := by decide +kernel
theorem dX4_plan_64 : decode cX4_plan 64 = .ok (.bastore, 1) := by decide +kernel
theorem dX4_plan_65 : decode cX4_plan 65 = .ok (.aload_n 0, 1) := by decide +kernel
theorem dX4_plan_66 : decode cX4_plan 66 = .ok (.getfield 18, 3) := by decide +kernel
theorem dX4_plan_69 : decode cX4_plan 69 = .ok (.iload_n 1, 1) := by decide +kernel
theorem dX4_plan_70 : decode cX4_plan 70 = .ok (.iload_n 1, 1) := by decide +kernel
theorem dX4_plan_71 : decode cX4_plan 71 = .ok (.aload_n 0, 1) := by decide +kernel
theorem dX4_plan_72 : decode cX4_plan 72 = .ok (.getfield 25, 3) := by decide +kernel
theorem dX4_plan_75 : decode cX4_plan 75 = .ok (.if_icmp .ne 7, 3) := by decide +kernel
theorem dX4_plan_78 : decode cX4_plan 78 = .ok (.iconst 1, 1) := by decide +kernel
theorem dX4_plan_79 : decode cX4_plan 79 = .ok (.goto 4, 3) := by decide +kernel
theorem dX4_plan_82 : decode cX4_plan 82 = .ok (.iconst 0, 1) := by decide +kernel
theorem dX4_plan_83 : decode cX4_plan 83 = .ok (.bastore, 1) := by decide +kernel
theorem dX4_plan_84 : decode cX4_plan 84 = .ok (.iinc 1 1, 3) := by decide +kernel
theorem dX4_plan_87 : decode cX4_plan 87 = .ok (.goto (-71), 3) := by decide +kernel
theorem dX4_plan_90 : decode cX4_plan 90 = .ok (.aload_n 0, 1) := by decide +kernel
theorem dX4_plan_91 : decode cX4_plan 91 = .ok (.getfield 25, 3) := by decide +kernel
theorem dX4_plan_94 : decode cX4_plan 94 = .ok (.istore_n 1, 1) := by decide +kernel
theorem dX4_plan_95 : decode cX4_plan 95 = .ok (.iload_n 1, 1) := by decide +kernel
theorem dX4_plan_96 : decode cX4_plan 96 = .ok (.ifCond .le 23, 3) := by decide +kernel
theorem dX4_plan_99 : decode cX4_plan 99 = .ok (.aload_n 0, 1) := by decide +kernel
theorem dX4_plan_100 : decode cX4_plan 100 = .ok (.getfield 18, 3) := by decide +kernel
theorem dX4_plan_103 : decode cX4_plan 103 = .ok (.iload_n 1, 1) := by decide +kernel
theorem dX4_plan_104 : decode cX4_plan 104 = .ok (.baload, 1) := by decide +kernel
theorem dX4_plan_105 : decode cX4_plan 105 = .ok (.ifCond .eq 8, 3) := by decide +kernel
theorem dX4_plan_108 : decode cX4_plan 108 = .ok (.aload_n 0, 1) := by decide +kernel
theorem dX4_plan_109 : decode cX4_plan 109 = .ok (.iload_n 1, 1) := by decide +kernel
theorem dX4_plan_110 : decode cX4_plan 110 = .ok (.invokevirtual 50, 3) := by decide +kernel
theorem dX4_plan_113 : decode cX4_plan 113 = .ok (.iinc 1 (-1), 3) := by decide +kernel
theorem dX4_plan_116 : decode cX4_plan 116 = .ok (.goto (-21), 3) := by decide +kernel
theorem dX4_plan_119 : decode cX4_plan 119 = .ok (.return_, 1) := by decide +kernel
theorem dX4_listOf_0 : decode cX4_listOf 0 = .ok (.aload_n 0, 1) := by decide +kernel
theorem dX4_listOf_1 : decode cX4_listOf 1 = .ok (.getfield 29, 3) := by decide +kernel
theorem dX4_listOf_4 : decode cX4_listOf 4 = .ok (.getfield 54, 3) := by decide +kernel
theorem dX4_listOf_7 : decode cX4_listOf 7 = .ok (.istore_n 2, 1) := by decide +kernel
theorem dX4_listOf_8 : decode cX4_listOf 8 = .ok (.iconst 0, 1) := by decide +kernel
theorem dX4_listOf_9 : decode cX4_listOf 9 = .ok (.istore_n 3, 1) := by decide +kernel
theorem dX4_listOf_10 : decode cX4_listOf 10 = .ok (.iload_n 3, 1) := by decide +kernel
theorem dX4_listOf_11 : decode cX4_listOf 11 = .ok (.bipush 7, 2) := by decide +kernel
theorem dX4_listOf_13 : decode cX4_listOf 13 = .ok (.if_icmp .ge 37, 3) := by decide +kernel
theorem dX4_listOf_16 : decode cX4_listOf 16 = .ok (.iload_n 1, 1) := by decide +kernel
theorem dX4_listOf_17 : decode cX4_listOf 17 = .ok (.iconst 1, 1) := by decide +kernel
theorem dX4_listOf_18 : decode cX4_listOf 18 = .ok (.iload_n 3, 1) := by decide +kernel
theorem dX4_listOf_19 : decode cX4_listOf 19 = .ok (.ishl, 1) := by decide +kernel
theorem dX4_listOf_20 : decode cX4_listOf 20 = .ok (.iand, 1) := by decide +kernel
theorem dX4_listOf_21 : decode cX4_listOf 21 = .ok (.ifCond .eq 23, 3) := by decide +kernel
theorem dX4_listOf_24 : decode cX4_listOf 24 = .ok (.iload_n 2, 1) := by decide +kernel
theorem dX4_listOf_25 : decode cX4_listOf 25 = .ok (.aload_n 0, 1) := by decide +kernel
theorem dX4_listOf_26 : decode cX4_listOf 26 = .ok (.getfield 29, 3) := by decide +kernel
theorem dX4_listOf_29 : decode cX4_listOf 29 = .ok (.iload_n 3, 1) := by decide +kernel
theorem dX4_listOf_30 : decode cX4_listOf 30 = .ok (.aload_n 0, 1) := by decide +kernel
theorem dX4_listOf_31 : decode cX4_listOf 31 = .ok (.getfield 29, 3) := by decide +kernel
theorem dX4_listOf_34 : decode cX4_listOf 34 = .ok (.iload_n 3, 1) := by decide +kernel
theorem dX4_listOf_35 : decode cX4_listOf 35 = .ok (.invokevirtual 57, 3) := by decide +kernel
theorem dX4_listOf_38 : decode cX4_listOf 38 = .ok (.iconst 0, 1) := by decide +kernel
theorem dX4_listOf_39 : decode cX4_listOf 39 = .ok (.invokevirtual 60, 3) := by decide +kernel
theorem dX4_listOf_42 : decode cX4_listOf 42 = .ok (.iadd, 1) := by decide +kernel
theorem dX4_listOf_43 : decode cX4_listOf 43 = .ok (.istore_n 2, 1) := by decide +kernel
theorem dX4_listOf_44 : decode cX4_listOf 44 = .ok (.iinc 3 1, 3) := by decide +kernel
theorem dX4_listOf_47 : decode cX4_listOf 47 = .ok (.goto (-37), 3) := by decide +kernel
theorem dX4_listOf_50 : decode cX4_listOf 50 = .ok (.iload_n 2, 1) := by decide +kernel
theorem dX4_listOf_51 : decode cX4_listOf 51 = .ok (.ireturn, 1) := by decide +kernel
theorem dX4_whoMayLeave_0 : decode cX4_whoMayLeave 0 = .ok (.iconst 0, 1) := by decide +kernel
theorem dX4_whoMayLeave_1 : decode cX4_whoMayLeave 1 = .ok (.istore_n 2, 1) := by decide +kernel
theorem dX4_whoMayLeave_2 : decode cX4_whoMayLeave 2 = .ok (.iconst 0, 1) := by decide +kernel
theorem dX4_whoMayLeave_3 : decode cX4_whoMayLeave 3 = .ok (.istore_n 3, 1) := by decide +kernel
theorem dX4_whoMayLeave_4 : decode cX4_whoMayLeave 4 = .ok (.iload_n 3, 1) := by decide +kernel
theorem dX4_whoMayLeave_5 : decode cX4_whoMayLeave 5 = .ok (.bipush 7, 2) := by decide +kernel
theorem dX4_whoMayLeave_7 : decode cX4_whoMayLeave 7 = .ok (.if_icmp .ge 50, 3) := by decide +kernel
theorem dX4_whoMayLeave_10 : decode cX4_whoMayLeave 10 = .ok (.iload_n 1, 1) := by decide +kernel
theorem dX4_whoMayLeave_11 : decode cX4_whoMayLeave 11 = .ok (.iconst 1, 1) := by decide +kernel
theorem dX4_whoMayLeave_12 : decode cX4_whoMayLeave 12 = .ok (.iload_n 3, 1) := by decide +kernel
theorem dX4_whoMayLeave_13 : decode cX4_whoMayLeave 13 = .ok (.ishl, 1) := by decide +kernel
theorem dX4_whoMayLeave_14 : decode cX4_whoMayLeave 14 = .ok (.iconst (-1), 1) := by decide +kernel
theorem dX4_whoMayLeave_15 : decode cX4_whoMayLeave 15 = .ok (.ixor, 1) := by decide +kernel
theorem dX4_whoMayLeave_16 : decode cX4_whoMayLeave 16 = .ok (.iand, 1) := by decide +kernel
theorem dX4_whoMayLeave_17 : decode cX4_whoMayLeave 17 = .ok (.istore 4, 2) := by decide +kernel
theorem dX4_whoMayLeave_19 : decode cX4_whoMayLeave 19 = .ok (.iload 4, 2) := by decide +kernel
theorem dX4_whoMayLeave_21 : decode cX4_whoMayLeave 21 = .ok (.iload_n 1, 1) := by decide +kernel
theorem dX4_whoMayLeave_22 : decode cX4_whoMayLeave 22 = .ok (.if_icmp .eq 29, 3) := by decide +kernel
theorem dX4_whoMayLeave_25 : decode cX4_whoMayLeave 25 = .ok (.aload_n 0, 1) := by decide +kernel
theorem dX4_whoMayLeave_26 : decode cX4_whoMayLeave 26 = .ok (.getfield 11, 3) := by decide +kernel
theorem dX4_whoMayLeave_29 : decode cX4_whoMayLeave 29 = .ok (.iload 4, 2) := by decide +kernel
theorem dX4_whoMayLeave_31 : decode cX4_whoMayLeave 31 = .ok (.baload, 1) := by decide +kernel
theorem dX4_whoMayLeave_32 : decode cX4_whoMayLeave 32 = .ok (.ifCond .eq 19, 3) := by decide +kernel
theorem dX4_whoMayLeave_35 : decode cX4_whoMayLeave 35 = .ok (.aload_n 0, 1) := by decide +kernel
theorem dX4_whoMayLeave_36 : decode cX4_whoMayLeave 36 = .ok (.getfield 15, 3) := by decide +kernel
theorem dX4_whoMayLeave_39 : decode cX4_whoMayLeave 39 = .ok (.iload 4, 2) := by decide +kernel
theorem dX4_whoMayLeave_41 : decode cX4_whoMayLeave 41 = .ok (.baload, 1) := by decide +kernel
theorem dX4_whoMayLeave_42 : decode cX4_whoMayLeave 42 = .ok (.ifCond .eq 9, 3) := by decide +kernel
theorem dX4_whoMayLeave_45 : decode cX4_whoMayLeave 45 = .ok (.iload_n 2, 1) := by decide +kernel
theorem dX4_whoMayLeave_46 : decode cX4_whoMayLeave 46 = .ok (.iconst 1, 1) := by decide +kernel
theorem dX4_whoMayLeave_47 : decode cX4_whoMayLeave 47 = .ok (.iload_n 3, 1) := by decide +kernel
theorem dX4_whoMayLeave_48 : decode cX4_whoMayLeave 48 = .ok (.ishl, 1) := by decide +kernel
theorem dX4_whoMayLeave_49 : decode cX4_whoMayLeave 49 = .ok (.ior, 1) := by decide +kernel
theorem dX4_whoMayLeave_50 : decode cX4_whoMayLeave 50 = .ok (.istore_n 2, 1) := by decide +kernel
theorem dX4_whoMayLeave_51 : decode cX4_whoMayLeave 51 = .ok (.iinc 3 1, 3) := by decide +kernel
theorem dX4_whoMayLeave_54 : decode cX4_whoMayLeave 54 = .ok (.goto (-50), 3) := by decide +kernel
theorem dX4_whoMayLeave_57 : decode cX4_whoMayLeave 57 = .ok (.iload_n 2, 1) := by decide +kernel
theorem dX4_whoMayLeave_58 : decode cX4_whoMayLeave 58 = .ok (.ireturn, 1) := by decide +kernel
theorem dX4_reachFrom_0 : decode cX4_reachFrom 0 = .ok (.iconst 0, 1) := by decide +kernel
theorem dX4_reachFrom_1 : decode cX4_reachFrom 1 = .ok (.istore_n 2, 1) := by decide +kernel
theorem dX4_reachFrom_2 : decode cX4_reachFrom 2 = .ok (.iload_n 2, 1) := by decide +kernel
theorem dX4_reachFrom_3 : decode cX4_reachFrom 3 = .ok (.bipush 7, 2) := by decide +kernel
theorem dX4_reachFrom_5 : decode cX4_reachFrom 5 = .ok (.if_icmp .ge 38, 3) := by decide +kernel
theorem dX4_reachFrom_8 : decode cX4_reachFrom 8 = .ok (.iload_n 1, 1) := by decide +kernel
theorem dX4_reachFrom_9 : decode cX4_reachFrom 9 = .ok (.iconst 1, 1) := by decide +kernel
theorem dX4_reachFrom_10 : decode cX4_reachFrom 10 = .ok (.iload_n 2, 1) := by decide +kernel
theorem dX4_reachFrom_11 : decode cX4_reachFrom 11 = .ok (.ishl, 1) := by decide +kernel
theorem dX4_reachFrom_12 : decode cX4_reachFrom 12 = .ok (.iconst (-1), 1) := by decide +kernel
theorem dX4_reachFrom_13 : decode cX4_reachFrom 13 = .ok (.ixor, 1) := by decide +kernel
theorem dX4_reachFrom_14 : decode cX4_reachFrom 14 = .ok (.iand, 1) := by decide +kernel
theorem dX4_reachFrom_15 : decode cX4_reachFrom 15 = .ok (.istore_n 3, 1) := by decide +kernel
theorem dX4_reachFrom_16 : decode cX4_reachFrom 16 = .ok (.iload_n 3, 1) := by decide +kernel
theorem dX4_reachFrom_17 : decode cX4_reachFrom 17 = .ok (.iload_n 1, 1) := by decide +kernel
theorem dX4_reachFrom_18 : decode cX4_reachFrom 18 = .ok (.if_icmp .eq 19, 3) := by decide +kernel
theorem dX4_reachFrom_21 : decode cX4_reachFrom 21 = .ok (.aload_n 0, 1) := by decide +kernel
theorem dX4_reachFrom_22 : decode cX4_reachFrom 22 = .ok (.getfield 11, 3) := by decide +kernel
theorem dX4_reachFrom_25 : decode cX4_reachFrom 25 = .ok (.iload_n 3, 1) := by decide +kernel
theorem dX4_reachFrom_26 : decode cX4_reachFrom 26 = .ok (.baload, 1) := by decide +kernel
theorem dX4_reachFrom_27 : decode cX4_reachFrom 27 = .ok (.ifCond .eq 10, 3) := by decide +kernel
theorem dX4_reachFrom_30 : decode cX4_reachFrom 30 = .ok (.aload_n 0, 1) := by decide +kernel
theorem dX4_reachFrom_31 : decode cX4_reachFrom 31 = .ok (.getfield 18, 3) := by decide +kernel
theorem dX4_reachFrom_34 : decode cX4_reachFrom 34 = .ok (.iload_n 3, 1) := by decide +kernel
theorem dX4_reachFrom_35 : decode cX4_reachFrom 35 = .ok (.iconst 1, 1) := by decide +kernel
theorem dX4_reachFrom_36 : decode cX4_reachFrom 36 = .ok (.bastore, 1) := by decide +kernel
theorem dX4_reachFrom_37 : decode cX4_reachFrom 37 = .ok (.iinc 2 1, 3) := by decide +kernel
theorem dX4_reachFrom_40 : decode cX4_reachFrom 40 = .ok (.goto (-38), 3) := by decide +kernel
theorem dX4_reachFrom_43 : decode cX4_reachFrom 43 = .ok (.return_, 1) := by decide +kernel
theorem dX4_allCanLeave_0 : decode cX4_allCanLeave 0 = .ok (.aload_n 0, 1) := by decide +kernel
theorem dX4_allCanLeave_1 : decode cX4_allCanLeave 1 = .ok (.getfield 15, 3) := by decide +kernel
theorem dX4_allCanLeave_4 : decode cX4_allCanLeave 4 = .ok (.aload_n 0, 1) := by decide +kernel
theorem dX4_allCanLeave_5 : decode cX4_allCanLeave 5 = .ok (.getfield 25, 3) := by decide +kernel
theorem dX4_allCanLeave_8 : decode cX4_allCanLeave 8 = .ok (.baload, 1) := by decide +kernel
theorem dX4_allCanLeave_9 : decode cX4_allCanLeave 9 = .ok (.ireturn, 1) := by decide +kernel
theorem dX4_firsts_0 : decode cX4_firsts 0 = .ok (.aload_n 0, 1) := by decide +kernel
theorem dX4_firsts_1 : decode cX4_firsts 1 = .ok (.aload_n 0, 1) := by decide +kernel
theorem dX4_firsts_2 : decode cX4_firsts 2 = .ok (.getfield 25, 3) := by decide +kernel
theorem dX4_firsts_5 : decode cX4_firsts 5 = .ok (.invokevirtual 47, 3) := by decide +kernel
theorem dX4_firsts_8 : decode cX4_firsts 8 = .ok (.ireturn, 1) := by decide +kernel
theorem dX4_lasts_0 : decode cX4_lasts 0 = .ok (.iconst 0, 1) := by decide +kernel
theorem dX4_lasts_1 : decode cX4_lasts 1 = .ok (.istore_n 1, 1) := by decide +kernel
theorem dX4_lasts_2 : decode cX4_lasts 2 = .ok (.iconst 0, 1) := by decide +kernel
theorem dX4_lasts_3 : decode cX4_lasts 3 = .ok (.istore_n 2, 1) := by decide +kernel
theorem dX4_lasts_4 : decode cX4_lasts 4 = .ok (.iload_n 2, 1) := by decide +kernel
theorem dX4_lasts_5 : decode cX4_lasts 5 = .ok (.bipush 7, 2) := by decide +kernel
theorem dX4_lasts_7 : decode cX4_lasts 7 = .ok (.if_icmp .ge 44, 3) := by decide +kernel
theorem dX4_lasts_10 : decode cX4_lasts 10 = .ok (.iconst 1, 1) := by decide +kernel
theorem dX4_lasts_11 : decode cX4_lasts 11 = .ok (.iload_n 2, 1) := by decide +kernel
theorem dX4_lasts_12 : decode cX4_lasts 12 = .ok (.ishl, 1) := by decide +kernel
theorem dX4_lasts_13 : decode cX4_lasts 13 = .ok (.istore_n 3, 1) := by decide +kernel
theorem dX4_lasts_14 : decode cX4_lasts 14 = .ok (.aload_n 0, 1) := by decide +kernel
theorem dX4_lasts_15 : decode cX4_lasts 15 = .ok (.getfield 25, 3) := by decide +kernel
theorem dX4_lasts_18 : decode cX4_lasts 18 = .ok (.iload_n 3, 1) := by decide +kernel
theorem dX4_lasts_19 : decode cX4_lasts 19 = .ok (.iand, 1) := by decide +kernel
theorem dX4_lasts_20 : decode cX4_lasts 20 = .ok (.ifCond .eq 25, 3) := by decide +kernel
theorem dX4_lasts_23 : decode cX4_lasts 23 = .ok (.aload_n 0, 1) := by decide +kernel
theorem dX4_lasts_24 : decode cX4_lasts 24 = .ok (.getfield 18, 3) := by decide +kernel
theorem dX4_lasts_27 : decode cX4_lasts 27 = .ok (.iload_n 3, 1) := by decide +kernel
theorem dX4_lasts_28 : decode cX4_lasts 28 = .ok (.baload, 1) := by decide +kernel
theorem dX4_lasts_29 : decode cX4_lasts 29 = .ok (.ifCond .eq 16, 3) := by decide +kernel
theorem dX4_lasts_32 : decode cX4_lasts 32 = .ok (.aload_n 0, 1) := by decide +kernel
theorem dX4_lasts_33 : decode cX4_lasts 33 = .ok (.getfield 11, 3) := by decide +kernel
theorem dX4_lasts_36 : decode cX4_lasts 36 = .ok (.iconst 0, 1) := by decide +kernel
theorem dX4_lasts_37 : decode cX4_lasts 37 = .ok (.baload, 1) := by decide +kernel
theorem dX4_lasts_38 : decode cX4_lasts 38 = .ok (.ifCond .eq 7, 3) := by decide +kernel
theorem dX4_lasts_41 : decode cX4_lasts 41 = .ok (.iload_n 1, 1) := by decide +kernel
theorem dX4_lasts_42 : decode cX4_lasts 42 = .ok (.iload_n 3, 1) := by decide +kernel
theorem dX4_lasts_43 : decode cX4_lasts 43 = .ok (.ior, 1) := by decide +kernel
theorem dX4_lasts_44 : decode cX4_lasts 44 = .ok (.istore_n 1, 1) := by decide +kernel
theorem dX4_lasts_45 : decode cX4_lasts 45 = .ok (.iinc 2 1, 3) := by decide +kernel
theorem dX4_lasts_48 : decode cX4_lasts 48 = .ok (.goto (-44), 3) := by decide +kernel
theorem dX4_lasts_51 : decode cX4_lasts 51 = .ok (.iload_n 1, 1) := by decide +kernel
theorem dX4_lasts_52 : decode cX4_lasts 52 = .ok (.ireturn, 1) := by decide +kernel
theorem dX4_firstOrder_0 : decode cX4_firstOrder 0 = .ok (.aload_n 0, 1) := by decide +kernel
theorem dX4_firstOrder_1 : decode cX4_firstOrder 1 = .ok (.getfield 25, 3) := by decide +kernel
theorem dX4_firstOrder_4 : decode cX4_firstOrder 4 = .ok (.istore_n 1, 1) := by decide +kernel
theorem dX4_firstOrder_5 : decode cX4_firstOrder 5 = .ok (.iconst 0, 1) := by decide +kernel
theorem dX4_firstOrder_6 : decode cX4_firstOrder 6 = .ok (.istore_n 2, 1) := by decide +kernel
theorem dX4_firstOrder_7 : decode cX4_firstOrder 7 = .ok (.iload_n 2, 1) := by decide +kernel
theorem dX4_firstOrder_8 : decode cX4_firstOrder 8 = .ok (.bipush 7, 2) := by decide +kernel
theorem dX4_firstOrder_10 : decode cX4_firstOrder 10 = .ok (.if_icmp .ge 42, 3) := by decide +kernel
theorem dX4_firstOrder_13 : decode cX4_firstOrder 13 = .ok (.iload_n 1, 1) := by decide +kernel
theorem dX4_firstOrder_14 : decode cX4_firstOrder 14 = .ok (.ifCond .eq 38, 3) := by decide +kernel
theorem dX4_firstOrder_17 : decode cX4_firstOrder 17 = .ok (.aload_n 0, 1) := by decide +kernel
theorem dX4_firstOrder_18 : decode cX4_firstOrder 18 = .ok (.iload_n 1, 1) := by decide +kernel
theorem dX4_firstOrder_19 : decode cX4_firstOrder 19 = .ok (.invokevirtual 47, 3) := by decide +kernel
theorem dX4_firstOrder_22 : decode cX4_firstOrder 22 = .ok (.istore_n 3, 1) := by decide +kernel
theorem dX4_firstOrder_23 : decode cX4_firstOrder 23 = .ok (.iload_n 3, 1) := by decide +kernel
theorem dX4_firstOrder_24 : decode cX4_firstOrder 24 = .ok (.invokestatic 64, 3) := by decide +kernel
theorem dX4_firstOrder_27 : decode cX4_firstOrder 27 = .ok (.istore 4, 2) := by decide +kernel
theorem dX4_firstOrder_29 : decode cX4_firstOrder 29 = .ok (.aload_n 0, 1) := by decide +kernel
theorem dX4_firstOrder_30 : decode cX4_firstOrder 30 = .ok (.getfield 21, 3) := by decide +kernel
theorem dX4_firstOrder_33 : decode cX4_firstOrder 33 = .ok (.iload_n 2, 1) := by decide +kernel
theorem dX4_firstOrder_34 : decode cX4_firstOrder 34 = .ok (.iload 4, 2) := by decide +kernel
theorem dX4_firstOrder_36 : decode cX4_firstOrder 36 = .ok (.iastore, 1) := by decide +kernel
theorem dX4_firstOrder_37 : decode cX4_firstOrder 37 = .ok (.iload_n 1, 1) := by decide +kernel
theorem dX4_firstOrder_38 : decode cX4_firstOrder 38 = .ok (.iconst 1, 1) := by decide +kernel
theorem dX4_firstOrder_39 : decode cX4_firstOrder 39 = .ok (.iload 4, 2) := by decide +kernel
theorem dX4_firstOrder_41 : decode cX4_firstOrder 41 = .ok (.ishl, 1) := by decide +kernel
theorem dX4_firstOrder_42 : decode cX4_firstOrder 42 = .ok (.iconst (-1), 1) := by decide +kernel
theorem dX4_firstOrder_43 : decode cX4_firstOrder 43 = .ok (.ixor, 1) := by decide +kernel
theorem dX4_firstOrder_44 : decode cX4_firstOrder 44 = .ok (.iand, 1) := by decide +kernel
theorem dX4_firstOrder_45 : decode cX4_firstOrder 45 = .ok (.istore_n 1, 1) := by decide +kernel
theorem dX4_firstOrder_46 : decode cX4_firstOrder 46 = .ok (.iinc 2 1, 3) := by decide +kernel
theorem dX4_firstOrder_49 : decode cX4_firstOrder 49 = .ok (.goto (-42), 3) := by decide +kernel
theorem dX4_firstOrder_52 : decode cX4_firstOrder 52 = .ok (.aload_n 0, 1) := by decide +kernel
theorem dX4_firstOrder_53 : decode cX4_firstOrder 53 = .ok (.getfield 21, 3) := by decide +kernel
theorem dX4_firstOrder_56 : decode cX4_firstOrder 56 = .ok (.areturn, 1) := by decide +kernel
theorem dX4_leastOf_0 : decode cX4_leastOf 0 = .ok (.iconst 0, 1) := by decide +kernel
theorem dX4_leastOf_1 : decode cX4_leastOf 1 = .ok (.istore_n 1, 1) := by decide +kernel
theorem dX4_leastOf_2 : decode cX4_leastOf 2 = .ok (.iload_n 1, 1) := by decide +kernel
theorem dX4_leastOf_3 : decode cX4_leastOf 3 = .ok (.bipush 7, 2) := by decide +kernel
theorem dX4_leastOf_5 : decode cX4_leastOf 5 = .ok (.if_icmp .ge 19, 3) := by decide +kernel
theorem dX4_leastOf_8 : decode cX4_leastOf 8 = .ok (.iload_n 0, 1) := by decide +kernel
theorem dX4_leastOf_9 : decode cX4_leastOf 9 = .ok (.iconst 1, 1) := by decide +kernel
theorem dX4_leastOf_10 : decode cX4_leastOf 10 = .ok (.iload_n 1, 1) := by decide +kernel
theorem dX4_leastOf_11 : decode cX4_leastOf 11 = .ok (.ishl, 1) := by decide +kernel
theorem dX4_leastOf_12 : decode cX4_leastOf 12 = .ok (.iand, 1) := by decide +kernel
theorem dX4_leastOf_13 : decode cX4_leastOf 13 = .ok (.ifCond .eq 5, 3) := by decide +kernel
theorem dX4_leastOf_16 : decode cX4_leastOf 16 = .ok (.iload_n 1, 1) := by decide +kernel
theorem dX4_leastOf_17 : decode cX4_leastOf 17 = .ok (.ireturn, 1) := by decide +kernel
theorem dX4_leastOf_18 : decode cX4_leastOf 18 = .ok (.iinc 1 1, 3) := by decide +kernel
theorem dX4_leastOf_21 : decode cX4_leastOf 21 = .ok (.goto (-19), 3) := by decide +kernel
theorem dX4_leastOf_24 : decode cX4_leastOf 24 = .ok (.iconst 0, 1) := by decide +kernel
theorem dX4_leastOf_25 : decode cX4_leastOf 25 = .ok (.ireturn, 1) := by decide +kernel
theorem dX5_init_0 : decode cX5_init 0 = .ok (.aload_n 0, 1) := by decide +kernel
theorem dX5_init_1 : decode cX5_init 1 = .ok (.invokespecial 3, 3) := by decide +kernel
theorem dX5_init_4 : decode cX5_init 4 = .ok (.aload_n 0, 1) := by decide +kernel
theorem dX5_init_5 : decode cX5_init 5 = .ok (.iconst 0, 1) := by decide +kernel
theorem dX5_init_6 : decode cX5_init 6 = .ok (.putfield 9, 3) := by decide +kernel
theorem dX5_init_9 : decode cX5_init 9 = .ok (.aload_n 0, 1) := by decide +kernel
theorem dX5_init_10 : decode cX5_init 10 = .ok (.bipush 8, 2) := by decide +kernel
theorem dX5_init_12 : decode cX5_init 12 = .ok (.newarray .int, 2) := by decide +kernel
theorem dX5_init_14 : decode cX5_init 14 = .ok (.putfield 15, 3) := by decide +kernel
theorem dX5_init_17 : decode cX5_init 17 = .ok (.aload_n 0, 1) := by decide +kernel
theorem dX5_init_18 : decode cX5_init 18 = .ok (.bipush 8, 2) := by decide +kernel
theorem dX5_init_20 : decode cX5_init 20 = .ok (.newarray .int, 2) := by decide +kernel
theorem dX5_init_22 : decode cX5_init 22 = .ok (.putfield 19, 3) := by decide +kernel
theorem dX5_init_25 : decode cX5_init 25 = .ok (.aload_n 0, 1) := by decide +kernel
theorem dX5_init_26 : decode cX5_init 26 = .ok (.bipush 7, 2) := by decide +kernel
theorem dX5_init_28 : decode cX5_init 28 = .ok (.newarray .int, 2) := by decide +kernel
theorem dX5_init_30 : decode cX5_init 30 = .ok (.putfield 22, 3) := by decide +kernel
theorem dX5_init_33 : decode cX5_init 33 = .ok (.return_, 1) := by decide +kernel
theorem dX5_add_0 : decode cX5_add 0 = .ok (.aload_n 0, 1) := by decide +kernel
theorem dX5_add_1 : decode cX5_add 1 = .ok (.getfield 9, 3) := by decide +kernel
theorem dX5_add_4 : decode cX5_add 4 = .ok (.bipush 8, 2) := by decide +kernel
theorem dX5_add_6 : decode cX5_add 6 = .ok (.if_icmp .ge 39, 3) := by decide +kernel
theorem dX5_add_9 : decode cX5_add 9 = .ok (.aload_n 0, 1) := by decide +kernel
theorem dX5_add_10 : decode cX5_add 10 = .ok (.getfield 15, 3) := by decide +kernel
theorem dX5_add_13 : decode cX5_add 13 = .ok (.aload_n 0, 1) := by decide +kernel
theorem dX5_add_14 : decode cX5_add 14 = .ok (.getfield 9, 3) := by decide +kernel
theorem dX5_add_17 : decode cX5_add 17 = .ok (.iload_n 1, 1) := by decide +kernel
theorem dX5_add_18 : decode cX5_add 18 = .ok (.iastore, 1) := by decide +kernel
theorem dX5_add_19 : decode cX5_add 19 = .ok (.aload_n 0, 1) := by decide +kernel
theorem dX5_add_20 : decode cX5_add 20 = .ok (.getfield 19, 3) := by decide +kernel
theorem dX5_add_23 : decode cX5_add 23 = .ok (.aload_n 0, 1) := by decide +kernel
theorem dX5_add_24 : decode cX5_add 24 = .ok (.getfield 9, 3) := by decide +kernel
theorem dX5_add_27 : decode cX5_add 27 = .ok (.iload_n 2, 1) := by decide +kernel
theorem dX5_add_28 : decode cX5_add 28 = .ok (.iastore, 1) := by decide +kernel
theorem dX5_add_29 : decode cX5_add 29 = .ok (.aload_n 0, 1) := by decide +kernel
theorem dX5_add_30 : decode cX5_add 30 = .ok (.dup, 1) := by decide +kernel
theorem dX5_add_31 : decode cX5_add 31 = .ok (.getfield 9, 3) := by decide +kernel
theorem dX5_add_34 : decode cX5_add 34 = .ok (.iconst 1, 1) := by decide +kernel
theorem dX5_add_35 : decode cX5_add 35 = .ok (.iadd, 1) := by decide +kernel
theorem dX5_add_36 : decode cX5_add 36 = .ok (.putfield 9, 3) := by decide +kernel
theorem dX5_add_39 : decode cX5_add 39 = .ok (.aload_n 0, 1) := by decide +kernel
theorem dX5_add_40 : decode cX5_add 40 = .ok (.iload_n 1, 1) := by decide +kernel
theorem dX5_add_41 : decode cX5_add 41 = .ok (.iload_n 2, 1) := by decide +kernel
theorem dX5_add_42 : decode cX5_add 42 = .ok (.invokevirtual 25, 3) := by decide +kernel
theorem dX5_add_45 : decode cX5_add 45 = .ok (.return_, 1) := by decide +kernel
theorem dX5_cutTo_0 : decode cX5_cutTo 0 = .ok (.aload_n 0, 1) := by decide +kernel
theorem dX5_cutTo_1 : decode cX5_cutTo 1 = .ok (.iconst 0, 1) := by decide +kernel
theorem dX5_cutTo_2 : decode cX5_cutTo 2 = .ok (.aload_n 0, 1) := by decide +kernel
theorem dX5_cutTo_3 : decode cX5_cutTo 3 = .ok (.getfield 9, 3) := by decide +kernel
theorem dX5_cutTo_6 : decode cX5_cutTo 6 = .ok (.iload_n 1, 1) := by decide +kernel
theorem dX5_cutTo_7 : decode cX5_cutTo 7 = .ok (.invokestatic 29, 3) := by decide +kernel
theorem dX5_cutTo_10 : decode cX5_cutTo 10 = .ok (.invokestatic 35, 3) := by decide +kernel
theorem dX5_cutTo_13 : decode cX5_cutTo 13 = .ok (.putfield 9, 3) := by decide +kernel
theorem dX5_cutTo_16 : decode cX5_cutTo 16 = .ok (.iconst 0, 1) := by decide +kernel
theorem dX5_cutTo_17 : decode cX5_cutTo 17 = .ok (.istore_n 2, 1) := by decide +kernel
theorem dX5_cutTo_18 : decode cX5_cutTo 18 = .ok (.iload_n 2, 1) := by decide +kernel
theorem dX5_cutTo_19 : decode cX5_cutTo 19 = .ok (.bipush 7, 2) := by decide +kernel
theorem dX5_cutTo_21 : decode cX5_cutTo 21 = .ok (.if_icmp .ge 16, 3) := by decide +kernel
theorem dX5_cutTo_24 : decode cX5_cutTo 24 = .ok (.aload_n 0, 1) := by decide +kernel
theorem dX5_cutTo_25 : decode cX5_cutTo 25 = .ok (.getfield 22, 3) := by decide +kernel
theorem dX5_cutTo_28 : decode cX5_cutTo 28 = .ok (.iload_n 2, 1) := by decide +kernel
theorem dX5_cutTo_29 : decode cX5_cutTo 29 = .ok (.iconst 0, 1) := by decide +kernel
theorem dX5_cutTo_30 : decode cX5_cutTo 30 = .ok (.iastore, 1) := by decide +kernel
theorem dX5_cutTo_31 : decode cX5_cutTo 31 = .ok (.iinc 2 1, 3) := by decide +kernel
theorem dX5_cutTo_34 : decode cX5_cutTo 34 = .ok (.goto (-16), 3) := by decide +kernel
theorem dX5_cutTo_37 : decode cX5_cutTo 37 = .ok (.iconst 0, 1) := by decide +kernel
theorem dX5_cutTo_38 : decode cX5_cutTo 38 = .ok (.istore_n 2, 1) := by decide +kernel
theorem dX5_cutTo_39 : decode cX5_cutTo 39 = .ok (.iload_n 2, 1) := by decide +kernel
theorem dX5_cutTo_40 : decode cX5_cutTo 40 = .ok (.aload_n 0, 1) := by decide +kernel
theorem dX5_cutTo_41 : decode cX5_cutTo 41 = .ok (.getfield 9, 3) := by decide +kernel
theorem dX5_cutTo_44 : decode cX5_cutTo 44 = .ok (.if_icmp .ge 25, 3) := by decide +kernel
theorem dX5_cutTo_47 : decode cX5_cutTo 47 = .ok (.aload_n 0, 1) := by decide +kernel
theorem dX5_cutTo_48 : decode cX5_cutTo 48 = .ok (.aload_n 0, 1) := by decide +kernel
theorem dX5_cutTo_49 : decode cX5_cutTo 49 = .ok (.getfield 15, 3) := by decide +kernel
theorem dX5_cutTo_52 : decode cX5_cutTo 52 = .ok (.iload_n 2, 1) := by decide +kernel
theorem dX5_cutTo_53 : decode cX5_cutTo 53 = .ok (.iaload, 1) := by decide +kernel
theorem dX5_cutTo_54 : decode cX5_cutTo 54 = .ok (.aload_n 0, 1) := by decide +kernel
theorem dX5_cutTo_55 : decode cX5_cutTo 55 = .ok (.getfield 19, 3) := by decide +kernel
theorem dX5_cutTo_58 : decode cX5_cutTo 58 = .ok (.iload_n 2, 1) := by decide +kernel
theorem dX5_cutTo_59 : decode cX5_cutTo 59 = .ok (.iaload, 1) := by decide +kernel
theorem dX5_cutTo_60 : decode cX5_cutTo 60 = .ok (.invokevirtual 25, 3) := by decide +kernel
theorem dX5_cutTo_63 : decode cX5_cutTo 63 = .ok (.iinc 2 1, 3) := by decide +kernel
theorem dX5_cutTo_66 : decode cX5_cutTo 66 = .ok (.goto (-27), 3) := by decide +kernel
theorem dX5_cutTo_69 : decode cX5_cutTo 69 = .ok (.return_, 1) := by decide +kernel
theorem dX5_noteFoes_0 : decode cX5_noteFoes 0 = .ok (.iload_n 1, 1) := by decide +kernel
theorem dX5_noteFoes_1 : decode cX5_noteFoes 1 = .ok (.iconst 0, 1) := by decide +kernel
theorem dX5_noteFoes_2 : decode cX5_noteFoes 2 = .ok (.bipush 6, 2) := by decide +kernel
theorem dX5_noteFoes_4 : decode cX5_noteFoes 4 = .ok (.invokestatic 38, 3) := by decide +kernel
theorem dX5_noteFoes_7 : decode cX5_noteFoes 7 = .ok (.ifCond .eq 37, 3) := by decide +kernel
theorem dX5_noteFoes_10 : decode cX5_noteFoes 10 = .ok (.iload_n 2, 1) := by decide +kernel
theorem dX5_noteFoes_11 : decode cX5_noteFoes 11 = .ok (.iconst 0, 1) := by decide +kernel
theorem dX5_noteFoes_12 : decode cX5_noteFoes 12 = .ok (.bipush 6, 2) := by decide +kernel
theorem dX5_noteFoes_14 : decode cX5_noteFoes 14 = .ok (.invokestatic 38, 3) := by decide +kernel
theorem dX5_noteFoes_17 : decode cX5_noteFoes 17 = .ok (.ifCond .eq 27, 3) := by decide +kernel
theorem dX5_noteFoes_20 : decode cX5_noteFoes 20 = .ok (.aload_n 0, 1) := by decide +kernel
theorem dX5_noteFoes_21 : decode cX5_noteFoes 21 = .ok (.getfield 22, 3) := by decide +kernel
theorem dX5_noteFoes_24 : decode cX5_noteFoes 24 = .ok (.iload_n 1, 1) := by decide +kernel
theorem dX5_noteFoes_25 : decode cX5_noteFoes 25 = .ok (.dup2, 1) := by decide +kernel
theorem dX5_noteFoes_26 : decode cX5_noteFoes 26 = .ok (.iaload, 1) := by decide +kernel
theorem dX5_noteFoes_27 : decode cX5_noteFoes 27 = .ok (.iconst 1, 1) := by decide +kernel
theorem dX5_noteFoes_28 : decode cX5_noteFoes 28 = .ok (.iload_n 2, 1) := by decide +kernel
theorem dX5_noteFoes_29 : decode cX5_noteFoes 29 = .ok (.ishl, 1) := by decide +kernel
theorem dX5_noteFoes_30 : decode cX5_noteFoes 30 = .ok (.ior, 1) := by decide +kernel
theorem dX5_noteFoes_31 : decode cX5_noteFoes 31 = .ok (.iastore, 1) := by decide +kernel
theorem dX5_noteFoes_32 : decode cX5_noteFoes 32 = .ok (.aload_n 0, 1) := by decide +kernel
theorem dX5_noteFoes_33 : decode cX5_noteFoes 33 = .ok (.getfield 22, 3) := by decide +kernel
theorem dX5_noteFoes_36 : decode cX5_noteFoes 36 = .ok (.iload_n 2, 1) := by decide +kernel
theorem dX5_noteFoes_37 : decode cX5_noteFoes 37 = .ok (.dup2, 1) := by decide +kernel
theorem dX5_noteFoes_38 : decode cX5_noteFoes 38 = .ok (.iaload, 1) := by decide +kernel
theorem dX5_noteFoes_39 : decode cX5_noteFoes 39 = .ok (.iconst 1, 1) := by decide +kernel
theorem dX5_noteFoes_40 : decode cX5_noteFoes 40 = .ok (.iload_n 1, 1) := by decide +kernel
theorem dX5_noteFoes_41 : decode cX5_noteFoes 41 = .ok (.ishl, 1) := by decide +kernel
theorem dX5_noteFoes_42 : decode cX5_noteFoes 42 = .ok (.ior, 1) := by decide +kernel
theorem dX5_noteFoes_43 : decode cX5_noteFoes 43 = .ok (.iastore, 1) := by decide +kernel
theorem dX5_noteFoes_44 : decode cX5_noteFoes 44 = .ok (.return_, 1) := by decide +kernel
theorem dX5_oneOf_0 : decode cX5_oneOf 0 = .ok (.iload_n 1, 1) := by decide +kernel
theorem dX5_oneOf_1 : decode cX5_oneOf 1 = .ok (.ifCond .lt 20, 3) := by decide +kernel
theorem dX5_oneOf_4 : decode cX5_oneOf 4 = .ok (.iload_n 1, 1) := by decide +kernel
theorem dX5_oneOf_5 : decode cX5_oneOf 5 = .ok (.aload_n 0, 1) := by decide +kernel
theorem dX5_oneOf_6 : decode cX5_oneOf 6 = .ok (.getfield 9, 3) := by decide +kernel
theorem dX5_oneOf_9 : decode cX5_oneOf 9 = .ok (.if_icmp .ge 12, 3) := by decide +kernel
theorem dX5_oneOf_12 : decode cX5_oneOf 12 = .ok (.aload_n 0, 1) := by decide +kernel
theorem dX5_oneOf_13 : decode cX5_oneOf 13 = .ok (.getfield 15, 3) := by decide +kernel
theorem dX5_oneOf_16 : decode cX5_oneOf 16 = .ok (.iload_n 1, 1) := by decide +kernel
theorem dX5_oneOf_17 : decode cX5_oneOf 17 = .ok (.iaload, 1) := by decide +kernel
theorem dX5_oneOf_18 : decode cX5_oneOf 18 = .ok (.goto 5, 3) := by decide +kernel
theorem dX5_oneOf_21 : decode cX5_oneOf 21 = .ok (.bipush (-9), 2) := by decide +kernel
theorem dX5_oneOf_23 : decode cX5_oneOf 23 = .ok (.ireturn, 1) := by decide +kernel
theorem dX5_otherOf_0 : decode cX5_otherOf 0 = .ok (.iload_n 1, 1) := by decide +kernel
theorem dX5_otherOf_1 : decode cX5_otherOf 1 = .ok (.ifCond .lt 20, 3) := by decide +kernel
theorem dX5_otherOf_4 : decode cX5_otherOf 4 = .ok (.iload_n 1, 1) := by decide +kernel
theorem dX5_otherOf_5 : decode cX5_otherOf 5 = .ok (.aload_n 0, 1) := by decide +kernel
theorem dX5_otherOf_6 : decode cX5_otherOf 6 = .ok (.getfield 9, 3) := by decide +kernel
theorem dX5_otherOf_9 : decode cX5_otherOf 9 = .ok (.if_icmp .ge 12, 3) := by decide +kernel
theorem dX5_otherOf_12 : decode cX5_otherOf 12 = .ok (.aload_n 0, 1) := by decide +kernel
theorem dX5_otherOf_13 : decode cX5_otherOf 13 = .ok (.getfield 19, 3) := by decide +kernel
theorem dX5_otherOf_16 : decode cX5_otherOf 16 = .ok (.iload_n 1, 1) := by decide +kernel
theorem dX5_otherOf_17 : decode cX5_otherOf 17 = .ok (.iaload, 1) := by decide +kernel
theorem dX5_otherOf_18 : decode cX5_otherOf 18 = .ok (.goto 5, 3) := by decide +kernel
theorem dX5_otherOf_21 : decode cX5_otherOf 21 = .ok (.bipush (-9), 2) := by decide +kernel
theorem dX5_otherOf_23 : decode cX5_otherOf 23 = .ok (.ireturn, 1) := by decide +kernel
theorem dX5_foesOf_0 : decode cX5_foesOf 0 = .ok (.iload_n 1, 1) := by decide +kernel
theorem dX5_foesOf_1 : decode cX5_foesOf 1 = .ok (.ifCond .lt 18, 3) := by decide +kernel
theorem dX5_foesOf_4 : decode cX5_foesOf 4 = .ok (.iload_n 1, 1) := by decide +kernel
theorem dX5_foesOf_5 : decode cX5_foesOf 5 = .ok (.bipush 7, 2) := by decide +kernel
theorem dX5_foesOf_7 : decode cX5_foesOf 7 = .ok (.if_icmp .ge 12, 3) := by decide +kernel
theorem dX5_foesOf_10 : decode cX5_foesOf 10 = .ok (.aload_n 0, 1) := by decide +kernel
theorem dX5_foesOf_11 : decode cX5_foesOf 11 = .ok (.getfield 22, 3) := by decide +kernel
theorem dX5_foesOf_14 : decode cX5_foesOf 14 = .ok (.iload_n 1, 1) := by decide +kernel
theorem dX5_foesOf_15 : decode cX5_foesOf 15 = .ok (.iaload, 1) := by decide +kernel
theorem dX5_foesOf_16 : decode cX5_foesOf 16 = .ok (.goto 4, 3) := by decide +kernel
theorem dX5_foesOf_19 : decode cX5_foesOf 19 = .ok (.iconst 0, 1) := by decide +kernel
theorem dX5_foesOf_20 : decode cX5_foesOf 20 = .ok (.ireturn, 1) := by decide +kernel
theorem dX6_init_0 : decode cX6_init 0 = .ok (.aload_n 0, 1) := by decide +kernel
theorem dX6_init_1 : decode cX6_init 1 = .ok (.invokespecial 3, 3) := by decide +kernel
theorem dX6_init_4 : decode cX6_init 4 = .ok (.aload_n 0, 1) := by decide +kernel
theorem dX6_init_5 : decode cX6_init 5 = .ok (.iconst 1, 1) := by decide +kernel
theorem dX6_init_6 : decode cX6_init 6 = .ok (.putfield 9, 3) := by decide +kernel
theorem dX6_init_9 : decode cX6_init 9 = .ok (.aload_n 0, 1) := by decide +kernel
theorem dX6_init_10 : decode cX6_init 10 = .ok (.bipush 40, 2) := by decide +kernel
theorem dX6_init_12 : decode cX6_init 12 = .ok (.newarray .int, 2) := by decide +kernel
theorem dX6_init_14 : decode cX6_init 14 = .ok (.putfield 15, 3) := by decide +kernel
theorem dX6_init_17 : decode cX6_init 17 = .ok (.aload_n 0, 1) := by decide +kernel
theorem dX6_init_18 : decode cX6_init 18 = .ok (.iconst 1, 1) := by decide +kernel
theorem dX6_init_19 : decode cX6_init 19 = .ok (.putfield 19, 3) := by decide +kernel
theorem dX6_init_22 : decode cX6_init 22 = .ok (.return_, 1) := by decide +kernel
theorem dX6_clear_0 : decode cX6_clear 0 = .ok (.aload_n 0, 1) := by decide +kernel
theorem dX6_clear_1 : decode cX6_clear 1 = .ok (.iconst 0, 1) := by decide +kernel
theorem dX6_clear_2 : decode cX6_clear 2 = .ok (.putfield 9, 3) := by decide +kernel
theorem dX6_clear_5 : decode cX6_clear 5 = .ok (.aload_n 0, 1) := by decide +kernel
theorem dX6_clear_6 : decode cX6_clear 6 = .ok (.iconst 0, 1) := by decide +kernel
theorem dX6_clear_7 : decode cX6_clear 7 = .ok (.putfield 19, 3) := by decide +kernel
theorem dX6_clear_10 : decode cX6_clear 10 = .ok (.return_, 1) := by decide +kernel
theorem dX6_add_0 : decode cX6_add 0 = .ok (.aload_n 0, 1) := by decide +kernel
theorem dX6_add_1 : decode cX6_add 1 = .ok (.getfield 9, 3) := by decide +kernel
theorem dX6_add_4 : decode cX6_add 4 = .ok (.bipush 40, 2) := by decide +kernel
theorem dX6_add_6 : decode cX6_add 6 = .ok (.if_icmp .ge 35, 3) := by decide +kernel
theorem dX6_add_9 : decode cX6_add 9 = .ok (.aload_n 0, 1) := by decide +kernel
theorem dX6_add_10 : decode cX6_add 10 = .ok (.getfield 15, 3) := by decide +kernel
theorem dX6_add_13 : decode cX6_add 13 = .ok (.aload_n 0, 1) := by decide +kernel
theorem dX6_add_14 : decode cX6_add 14 = .ok (.getfield 9, 3) := by decide +kernel
theorem dX6_add_17 : decode cX6_add 17 = .ok (.iload_n 1, 1) := by decide +kernel
theorem dX6_add_18 : decode cX6_add 18 = .ok (.iastore, 1) := by decide +kernel
theorem dX6_add_19 : decode cX6_add 19 = .ok (.aload_n 0, 1) := by decide +kernel
theorem dX6_add_20 : decode cX6_add 20 = .ok (.dup, 1) := by decide +kernel
theorem dX6_add_21 : decode cX6_add 21 = .ok (.getfield 19, 3) := by decide +kernel
theorem dX6_add_24 : decode cX6_add 24 = .ok (.iconst 1, 1) := by decide +kernel
theorem dX6_add_25 : decode cX6_add 25 = .ok (.iload_n 1, 1) := by decide +kernel
theorem dX6_add_26 : decode cX6_add 26 = .ok (.ishl, 1) := by decide +kernel
theorem dX6_add_27 : decode cX6_add 27 = .ok (.ior, 1) := by decide +kernel
theorem dX6_add_28 : decode cX6_add 28 = .ok (.putfield 19, 3) := by decide +kernel
theorem dX6_add_31 : decode cX6_add 31 = .ok (.aload_n 0, 1) := by decide +kernel
theorem dX6_add_32 : decode cX6_add 32 = .ok (.dup, 1) := by decide +kernel
theorem dX6_add_33 : decode cX6_add 33 = .ok (.getfield 9, 3) := by decide +kernel
theorem dX6_add_36 : decode cX6_add 36 = .ok (.iconst 1, 1) := by decide +kernel
theorem dX6_add_37 : decode cX6_add 37 = .ok (.iadd, 1) := by decide +kernel
theorem dX6_add_38 : decode cX6_add 38 = .ok (.putfield 9, 3) := by decide +kernel
theorem dX6_add_41 : decode cX6_add 41 = .ok (.return_, 1) := by decide +kernel
theorem dX6_postureIn_0 : decode cX6_postureIn 0 = .ok (.iload_n 1, 1) := by decide +kernel
theorem dX6_postureIn_1 : decode cX6_postureIn 1 = .ok (.ifCond .lt 20, 3) := by decide +kernel
theorem dX6_postureIn_4 : decode cX6_postureIn 4 = .ok (.iload_n 1, 1) := by decide +kernel
theorem dX6_postureIn_5 : decode cX6_postureIn 5 = .ok (.aload_n 0, 1) := by decide +kernel
theorem dX6_postureIn_6 : decode cX6_postureIn 6 = .ok (.getfield 9, 3) := by decide +kernel
theorem dX6_postureIn_9 : decode cX6_postureIn 9 = .ok (.if_icmp .ge 12, 3) := by decide +kernel
theorem dX6_postureIn_12 : decode cX6_postureIn 12 = .ok (.aload_n 0, 1) := by decide +kernel
theorem dX6_postureIn_13 : decode cX6_postureIn 13 = .ok (.getfield 15, 3) := by decide +kernel
theorem dX6_postureIn_16 : decode cX6_postureIn 16 = .ok (.iload_n 1, 1) := by decide +kernel
theorem dX6_postureIn_17 : decode cX6_postureIn 17 = .ok (.iaload, 1) := by decide +kernel
theorem dX6_postureIn_18 : decode cX6_postureIn 18 = .ok (.goto 4, 3) := by decide +kernel
theorem dX6_postureIn_21 : decode cX6_postureIn 21 = .ok (.iconst 0, 1) := by decide +kernel
theorem dX6_postureIn_22 : decode cX6_postureIn 22 = .ok (.ireturn, 1) := by decide +kernel
theorem dX6_hasPosture_0 : decode cX6_hasPosture 0 = .ok (.aload_n 0, 1) := by decide +kernel
theorem dX6_hasPosture_1 : decode cX6_hasPosture 1 = .ok (.getfield 19, 3) := by decide +kernel
theorem dX6_hasPosture_4 : decode cX6_hasPosture 4 = .ok (.iconst 1, 1) := by decide +kernel
theorem dX6_hasPosture_5 : decode cX6_hasPosture 5 = .ok (.iload_n 1, 1) := by decide +kernel
theorem dX6_hasPosture_6 : decode cX6_hasPosture 6 = .ok (.ishl, 1) := by decide +kernel
theorem dX6_hasPosture_7 : decode cX6_hasPosture 7 = .ok (.iand, 1) := by decide +kernel
theorem dX6_hasPosture_8 : decode cX6_hasPosture 8 = .ok (.ifCond .eq 7, 3) := by decide +kernel
theorem dX6_hasPosture_11 : decode cX6_hasPosture 11 = .ok (.iconst 1, 1) := by decide +kernel
theorem dX6_hasPosture_12 : decode cX6_hasPosture 12 = .ok (.goto 4, 3) := by decide +kernel
theorem dX6_hasPosture_15 : decode cX6_hasPosture 15 = .ok (.iconst 0, 1) := by decide +kernel
theorem dX6_hasPosture_16 : decode cX6_hasPosture 16 = .ok (.ireturn, 1) := by decide +kernel
theorem dX7_init_0 : decode cX7_init 0 = .ok (.aload_n 0, 1) := by decide +kernel
theorem dX7_init_1 : decode cX7_init 1 = .ok (.invokespecial 3, 3) := by decide +kernel
theorem dX7_init_4 : decode cX7_init 4 = .ok (.aload_n 0, 1) := by decide +kernel
theorem dX7_init_5 : decode cX7_init 5 = .ok (.iconst (-1), 1) := by decide +kernel
theorem dX7_init_6 : decode cX7_init 6 = .ok (.putfield 9, 3) := by decide +kernel
theorem dX7_init_9 : decode cX7_init 9 = .ok (.aload_n 0, 1) := by decide +kernel
theorem dX7_init_10 : decode cX7_init 10 = .ok (.bipush 60, 2) := by decide +kernel
theorem dX7_init_12 : decode cX7_init 12 = .ok (.newarray .int, 2) := by decide +kernel
theorem dX7_init_14 : decode cX7_init 14 = .ok (.putfield 15, 3) := by decide +kernel
theorem dX7_init_17 : decode cX7_init 17 = .ok (.return_, 1) := by decide +kernel
theorem dX7_isMissing_0 : decode cX7_isMissing 0 = .ok (.aload_n 0, 1) := by decide +kernel
theorem dX7_isMissing_1 : decode cX7_isMissing 1 = .ok (.getfield 9, 3) := by decide +kernel
theorem dX7_isMissing_4 : decode cX7_isMissing 4 = .ok (.ifCond .ge 7, 3) := by decide +kernel
theorem dX7_isMissing_7 : decode cX7_isMissing 7 = .ok (.iconst 1, 1) := by decide +kernel
theorem dX7_isMissing_8 : decode cX7_isMissing 8 = .ok (.goto 4, 3) := by decide +kernel
theorem dX7_isMissing_11 : decode cX7_isMissing 11 = .ok (.iconst 0, 1) := by decide +kernel
theorem dX7_isMissing_12 : decode cX7_isMissing 12 = .ok (.ireturn, 1) := by decide +kernel
theorem dX7_has_0 : decode cX7_has 0 = .ok (.iload_n 1, 1) := by decide +kernel
theorem dX7_has_1 : decode cX7_has 1 = .ok (.ifCond .lt 15, 3) := by decide +kernel
theorem dX7_has_4 : decode cX7_has 4 = .ok (.iload_n 1, 1) := by decide +kernel
theorem dX7_has_5 : decode cX7_has 5 = .ok (.aload_n 0, 1) := by decide +kernel
theorem dX7_has_6 : decode cX7_has 6 = .ok (.getfield 9, 3) := by decide +kernel
theorem dX7_has_9 : decode cX7_has 9 = .ok (.if_icmp .ge 7, 3) := by decide +kernel
theorem dX7_has_12 : decode cX7_has 12 = .ok (.iconst 1, 1) := by decide +kernel
theorem dX7_has_13 : decode cX7_has 13 = .ok (.goto 4, 3) := by decide +kernel
theorem dX7_has_16 : decode cX7_has 16 = .ok (.iconst 0, 1) := by decide +kernel
theorem dX7_has_17 : decode cX7_has 17 = .ok (.ireturn, 1) := by decide +kernel
theorem dX7_holds_0 : decode cX7_holds 0 = .ok (.iload_n 1, 1) := by decide +kernel
theorem dX7_holds_1 : decode cX7_holds 1 = .ok (.ifCond .lt 29, 3) := by decide +kernel
theorem dX7_holds_4 : decode cX7_holds 4 = .ok (.iload_n 1, 1) := by decide +kernel
theorem dX7_holds_5 : decode cX7_holds 5 = .ok (.aload_n 0, 1) := by decide +kernel
theorem dX7_holds_6 : decode cX7_holds 6 = .ok (.getfield 9, 3) := by decide +kernel
theorem dX7_holds_9 : decode cX7_holds 9 = .ok (.if_icmp .gt 21, 3) := by decide +kernel
theorem dX7_holds_12 : decode cX7_holds 12 = .ok (.iload_n 2, 1) := by decide +kernel
theorem dX7_holds_13 : decode cX7_holds 13 = .ok (.ifCond .lt 17, 3) := by decide +kernel
theorem dX7_holds_16 : decode cX7_holds 16 = .ok (.iload_n 2, 1) := by decide +kernel
theorem dX7_holds_17 : decode cX7_holds 17 = .ok (.aload_n 0, 1) := by decide +kernel
theorem dX7_holds_18 : decode cX7_holds 18 = .ok (.getfield 9, 3) := by decide +kernel
theorem dX7_holds_21 : decode cX7_holds 21 = .ok (.iload_n 1, 1) := by decide +kernel
theorem dX7_holds_22 : decode cX7_holds 22 = .ok (.isub, 1) := by decide +kernel
theorem dX7_holds_23 : decode cX7_holds 23 = .ok (.if_icmp .gt 7, 3) := by decide +kernel
theorem dX7_holds_26 : decode cX7_holds 26 = .ok (.iconst 1, 1) := by decide +kernel
theorem dX7_holds_27 : decode cX7_holds 27 = .ok (.goto 4, 3) := by decide +kernel
theorem dX7_holds_30 : decode cX7_holds 30 = .ok (.iconst 0, 1) := by decide +kernel
theorem dX7_holds_31 : decode cX7_holds 31 = .ok (.ireturn, 1) := by decide +kernel
theorem dX7_placeAt_0 : decode cX7_placeAt 0 = .ok (.aload_n 0, 1) := by decide +kernel
theorem dX7_placeAt_1 : decode cX7_placeAt 1 = .ok (.iload_n 1, 1) := by decide +kernel
theorem dX7_placeAt_2 : decode cX7_placeAt 2 = .ok (.invokevirtual 19, 3) := by decide +kernel
theorem dX7_placeAt_5 : decode cX7_placeAt 5 = .ok (.ifCond .eq 12, 3) := by decide +kernel
theorem dX7_placeAt_8 : decode cX7_placeAt 8 = .ok (.aload_n 0, 1) := by decide +kernel
theorem dX7_placeAt_9 : decode cX7_placeAt 9 = .ok (.getfield 15, 3) := by decide +kernel
theorem dX7_placeAt_12 : decode cX7_placeAt 12 = .ok (.iload_n 1, 1) := by decide +kernel
theorem dX7_placeAt_13 : decode cX7_placeAt 13 = .ok (.iaload, 1) := by decide +kernel
theorem dX7_placeAt_14 : decode cX7_placeAt 14 = .ok (.goto 4, 3) := by decide +kernel
theorem dX7_placeAt_17 : decode cX7_placeAt 17 = .ok (.iconst 0, 1) := by decide +kernel
theorem dX7_placeAt_18 : decode cX7_placeAt 18 = .ok (.ireturn, 1) := by decide +kernel
theorem dX7_set_0 : decode cX7_set 0 = .ok (.aload_n 0, 1) := by decide +kernel
theorem dX7_set_1 : decode cX7_set 1 = .ok (.iload_n 1, 1) := by decide +kernel
theorem dX7_set_2 : decode cX7_set 2 = .ok (.invokevirtual 19, 3) := by decide +kernel
theorem dX7_set_5 : decode cX7_set 5 = .ok (.ifCond .eq 10, 3) := by decide +kernel
theorem dX7_set_8 : decode cX7_set 8 = .ok (.aload_n 0, 1) := by decide +kernel
theorem dX7_set_9 : decode cX7_set 9 = .ok (.getfield 15, 3) := by decide +kernel
theorem dX7_set_12 : decode cX7_set 12 = .ok (.iload_n 1, 1) := by decide +kernel
theorem dX7_set_13 : decode cX7_set 13 = .ok (.iload_n 2, 1) := by decide +kernel
theorem dX7_set_14 : decode cX7_set 14 = .ok (.iastore, 1) := by decide +kernel
theorem dX7_set_15 : decode cX7_set 15 = .ok (.return_, 1) := by decide +kernel
theorem dX7_renew_0 : decode cX7_renew 0 = .ok (.aload_n 0, 1) := by decide +kernel
theorem dX7_renew_1 : decode cX7_renew 1 = .ok (.iconst 0, 1) := by decide +kernel
theorem dX7_renew_2 : decode cX7_renew 2 = .ok (.bipush 60, 2) := by decide +kernel
theorem dX7_renew_4 : decode cX7_renew 4 = .ok (.iload_n 1, 1) := by decide +kernel
theorem dX7_renew_5 : decode cX7_renew 5 = .ok (.invokestatic 23, 3) := by decide +kernel
theorem dX7_renew_8 : decode cX7_renew 8 = .ok (.invokestatic 29, 3) := by decide +kernel
theorem dX7_renew_11 : decode cX7_renew 11 = .ok (.putfield 9, 3) := by decide +kernel
theorem dX7_renew_14 : decode cX7_renew 14 = .ok (.iconst 0, 1) := by decide +kernel
theorem dX7_renew_15 : decode cX7_renew 15 = .ok (.istore_n 2, 1) := by decide +kernel
theorem dX7_renew_16 : decode cX7_renew 16 = .ok (.iload_n 2, 1) := by decide +kernel
theorem dX7_renew_17 : decode cX7_renew 17 = .ok (.aload_n 0, 1) := by decide +kernel
theorem dX7_renew_18 : decode cX7_renew 18 = .ok (.getfield 9, 3) := by decide +kernel
theorem dX7_renew_21 : decode cX7_renew 21 = .ok (.if_icmp .ge 16, 3) := by decide +kernel
theorem dX7_renew_24 : decode cX7_renew 24 = .ok (.aload_n 0, 1) := by decide +kernel
theorem dX7_renew_25 : decode cX7_renew 25 = .ok (.getfield 15, 3) := by decide +kernel
theorem dX7_renew_28 : decode cX7_renew 28 = .ok (.iload_n 2, 1) := by decide +kernel
theorem dX7_renew_29 : decode cX7_renew 29 = .ok (.iconst 0, 1) := by decide +kernel
theorem dX7_renew_30 : decode cX7_renew 30 = .ok (.iastore, 1) := by decide +kernel
theorem dX7_renew_31 : decode cX7_renew 31 = .ok (.iinc 2 1, 3) := by decide +kernel
theorem dX7_renew_34 : decode cX7_renew 34 = .ok (.goto (-18), 3) := by decide +kernel
theorem dX7_renew_37 : decode cX7_renew 37 = .ok (.return_, 1) := by decide +kernel
theorem dX7_lose_0 : decode cX7_lose 0 = .ok (.aload_n 0, 1) := by decide +kernel
theorem dX7_lose_1 : decode cX7_lose 1 = .ok (.iconst (-1), 1) := by decide +kernel
theorem dX7_lose_2 : decode cX7_lose 2 = .ok (.putfield 9, 3) := by decide +kernel
theorem dX7_lose_5 : decode cX7_lose 5 = .ok (.return_, 1) := by decide +kernel
theorem dX7_take_0 : decode cX7_take 0 = .ok (.aload_n 0, 1) := by decide +kernel
theorem dX7_take_1 : decode cX7_take 1 = .ok (.iload_n 2, 1) := by decide +kernel
theorem dX7_take_2 : decode cX7_take 2 = .ok (.aload_n 1, 1) := by decide +kernel
theorem dX7_take_3 : decode cX7_take 3 = .ok (.arraylength, 1) := by decide +kernel
theorem dX7_take_4 : decode cX7_take 4 = .ok (.invokestatic 23, 3) := by decide +kernel
theorem dX7_take_7 : decode cX7_take 7 = .ok (.invokevirtual 32, 3) := by decide +kernel
theorem dX7_take_10 : decode cX7_take 10 = .ok (.aload_n 1, 1) := by decide +kernel
theorem dX7_take_11 : decode cX7_take 11 = .ok (.iconst 0, 1) := by decide +kernel
theorem dX7_take_12 : decode cX7_take 12 = .ok (.aload_n 0, 1) := by decide +kernel
theorem dX7_take_13 : decode cX7_take 13 = .ok (.getfield 15, 3) := by decide +kernel
theorem dX7_take_16 : decode cX7_take 16 = .ok (.iconst 0, 1) := by decide +kernel
theorem dX7_take_17 : decode cX7_take 17 = .ok (.aload_n 0, 1) := by decide +kernel
theorem dX7_take_18 : decode cX7_take 18 = .ok (.getfield 9, 3) := by decide +kernel
theorem dX7_take_21 : decode cX7_take 21 = .ok (.invokestatic 36, 3) := by decide +kernel
theorem dX7_take_24 : decode cX7_take 24 = .ok (.return_, 1) := by decide +kernel
theorem dX7_sum_0 : decode cX7_sum 0 = .ok (.lconst 0, 1) := by decide +kernel
theorem dX7_sum_1 : decode cX7_sum 1 = .ok (.lstore_n 1, 1) := by decide +kernel
theorem dX7_sum_2 : decode cX7_sum 2 = .ok (.iconst 0, 1) := by decide +kernel
theorem dX7_sum_3 : decode cX7_sum 3 = .ok (.istore_n 3, 1) := by decide +kernel
theorem dX7_sum_4 : decode cX7_sum 4 = .ok (.iload_n 3, 1) := by decide +kernel
theorem dX7_sum_5 : decode cX7_sum 5 = .ok (.aload_n 0, 1) := by decide +kernel
theorem dX7_sum_6 : decode cX7_sum 6 = .ok (.getfield 9, 3) := by decide +kernel
theorem dX7_sum_9 : decode cX7_sum 9 = .ok (.if_icmp .ge 19, 3) := by decide +kernel
theorem dX7_sum_12 : decode cX7_sum 12 = .ok (.lload_n 1, 1) := by decide +kernel
theorem dX7_sum_13 : decode cX7_sum 13 = .ok (.aload_n 0, 1) := by decide +kernel
theorem dX7_sum_14 : decode cX7_sum 14 = .ok (.getfield 15, 3) := by decide +kernel
theorem dX7_sum_17 : decode cX7_sum 17 = .ok (.iload_n 3, 1) := by decide +kernel
theorem dX7_sum_18 : decode cX7_sum 18 = .ok (.iaload, 1) := by decide +kernel
theorem dX7_sum_19 : decode cX7_sum 19 = .ok (.i2l, 1) := by decide +kernel
theorem dX7_sum_20 : decode cX7_sum 20 = .ok (.ladd, 1) := by decide +kernel
theorem dX7_sum_21 : decode cX7_sum 21 = .ok (.lstore_n 1, 1) := by decide +kernel
theorem dX7_sum_22 : decode cX7_sum 22 = .ok (.iinc 3 1, 3) := by decide +kernel
theorem dX7_sum_25 : decode cX7_sum 25 = .ok (.goto (-21), 3) := by decide +kernel
theorem dX7_sum_28 : decode cX7_sum 28 = .ok (.lload_n 1, 1) := by decide +kernel
theorem dX7_sum_29 : decode cX7_sum 29 = .ok (.lreturn, 1) := by decide +kernel
theorem dX7_allWithin_0 : decode cX7_allWithin 0 = .ok (.iconst 0, 1) := by decide +kernel
theorem dX7_allWithin_1 : decode cX7_allWithin 1 = .ok (.istore_n 3, 1) := by decide +kernel
theorem dX7_allWithin_2 : decode cX7_allWithin 2 = .ok (.iload_n 3, 1) := by decide +kernel
theorem dX7_allWithin_3 : decode cX7_allWithin 3 = .ok (.aload_n 0, 1) := by decide +kernel
theorem dX7_allWithin_4 : decode cX7_allWithin 4 = .ok (.getfield 9, 3) := by decide +kernel
theorem dX7_allWithin_7 : decode cX7_allWithin 7 = .ok (.if_icmp .ge 25, 3) := by decide +kernel
theorem dX7_allWithin_10 : decode cX7_allWithin 10 = .ok (.aload_n 0, 1) := by decide +kernel
theorem dX7_allWithin_11 : decode cX7_allWithin 11 = .ok (.getfield 15, 3) := by decide +kernel
theorem dX7_allWithin_14 : decode cX7_allWithin 14 = .ok (.iload_n 3, 1) := by decide +kernel
theorem dX7_allWithin_15 : decode cX7_allWithin 15 = .ok (.iaload, 1) := by decide +kernel
theorem dX7_allWithin_16 : decode cX7_allWithin 16 = .ok (.iload_n 1, 1) := by decide +kernel
theorem dX7_allWithin_17 : decode cX7_allWithin 17 = .ok (.iload_n 2, 1) := by decide +kernel
theorem dX7_allWithin_18 : decode cX7_allWithin 18 = .ok (.invokestatic 42, 3) := by decide +kernel
theorem dX7_allWithin_21 : decode cX7_allWithin 21 = .ok (.ifCond .ne 5, 3) := by decide +kernel
theorem dX7_allWithin_24 : decode cX7_allWithin 24 = .ok (.iconst 0, 1) := by decide +kernel
theorem dX7_allWithin_25 : decode cX7_allWithin 25 = .ok (.ireturn, 1) := by decide +kernel
theorem dX7_allWithin_26 : decode cX7_allWithin 26 = .ok (.iinc 3 1, 3) := by decide +kernel
theorem dX7_allWithin_29 : decode cX7_allWithin 29 = .ok (.goto (-27), 3) := by decide +kernel
theorem dX7_allWithin_32 : decode cX7_allWithin 32 = .ok (.iconst 1, 1) := by decide +kernel
theorem dX7_allWithin_33 : decode cX7_allWithin 33 = .ok (.ireturn, 1) := by decide +kernel
theorem dX8_init_0 : decode cX8_init 0 = .ok (.aload_n 0, 1) := by decide +kernel
theorem dX8_init_1 : decode cX8_init 1 = .ok (.invokespecial 3, 3) := by decide +kernel
theorem dX8_init_4 : decode cX8_init 4 = .ok (.aload_n 0, 1) := by decide +kernel
theorem dX8_init_5 : decode cX8_init 5 = .ok (.bipush (-9), 2) := by decide +kernel
theorem dX8_init_7 : decode cX8_init 7 = .ok (.putfield 9, 3) := by decide +kernel
theorem dX8_init_10 : decode cX8_init 10 = .ok (.aload_n 0, 1) := by decide +kernel
theorem dX8_init_11 : decode cX8_init 11 = .ok (.bipush 7, 2) := by decide +kernel
theorem dX8_init_13 : decode cX8_init 13 = .ok (.newarray .int, 2) := by decide +kernel
theorem dX8_init_15 : decode cX8_init 15 = .ok (.putfield 15, 3) := by decide +kernel
theorem dX8_init_18 : decode cX8_init 18 = .ok (.aload_n 0, 1) := by decide +kernel
theorem dX8_init_19 : decode cX8_init 19 = .ok (.iconst 0, 1) := by decide +kernel
theorem dX8_init_20 : decode cX8_init 20 = .ok (.putfield 19, 3) := by decide +kernel
theorem dX8_init_23 : decode cX8_init 23 = .ok (.aload_n 0, 1) := by decide +kernel
theorem dX8_init_24 : decode cX8_init 24 = .ok (.iconst 0, 1) := by decide +kernel
theorem dX8_init_25 : decode cX8_init 25 = .ok (.putfield 22, 3) := by decide +kernel
theorem dX8_init_28 : decode cX8_init 28 = .ok (.aload_n 0, 1) := by decide +kernel
theorem dX8_init_29 : decode cX8_init 29 = .ok (.bipush 7, 2) := by decide +kernel
theorem dX8_init_31 : decode cX8_init 31 = .ok (.newarray .int, 2) := by decide +kernel
theorem dX8_init_33 : decode cX8_init 33 = .ok (.putfield 25, 3) := by decide +kernel
theorem dX8_init_36 : decode cX8_init 36 = .ok (.aload_n 0, 1) := by decide +kernel
theorem dX8_init_37 : decode cX8_init 37 = .ok (.iconst 0, 1) := by decide +kernel
theorem dX8_init_38 : decode cX8_init 38 = .ok (.putfield 28, 3) := by decide +kernel
theorem dX8_init_41 : decode cX8_init 41 = .ok (.aload_n 0, 1) := by decide +kernel
theorem dX8_init_42 : decode cX8_init 42 = .ok (.bipush 7, 2) := by decide +kernel
theorem dX8_init_44 : decode cX8_init 44 = .ok (.newarray .int, 2) := by decide +kernel
theorem dX8_init_46 : decode cX8_init 46 = .ok (.putfield 31, 3) := by decide +kernel
theorem dX8_init_49 : decode cX8_init 49 = .ok (.aload_n 0, 1) := by decide +kernel
theorem dX8_init_50 : decode cX8_init 50 = .ok (.bipush 7, 2) := by decide +kernel
theorem dX8_init_52 : decode cX8_init 52 = .ok (.newarray .int, 2) := by decide +kernel
theorem dX8_init_54 : decode cX8_init 54 = .ok (.putfield 34, 3) := by decide +kernel
theorem dX8_init_57 : decode cX8_init 57 = .ok (.aload_n 0, 1) := by decide +kernel
theorem dX8_init_58 : decode cX8_init 58 = .ok (.bipush 8, 2) := by decide +kernel
theorem dX8_init_60 : decode cX8_init 60 = .ok (.newarray .int, 2) := by decide +kernel
theorem dX8_init_62 : decode cX8_init 62 = .ok (.putfield 37, 3) := by decide +kernel
theorem dX8_init_65 : decode cX8_init 65 = .ok (.aload_n 0, 1) := by decide +kernel
theorem dX8_init_66 : decode cX8_init 66 = .ok (.bipush 10, 2) := by decide +kernel
theorem dX8_init_68 : decode cX8_init 68 = .ok (.newarray .int, 2) := by decide +kernel
theorem dX8_init_70 : decode cX8_init 70 = .ok (.putfield 40, 3) := by decide +kernel
theorem dX8_init_73 : decode cX8_init 73 = .ok (.aload_n 0, 1) := by decide +kernel
theorem dX8_init_74 : decode cX8_init 74 = .ok (.bipush 56, 2) := by decide +kernel
theorem dX8_init_76 : decode cX8_init 76 = .ok (.newarray .int, 2) := by decide +kernel
theorem dX8_init_78 : decode cX8_init 78 = .ok (.putfield 43, 3) := by decide +kernel
theorem dX8_init_81 : decode cX8_init 81 = .ok (.aload_n 0, 1) := by decide +kernel
theorem dX8_init_82 : decode cX8_init 82 = .ok (.bipush 56, 2) := by decide +kernel
theorem dX8_init_84 : decode cX8_init 84 = .ok (.newarray .int, 2) := by decide +kernel
theorem dX8_init_86 : decode cX8_init 86 = .ok (.putfield 46, 3) := by decide +kernel
theorem dX8_init_89 : decode cX8_init 89 = .ok (.aload_n 0, 1) := by decide +kernel
theorem dX8_init_90 : decode cX8_init 90 = .ok (.bipush 56, 2) := by decide +kernel
theorem dX8_init_92 : decode cX8_init 92 = .ok (.newarray .int, 2) := by decide +kernel
theorem dX8_init_94 : decode cX8_init 94 = .ok (.putfield 49, 3) := by decide +kernel
theorem dX8_init_97 : decode cX8_init 97 = .ok (.aload_n 0, 1) := by decide +kernel
theorem dX8_init_98 : decode cX8_init 98 = .ok (.aload_n 1, 1) := by decide +kernel
theorem dX8_init_99 : decode cX8_init 99 = .ok (.putfield 52, 3) := by decide +kernel
theorem dX8_init_102 : decode cX8_init 102 = .ok (.aload_n 0, 1) := by decide +kernel
theorem dX8_init_103 : decode cX8_init 103 = .ok (.aload_n 2, 1) := by decide +kernel
theorem dX8_init_104 : decode cX8_init 104 = .ok (.putfield 56, 3) := by decide +kernel
theorem dX8_init_107 : decode cX8_init 107 = .ok (.return_, 1) := by decide +kernel
theorem dX8_levelBenches_0 : decode cX8_levelBenches 0 = .ok (.iload_n 1, 1) := by decide +kernel
theorem dX8_levelBenches_1 : decode cX8_levelBenches 1 = .ok (.ifCond .lt 18, 3) := by decide +kernel
theorem dX8_levelBenches_4 : decode cX8_levelBenches 4 = .ok (.iload_n 1, 1) := by decide +kernel
theorem dX8_levelBenches_5 : decode cX8_levelBenches 5 = .ok (.bipush 7, 2) := by decide +kernel
theorem dX8_levelBenches_7 : decode cX8_levelBenches 7 = .ok (.if_icmp .ge 12, 3) := by decide +kernel
theorem dX8_levelBenches_10 : decode cX8_levelBenches 10 = .ok (.aload_n 0, 1) := by decide +kernel
theorem dX8_levelBenches_11 : decode cX8_levelBenches 11 = .ok (.getfield 34, 3) := by decide +kernel
theorem dX8_levelBenches_14 : decode cX8_levelBenches 14 = .ok (.iload_n 1, 1) := by decide +kernel
theorem dX8_levelBenches_15 : decode cX8_levelBenches 15 = .ok (.iaload, 1) := by decide +kernel
theorem dX8_levelBenches_16 : decode cX8_levelBenches 16 = .ok (.goto 4, 3) := by decide +kernel
theorem dX8_levelBenches_19 : decode cX8_levelBenches 19 = .ok (.iconst 0, 1) := by decide +kernel
theorem dX8_levelBenches_20 : decode cX8_levelBenches 20 = .ok (.ireturn, 1) := by decide +kernel
theorem dX8_search_0 : decode cX8_search 0 = .ok (.aload_n 0, 1) := by decide +kernel
theorem dX8_search_1 : decode cX8_search 1 = .ok (.iconst 0, 1) := by decide +kernel
theorem dX8_search_2 : decode cX8_search 2 = .ok (.putfield 19, 3) := by decide +kernel
theorem dX8_search_5 : decode cX8_search 5 = .ok (.aload_n 0, 1) := by decide +kernel
theorem dX8_search_6 : decode cX8_search 6 = .ok (.iconst 0, 1) := by decide +kernel
theorem dX8_search_7 : decode cX8_search 7 = .ok (.putfield 22, 3) := by decide +kernel
theorem dX8_search_10 : decode cX8_search 10 = .ok (.aload_n 0, 1) := by decide +kernel
theorem dX8_search_11 : decode cX8_search 11 = .ok (.bipush (-9), 2) := by decide +kernel
theorem dX8_search_13 : decode cX8_search 13 = .ok (.putfield 9, 3) := by decide +kernel
theorem dX8_search_16 : decode cX8_search 16 = .ok (.aload_n 0, 1) := by decide +kernel
theorem dX8_search_17 : decode cX8_search 17 = .ok (.iconst 0, 1) := by decide +kernel
theorem dX8_search_18 : decode cX8_search 18 = .ok (.putfield 28, 3) := by decide +kernel
theorem dX8_search_21 : decode cX8_search 21 = .ok (.iconst 0, 1) := by decide +kernel
theorem dX8_search_22 : decode cX8_search 22 = .ok (.istore_n 1, 1) := by decide +kernel
theorem dX8_search_23 : decode cX8_search 23 = .ok (.iload_n 1, 1) := by decide +kernel
theorem dX8_search_24 : decode cX8_search 24 = .ok (.bipush 8, 2) := by decide +kernel
theorem dX8_search_26 : decode cX8_search 26 = .ok (.if_icmp .ge 41, 3) := by decide +kernel
theorem dX8_search_29 : decode cX8_search 29 = .ok (.aload_n 0, 1) := by decide +kernel
theorem dX8_search_30 : decode cX8_search 30 = .ok (.getfield 40, 3) := by decide +kernel
theorem dX8_search_33 : decode cX8_search 33 = .ok (.iload_n 1, 1) := by decide +kernel
theorem dX8_search_34 : decode cX8_search 34 = .ok (.iconst 1, 1) := by decide +kernel
theorem dX8_search_35 : decode cX8_search 35 = .ok (.iadd, 1) := by decide +kernel
theorem dX8_search_36 : decode cX8_search 36 = .ok (.aload_n 0, 1) := by decide +kernel
theorem dX8_search_37 : decode cX8_search 37 = .ok (.getfield 52, 3) := by decide +kernel
theorem dX8_search_40 : decode cX8_search 40 = .ok (.iload_n 1, 1) := by decide +kernel
theorem dX8_search_41 : decode cX8_search 41 = .ok (.invokevirtual 60, 3) := by decide +kernel
theorem dX8_search_44 : decode cX8_search 44 = .ok (.iastore, 1) := by decide +kernel
theorem dX8_search_45 : decode cX8_search 45 = .ok (.aload_n 0, 1) := by decide +kernel
theorem dX8_search_46 : decode cX8_search 46 = .ok (.getfield 37, 3) := by decide +kernel
theorem dX8_search_49 : decode cX8_search 49 = .ok (.iload_n 1, 1) := by decide +kernel
theorem dX8_search_50 : decode cX8_search 50 = .ok (.iconst 2, 1) := by decide +kernel
theorem dX8_search_51 : decode cX8_search 51 = .ok (.aload_n 0, 1) := by decide +kernel
theorem dX8_search_52 : decode cX8_search 52 = .ok (.getfield 52, 3) := by decide +kernel
theorem dX8_search_55 : decode cX8_search 55 = .ok (.iload_n 1, 1) := by decide +kernel
theorem dX8_search_56 : decode cX8_search 56 = .ok (.invokevirtual 66, 3) := by decide +kernel
theorem dX8_search_59 : decode cX8_search 59 = .ok (.isub, 1) := by decide +kernel
theorem dX8_search_60 : decode cX8_search 60 = .ok (.iastore, 1) := by decide +kernel
theorem dX8_search_61 : decode cX8_search 61 = .ok (.iinc 1 1, 3) := by decide +kernel
theorem dX8_search_64 : decode cX8_search 64 = .ok (.goto (-41), 3) := by decide +kernel
theorem dX8_search_67 : decode cX8_search 67 = .ok (.iconst 0, 1) := by decide +kernel
theorem dX8_search_68 : decode cX8_search 68 = .ok (.istore_n 1, 1) := by decide +kernel
theorem dX8_search_69 : decode cX8_search 69 = .ok (.iload_n 1, 1) := by decide +kernel
theorem dX8_search_70 : decode cX8_search 70 = .ok (.bipush 7, 2) := by decide +kernel
theorem dX8_search_72 : decode cX8_search 72 = .ok (.if_icmp .ge 77, 3) := by decide +kernel
theorem dX8_search_75 : decode cX8_search 75 = .ok (.aload_n 0, 1) := by decide +kernel
theorem dX8_search_76 : decode cX8_search 76 = .ok (.getfield 31, 3) := by decide +kernel
theorem dX8_search_79 : decode cX8_search 79 = .ok (.iload_n 1, 1) := by decide +kernel
theorem dX8_search_80 : decode cX8_search 80 = .ok (.aload_n 0, 1) := by decide +kernel
theorem dX8_search_81 : decode cX8_search 81 = .ok (.getfield 52, 3) := by decide +kernel
theorem dX8_search_84 : decode cX8_search 84 = .ok (.iload_n 1, 1) := by decide +kernel
theorem dX8_search_85 : decode cX8_search 85 = .ok (.invokevirtual 69, 3) := by decide +kernel
theorem dX8_search_88 : decode cX8_search 88 = .ok (.iastore, 1) := by decide +kernel
theorem dX8_search_89 : decode cX8_search 89 = .ok (.aload_n 0, 1) := by decide +kernel
theorem dX8_search_90 : decode cX8_search 90 = .ok (.getfield 34, 3) := by decide +kernel
theorem dX8_search_93 : decode cX8_search 93 = .ok (.iload_n 1, 1) := by decide +kernel
theorem dX8_search_94 : decode cX8_search 94 = .ok (.iconst 0, 1) := by decide +kernel
theorem dX8_search_95 : decode cX8_search 95 = .ok (.iastore, 1) := by decide +kernel
theorem dX8_search_96 : decode cX8_search 96 = .ok (.aload_n 0, 1) := by decide +kernel
theorem dX8_search_97 : decode cX8_search 97 = .ok (.getfield 52, 3) := by decide +kernel
theorem dX8_search_100 : decode cX8_search 100 = .ok (.iload_n 1, 1) := by decide +kernel
theorem dX8_search_101 : decode cX8_search 101 = .ok (.invokevirtual 72, 3) := by decide +kernel
theorem dX8_search_104 : decode cX8_search 104 = .ok (.ifCond .eq 39, 3) := by decide +kernel
theorem dX8_search_107 : decode cX8_search 107 = .ok (.aload_n 0, 1) := by decide +kernel
theorem dX8_search_108 : decode cX8_search 108 = .ok (.getfield 31, 3) := by decide +kernel
theorem dX8_search_111 : decode cX8_search 111 = .ok (.iload_n 1, 1) := by decide +kernel
theorem dX8_search_112 : decode cX8_search 112 = .ok (.iaload, 1) := by decide +kernel
theorem dX8_search_113 : decode cX8_search 113 = .ok (.bipush (-9), 2) := by decide +kernel
theorem dX8_search_115 : decode cX8_search 115 = .ok (.if_icmp .ne 28, 3) := by decide +kernel
theorem dX8_search_118 : decode cX8_search 118 = .ok (.aload_n 0, 1) := by decide +kernel
theorem dX8_search_119 : decode cX8_search 119 = .ok (.getfield 25, 3) := by decide +kernel
theorem dX8_search_122 : decode cX8_search 122 = .ok (.aload_n 0, 1) := by decide +kernel
theorem dX8_search_123 : decode cX8_search 123 = .ok (.getfield 28, 3) := by decide +kernel
theorem dX8_search_126 : decode cX8_search 126 = .ok (.iload_n 1, 1) := by decide +kernel
theorem dX8_search_127 : decode cX8_search 127 = .ok (.iastore, 1) := by decide +kernel
theorem dX8_search_128 : decode cX8_search 128 = .ok (.aload_n 0, 1) := by decide +kernel
theorem dX8_search_129 : decode cX8_search 129 = .ok (.dup, 1) := by decide +kernel
theorem dX8_search_130 : decode cX8_search 130 = .ok (.getfield 28, 3) := by decide +kernel
theorem dX8_search_133 : decode cX8_search 133 = .ok (.iconst 1, 1) := by decide +kernel
theorem dX8_search_134 : decode cX8_search 134 = .ok (.iadd, 1) := by decide +kernel
theorem dX8_search_135 : decode cX8_search 135 = .ok (.putfield 28, 3) := by decide +kernel
theorem dX8_search_138 : decode cX8_search 138 = .ok (.aload_n 0, 1) := by decide +kernel
theorem dX8_search_139 : decode cX8_search 139 = .ok (.iload_n 1, 1) := by decide +kernel
theorem dX8_search_140 : decode cX8_search 140 = .ok (.invokevirtual 76, 3) := by decide +kernel
theorem dX8_search_143 : decode cX8_search 143 = .ok (.iinc 1 1, 3) := by decide +kernel
theorem dX8_search_146 : decode cX8_search 146 = .ok (.goto (-77), 3) := by decide +kernel
theorem dX8_search_149 : decode cX8_search 149 = .ok (.aload_n 0, 1) := by decide +kernel
theorem dX8_search_150 : decode cX8_search 150 = .ok (.iconst 0, 1) := by decide +kernel
theorem dX8_search_151 : decode cX8_search 151 = .ok (.aload_n 0, 1) := by decide +kernel
theorem dX8_search_152 : decode cX8_search 152 = .ok (.iconst 0, 1) := by decide +kernel
theorem dX8_search_153 : decode cX8_search 153 = .ok (.invokevirtual 80, 3) := by decide +kernel
theorem dX8_search_156 : decode cX8_search 156 = .ok (.aload_n 0, 1) := by decide +kernel
theorem dX8_search_157 : decode cX8_search 157 = .ok (.iconst 1, 1) := by decide +kernel
theorem dX8_search_158 : decode cX8_search 158 = .ok (.invokevirtual 80, 3) := by decide +kernel
theorem dX8_search_161 : decode cX8_search 161 = .ok (.aload_n 0, 1) := by decide +kernel
theorem dX8_search_162 : decode cX8_search 162 = .ok (.iconst 2, 1) := by decide +kernel
theorem dX8_search_163 : decode cX8_search 163 = .ok (.invokevirtual 80, 3) := by decide +kernel
theorem dX8_search_166 : decode cX8_search 166 = .ok (.invokevirtual 83, 3) := by decide +kernel
theorem dX8_search_169 : decode cX8_search 169 = .ok (.return_, 1) := by decide +kernel
theorem dX8_startIn_0 : decode cX8_startIn 0 = .ok (.aload_n 0, 1) := by decide +kernel
theorem dX8_startIn_1 : decode cX8_startIn 1 = .ok (.getfield 56, 3) := by decide +kernel
theorem dX8_startIn_4 : decode cX8_startIn 4 = .ok (.iload_n 1, 1) := by decide +kernel
theorem dX8_startIn_5 : decode cX8_startIn 5 = .ok (.invokevirtual 87, 3) := by decide +kernel
theorem dX8_startIn_8 : decode cX8_startIn 8 = .ok (.ifCond .eq 14, 3) := by decide +kernel
theorem dX8_startIn_11 : decode cX8_startIn 11 = .ok (.aload_n 0, 1) := by decide +kernel
theorem dX8_startIn_12 : decode cX8_startIn 12 = .ok (.getfield 52, 3) := by decide +kernel
theorem dX8_startIn_15 : decode cX8_startIn 15 = .ok (.iload_n 1, 1) := by decide +kernel
theorem dX8_startIn_16 : decode cX8_startIn 16 = .ok (.invokevirtual 92, 3) := by decide +kernel
theorem dX8_startIn_19 : decode cX8_startIn 19 = .ok (.goto 4, 3) := by decide +kernel
theorem dX8_startIn_22 : decode cX8_startIn 22 = .ok (.iconst 0, 1) := by decide +kernel
theorem dX8_startIn_23 : decode cX8_startIn 23 = .ok (.ireturn, 1) := by decide +kernel
theorem dX8_momentIn_0 : decode cX8_momentIn 0 = .ok (.aload_n 0, 1) := by decide +kernel
theorem dX8_momentIn_1 : decode cX8_momentIn 1 = .ok (.getfield 56, 3) := by decide +kernel
theorem dX8_momentIn_4 : decode cX8_momentIn 4 = .ok (.iload_n 3, 1) := by decide +kernel
theorem dX8_momentIn_5 : decode cX8_momentIn 5 = .ok (.invokevirtual 87, 3) := by decide +kernel
theorem dX8_momentIn_8 : decode cX8_momentIn 8 = .ok (.ifCond .eq 16, 3) := by decide +kernel
theorem dX8_momentIn_11 : decode cX8_momentIn 11 = .ok (.aload_n 0, 1) := by decide +kernel
theorem dX8_momentIn_12 : decode cX8_momentIn 12 = .ok (.getfield 52, 3) := by decide +kernel
theorem dX8_momentIn_15 : decode cX8_momentIn 15 = .ok (.iload_n 1, 1) := by decide +kernel
theorem dX8_momentIn_16 : decode cX8_momentIn 16 = .ok (.iload_n 2, 1) := by decide +kernel
theorem dX8_momentIn_17 : decode cX8_momentIn 17 = .ok (.iload_n 3, 1) := by decide +kernel
theorem dX8_momentIn_18 : decode cX8_momentIn 18 = .ok (.invokevirtual 95, 3) := by decide +kernel
theorem dX8_momentIn_21 : decode cX8_momentIn 21 = .ok (.goto 4, 3) := by decide +kernel
theorem dX8_momentIn_24 : decode cX8_momentIn 24 = .ok (.iconst 0, 1) := by decide +kernel
theorem dX8_momentIn_25 : decode cX8_momentIn 25 = .ok (.ireturn, 1) := by decide +kernel
theorem dX8_reckonMoments_0 : decode cX8_reckonMoments 0 = .ok (.iconst 0, 1) := by decide +kernel
theorem dX8_reckonMoments_1 : decode cX8_reckonMoments 1 = .ok (.istore_n 2, 1) := by decide +kernel
theorem dX8_reckonMoments_2 : decode cX8_reckonMoments 2 = .ok (.iload_n 2, 1) := by decide +kernel
theorem dX8_reckonMoments_3 : decode cX8_reckonMoments 3 = .ok (.bipush 8, 2) := by decide +kernel
theorem dX8_reckonMoments_5 : decode cX8_reckonMoments 5 = .ok (.if_icmp .ge 55, 3) := by decide +kernel
theorem dX8_reckonMoments_8 : decode cX8_reckonMoments 8 = .ok (.iload_n 1, 1) := by decide +kernel
theorem dX8_reckonMoments_9 : decode cX8_reckonMoments 9 = .ok (.bipush 8, 2) := by decide +kernel
theorem dX8_reckonMoments_11 : decode cX8_reckonMoments 11 = .ok (.imul, 1) := by decide +kernel
theorem dX8_reckonMoments_12 : decode cX8_reckonMoments 12 = .ok (.iload_n 2, 1) := by decide +kernel
theorem dX8_reckonMoments_13 : decode cX8_reckonMoments 13 = .ok (.iadd, 1) := by decide +kernel
theorem dX8_reckonMoments_14 : decode cX8_reckonMoments 14 = .ok (.istore_n 3, 1) := by decide +kernel
theorem dX8_reckonMoments_15 : decode cX8_reckonMoments 15 = .ok (.aload_n 0, 1) := by decide +kernel
theorem dX8_reckonMoments_16 : decode cX8_reckonMoments 16 = .ok (.getfield 43, 3) := by decide +kernel
theorem dX8_reckonMoments_19 : decode cX8_reckonMoments 19 = .ok (.iload_n 3, 1) := by decide +kernel
theorem dX8_reckonMoments_20 : decode cX8_reckonMoments 20 = .ok (.aload_n 0, 1) := by decide +kernel
theorem dX8_reckonMoments_21 : decode cX8_reckonMoments 21 = .ok (.iload_n 1, 1) := by decide +kernel
theorem dX8_reckonMoments_22 : decode cX8_reckonMoments 22 = .ok (.iload_n 2, 1) := by decide +kernel
theorem dX8_reckonMoments_23 : decode cX8_reckonMoments 23 = .ok (.iconst 0, 1) := by decide +kernel
theorem dX8_reckonMoments_24 : decode cX8_reckonMoments 24 = .ok (.invokevirtual 99, 3) := by decide +kernel
theorem dX8_reckonMoments_27 : decode cX8_reckonMoments 27 = .ok (.iastore, 1) := by decide +kernel
theorem dX8_reckonMoments_28 : decode cX8_reckonMoments 28 = .ok (.aload_n 0, 1) := by decide +kernel
theorem dX8_reckonMoments_29 : decode cX8_reckonMoments 29 = .ok (.getfield 46, 3) := by decide +kernel
theorem dX8_reckonMoments_32 : decode cX8_reckonMoments 32 = .ok (.iload_n 3, 1) := by decide +kernel
theorem dX8_reckonMoments_33 : decode cX8_reckonMoments 33 = .ok (.aload_n 0, 1) := by decide +kernel
theorem dX8_reckonMoments_34 : decode cX8_reckonMoments 34 = .ok (.iload_n 1, 1) := by decide +kernel
theorem dX8_reckonMoments_35 : decode cX8_reckonMoments 35 = .ok (.iload_n 2, 1) := by decide +kernel
theorem dX8_reckonMoments_36 : decode cX8_reckonMoments 36 = .ok (.iconst 1, 1) := by decide +kernel
theorem dX8_reckonMoments_37 : decode cX8_reckonMoments 37 = .ok (.invokevirtual 99, 3) := by decide +kernel
theorem dX8_reckonMoments_40 : decode cX8_reckonMoments 40 = .ok (.iastore, 1) := by decide +kernel
theorem dX8_reckonMoments_41 : decode cX8_reckonMoments 41 = .ok (.aload_n 0, 1) := by decide +kernel
theorem dX8_reckonMoments_42 : decode cX8_reckonMoments 42 = .ok (.getfield 49, 3) := by decide +kernel
theorem dX8_reckonMoments_45 : decode cX8_reckonMoments 45 = .ok (.iload_n 3, 1) := by decide +kernel
theorem dX8_reckonMoments_46 : decode cX8_reckonMoments 46 = .ok (.aload_n 0, 1) := by decide +kernel
theorem dX8_reckonMoments_47 : decode cX8_reckonMoments 47 = .ok (.iload_n 1, 1) := by decide +kernel
theorem dX8_reckonMoments_48 : decode cX8_reckonMoments 48 = .ok (.iload_n 2, 1) := by decide +kernel
theorem dX8_reckonMoments_49 : decode cX8_reckonMoments 49 = .ok (.iconst 2, 1) := by decide +kernel
theorem dX8_reckonMoments_50 : decode cX8_reckonMoments 50 = .ok (.invokevirtual 99, 3) := by decide +kernel
theorem dX8_reckonMoments_53 : decode cX8_reckonMoments 53 = .ok (.iastore, 1) := by decide +kernel
theorem dX8_reckonMoments_54 : decode cX8_reckonMoments 54 = .ok (.iinc 2 1, 3) := by decide +kernel
theorem dX8_reckonMoments_57 : decode cX8_reckonMoments 57 = .ok (.goto (-55), 3) := by decide +kernel
theorem dX8_reckonMoments_60 : decode cX8_reckonMoments 60 = .ok (.return_, 1) := by decide +kernel
theorem dX8_tryComer_0 : decode cX8_tryComer 0 = .ok (.iload_n 1, 1) := by decide +kernel
theorem dX8_tryComer_1 : decode cX8_tryComer 1 = .ok (.aload_n 0, 1) := by decide +kernel
theorem dX8_tryComer_2 : decode cX8_tryComer 2 = .ok (.getfield 28, 3) := by decide +kernel
theorem dX8_tryComer_5 : decode cX8_tryComer 5 = .ok (.if_icmp .ge 9, 3) := by decide +kernel
theorem dX8_tryComer_8 : decode cX8_tryComer 8 = .ok (.iload_n 1, 1) := by decide +kernel
theorem dX8_tryComer_9 : decode cX8_tryComer 9 = .ok (.bipush 7, 2) := by decide +kernel
theorem dX8_tryComer_11 : decode cX8_tryComer 11 = .ok (.if_icmp .lt 27, 3) := by decide +kernel
theorem dX8_tryComer_14 : decode cX8_tryComer 14 = .ok (.aload_n 0, 1) := by decide +kernel
theorem dX8_tryComer_15 : decode cX8_tryComer 15 = .ok (.iload_n 2, 1) := by decide +kernel
theorem dX8_tryComer_16 : decode cX8_tryComer 16 = .ok (.invokestatic 102, 3) := by decide +kernel
theorem dX8_tryComer_19 : decode cX8_tryComer 19 = .ok (.iload_n 3, 1) := by decide +kernel
theorem dX8_tryComer_20 : decode cX8_tryComer 20 = .ok (.invokestatic 102, 3) := by decide +kernel
theorem dX8_tryComer_23 : decode cX8_tryComer 23 = .ok (.iload 4, 2) := by decide +kernel
theorem dX8_tryComer_25 : decode cX8_tryComer 25 = .ok (.invokestatic 102, 3) := by decide +kernel
theorem dX8_tryComer_28 : decode cX8_tryComer 28 = .ok (.invokestatic 107, 3) := by decide +kernel
theorem dX8_tryComer_31 : decode cX8_tryComer 31 = .ok (.invokestatic 107, 3) := by decide +kernel
theorem dX8_tryComer_34 : decode cX8_tryComer 34 = .ok (.invokevirtual 111, 3) := by decide +kernel
theorem dX8_tryComer_37 : decode cX8_tryComer 37 = .ok (.return_, 1) := by decide +kernel
theorem dX8_tryComer_38 : decode cX8_tryComer 38 = .ok (.aload_n 0, 1) := by decide +kernel
theorem dX8_tryComer_39 : decode cX8_tryComer 39 = .ok (.getfield 52, 3) := by decide +kernel
theorem dX8_tryComer_42 : decode cX8_tryComer 42 = .ok (.getfield 114, 3) := by decide +kernel
theorem dX8_tryComer_45 : decode cX8_tryComer 45 = .ok (.aload_n 0, 1) := by decide +kernel
theorem dX8_tryComer_46 : decode cX8_tryComer 46 = .ok (.getfield 25, 3) := by decide +kernel
theorem dX8_tryComer_49 : decode cX8_tryComer 49 = .ok (.iload_n 1, 1) := by decide +kernel
theorem dX8_tryComer_50 : decode cX8_tryComer 50 = .ok (.iaload, 1) := by decide +kernel
theorem dX8_tryComer_51 : decode cX8_tryComer 51 = .ok (.invokevirtual 118, 3) := by decide +kernel
theorem dX8_tryComer_54 : decode cX8_tryComer 54 = .ok (.istore 5, 2) := by decide +kernel
theorem dX8_tryComer_56 : decode cX8_tryComer 56 = .ok (.aload_n 0, 1) := by decide +kernel
theorem dX8_tryComer_57 : decode cX8_tryComer 57 = .ok (.getfield 52, 3) := by decide +kernel
theorem dX8_tryComer_60 : decode cX8_tryComer 60 = .ok (.aload_n 0, 1) := by decide +kernel
theorem dX8_tryComer_61 : decode cX8_tryComer 61 = .ok (.getfield 25, 3) := by decide +kernel
theorem dX8_tryComer_64 : decode cX8_tryComer 64 = .ok (.iload_n 1, 1) := by decide +kernel
theorem dX8_tryComer_65 : decode cX8_tryComer 65 = .ok (.iaload, 1) := by decide +kernel
theorem dX8_tryComer_66 : decode cX8_tryComer 66 = .ok (.invokevirtual 123, 3) := by decide +kernel
theorem dX8_tryComer_69 : decode cX8_tryComer 69 = .ok (.istore 6, 2) := by decide +kernel
theorem dX8_tryComer_71 : decode cX8_tryComer 71 = .ok (.iconst 0, 1) := by decide +kernel
theorem dX8_tryComer_72 : decode cX8_tryComer 72 = .ok (.istore 7, 2) := by decide +kernel
theorem dX8_tryComer_74 : decode cX8_tryComer 74 = .ok (.iload 7, 2) := by decide +kernel
theorem dX8_tryComer_76 : decode cX8_tryComer 76 = .ok (.aload_n 0, 1) := by decide +kernel
theorem dX8_tryComer_77 : decode cX8_tryComer 77 = .ok (.getfield 52, 3) := by decide +kernel
theorem dX8_tryComer_80 : decode cX8_tryComer 80 = .ok (.getfield 126, 3) := by decide +kernel
theorem dX8_tryComer_83 : decode cX8_tryComer 83 = .ok (.if_icmp .ge 93, 3) := by decide +kernel
theorem dX8_tryComer_86 : decode cX8_tryComer 86 = .ok (.aload_n 0, 1) := by decide +kernel
theorem dX8_tryComer_87 : decode cX8_tryComer 87 = .ok (.getfield 40, 3) := by decide +kernel
theorem dX8_tryComer_90 : decode cX8_tryComer 90 = .ok (.iload 7, 2) := by decide +kernel
theorem dX8_tryComer_92 : decode cX8_tryComer 92 = .ok (.iaload, 1) := by decide +kernel
theorem dX8_tryComer_93 : decode cX8_tryComer 93 = .ok (.aload_n 0, 1) := by decide +kernel
theorem dX8_tryComer_94 : decode cX8_tryComer 94 = .ok (.getfield 40, 3) := by decide +kernel
theorem dX8_tryComer_97 : decode cX8_tryComer 97 = .ok (.iload 7, 2) := by decide +kernel
theorem dX8_tryComer_99 : decode cX8_tryComer 99 = .ok (.iconst 1, 1) := by decide +kernel
theorem dX8_tryComer_100 : decode cX8_tryComer 100 = .ok (.iadd, 1) := by decide +kernel
theorem dX8_tryComer_101 : decode cX8_tryComer 101 = .ok (.iaload, 1) := by decide +kernel
theorem dX8_tryComer_102 : decode cX8_tryComer 102 = .ok (.ior, 1) := by decide +kernel
theorem dX8_tryComer_103 : decode cX8_tryComer 103 = .ok (.aload_n 0, 1) := by decide +kernel
theorem dX8_tryComer_104 : decode cX8_tryComer 104 = .ok (.getfield 40, 3) := by decide +kernel
theorem dX8_tryComer_107 : decode cX8_tryComer 107 = .ok (.iload 7, 2) := by decide +kernel
theorem dX8_tryComer_109 : decode cX8_tryComer 109 = .ok (.iconst 2, 1) := by decide +kernel
theorem dX8_tryComer_110 : decode cX8_tryComer 110 = .ok (.iadd, 1) := by decide +kernel
theorem dX8_tryComer_111 : decode cX8_tryComer 111 = .ok (.iaload, 1) := by decide +kernel
theorem dX8_tryComer_112 : decode cX8_tryComer 112 = .ok (.ior, 1) := by decide +kernel
theorem dX8_tryComer_113 : decode cX8_tryComer 113 = .ok (.istore 8, 2) := by decide +kernel
theorem dX8_tryComer_115 : decode cX8_tryComer 115 = .ok (.aload_n 0, 1) := by decide +kernel
theorem dX8_tryComer_116 : decode cX8_tryComer 116 = .ok (.getfield 37, 3) := by decide +kernel
theorem dX8_tryComer_119 : decode cX8_tryComer 119 = .ok (.iload 7, 2) := by decide +kernel
theorem dX8_tryComer_121 : decode cX8_tryComer 121 = .ok (.iaload, 1) := by decide +kernel
theorem dX8_tryComer_122 : decode cX8_tryComer 122 = .ok (.iload 6, 2) := by decide +kernel
theorem dX8_tryComer_124 : decode cX8_tryComer 124 = .ok (.if_icmp .lt 46, 3) := by decide +kernel
theorem dX8_tryComer_127 : decode cX8_tryComer 127 = .ok (.iload 8, 2) := by decide +kernel
theorem dX8_tryComer_129 : decode cX8_tryComer 129 = .ok (.iload 5, 2) := by decide +kernel
theorem dX8_tryComer_131 : decode cX8_tryComer 131 = .ok (.iand, 1) := by decide +kernel
theorem dX8_tryComer_132 : decode cX8_tryComer 132 = .ok (.ifCond .ne 38, 3) := by decide +kernel
theorem dX8_tryComer_135 : decode cX8_tryComer 135 = .ok (.aload_n 0, 1) := by decide +kernel
theorem dX8_tryComer_136 : decode cX8_tryComer 136 = .ok (.getfield 37, 3) := by decide +kernel
theorem dX8_tryComer_139 : decode cX8_tryComer 139 = .ok (.iload 7, 2) := by decide +kernel
theorem dX8_tryComer_141 : decode cX8_tryComer 141 = .ok (.dup2, 1) := by decide +kernel
theorem dX8_tryComer_142 : decode cX8_tryComer 142 = .ok (.iaload, 1) := by decide +kernel
theorem dX8_tryComer_143 : decode cX8_tryComer 143 = .ok (.iload 6, 2) := by decide +kernel
theorem dX8_tryComer_145 : decode cX8_tryComer 145 = .ok (.isub, 1) := by decide +kernel
theorem dX8_tryComer_146 : decode cX8_tryComer 146 = .ok (.iastore, 1) := by decide +kernel
theorem dX8_tryComer_147 : decode cX8_tryComer 147 = .ok (.aload_n 0, 1) := by decide +kernel
theorem dX8_tryComer_148 : decode cX8_tryComer 148 = .ok (.iload_n 1, 1) := by decide +kernel
theorem dX8_tryComer_149 : decode cX8_tryComer 149 = .ok (.iload 7, 2) := by decide +kernel
theorem dX8_tryComer_151 : decode cX8_tryComer 151 = .ok (.iload_n 2, 1) := by decide +kernel
theorem dX8_tryComer_152 : decode cX8_tryComer 152 = .ok (.iload_n 3, 1) := by decide +kernel
theorem dX8_tryComer_153 : decode cX8_tryComer 153 = .ok (.iload 4, 2) := by decide +kernel
theorem dX8_tryComer_155 : decode cX8_tryComer 155 = .ok (.invokevirtual 129, 3) := by decide +kernel
theorem dX8_tryComer_158 : decode cX8_tryComer 158 = .ok (.aload_n 0, 1) := by decide +kernel
theorem dX8_tryComer_159 : decode cX8_tryComer 159 = .ok (.getfield 37, 3) := by decide +kernel
theorem dX8_tryComer_162 : decode cX8_tryComer 162 = .ok (.iload 7, 2) := by decide +kernel
theorem dX8_tryComer_164 : decode cX8_tryComer 164 = .ok (.dup2, 1) := by decide +kernel
theorem dX8_tryComer_165 : decode cX8_tryComer 165 = .ok (.iaload, 1) := by decide +kernel
theorem dX8_tryComer_166 : decode cX8_tryComer 166 = .ok (.iload 6, 2) := by decide +kernel
theorem dX8_tryComer_168 : decode cX8_tryComer 168 = .ok (.iadd, 1) := by decide +kernel
theorem dX8_tryComer_169 : decode cX8_tryComer 169 = .ok (.iastore, 1) := by decide +kernel
theorem dX8_tryComer_170 : decode cX8_tryComer 170 = .ok (.iinc 7 1, 3) := by decide +kernel
theorem dX8_tryComer_173 : decode cX8_tryComer 173 = .ok (.goto (-99), 3) := by decide +kernel
theorem dX8_tryComer_176 : decode cX8_tryComer 176 = .ok (.return_, 1) := by decide +kernel
theorem dX8_seatComer_0 : decode cX8_seatComer 0 = .ok (.aload_n 0, 1) := by decide +kernel
theorem dX8_seatComer_1 : decode cX8_seatComer 1 = .ok (.getfield 25, 3) := by decide +kernel
theorem dX8_seatComer_4 : decode cX8_seatComer 4 = .ok (.iload_n 1, 1) := by decide +kernel
theorem dX8_seatComer_5 : decode cX8_seatComer 5 = .ok (.iaload, 1) := by decide +kernel
theorem dX8_seatComer_6 : decode cX8_seatComer 6 = .ok (.istore 6, 2) := by decide +kernel
theorem dX8_seatComer_8 : decode cX8_seatComer 8 = .ok (.iload 6, 2) := by decide +kernel
theorem dX8_seatComer_10 : decode cX8_seatComer 10 = .ok (.bipush 8, 2) := by decide +kernel
theorem dX8_seatComer_12 : decode cX8_seatComer 12 = .ok (.imul, 1) := by decide +kernel
theorem dX8_seatComer_13 : decode cX8_seatComer 13 = .ok (.iload_n 2, 1) := by decide +kernel
theorem dX8_seatComer_14 : decode cX8_seatComer 14 = .ok (.iadd, 1) := by decide +kernel
theorem dX8_seatComer_15 : decode cX8_seatComer 15 = .ok (.istore 7, 2) := by decide +kernel
theorem dX8_seatComer_17 : decode cX8_seatComer 17 = .ok (.aload_n 0, 1) := by decide +kernel
theorem dX8_seatComer_18 : decode cX8_seatComer 18 = .ok (.getfield 31, 3) := by decide +kernel
theorem dX8_seatComer_21 : decode cX8_seatComer 21 = .ok (.iload 6, 2) := by decide +kernel
theorem dX8_seatComer_23 : decode cX8_seatComer 23 = .ok (.iload_n 2, 1) := by decide +kernel
theorem dX8_seatComer_24 : decode cX8_seatComer 24 = .ok (.iastore, 1) := by decide +kernel
theorem dX8_seatComer_25 : decode cX8_seatComer 25 = .ok (.aload_n 0, 1) := by decide +kernel
theorem dX8_seatComer_26 : decode cX8_seatComer 26 = .ok (.getfield 40, 3) := by decide +kernel
theorem dX8_seatComer_29 : decode cX8_seatComer 29 = .ok (.iload_n 2, 1) := by decide +kernel
theorem dX8_seatComer_30 : decode cX8_seatComer 30 = .ok (.iconst 1, 1) := by decide +kernel
theorem dX8_seatComer_31 : decode cX8_seatComer 31 = .ok (.iadd, 1) := by decide +kernel
theorem dX8_seatComer_32 : decode cX8_seatComer 32 = .ok (.dup2, 1) := by decide +kernel
theorem dX8_seatComer_33 : decode cX8_seatComer 33 = .ok (.iaload, 1) := by decide +kernel
theorem dX8_seatComer_34 : decode cX8_seatComer 34 = .ok (.iconst 1, 1) := by decide +kernel
theorem dX8_seatComer_35 : decode cX8_seatComer 35 = .ok (.iload 6, 2) := by decide +kernel
theorem dX8_seatComer_37 : decode cX8_seatComer 37 = .ok (.ishl, 1) := by decide +kernel
theorem dX8_seatComer_38 : decode cX8_seatComer 38 = .ok (.ior, 1) := by decide +kernel
theorem dX8_seatComer_39 : decode cX8_seatComer 39 = .ok (.iastore, 1) := by decide +kernel
theorem dX8_seatComer_40 : decode cX8_seatComer 40 = .ok (.aload_n 0, 1) := by decide +kernel
theorem dX8_seatComer_41 : decode cX8_seatComer 41 = .ok (.iload_n 1, 1) := by decide +kernel
theorem dX8_seatComer_42 : decode cX8_seatComer 42 = .ok (.iconst 1, 1) := by decide +kernel
theorem dX8_seatComer_43 : decode cX8_seatComer 43 = .ok (.iadd, 1) := by decide +kernel
theorem dX8_seatComer_44 : decode cX8_seatComer 44 = .ok (.iload_n 3, 1) := by decide +kernel
theorem dX8_seatComer_45 : decode cX8_seatComer 45 = .ok (.aload_n 0, 1) := by decide +kernel
theorem dX8_seatComer_46 : decode cX8_seatComer 46 = .ok (.getfield 43, 3) := by decide +kernel
theorem dX8_seatComer_49 : decode cX8_seatComer 49 = .ok (.iload 7, 2) := by decide +kernel
theorem dX8_seatComer_51 : decode cX8_seatComer 51 = .ok (.iaload, 1) := by decide +kernel
theorem dX8_seatComer_52 : decode cX8_seatComer 52 = .ok (.iadd, 1) := by decide +kernel
theorem dX8_seatComer_53 : decode cX8_seatComer 53 = .ok (.iload 4, 2) := by decide +kernel
theorem dX8_seatComer_55 : decode cX8_seatComer 55 = .ok (.aload_n 0, 1) := by decide +kernel
theorem dX8_seatComer_56 : decode cX8_seatComer 56 = .ok (.getfield 46, 3) := by decide +kernel
theorem dX8_seatComer_59 : decode cX8_seatComer 59 = .ok (.iload 7, 2) := by decide +kernel
theorem dX8_seatComer_61 : decode cX8_seatComer 61 = .ok (.iaload, 1) := by decide +kernel
theorem dX8_seatComer_62 : decode cX8_seatComer 62 = .ok (.iadd, 1) := by decide +kernel
theorem dX8_seatComer_63 : decode cX8_seatComer 63 = .ok (.iload 5, 2) := by decide +kernel
theorem dX8_seatComer_65 : decode cX8_seatComer 65 = .ok (.aload_n 0, 1) := by decide +kernel
theorem dX8_seatComer_66 : decode cX8_seatComer 66 = .ok (.getfield 49, 3) := by decide +kernel
theorem dX8_seatComer_69 : decode cX8_seatComer 69 = .ok (.iload 7, 2) := by decide +kernel
theorem dX8_seatComer_71 : decode cX8_seatComer 71 = .ok (.iaload, 1) := by decide +kernel
theorem dX8_seatComer_72 : decode cX8_seatComer 72 = .ok (.iadd, 1) := by decide +kernel
theorem dX8_seatComer_73 : decode cX8_seatComer 73 = .ok (.invokevirtual 83, 3) := by decide +kernel
theorem dX8_seatComer_76 : decode cX8_seatComer 76 = .ok (.aload_n 0, 1) := by decide +kernel
theorem dX8_seatComer_77 : decode cX8_seatComer 77 = .ok (.getfield 40, 3) := by decide +kernel
theorem dX8_seatComer_80 : decode cX8_seatComer 80 = .ok (.iload_n 2, 1) := by decide +kernel
theorem dX8_seatComer_81 : decode cX8_seatComer 81 = .ok (.iconst 1, 1) := by decide +kernel
theorem dX8_seatComer_82 : decode cX8_seatComer 82 = .ok (.iadd, 1) := by decide +kernel
theorem dX8_seatComer_83 : decode cX8_seatComer 83 = .ok (.dup2, 1) := by decide +kernel
theorem dX8_seatComer_84 : decode cX8_seatComer 84 = .ok (.iaload, 1) := by decide +kernel
theorem dX8_seatComer_85 : decode cX8_seatComer 85 = .ok (.iconst 1, 1) := by decide +kernel
theorem dX8_seatComer_86 : decode cX8_seatComer 86 = .ok (.iload 6, 2) := by decide +kernel
theorem dX8_seatComer_88 : decode cX8_seatComer 88 = .ok (.ishl, 1) := by decide +kernel
theorem dX8_seatComer_89 : decode cX8_seatComer 89 = .ok (.iconst (-1), 1) := by decide +kernel
theorem dX8_seatComer_90 : decode cX8_seatComer 90 = .ok (.ixor, 1) := by decide +kernel
theorem dX8_seatComer_91 : decode cX8_seatComer 91 = .ok (.iand, 1) := by decide +kernel
theorem dX8_seatComer_92 : decode cX8_seatComer 92 = .ok (.iastore, 1) := by decide +kernel
theorem dX8_seatComer_93 : decode cX8_seatComer 93 = .ok (.return_, 1) := by decide +kernel
theorem dX8_noteSeating_0 : decode cX8_noteSeating 0 = .ok (.aload_n 0, 1) := by decide +kernel
theorem dX8_noteSeating_1 : decode cX8_noteSeating 1 = .ok (.dup, 1) := by decide +kernel
theorem dX8_noteSeating_2 : decode cX8_noteSeating 2 = .ok (.getfield 19, 3) := by decide +kernel
theorem dX8_noteSeating_5 : decode cX8_noteSeating 5 = .ok (.iconst 1, 1) := by decide +kernel
theorem dX8_noteSeating_6 : decode cX8_noteSeating 6 = .ok (.iadd, 1) := by decide +kernel
theorem dX8_noteSeating_7 : decode cX8_noteSeating 7 = .ok (.putfield 19, 3) := by decide +kernel
theorem dX8_noteSeating_10 : decode cX8_noteSeating 10 = .ok (.aload_n 0, 1) := by decide +kernel
theorem dX8_noteSeating_11 : decode cX8_noteSeating 11 = .ok (.getfield 52, 3) := by decide +kernel
theorem dX8_noteSeating_14 : decode cX8_noteSeating 14 = .ok (.iload_n 1, 1) := by decide +kernel
theorem dX8_noteSeating_15 : decode cX8_noteSeating 15 = .ok (.invokevirtual 133, 3) := by decide +kernel
theorem dX8_noteSeating_18 : decode cX8_noteSeating 18 = .ok (.ifCond .eq 53, 3) := by decide +kernel
theorem dX8_noteSeating_21 : decode cX8_noteSeating 21 = .ok (.aload_n 0, 1) := by decide +kernel
theorem dX8_noteSeating_22 : decode cX8_noteSeating 22 = .ok (.dup, 1) := by decide +kernel
theorem dX8_noteSeating_23 : decode cX8_noteSeating 23 = .ok (.getfield 22, 3) := by decide +kernel
theorem dX8_noteSeating_26 : decode cX8_noteSeating 26 = .ok (.iconst 1, 1) := by decide +kernel
theorem dX8_noteSeating_27 : decode cX8_noteSeating 27 = .ok (.iadd, 1) := by decide +kernel
theorem dX8_noteSeating_28 : decode cX8_noteSeating 28 = .ok (.putfield 22, 3) := by decide +kernel
theorem dX8_noteSeating_31 : decode cX8_noteSeating 31 = .ok (.iconst 0, 1) := by decide +kernel
theorem dX8_noteSeating_32 : decode cX8_noteSeating 32 = .ok (.istore_n 2, 1) := by decide +kernel
theorem dX8_noteSeating_33 : decode cX8_noteSeating 33 = .ok (.iload_n 2, 1) := by decide +kernel
theorem dX8_noteSeating_34 : decode cX8_noteSeating 34 = .ok (.aload_n 0, 1) := by decide +kernel
theorem dX8_noteSeating_35 : decode cX8_noteSeating 35 = .ok (.getfield 28, 3) := by decide +kernel
theorem dX8_noteSeating_38 : decode cX8_noteSeating 38 = .ok (.if_icmp .ge 33, 3) := by decide +kernel
theorem dX8_noteSeating_41 : decode cX8_noteSeating 41 = .ok (.aload_n 0, 1) := by decide +kernel
theorem dX8_noteSeating_42 : decode cX8_noteSeating 42 = .ok (.getfield 25, 3) := by decide +kernel
theorem dX8_noteSeating_45 : decode cX8_noteSeating 45 = .ok (.iload_n 2, 1) := by decide +kernel
theorem dX8_noteSeating_46 : decode cX8_noteSeating 46 = .ok (.iaload, 1) := by decide +kernel
theorem dX8_noteSeating_47 : decode cX8_noteSeating 47 = .ok (.istore_n 3, 1) := by decide +kernel
theorem dX8_noteSeating_48 : decode cX8_noteSeating 48 = .ok (.aload_n 0, 1) := by decide +kernel
theorem dX8_noteSeating_49 : decode cX8_noteSeating 49 = .ok (.getfield 34, 3) := by decide +kernel
theorem dX8_noteSeating_52 : decode cX8_noteSeating 52 = .ok (.iload_n 3, 1) := by decide +kernel
theorem dX8_noteSeating_53 : decode cX8_noteSeating 53 = .ok (.dup2, 1) := by decide +kernel
theorem dX8_noteSeating_54 : decode cX8_noteSeating 54 = .ok (.iaload, 1) := by decide +kernel
theorem dX8_noteSeating_55 : decode cX8_noteSeating 55 = .ok (.iconst 1, 1) := by decide +kernel
theorem dX8_noteSeating_56 : decode cX8_noteSeating 56 = .ok (.aload_n 0, 1) := by decide +kernel
theorem dX8_noteSeating_57 : decode cX8_noteSeating 57 = .ok (.getfield 31, 3) := by decide +kernel
theorem dX8_noteSeating_60 : decode cX8_noteSeating 60 = .ok (.iload_n 3, 1) := by decide +kernel
theorem dX8_noteSeating_61 : decode cX8_noteSeating 61 = .ok (.iaload, 1) := by decide +kernel
theorem dX8_noteSeating_62 : decode cX8_noteSeating 62 = .ok (.ishl, 1) := by decide +kernel
theorem dX8_noteSeating_63 : decode cX8_noteSeating 63 = .ok (.ior, 1) := by decide +kernel
theorem dX8_noteSeating_64 : decode cX8_noteSeating 64 = .ok (.iastore, 1) := by decide +kernel
theorem dX8_noteSeating_65 : decode cX8_noteSeating 65 = .ok (.iinc 2 1, 3) := by decide +kernel
theorem dX8_noteSeating_68 : decode cX8_noteSeating 68 = .ok (.goto (-35), 3) := by decide +kernel
theorem dX8_noteSeating_71 : decode cX8_noteSeating 71 = .ok (.aload_n 0, 1) := by decide +kernel
theorem dX8_noteSeating_72 : decode cX8_noteSeating 72 = .ok (.getfield 9, 3) := by decide +kernel
theorem dX8_noteSeating_75 : decode cX8_noteSeating 75 = .ok (.bipush (-9), 2) := by decide +kernel
theorem dX8_noteSeating_77 : decode cX8_noteSeating 77 = .ok (.if_icmp .eq 11, 3) := by decide +kernel
theorem dX8_noteSeating_80 : decode cX8_noteSeating 80 = .ok (.iload_n 1, 1) := by decide +kernel
theorem dX8_noteSeating_81 : decode cX8_noteSeating 81 = .ok (.aload_n 0, 1) := by decide +kernel
theorem dX8_noteSeating_82 : decode cX8_noteSeating 82 = .ok (.getfield 9, 3) := by decide +kernel
theorem dX8_noteSeating_85 : decode cX8_noteSeating 85 = .ok (.if_icmp .ge 23, 3) := by decide +kernel
theorem dX8_noteSeating_88 : decode cX8_noteSeating 88 = .ok (.aload_n 0, 1) := by decide +kernel
theorem dX8_noteSeating_89 : decode cX8_noteSeating 89 = .ok (.iload_n 1, 1) := by decide +kernel
theorem dX8_noteSeating_90 : decode cX8_noteSeating 90 = .ok (.putfield 9, 3) := by decide +kernel
theorem dX8_noteSeating_93 : decode cX8_noteSeating 93 = .ok (.aload_n 0, 1) := by decide +kernel
theorem dX8_noteSeating_94 : decode cX8_noteSeating 94 = .ok (.getfield 31, 3) := by decide +kernel
theorem dX8_noteSeating_97 : decode cX8_noteSeating 97 = .ok (.iconst 0, 1) := by decide +kernel
theorem dX8_noteSeating_98 : decode cX8_noteSeating 98 = .ok (.aload_n 0, 1) := by decide +kernel
theorem dX8_noteSeating_99 : decode cX8_noteSeating 99 = .ok (.getfield 15, 3) := by decide +kernel
theorem dX8_noteSeating_102 : decode cX8_noteSeating 102 = .ok (.iconst 0, 1) := by decide +kernel
theorem dX8_noteSeating_103 : decode cX8_noteSeating 103 = .ok (.bipush 7, 2) := by decide +kernel
theorem dX8_noteSeating_105 : decode cX8_noteSeating 105 = .ok (.invokestatic 136, 3) := by decide +kernel
theorem dX8_noteSeating_108 : decode cX8_noteSeating 108 = .ok (.return_, 1) := by decide +kernel
theorem dX9_init_0 : decode cX9_init 0 = .ok (.aload_n 0, 1) := by decide +kernel
theorem dX9_init_1 : decode cX9_init 1 = .ok (.invokespecial 3, 3) := by decide +kernel
theorem dX9_init_4 : decode cX9_init 4 = .ok (.aload_n 0, 1) := by decide +kernel
theorem dX9_init_5 : decode cX9_init 5 = .ok (.iconst (-1), 1) := by decide +kernel
theorem dX9_init_6 : decode cX9_init 6 = .ok (.putfield 9, 3) := by decide +kernel
theorem dX9_init_9 : decode cX9_init 9 = .ok (.aload_n 0, 1) := by decide +kernel
theorem dX9_init_10 : decode cX9_init 10 = .ok (.bipush 60, 2) := by decide +kernel
theorem dX9_init_12 : decode cX9_init 12 = .ok (.newarray .byte, 2) := by decide +kernel
theorem dX9_init_14 : decode cX9_init 14 = .ok (.putfield 15, 3) := by decide +kernel
theorem dX9_init_17 : decode cX9_init 17 = .ok (.return_, 1) := by decide +kernel
theorem dX9_isMissing_0 : decode cX9_isMissing 0 = .ok (.aload_n 0, 1) := by decide +kernel
theorem dX9_isMissing_1 : decode cX9_isMissing 1 = .ok (.getfield 9, 3) := by decide +kernel
theorem dX9_isMissing_4 : decode cX9_isMissing 4 = .ok (.ifCond .ge 7, 3) := by decide +kernel
theorem dX9_isMissing_7 : decode cX9_isMissing 7 = .ok (.iconst 1, 1) := by decide +kernel
theorem dX9_isMissing_8 : decode cX9_isMissing 8 = .ok (.goto 4, 3) := by decide +kernel
theorem dX9_isMissing_11 : decode cX9_isMissing 11 = .ok (.iconst 0, 1) := by decide +kernel
theorem dX9_isMissing_12 : decode cX9_isMissing 12 = .ok (.ireturn, 1) := by decide +kernel
theorem dX9_has_0 : decode cX9_has 0 = .ok (.iload_n 1, 1) := by decide +kernel
theorem dX9_has_1 : decode cX9_has 1 = .ok (.ifCond .lt 15, 3) := by decide +kernel
theorem dX9_has_4 : decode cX9_has 4 = .ok (.iload_n 1, 1) := by decide +kernel
theorem dX9_has_5 : decode cX9_has 5 = .ok (.aload_n 0, 1) := by decide +kernel
theorem dX9_has_6 : decode cX9_has 6 = .ok (.getfield 9, 3) := by decide +kernel
theorem dX9_has_9 : decode cX9_has 9 = .ok (.if_icmp .ge 7, 3) := by decide +kernel
theorem dX9_has_12 : decode cX9_has 12 = .ok (.iconst 1, 1) := by decide +kernel
theorem dX9_has_13 : decode cX9_has 13 = .ok (.goto 4, 3) := by decide +kernel
theorem dX9_has_16 : decode cX9_has 16 = .ok (.iconst 0, 1) := by decide +kernel
theorem dX9_has_17 : decode cX9_has 17 = .ok (.ireturn, 1) := by decide +kernel
theorem dX9_byteAt_0 : decode cX9_byteAt 0 = .ok (.aload_n 0, 1) := by decide +kernel
theorem dX9_byteAt_1 : decode cX9_byteAt 1 = .ok (.iload_n 1, 1) := by decide +kernel
theorem dX9_byteAt_2 : decode cX9_byteAt 2 = .ok (.invokevirtual 19, 3) := by decide +kernel
theorem dX9_byteAt_5 : decode cX9_byteAt 5 = .ok (.ifCond .eq 12, 3) := by decide +kernel
theorem dX9_byteAt_8 : decode cX9_byteAt 8 = .ok (.aload_n 0, 1) := by decide +kernel
theorem dX9_byteAt_9 : decode cX9_byteAt 9 = .ok (.getfield 15, 3) := by decide +kernel
theorem dX9_byteAt_12 : decode cX9_byteAt 12 = .ok (.iload_n 1, 1) := by decide +kernel
theorem dX9_byteAt_13 : decode cX9_byteAt 13 = .ok (.baload, 1) := by decide +kernel
theorem dX9_byteAt_14 : decode cX9_byteAt 14 = .ok (.goto 5, 3) := by decide +kernel
theorem dX9_byteAt_17 : decode cX9_byteAt 17 = .ok (.bipush 32, 2) := by decide +kernel
theorem dX9_byteAt_19 : decode cX9_byteAt 19 = .ok (.ireturn, 1) := by decide +kernel
theorem dX9_renew_0 : decode cX9_renew 0 = .ok (.aload_n 0, 1) := by decide +kernel
theorem dX9_renew_1 : decode cX9_renew 1 = .ok (.iconst 0, 1) := by decide +kernel
theorem dX9_renew_2 : decode cX9_renew 2 = .ok (.bipush 60, 2) := by decide +kernel
theorem dX9_renew_4 : decode cX9_renew 4 = .ok (.iload_n 1, 1) := by decide +kernel
theorem dX9_renew_5 : decode cX9_renew 5 = .ok (.invokestatic 23, 3) := by decide +kernel
theorem dX9_renew_8 : decode cX9_renew 8 = .ok (.invokestatic 29, 3) := by decide +kernel
theorem dX9_renew_11 : decode cX9_renew 11 = .ok (.putfield 9, 3) := by decide +kernel
theorem dX9_renew_14 : decode cX9_renew 14 = .ok (.iconst 0, 1) := by decide +kernel
theorem dX9_renew_15 : decode cX9_renew 15 = .ok (.istore_n 2, 1) := by decide +kernel
theorem dX9_renew_16 : decode cX9_renew 16 = .ok (.iload_n 2, 1) := by decide +kernel
theorem dX9_renew_17 : decode cX9_renew 17 = .ok (.aload_n 0, 1) := by decide +kernel
theorem dX9_renew_18 : decode cX9_renew 18 = .ok (.getfield 9, 3) := by decide +kernel
theorem dX9_renew_21 : decode cX9_renew 21 = .ok (.if_icmp .ge 17, 3) := by decide +kernel
theorem dX9_renew_24 : decode cX9_renew 24 = .ok (.aload_n 0, 1) := by decide +kernel
theorem dX9_renew_25 : decode cX9_renew 25 = .ok (.getfield 15, 3) := by decide +kernel
theorem dX9_renew_28 : decode cX9_renew 28 = .ok (.iload_n 2, 1) := by decide +kernel
theorem dX9_renew_29 : decode cX9_renew 29 = .ok (.bipush 32, 2) := by decide +kernel
theorem dX9_renew_31 : decode cX9_renew 31 = .ok (.bastore, 1) := by decide +kernel
theorem dX9_renew_32 : decode cX9_renew 32 = .ok (.iinc 2 1, 3) := by decide +kernel
theorem dX9_renew_35 : decode cX9_renew 35 = .ok (.goto (-19), 3) := by decide +kernel
theorem dX9_renew_38 : decode cX9_renew 38 = .ok (.return_, 1) := by decide +kernel
theorem dX9_faultAsBarge_0 : decode cX9_faultAsBarge 0 = .ok (.iconst 0, 1) := by decide +kernel
theorem dX9_faultAsBarge_1 : decode cX9_faultAsBarge 1 = .ok (.istore_n 1, 1) := by decide +kernel
theorem dX9_faultAsBarge_2 : decode cX9_faultAsBarge 2 = .ok (.iconst 0, 1) := by decide +kernel
theorem dX9_faultAsBarge_3 : decode cX9_faultAsBarge 3 = .ok (.istore_n 2, 1) := by decide +kernel
theorem dX9_faultAsBarge_4 : decode cX9_faultAsBarge 4 = .ok (.iconst 0, 1) := by decide +kernel
theorem dX9_faultAsBarge_5 : decode cX9_faultAsBarge 5 = .ok (.istore_n 3, 1) := by decide +kernel
theorem dX9_faultAsBarge_6 : decode cX9_faultAsBarge 6 = .ok (.iconst 0, 1) := by decide +kernel
theorem dX9_faultAsBarge_7 : decode cX9_faultAsBarge 7 = .ok (.istore 4, 2) := by decide +kernel
theorem dX9_faultAsBarge_9 : decode cX9_faultAsBarge 9 = .ok (.iload 4, 2) := by decide +kernel
theorem dX9_faultAsBarge_11 : decode cX9_faultAsBarge 11 = .ok (.aload_n 0, 1) := by decide +kernel
theorem dX9_faultAsBarge_12 : decode cX9_faultAsBarge 12 = .ok (.getfield 9, 3) := by decide +kernel
theorem dX9_faultAsBarge_15 : decode cX9_faultAsBarge 15 = .ok (.if_icmp .ge 128, 3) := by decide +kernel
theorem dX9_faultAsBarge_18 : decode cX9_faultAsBarge 18 = .ok (.aload_n 0, 1) := by decide +kernel
theorem dX9_faultAsBarge_19 : decode cX9_faultAsBarge 19 = .ok (.iload 4, 2) := by decide +kernel
theorem dX9_faultAsBarge_21 : decode cX9_faultAsBarge 21 = .ok (.invokevirtual 32, 3) := by decide +kernel
theorem dX9_faultAsBarge_24 : decode cX9_faultAsBarge 24 = .ok (.istore 5, 2) := by decide +kernel
theorem dX9_faultAsBarge_26 : decode cX9_faultAsBarge 26 = .ok (.iload_n 3, 1) := by decide +kernel
theorem dX9_faultAsBarge_27 : decode cX9_faultAsBarge 27 = .ok (.ifCond .eq 29, 3) := by decide +kernel
theorem dX9_faultAsBarge_30 : decode cX9_faultAsBarge 30 = .ok (.iload 5, 2) := by decide +kernel
theorem dX9_faultAsBarge_32 : decode cX9_faultAsBarge 32 = .ok (.iload_n 3, 1) := by decide +kernel
theorem dX9_faultAsBarge_33 : decode cX9_faultAsBarge 33 = .ok (.invokestatic 36, 3) := by decide +kernel
theorem dX9_faultAsBarge_36 : decode cX9_faultAsBarge 36 = .ok (.ifCond .ne 6, 3) := by decide +kernel
theorem dX9_faultAsBarge_39 : decode cX9_faultAsBarge 39 = .ok (.iload 4, 2) := by decide +kernel
theorem dX9_faultAsBarge_41 : decode cX9_faultAsBarge 41 = .ok (.ireturn, 1) := by decide +kernel
theorem dX9_faultAsBarge_42 : decode cX9_faultAsBarge 42 = .ok (.iload_n 3, 1) := by decide +kernel
theorem dX9_faultAsBarge_43 : decode cX9_faultAsBarge 43 = .ok (.iconst 2, 1) := by decide +kernel
theorem dX9_faultAsBarge_44 : decode cX9_faultAsBarge 44 = .ok (.if_icmp .ne 7, 3) := by decide +kernel
theorem dX9_faultAsBarge_47 : decode cX9_faultAsBarge 47 = .ok (.iconst 3, 1) := by decide +kernel
theorem dX9_faultAsBarge_48 : decode cX9_faultAsBarge 48 = .ok (.goto 4, 3) := by decide +kernel
theorem dX9_faultAsBarge_51 : decode cX9_faultAsBarge 51 = .ok (.iconst 0, 1) := by decide +kernel
theorem dX9_faultAsBarge_52 : decode cX9_faultAsBarge 52 = .ok (.istore_n 3, 1) := by decide +kernel
theorem dX9_faultAsBarge_53 : decode cX9_faultAsBarge 53 = .ok (.goto 84, 3) := by decide +kernel
theorem dX9_faultAsBarge_56 : decode cX9_faultAsBarge 56 = .ok (.iload 5, 2) := by decide +kernel
theorem dX9_faultAsBarge_58 : decode cX9_faultAsBarge 58 = .ok (.invokestatic 40, 3) := by decide +kernel
theorem dX9_faultAsBarge_61 : decode cX9_faultAsBarge 61 = .ok (.ifCond .eq 35, 3) := by decide +kernel
theorem dX9_faultAsBarge_64 : decode cX9_faultAsBarge 64 = .ok (.iload_n 2, 1) := by decide +kernel
theorem dX9_faultAsBarge_65 : decode cX9_faultAsBarge 65 = .ok (.ifCond .gt 9, 3) := by decide +kernel
theorem dX9_faultAsBarge_68 : decode cX9_faultAsBarge 68 = .ok (.iload_n 1, 1) := by decide +kernel
theorem dX9_faultAsBarge_69 : decode cX9_faultAsBarge 69 = .ok (.bipush 8, 2) := by decide +kernel
theorem dX9_faultAsBarge_71 : decode cX9_faultAsBarge 71 = .ok (.if_icmp .lt 6, 3) := by decide +kernel
theorem dX9_faultAsBarge_74 : decode cX9_faultAsBarge 74 = .ok (.iload 4, 2) := by decide +kernel
theorem dX9_faultAsBarge_76 : decode cX9_faultAsBarge 76 = .ok (.ireturn, 1) := by decide +kernel
theorem dX9_faultAsBarge_77 : decode cX9_faultAsBarge 77 = .ok (.iinc 1 1, 3) := by decide +kernel
theorem dX9_faultAsBarge_80 : decode cX9_faultAsBarge 80 = .ok (.iload 5, 2) := by decide +kernel
theorem dX9_faultAsBarge_82 : decode cX9_faultAsBarge 82 = .ok (.bipush 109, 2) := by decide +kernel
theorem dX9_faultAsBarge_84 : decode cX9_faultAsBarge 84 = .ok (.if_icmp .ne 7, 3) := by decide +kernel
theorem dX9_faultAsBarge_87 : decode cX9_faultAsBarge 87 = .ok (.iconst 0, 1) := by decide +kernel
theorem dX9_faultAsBarge_88 : decode cX9_faultAsBarge 88 = .ok (.goto 4, 3) := by decide +kernel
theorem dX9_faultAsBarge_91 : decode cX9_faultAsBarge 91 = .ok (.iconst 1, 1) := by decide +kernel
theorem dX9_faultAsBarge_92 : decode cX9_faultAsBarge 92 = .ok (.istore_n 3, 1) := by decide +kernel
theorem dX9_faultAsBarge_93 : decode cX9_faultAsBarge 93 = .ok (.goto 44, 3) := by decide +kernel
theorem dX9_faultAsBarge_96 : decode cX9_faultAsBarge 96 = .ok (.iload 5, 2) := by decide +kernel
theorem dX9_faultAsBarge_98 : decode cX9_faultAsBarge 98 = .ok (.invokestatic 43, 3) := by decide +kernel
theorem dX9_faultAsBarge_101 : decode cX9_faultAsBarge 101 = .ok (.bipush (-9), 2) := by decide +kernel
theorem dX9_faultAsBarge_103 : decode cX9_faultAsBarge 103 = .ok (.if_icmp .eq 24, 3) := by decide +kernel
theorem dX9_faultAsBarge_106 : decode cX9_faultAsBarge 106 = .ok (.iload_n 1, 1) := by decide +kernel
theorem dX9_faultAsBarge_107 : decode cX9_faultAsBarge 107 = .ok (.ifCond .eq 9, 3) := by decide +kernel
theorem dX9_faultAsBarge_110 : decode cX9_faultAsBarge 110 = .ok (.iload_n 2, 1) := by decide +kernel
theorem dX9_faultAsBarge_111 : decode cX9_faultAsBarge 111 = .ok (.bipush 7, 2) := by decide +kernel
theorem dX9_faultAsBarge_113 : decode cX9_faultAsBarge 113 = .ok (.if_icmp .lt 6, 3) := by decide +kernel
theorem dX9_faultAsBarge_116 : decode cX9_faultAsBarge 116 = .ok (.iload 4, 2) := by decide +kernel
theorem dX9_faultAsBarge_118 : decode cX9_faultAsBarge 118 = .ok (.ireturn, 1) := by decide +kernel
theorem dX9_faultAsBarge_119 : decode cX9_faultAsBarge 119 = .ok (.iinc 2 1, 3) := by decide +kernel
theorem dX9_faultAsBarge_122 : decode cX9_faultAsBarge 122 = .ok (.iconst 2, 1) := by decide +kernel
theorem dX9_faultAsBarge_123 : decode cX9_faultAsBarge 123 = .ok (.istore_n 3, 1) := by decide +kernel
theorem dX9_faultAsBarge_124 : decode cX9_faultAsBarge 124 = .ok (.goto 13, 3) := by decide +kernel
theorem dX9_faultAsBarge_127 : decode cX9_faultAsBarge 127 = .ok (.iload 5, 2) := by decide +kernel
theorem dX9_faultAsBarge_129 : decode cX9_faultAsBarge 129 = .ok (.bipush 32, 2) := by decide +kernel
theorem dX9_faultAsBarge_131 : decode cX9_faultAsBarge 131 = .ok (.if_icmp .eq 6, 3) := by decide +kernel
theorem dX9_faultAsBarge_134 : decode cX9_faultAsBarge 134 = .ok (.iload 4, 2) := by decide +kernel
theorem dX9_faultAsBarge_136 : decode cX9_faultAsBarge 136 = .ok (.ireturn, 1) := by decide +kernel
theorem dX9_faultAsBarge_137 : decode cX9_faultAsBarge 137 = .ok (.iinc 4 1, 3) := by decide +kernel
theorem dX9_faultAsBarge_140 : decode cX9_faultAsBarge 140 = .ok (.goto (-131), 3) := by decide +kernel
theorem dX9_faultAsBarge_143 : decode cX9_faultAsBarge 143 = .ok (.iload_n 1, 1) := by decide +kernel
theorem dX9_faultAsBarge_144 : decode cX9_faultAsBarge 144 = .ok (.ifCond .eq 7, 3) := by decide +kernel
theorem dX9_faultAsBarge_147 : decode cX9_faultAsBarge 147 = .ok (.iload_n 3, 1) := by decide +kernel
theorem dX9_faultAsBarge_148 : decode cX9_faultAsBarge 148 = .ok (.ifCond .eq 10, 3) := by decide +kernel
theorem dX9_faultAsBarge_151 : decode cX9_faultAsBarge 151 = .ok (.aload_n 0, 1) := by decide +kernel
theorem dX9_faultAsBarge_152 : decode cX9_faultAsBarge 152 = .ok (.getfield 9, 3) := by decide +kernel
theorem dX9_faultAsBarge_155 : decode cX9_faultAsBarge 155 = .ok (.goto 5, 3) := by decide +kernel
theorem dX9_faultAsBarge_158 : decode cX9_faultAsBarge 158 = .ok (.bipush (-9), 2) := by decide +kernel
theorem dX9_faultAsBarge_160 : decode cX9_faultAsBarge 160 = .ok (.ireturn, 1) := by decide +kernel
theorem dX9_faultAsRite_0 : decode cX9_faultAsRite 0 = .ok (.iconst 0, 1) := by decide +kernel
theorem dX9_faultAsRite_1 : decode cX9_faultAsRite 1 = .ok (.istore_n 1, 1) := by decide +kernel
theorem dX9_faultAsRite_2 : decode cX9_faultAsRite 2 = .ok (.iconst 0, 1) := by decide +kernel
theorem dX9_faultAsRite_3 : decode cX9_faultAsRite 3 = .ok (.istore_n 2, 1) := by decide +kernel
theorem dX9_faultAsRite_4 : decode cX9_faultAsRite 4 = .ok (.iload_n 2, 1) := by decide +kernel
theorem dX9_faultAsRite_5 : decode cX9_faultAsRite 5 = .ok (.aload_n 0, 1) := by decide +kernel
theorem dX9_faultAsRite_6 : decode cX9_faultAsRite 6 = .ok (.getfield 9, 3) := by decide +kernel
theorem dX9_faultAsRite_9 : decode cX9_faultAsRite 9 = .ok (.if_icmp .ge 46, 3) := by decide +kernel
theorem dX9_faultAsRite_12 : decode cX9_faultAsRite 12 = .ok (.aload_n 0, 1) := by decide +kernel
theorem dX9_faultAsRite_13 : decode cX9_faultAsRite 13 = .ok (.iload_n 2, 1) := by decide +kernel
theorem dX9_faultAsRite_14 : decode cX9_faultAsRite 14 = .ok (.invokevirtual 32, 3) := by decide +kernel
theorem dX9_faultAsRite_17 : decode cX9_faultAsRite 17 = .ok (.istore_n 3, 1) := by decide +kernel
theorem dX9_faultAsRite_18 : decode cX9_faultAsRite 18 = .ok (.iload_n 3, 1) := by decide +kernel
theorem dX9_faultAsRite_19 : decode cX9_faultAsRite 19 = .ok (.invokestatic 46, 3) := by decide +kernel
theorem dX9_faultAsRite_22 : decode cX9_faultAsRite 22 = .ok (.bipush (-9), 2) := by decide +kernel
theorem dX9_faultAsRite_24 : decode cX9_faultAsRite 24 = .ok (.if_icmp .eq 17, 3) := by decide +kernel
theorem dX9_faultAsRite_27 : decode cX9_faultAsRite 27 = .ok (.iload_n 1, 1) := by decide +kernel
theorem dX9_faultAsRite_28 : decode cX9_faultAsRite 28 = .ok (.bipush 40, 2) := by decide +kernel
theorem dX9_faultAsRite_30 : decode cX9_faultAsRite 30 = .ok (.if_icmp .lt 5, 3) := by decide +kernel
theorem dX9_faultAsRite_33 : decode cX9_faultAsRite 33 = .ok (.iload_n 2, 1) := by decide +kernel
theorem dX9_faultAsRite_34 : decode cX9_faultAsRite 34 = .ok (.ireturn, 1) := by decide +kernel
theorem dX9_faultAsRite_35 : decode cX9_faultAsRite 35 = .ok (.iinc 1 1, 3) := by decide +kernel
theorem dX9_faultAsRite_38 : decode cX9_faultAsRite 38 = .ok (.goto 11, 3) := by decide +kernel
theorem dX9_faultAsRite_41 : decode cX9_faultAsRite 41 = .ok (.iload_n 3, 1) := by decide +kernel
theorem dX9_faultAsRite_42 : decode cX9_faultAsRite 42 = .ok (.bipush 32, 2) := by decide +kernel
theorem dX9_faultAsRite_44 : decode cX9_faultAsRite 44 = .ok (.if_icmp .eq 5, 3) := by decide +kernel
theorem dX9_faultAsRite_47 : decode cX9_faultAsRite 47 = .ok (.iload_n 2, 1) := by decide +kernel
theorem dX9_faultAsRite_48 : decode cX9_faultAsRite 48 = .ok (.ireturn, 1) := by decide +kernel
theorem dX9_faultAsRite_49 : decode cX9_faultAsRite 49 = .ok (.iinc 2 1, 3) := by decide +kernel
theorem dX9_faultAsRite_52 : decode cX9_faultAsRite 52 = .ok (.goto (-48), 3) := by decide +kernel
theorem dX9_faultAsRite_55 : decode cX9_faultAsRite 55 = .ok (.iload_n 1, 1) := by decide +kernel
theorem dX9_faultAsRite_56 : decode cX9_faultAsRite 56 = .ok (.ifCond .ne 10, 3) := by decide +kernel
theorem dX9_faultAsRite_59 : decode cX9_faultAsRite 59 = .ok (.aload_n 0, 1) := by decide +kernel
theorem dX9_faultAsRite_60 : decode cX9_faultAsRite 60 = .ok (.getfield 9, 3) := by decide +kernel
theorem dX9_faultAsRite_63 : decode cX9_faultAsRite 63 = .ok (.goto 5, 3) := by decide +kernel
theorem dX9_faultAsRite_66 : decode cX9_faultAsRite 66 = .ok (.bipush (-9), 2) := by decide +kernel
theorem dX9_faultAsRite_68 : decode cX9_faultAsRite 68 = .ok (.ireturn, 1) := by decide +kernel
theorem dX9_fillBarge_0 : decode cX9_fillBarge 0 = .ok (.iconst 0, 1) := by decide +kernel
theorem dX9_fillBarge_1 : decode cX9_fillBarge 1 = .ok (.istore_n 2, 1) := by decide +kernel
theorem dX9_fillBarge_2 : decode cX9_fillBarge 2 = .ok (.iload_n 2, 1) := by decide +kernel
theorem dX9_fillBarge_3 : decode cX9_fillBarge 3 = .ok (.aload_n 0, 1) := by decide +kernel
theorem dX9_fillBarge_4 : decode cX9_fillBarge 4 = .ok (.getfield 9, 3) := by decide +kernel
theorem dX9_fillBarge_7 : decode cX9_fillBarge 7 = .ok (.if_icmp .ge 101, 3) := by decide +kernel
theorem dX9_fillBarge_10 : decode cX9_fillBarge 10 = .ok (.aload_n 0, 1) := by decide +kernel
theorem dX9_fillBarge_11 : decode cX9_fillBarge 11 = .ok (.iload_n 2, 1) := by decide +kernel
theorem dX9_fillBarge_12 : decode cX9_fillBarge 12 = .ok (.invokevirtual 32, 3) := by decide +kernel
theorem dX9_fillBarge_15 : decode cX9_fillBarge 15 = .ok (.istore_n 3, 1) := by decide +kernel
theorem dX9_fillBarge_16 : decode cX9_fillBarge 16 = .ok (.iload_n 3, 1) := by decide +kernel
theorem dX9_fillBarge_17 : decode cX9_fillBarge 17 = .ok (.bipush 109, 2) := by decide +kernel
theorem dX9_fillBarge_19 : decode cX9_fillBarge 19 = .ok (.if_icmp .ne 11, 3) := by decide +kernel
theorem dX9_fillBarge_22 : decode cX9_fillBarge 22 = .ok (.aload_n 1, 1) := by decide +kernel
theorem dX9_fillBarge_23 : decode cX9_fillBarge 23 = .ok (.iconst 0, 1) := by decide +kernel
theorem dX9_fillBarge_24 : decode cX9_fillBarge 24 = .ok (.invokevirtual 49, 3) := by decide +kernel
theorem dX9_fillBarge_27 : decode cX9_fillBarge 27 = .ok (.goto 75, 3) := by decide +kernel
theorem dX9_fillBarge_30 : decode cX9_fillBarge 30 = .ok (.iload_n 3, 1) := by decide +kernel
theorem dX9_fillBarge_31 : decode cX9_fillBarge 31 = .ok (.bipush 108, 2) := by decide +kernel
theorem dX9_fillBarge_33 : decode cX9_fillBarge 33 = .ok (.if_icmp .ne 18, 3) := by decide +kernel
theorem dX9_fillBarge_36 : decode cX9_fillBarge 36 = .ok (.aload_n 1, 1) := by decide +kernel
theorem dX9_fillBarge_37 : decode cX9_fillBarge 37 = .ok (.aload_n 0, 1) := by decide +kernel
theorem dX9_fillBarge_38 : decode cX9_fillBarge 38 = .ok (.iload_n 2, 1) := by decide +kernel
theorem dX9_fillBarge_39 : decode cX9_fillBarge 39 = .ok (.iconst 1, 1) := by decide +kernel
theorem dX9_fillBarge_40 : decode cX9_fillBarge 40 = .ok (.iadd, 1) := by decide +kernel
theorem dX9_fillBarge_41 : decode cX9_fillBarge 41 = .ok (.invokevirtual 55, 3) := by decide +kernel
theorem dX9_fillBarge_44 : decode cX9_fillBarge 44 = .ok (.ineg, 1) := by decide +kernel
theorem dX9_fillBarge_45 : decode cX9_fillBarge 45 = .ok (.invokevirtual 49, 3) := by decide +kernel
theorem dX9_fillBarge_48 : decode cX9_fillBarge 48 = .ok (.goto 54, 3) := by decide +kernel
theorem dX9_fillBarge_51 : decode cX9_fillBarge 51 = .ok (.iload_n 3, 1) := by decide +kernel
theorem dX9_fillBarge_52 : decode cX9_fillBarge 52 = .ok (.bipush 114, 2) := by decide +kernel
theorem dX9_fillBarge_54 : decode cX9_fillBarge 54 = .ok (.if_icmp .ne 17, 3) := by decide +kernel
theorem dX9_fillBarge_57 : decode cX9_fillBarge 57 = .ok (.aload_n 1, 1) := by decide +kernel
theorem dX9_fillBarge_58 : decode cX9_fillBarge 58 = .ok (.aload_n 0, 1) := by decide +kernel
theorem dX9_fillBarge_59 : decode cX9_fillBarge 59 = .ok (.iload_n 2, 1) := by decide +kernel
theorem dX9_fillBarge_60 : decode cX9_fillBarge 60 = .ok (.iconst 1, 1) := by decide +kernel
theorem dX9_fillBarge_61 : decode cX9_fillBarge 61 = .ok (.iadd, 1) := by decide +kernel
theorem dX9_fillBarge_62 : decode cX9_fillBarge 62 = .ok (.invokevirtual 55, 3) := by decide +kernel
theorem dX9_fillBarge_65 : decode cX9_fillBarge 65 = .ok (.invokevirtual 49, 3) := by decide +kernel
theorem dX9_fillBarge_68 : decode cX9_fillBarge 68 = .ok (.goto 34, 3) := by decide +kernel
theorem dX9_fillBarge_71 : decode cX9_fillBarge 71 = .ok (.iload_n 3, 1) := by decide +kernel
theorem dX9_fillBarge_72 : decode cX9_fillBarge 72 = .ok (.invokestatic 43, 3) := by decide +kernel
theorem dX9_fillBarge_75 : decode cX9_fillBarge 75 = .ok (.bipush (-9), 2) := by decide +kernel
theorem dX9_fillBarge_77 : decode cX9_fillBarge 77 = .ok (.if_icmp .eq 25, 3) := by decide +kernel
theorem dX9_fillBarge_80 : decode cX9_fillBarge 80 = .ok (.aload_n 1, 1) := by decide +kernel
theorem dX9_fillBarge_81 : decode cX9_fillBarge 81 = .ok (.iload_n 3, 1) := by decide +kernel
theorem dX9_fillBarge_82 : decode cX9_fillBarge 82 = .ok (.invokestatic 43, 3) := by decide +kernel
theorem dX9_fillBarge_85 : decode cX9_fillBarge 85 = .ok (.aload_n 0, 1) := by decide +kernel
theorem dX9_fillBarge_86 : decode cX9_fillBarge 86 = .ok (.iload_n 2, 1) := by decide +kernel
theorem dX9_fillBarge_87 : decode cX9_fillBarge 87 = .ok (.iconst 1, 1) := by decide +kernel
theorem dX9_fillBarge_88 : decode cX9_fillBarge 88 = .ok (.iadd, 1) := by decide +kernel
theorem dX9_fillBarge_89 : decode cX9_fillBarge 89 = .ok (.invokevirtual 55, 3) := by decide +kernel
theorem dX9_fillBarge_92 : decode cX9_fillBarge 92 = .ok (.aload_n 0, 1) := by decide +kernel
theorem dX9_fillBarge_93 : decode cX9_fillBarge 93 = .ok (.iload_n 2, 1) := by decide +kernel
theorem dX9_fillBarge_94 : decode cX9_fillBarge 94 = .ok (.iconst 2, 1) := by decide +kernel
theorem dX9_fillBarge_95 : decode cX9_fillBarge 95 = .ok (.iadd, 1) := by decide +kernel
theorem dX9_fillBarge_96 : decode cX9_fillBarge 96 = .ok (.invokevirtual 55, 3) := by decide +kernel
theorem dX9_fillBarge_99 : decode cX9_fillBarge 99 = .ok (.invokevirtual 58, 3) := by decide +kernel
theorem dX9_fillBarge_102 : decode cX9_fillBarge 102 = .ok (.iinc 2 1, 3) := by decide +kernel
theorem dX9_fillBarge_105 : decode cX9_fillBarge 105 = .ok (.goto (-103), 3) := by decide +kernel
theorem dX9_fillBarge_108 : decode cX9_fillBarge 108 = .ok (.return_, 1) := by decide +kernel
theorem dX9_fillRite_0 : decode cX9_fillRite 0 = .ok (.iconst 0, 1) := by decide +kernel
theorem dX9_fillRite_1 : decode cX9_fillRite 1 = .ok (.istore_n 2, 1) := by decide +kernel
theorem dX9_fillRite_2 : decode cX9_fillRite 2 = .ok (.iload_n 2, 1) := by decide +kernel
theorem dX9_fillRite_3 : decode cX9_fillRite 3 = .ok (.aload_n 0, 1) := by decide +kernel
theorem dX9_fillRite_4 : decode cX9_fillRite 4 = .ok (.getfield 9, 3) := by decide +kernel
theorem dX9_fillRite_7 : decode cX9_fillRite 7 = .ok (.if_icmp .ge 29, 3) := by decide +kernel
theorem dX9_fillRite_10 : decode cX9_fillRite 10 = .ok (.aload_n 0, 1) := by decide +kernel
theorem dX9_fillRite_11 : decode cX9_fillRite 11 = .ok (.iload_n 2, 1) := by decide +kernel
theorem dX9_fillRite_12 : decode cX9_fillRite 12 = .ok (.invokevirtual 32, 3) := by decide +kernel
theorem dX9_fillRite_15 : decode cX9_fillRite 15 = .ok (.invokestatic 46, 3) := by decide +kernel
theorem dX9_fillRite_18 : decode cX9_fillRite 18 = .ok (.istore_n 3, 1) := by decide +kernel
theorem dX9_fillRite_19 : decode cX9_fillRite 19 = .ok (.iload_n 3, 1) := by decide +kernel
theorem dX9_fillRite_20 : decode cX9_fillRite 20 = .ok (.bipush (-9), 2) := by decide +kernel
theorem dX9_fillRite_22 : decode cX9_fillRite 22 = .ok (.if_icmp .eq 8, 3) := by decide +kernel
theorem dX9_fillRite_25 : decode cX9_fillRite 25 = .ok (.aload_n 1, 1) := by decide +kernel
theorem dX9_fillRite_26 : decode cX9_fillRite 26 = .ok (.iload_n 3, 1) := by decide +kernel
theorem dX9_fillRite_27 : decode cX9_fillRite 27 = .ok (.invokevirtual 62, 3) := by decide +kernel
theorem dX9_fillRite_30 : decode cX9_fillRite 30 = .ok (.iinc 2 1, 3) := by decide +kernel
theorem dX9_fillRite_33 : decode cX9_fillRite 33 = .ok (.goto (-31), 3) := by decide +kernel
theorem dX9_fillRite_36 : decode cX9_fillRite 36 = .ok (.return_, 1) := by decide +kernel
theorem dX9_figureAt_0 : decode cX9_figureAt 0 = .ok (.aload_n 0, 1) := by decide +kernel
theorem dX9_figureAt_1 : decode cX9_figureAt 1 = .ok (.iload_n 1, 1) := by decide +kernel
theorem dX9_figureAt_2 : decode cX9_figureAt 2 = .ok (.invokevirtual 32, 3) := by decide +kernel
theorem dX9_figureAt_5 : decode cX9_figureAt 5 = .ok (.bipush 48, 2) := by decide +kernel
theorem dX9_figureAt_7 : decode cX9_figureAt 7 = .ok (.isub, 1) := by decide +kernel
theorem dX9_figureAt_8 : decode cX9_figureAt 8 = .ok (.ireturn, 1) := by decide +kernel
theorem dX9_isFigureDue_0 : decode cX9_isFigureDue 0 = .ok (.iload_n 1, 1) := by decide +kernel
theorem dX9_isFigureDue_1 : decode cX9_isFigureDue 1 = .ok (.iconst 3, 1) := by decide +kernel
theorem dX9_isFigureDue_2 : decode cX9_isFigureDue 2 = .ok (.if_icmp .ne 14, 3) := by decide +kernel
theorem dX9_isFigureDue_5 : decode cX9_isFigureDue 5 = .ok (.iload_n 0, 1) := by decide +kernel
theorem dX9_isFigureDue_6 : decode cX9_isFigureDue 6 = .ok (.bipush 48, 2) := by decide +kernel
theorem dX9_isFigureDue_8 : decode cX9_isFigureDue 8 = .ok (.bipush 49, 2) := by decide +kernel
theorem dX9_isFigureDue_10 : decode cX9_isFigureDue 10 = .ok (.invokestatic 67, 3) := by decide +kernel
theorem dX9_isFigureDue_13 : decode cX9_isFigureDue 13 = .ok (.goto 11, 3) := by decide +kernel
theorem dX9_isFigureDue_16 : decode cX9_isFigureDue 16 = .ok (.iload_n 0, 1) := by decide +kernel
theorem dX9_isFigureDue_17 : decode cX9_isFigureDue 17 = .ok (.bipush 49, 2) := by decide +kernel
theorem dX9_isFigureDue_19 : decode cX9_isFigureDue 19 = .ok (.bipush 57, 2) := by decide +kernel
theorem dX9_isFigureDue_21 : decode cX9_isFigureDue 21 = .ok (.invokestatic 67, 3) := by decide +kernel
theorem dX9_isFigureDue_24 : decode cX9_isFigureDue 24 = .ok (.ireturn, 1) := by decide +kernel
theorem dX9_isBenchLetter_0 : decode cX9_isBenchLetter 0 = .ok (.iload_n 0, 1) := by decide +kernel
theorem dX9_isBenchLetter_1 : decode cX9_isBenchLetter 1 = .ok (.bipush 108, 2) := by decide +kernel
theorem dX9_isBenchLetter_3 : decode cX9_isBenchLetter 3 = .ok (.if_icmp .eq 15, 3) := by decide +kernel
theorem dX9_isBenchLetter_6 : decode cX9_isBenchLetter 6 = .ok (.iload_n 0, 1) := by decide +kernel
theorem dX9_isBenchLetter_7 : decode cX9_isBenchLetter 7 = .ok (.bipush 114, 2) := by decide +kernel
theorem dX9_isBenchLetter_9 : decode cX9_isBenchLetter 9 = .ok (.if_icmp .eq 9, 3) := by decide +kernel
theorem dX9_isBenchLetter_12 : decode cX9_isBenchLetter 12 = .ok (.iload_n 0, 1) := by decide +kernel
theorem dX9_isBenchLetter_13 : decode cX9_isBenchLetter 13 = .ok (.bipush 109, 2) := by decide +kernel
theorem dX9_isBenchLetter_15 : decode cX9_isBenchLetter 15 = .ok (.if_icmp .ne 7, 3) := by decide +kernel
theorem dX9_isBenchLetter_18 : decode cX9_isBenchLetter 18 = .ok (.iconst 1, 1) := by decide +kernel
theorem dX9_isBenchLetter_19 : decode cX9_isBenchLetter 19 = .ok (.goto 4, 3) := by decide +kernel
theorem dX9_isBenchLetter_22 : decode cX9_isBenchLetter 22 = .ok (.iconst 0, 1) := by decide +kernel
theorem dX9_isBenchLetter_23 : decode cX9_isBenchLetter 23 = .ok (.ireturn, 1) := by decide +kernel
theorem dX9_kindByLetter_0 : decode cX9_kindByLetter 0 = .ok (.iload_n 0, 1) := by decide +kernel
theorem dX9_kindByLetter_1 : decode cX9_kindByLetter 1 = .ok (.lookupswitch 71 #[(97, 61), (99, 65), (103, 59), (104, 67), (107, 69), (117, 63)], 59) := by decide +kernel
theorem dX9_kindByLetter_60 : decode cX9_kindByLetter 60 = .ok (.iconst 0, 1) := by decide +kernel
theorem dX9_kindByLetter_61 : decode cX9_kindByLetter 61 = .ok (.ireturn, 1) := by decide +kernel
theorem dX9_kindByLetter_62 : decode cX9_kindByLetter 62 = .ok (.iconst 1, 1) := by decide +kernel
theorem dX9_kindByLetter_63 : decode cX9_kindByLetter 63 = .ok (.ireturn, 1) := by decide +kernel
theorem dX9_kindByLetter_64 : decode cX9_kindByLetter 64 = .ok (.iconst 2, 1) := by decide +kernel
theorem dX9_kindByLetter_65 : decode cX9_kindByLetter 65 = .ok (.ireturn, 1) := by decide +kernel
theorem dX9_kindByLetter_66 : decode cX9_kindByLetter 66 = .ok (.iconst 3, 1) := by decide +kernel
theorem dX9_kindByLetter_67 : decode cX9_kindByLetter 67 = .ok (.ireturn, 1) := by decide +kernel
theorem dX9_kindByLetter_68 : decode cX9_kindByLetter 68 = .ok (.iconst 4, 1) := by decide +kernel
theorem dX9_kindByLetter_69 : decode cX9_kindByLetter 69 = .ok (.ireturn, 1) := by decide +kernel
theorem dX9_kindByLetter_70 : decode cX9_kindByLetter 70 = .ok (.iconst 5, 1) := by decide +kernel
theorem dX9_kindByLetter_71 : decode cX9_kindByLetter 71 = .ok (.ireturn, 1) := by decide +kernel
theorem dX9_kindByLetter_72 : decode cX9_kindByLetter 72 = .ok (.bipush (-9), 2) := by decide +kernel
theorem dX9_kindByLetter_74 : decode cX9_kindByLetter 74 = .ok (.ireturn, 1) := by decide +kernel
theorem dX9_postureByLetter_0 : decode cX9_postureByLetter 0 = .ok (.iload_n 0, 1) := by decide +kernel
theorem dX9_postureByLetter_1 : decode cX9_postureByLetter 1 = .ok (.lookupswitch 41 #[(107, 39), (115, 35), (116, 37)], 35) := by decide +kernel
theorem dX9_postureByLetter_36 : decode cX9_postureByLetter 36 = .ok (.iconst 0, 1) := by decide +kernel
theorem dX9_postureByLetter_37 : decode cX9_postureByLetter 37 = .ok (.ireturn, 1) := by decide +kernel
theorem dX9_postureByLetter_38 : decode cX9_postureByLetter 38 = .ok (.iconst 1, 1) := by decide +kernel
theorem dX9_postureByLetter_39 : decode cX9_postureByLetter 39 = .ok (.ireturn, 1) := by decide +kernel
theorem dX9_postureByLetter_40 : decode cX9_postureByLetter 40 = .ok (.iconst 2, 1) := by decide +kernel
theorem dX9_postureByLetter_41 : decode cX9_postureByLetter 41 = .ok (.ireturn, 1) := by decide +kernel
theorem dX9_postureByLetter_42 : decode cX9_postureByLetter 42 = .ok (.bipush (-9), 2) := by decide +kernel
theorem dX9_postureByLetter_44 : decode cX9_postureByLetter 44 = .ok (.ireturn, 1) := by decide +kernel
theorem dX10_init_0 : decode cX10_init 0 = .ok (.aload_n 0, 1) := by decide +kernel
theorem dX10_init_1 : decode cX10_init 1 = .ok (.invokespecial 3, 3) := by decide +kernel
theorem dX10_init_4 : decode cX10_init 4 = .ok (.aload_n 0, 1) := by decide +kernel
theorem dX10_init_5 : decode cX10_init 5 = .ok (.iconst 0, 1) := by decide +kernel
theorem dX10_init_6 : decode cX10_init 6 = .ok (.putfield 9, 3) := by decide +kernel
theorem dX10_init_9 : decode cX10_init 9 = .ok (.aload_n 0, 1) := by decide +kernel
theorem dX10_init_10 : decode cX10_init 10 = .ok (.lconst 0, 1) := by decide +kernel
theorem dX10_init_11 : decode cX10_init 11 = .ok (.putfield 15, 3) := by decide +kernel
theorem dX10_init_14 : decode cX10_init 14 = .ok (.aload_n 0, 1) := by decide +kernel
theorem dX10_init_15 : decode cX10_init 15 = .ok (.lconst 1, 1) := by decide +kernel
theorem dX10_init_16 : decode cX10_init 16 = .ok (.putfield 19, 3) := by decide +kernel
theorem dX10_init_19 : decode cX10_init 19 = .ok (.aload_n 0, 1) := by decide +kernel
theorem dX10_init_20 : decode cX10_init 20 = .ok (.iconst 0, 1) := by decide +kernel
theorem dX10_init_21 : decode cX10_init 21 = .ok (.putfield 22, 3) := by decide +kernel
theorem dX10_init_24 : decode cX10_init 24 = .ok (.aload_n 0, 1) := by decide +kernel
theorem dX10_init_25 : decode cX10_init 25 = .ok (.bipush 6, 2) := by decide +kernel
theorem dX10_init_27 : decode cX10_init 27 = .ok (.newarray .int, 2) := by decide +kernel
theorem dX10_init_29 : decode cX10_init 29 = .ok (.putfield 25, 3) := by decide +kernel
theorem dX10_init_32 : decode cX10_init 32 = .ok (.return_, 1) := by decide +kernel
theorem dX10_tell_0 : decode cX10_tell 0 = .ok (.aload_n 0, 1) := by decide +kernel
theorem dX10_tell_1 : decode cX10_tell 1 = .ok (.iload_n 1, 1) := by decide +kernel
theorem dX10_tell_2 : decode cX10_tell 2 = .ok (.putfield 9, 3) := by decide +kernel
theorem dX10_tell_5 : decode cX10_tell 5 = .ok (.return_, 1) := by decide +kernel
theorem dX10_found_0 : decode cX10_found 0 = .ok (.aload_n 0, 1) := by decide +kernel
theorem dX10_found_1 : decode cX10_found 1 = .ok (.iload_n 1, 1) := by decide +kernel
theorem dX10_found_2 : decode cX10_found 2 = .ok (.putfield 22, 3) := by decide +kernel
theorem dX10_found_5 : decode cX10_found 5 = .ok (.iload_n 1, 1) := by decide +kernel
theorem dX10_found_6 : decode cX10_found 6 = .ok (.ifCond .lt 22, 3) := by decide +kernel
theorem dX10_found_9 : decode cX10_found 9 = .ok (.iload_n 1, 1) := by decide +kernel
theorem dX10_found_10 : decode cX10_found 10 = .ok (.aload_n 0, 1) := by decide +kernel
theorem dX10_found_11 : decode cX10_found 11 = .ok (.getfield 25, 3) := by decide +kernel
theorem dX10_found_14 : decode cX10_found 14 = .ok (.arraylength, 1) := by decide +kernel
theorem dX10_found_15 : decode cX10_found 15 = .ok (.if_icmp .ge 13, 3) := by decide +kernel
theorem dX10_found_18 : decode cX10_found 18 = .ok (.aload_n 0, 1) := by decide +kernel
theorem dX10_found_19 : decode cX10_found 19 = .ok (.getfield 25, 3) := by decide +kernel
theorem dX10_found_22 : decode cX10_found 22 = .ok (.iload_n 1, 1) := by decide +kernel
theorem dX10_found_23 : decode cX10_found 23 = .ok (.dup2, 1) := by decide +kernel
theorem dX10_found_24 : decode cX10_found 24 = .ok (.iaload, 1) := by decide +kernel
theorem dX10_found_25 : decode cX10_found 25 = .ok (.iconst 1, 1) := by decide +kernel
theorem dX10_found_26 : decode cX10_found 26 = .ok (.iadd, 1) := by decide +kernel
theorem dX10_found_27 : decode cX10_found 27 = .ok (.iastore, 1) := by decide +kernel
theorem dX10_found_28 : decode cX10_found 28 = .ok (.bipush (-3), 2) := by decide +kernel
theorem dX10_found_30 : decode cX10_found 30 = .ok (.ireturn, 1) := by decide +kernel
theorem dX10_timesFound_0 : decode cX10_timesFound 0 = .ok (.iload_n 1, 1) := by decide +kernel
theorem dX10_timesFound_1 : decode cX10_timesFound 1 = .ok (.ifCond .lt 21, 3) := by decide +kernel
theorem dX10_timesFound_4 : decode cX10_timesFound 4 = .ok (.iload_n 1, 1) := by decide +kernel
theorem dX10_timesFound_5 : decode cX10_timesFound 5 = .ok (.aload_n 0, 1) := by decide +kernel
theorem dX10_timesFound_6 : decode cX10_timesFound 6 = .ok (.getfield 25, 3) := by decide +kernel
theorem dX10_timesFound_9 : decode cX10_timesFound 9 = .ok (.arraylength, 1) := by decide +kernel
theorem dX10_timesFound_10 : decode cX10_timesFound 10 = .ok (.if_icmp .ge 12, 3) := by decide +kernel
theorem dX10_timesFound_13 : decode cX10_timesFound 13 = .ok (.aload_n 0, 1) := by decide +kernel
theorem dX10_timesFound_14 : decode cX10_timesFound 14 = .ok (.getfield 25, 3) := by decide +kernel
theorem dX10_timesFound_17 : decode cX10_timesFound 17 = .ok (.iload_n 1, 1) := by decide +kernel
theorem dX10_timesFound_18 : decode cX10_timesFound 18 = .ok (.iaload, 1) := by decide +kernel
theorem dX10_timesFound_19 : decode cX10_timesFound 19 = .ok (.goto 4, 3) := by decide +kernel
theorem dX10_timesFound_22 : decode cX10_timesFound 22 = .ok (.iconst 0, 1) := by decide +kernel
theorem dX10_timesFound_23 : decode cX10_timesFound 23 = .ok (.ireturn, 1) := by decide +kernel
theorem dX10_share_0 : decode cX10_share 0 = .ok (.iload_n 1, 1) := by decide +kernel
theorem dX10_share_1 : decode cX10_share 1 = .ok (.iload_n 2, 1) := by decide +kernel
theorem dX10_share_2 : decode cX10_share 2 = .ok (.invokestatic 29, 3) := by decide +kernel
theorem dX10_share_5 : decode cX10_share 5 = .ok (.istore_n 3, 1) := by decide +kernel
theorem dX10_share_6 : decode cX10_share 6 = .ok (.iload_n 1, 1) := by decide +kernel
theorem dX10_share_7 : decode cX10_share 7 = .ok (.ifCond .le 11, 3) := by decide +kernel
theorem dX10_share_10 : decode cX10_share 10 = .ok (.iload_n 2, 1) := by decide +kernel
theorem dX10_share_11 : decode cX10_share 11 = .ok (.ifCond .le 7, 3) := by decide +kernel
theorem dX10_share_14 : decode cX10_share 14 = .ok (.iload_n 3, 1) := by decide +kernel
theorem dX10_share_15 : decode cX10_share 15 = .ok (.ifCond .gt 14, 3) := by decide +kernel
theorem dX10_share_18 : decode cX10_share 18 = .ok (.aload_n 0, 1) := by decide +kernel
theorem dX10_share_19 : decode cX10_share 19 = .ok (.lconst 0, 1) := by decide +kernel
theorem dX10_share_20 : decode cX10_share 20 = .ok (.putfield 15, 3) := by decide +kernel
theorem dX10_share_23 : decode cX10_share 23 = .ok (.aload_n 0, 1) := by decide +kernel
theorem dX10_share_24 : decode cX10_share 24 = .ok (.lconst 1, 1) := by decide +kernel
theorem dX10_share_25 : decode cX10_share 25 = .ok (.putfield 19, 3) := by decide +kernel
theorem dX10_share_28 : decode cX10_share 28 = .ok (.return_, 1) := by decide +kernel
theorem dX10_share_29 : decode cX10_share 29 = .ok (.aload_n 0, 1) := by decide +kernel
theorem dX10_share_30 : decode cX10_share 30 = .ok (.iload_n 1, 1) := by decide +kernel
theorem dX10_share_31 : decode cX10_share 31 = .ok (.iload_n 3, 1) := by decide +kernel
theorem dX10_share_32 : decode cX10_share 32 = .ok (.idiv, 1) := by decide +kernel
theorem dX10_share_33 : decode cX10_share 33 = .ok (.i2l, 1) := by decide +kernel
theorem dX10_share_34 : decode cX10_share 34 = .ok (.putfield 15, 3) := by decide +kernel
theorem dX10_share_37 : decode cX10_share 37 = .ok (.aload_n 0, 1) := by decide +kernel
theorem dX10_share_38 : decode cX10_share 38 = .ok (.iload_n 2, 1) := by decide +kernel
theorem dX10_share_39 : decode cX10_share 39 = .ok (.iload_n 3, 1) := by decide +kernel
theorem dX10_share_40 : decode cX10_share 40 = .ok (.idiv, 1) := by decide +kernel
theorem dX10_share_41 : decode cX10_share 41 = .ok (.i2l, 1) := by decide +kernel
theorem dX10_share_42 : decode cX10_share 42 = .ok (.putfield 19, 3) := by decide +kernel
theorem dX10_share_45 : decode cX10_share 45 = .ok (.return_, 1) := by decide +kernel
theorem dX10_greatestDivisor_0 : decode cX10_greatestDivisor 0 = .ok (.iload_n 0, 1) := by decide +kernel
theorem dX10_greatestDivisor_1 : decode cX10_greatestDivisor 1 = .ok (.istore_n 2, 1) := by decide +kernel
theorem dX10_greatestDivisor_2 : decode cX10_greatestDivisor 2 = .ok (.iload_n 1, 1) := by decide +kernel
theorem dX10_greatestDivisor_3 : decode cX10_greatestDivisor 3 = .ok (.istore_n 3, 1) := by decide +kernel
theorem dX10_greatestDivisor_4 : decode cX10_greatestDivisor 4 = .ok (.iconst 0, 1) := by decide +kernel
theorem dX10_greatestDivisor_5 : decode cX10_greatestDivisor 5 = .ok (.istore 4, 2) := by decide +kernel
theorem dX10_greatestDivisor_7 : decode cX10_greatestDivisor 7 = .ok (.iload 4, 2) := by decide +kernel
theorem dX10_greatestDivisor_9 : decode cX10_greatestDivisor 9 = .ok (.bipush 64, 2) := by decide +kernel
theorem dX10_greatestDivisor_11 : decode cX10_greatestDivisor 11 = .ok (.if_icmp .ge 23, 3) := by decide +kernel
theorem dX10_greatestDivisor_14 : decode cX10_greatestDivisor 14 = .ok (.iload_n 3, 1) := by decide +kernel
theorem dX10_greatestDivisor_15 : decode cX10_greatestDivisor 15 = .ok (.ifCond .eq 19, 3) := by decide +kernel
theorem dX10_greatestDivisor_18 : decode cX10_greatestDivisor 18 = .ok (.iload_n 2, 1) := by decide +kernel
theorem dX10_greatestDivisor_19 : decode cX10_greatestDivisor 19 = .ok (.iload_n 3, 1) := by decide +kernel
theorem dX10_greatestDivisor_20 : decode cX10_greatestDivisor 20 = .ok (.irem, 1) := by decide +kernel
theorem dX10_greatestDivisor_21 : decode cX10_greatestDivisor 21 = .ok (.istore 5, 2) := by decide +kernel
theorem dX10_greatestDivisor_23 : decode cX10_greatestDivisor 23 = .ok (.iload_n 3, 1) := by decide +kernel
theorem dX10_greatestDivisor_24 : decode cX10_greatestDivisor 24 = .ok (.istore_n 2, 1) := by decide +kernel
theorem dX10_greatestDivisor_25 : decode cX10_greatestDivisor 25 = .ok (.iload 5, 2) := by decide +kernel
theorem dX10_greatestDivisor_27 : decode cX10_greatestDivisor 27 = .ok (.istore_n 3, 1) := by decide +kernel
theorem dX10_greatestDivisor_28 : decode cX10_greatestDivisor 28 = .ok (.iinc 4 1, 3) := by decide +kernel
theorem dX10_greatestDivisor_31 : decode cX10_greatestDivisor 31 = .ok (.goto (-24), 3) := by decide +kernel
theorem dX10_greatestDivisor_34 : decode cX10_greatestDivisor 34 = .ok (.iload_n 2, 1) := by decide +kernel
theorem dX10_greatestDivisor_35 : decode cX10_greatestDivisor 35 = .ok (.ireturn, 1) := by decide +kernel
theorem dJ6_bitCount_0f7a4_0 : decode cJ6_bitCount_0f7a4 0 = .ok (.iload_n 0, 1) := by decide +kernel
theorem dJ6_bitCount_0f7a4_1 : decode cJ6_bitCount_0f7a4 1 = .ok (.iload_n 0, 1) := by decide +kernel
theorem dJ6_bitCount_0f7a4_2 : decode cJ6_bitCount_0f7a4 2 = .ok (.iconst 1, 1) := by decide +kernel
theorem dJ6_bitCount_0f7a4_3 : decode cJ6_bitCount_0f7a4 3 = .ok (.iushr, 1) := by decide +kernel
theorem dJ6_bitCount_0f7a4_4 : decode cJ6_bitCount_0f7a4 4 = .ok (.ldc_w 265, 3) := by decide +kernel
theorem dJ6_bitCount_0f7a4_7 : decode cJ6_bitCount_0f7a4 7 = .ok (.iand, 1) := by decide +kernel
theorem dJ6_bitCount_0f7a4_8 : decode cJ6_bitCount_0f7a4 8 = .ok (.isub, 1) := by decide +kernel
theorem dJ6_bitCount_0f7a4_9 : decode cJ6_bitCount_0f7a4 9 = .ok (.istore_n 0, 1) := by decide +kernel
theorem dJ6_bitCount_0f7a4_10 : decode cJ6_bitCount_0f7a4 10 = .ok (.iload_n 0, 1) := by decide +kernel
theorem dJ6_bitCount_0f7a4_11 : decode cJ6_bitCount_0f7a4 11 = .ok (.ldc_w 266, 3) := by decide +kernel
theorem dJ6_bitCount_0f7a4_14 : decode cJ6_bitCount_0f7a4 14 = .ok (.iand, 1) := by decide +kernel
theorem dJ6_bitCount_0f7a4_15 : decode cJ6_bitCount_0f7a4 15 = .ok (.iload_n 0, 1) := by decide +kernel
theorem dJ6_bitCount_0f7a4_16 : decode cJ6_bitCount_0f7a4 16 = .ok (.iconst 2, 1) := by decide +kernel
theorem dJ6_bitCount_0f7a4_17 : decode cJ6_bitCount_0f7a4 17 = .ok (.iushr, 1) := by decide +kernel
theorem dJ6_bitCount_0f7a4_18 : decode cJ6_bitCount_0f7a4 18 = .ok (.ldc_w 266, 3) := by decide +kernel
theorem dJ6_bitCount_0f7a4_21 : decode cJ6_bitCount_0f7a4 21 = .ok (.iand, 1) := by decide +kernel
theorem dJ6_bitCount_0f7a4_22 : decode cJ6_bitCount_0f7a4 22 = .ok (.iadd, 1) := by decide +kernel
theorem dJ6_bitCount_0f7a4_23 : decode cJ6_bitCount_0f7a4 23 = .ok (.istore_n 0, 1) := by decide +kernel
theorem dJ6_bitCount_0f7a4_24 : decode cJ6_bitCount_0f7a4 24 = .ok (.iload_n 0, 1) := by decide +kernel
theorem dJ6_bitCount_0f7a4_25 : decode cJ6_bitCount_0f7a4 25 = .ok (.iload_n 0, 1) := by decide +kernel
theorem dJ6_bitCount_0f7a4_26 : decode cJ6_bitCount_0f7a4 26 = .ok (.iconst 4, 1) := by decide +kernel
theorem dJ6_bitCount_0f7a4_27 : decode cJ6_bitCount_0f7a4 27 = .ok (.iushr, 1) := by decide +kernel
theorem dJ6_bitCount_0f7a4_28 : decode cJ6_bitCount_0f7a4 28 = .ok (.iadd, 1) := by decide +kernel
theorem dJ6_bitCount_0f7a4_29 : decode cJ6_bitCount_0f7a4 29 = .ok (.ldc_w 267, 3) := by decide +kernel
theorem dJ6_bitCount_0f7a4_32 : decode cJ6_bitCount_0f7a4 32 = .ok (.iand, 1) := by decide +kernel
theorem dJ6_bitCount_0f7a4_33 : decode cJ6_bitCount_0f7a4 33 = .ok (.istore_n 0, 1) := by decide +kernel
theorem dJ6_bitCount_0f7a4_34 : decode cJ6_bitCount_0f7a4 34 = .ok (.iload_n 0, 1) := by decide +kernel
theorem dJ6_bitCount_0f7a4_35 : decode cJ6_bitCount_0f7a4 35 = .ok (.iload_n 0, 1) := by decide +kernel
theorem dJ6_bitCount_0f7a4_36 : decode cJ6_bitCount_0f7a4 36 = .ok (.bipush 8, 2) := by decide +kernel
theorem dJ6_bitCount_0f7a4_38 : decode cJ6_bitCount_0f7a4 38 = .ok (.iushr, 1) := by decide +kernel
theorem dJ6_bitCount_0f7a4_39 : decode cJ6_bitCount_0f7a4 39 = .ok (.iadd, 1) := by decide +kernel
theorem dJ6_bitCount_0f7a4_40 : decode cJ6_bitCount_0f7a4 40 = .ok (.istore_n 0, 1) := by decide +kernel
theorem dJ6_bitCount_0f7a4_41 : decode cJ6_bitCount_0f7a4 41 = .ok (.iload_n 0, 1) := by decide +kernel
theorem dJ6_bitCount_0f7a4_42 : decode cJ6_bitCount_0f7a4 42 = .ok (.iload_n 0, 1) := by decide +kernel
theorem dJ6_bitCount_0f7a4_43 : decode cJ6_bitCount_0f7a4 43 = .ok (.bipush 16, 2) := by decide +kernel
theorem dJ6_bitCount_0f7a4_45 : decode cJ6_bitCount_0f7a4 45 = .ok (.iushr, 1) := by decide +kernel
theorem dJ6_bitCount_0f7a4_46 : decode cJ6_bitCount_0f7a4 46 = .ok (.iadd, 1) := by decide +kernel
theorem dJ6_bitCount_0f7a4_47 : decode cJ6_bitCount_0f7a4 47 = .ok (.istore_n 0, 1) := by decide +kernel
theorem dJ6_bitCount_0f7a4_48 : decode cJ6_bitCount_0f7a4 48 = .ok (.iload_n 0, 1) := by decide +kernel
theorem dJ6_bitCount_0f7a4_49 : decode cJ6_bitCount_0f7a4 49 = .ok (.bipush 63, 2) := by decide +kernel
theorem dJ6_bitCount_0f7a4_51 : decode cJ6_bitCount_0f7a4 51 = .ok (.iand, 1) := by decide +kernel
theorem dJ6_bitCount_0f7a4_52 : decode cJ6_bitCount_0f7a4 52 = .ok (.ireturn, 1) := by decide +kernel
theorem dJ9_abs_0f7a4_0 : decode cJ9_abs_0f7a4 0 = .ok (.iload_n 0, 1) := by decide +kernel
theorem dJ9_abs_0f7a4_1 : decode cJ9_abs_0f7a4 1 = .ok (.ifCond .ge 8, 3) := by decide +kernel
theorem dJ9_abs_0f7a4_4 : decode cJ9_abs_0f7a4 4 = .ok (.iload_n 0, 1) := by decide +kernel
theorem dJ9_abs_0f7a4_5 : decode cJ9_abs_0f7a4 5 = .ok (.ineg, 1) := by decide +kernel
theorem dJ9_abs_0f7a4_6 : decode cJ9_abs_0f7a4 6 = .ok (.goto 4, 3) := by decide +kernel
theorem dJ9_abs_0f7a4_9 : decode cJ9_abs_0f7a4 9 = .ok (.iload_n 0, 1) := by decide +kernel
theorem dJ9_abs_0f7a4_10 : decode cJ9_abs_0f7a4 10 = .ok (.ireturn, 1) := by decide +kernel
theorem dJ9_max_7cf53_0 : decode cJ9_max_7cf53 0 = .ok (.iload_n 0, 1) := by decide +kernel
theorem dJ9_max_7cf53_1 : decode cJ9_max_7cf53 1 = .ok (.iload_n 1, 1) := by decide +kernel
theorem dJ9_max_7cf53_2 : decode cJ9_max_7cf53 2 = .ok (.if_icmp .lt 7, 3) := by decide +kernel
theorem dJ9_max_7cf53_5 : decode cJ9_max_7cf53 5 = .ok (.iload_n 0, 1) := by decide +kernel
theorem dJ9_max_7cf53_6 : decode cJ9_max_7cf53 6 = .ok (.goto 4, 3) := by decide +kernel
theorem dJ9_max_7cf53_9 : decode cJ9_max_7cf53 9 = .ok (.iload_n 1, 1) := by decide +kernel
theorem dJ9_max_7cf53_10 : decode cJ9_max_7cf53 10 = .ok (.ireturn, 1) := by decide +kernel
theorem dJ9_min_7cf53_0 : decode cJ9_min_7cf53 0 = .ok (.iload_n 0, 1) := by decide +kernel
theorem dJ9_min_7cf53_1 : decode cJ9_min_7cf53 1 = .ok (.iload_n 1, 1) := by decide +kernel
theorem dJ9_min_7cf53_2 : decode cJ9_min_7cf53 2 = .ok (.if_icmp .gt 7, 3) := by decide +kernel
theorem dJ9_min_7cf53_5 : decode cJ9_min_7cf53 5 = .ok (.iload_n 0, 1) := by decide +kernel
theorem dJ9_min_7cf53_6 : decode cJ9_min_7cf53 6 = .ok (.goto 4, 3) := by decide +kernel
theorem dJ9_min_7cf53_9 : decode cJ9_min_7cf53 9 = .ok (.iload_n 1, 1) := by decide +kernel
theorem dJ9_min_7cf53_10 : decode cJ9_min_7cf53 10 = .ok (.ireturn, 1) := by decide +kernel
