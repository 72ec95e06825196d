-- decode rows (printed)
theorem dX11_init_0 : decode cX11_init 0 = .ok (.aload_n 0, 1) := by decide +kernel
theorem dX11_init_1 : decode cX11_init 1 = .ok (.invokespecial 1, 3) := by decide +kernel
theorem dX11_init_4 : decode cX11_init 4 = .ok (.aload_n 0, 1) := by decide +kernel
theorem dX11_init_5 : decode cX11_init 5 = .ok (.new 7, 3) := by decide +kernel
theorem dX11_init_8 : decode cX11_init 8 = .ok (.dup, 1) := by decide +kernel
theorem dX11_init_9 : decode cX11_init 9 = .ok (.invokespecial 9, 3) := by decide +kernel
theorem dX11_init_12 : decode cX11_init 12 = .ok (.putfield 10, 3) := by decide +kernel
theorem dX11_init_15 : decode cX11_init 15 = .ok (.aload_n 0, 1) := by decide +kernel
theorem dX11_init_16 : decode cX11_init 16 = .ok (.bipush 6, 2) := by decide +kernel
theorem dX11_init_18 : decode cX11_init 18 = .ok (.anewarray 16, 3) := by decide +kernel
theorem dX11_init_21 : decode cX11_init 21 = .ok (.putfield 18, 3) := by decide +kernel
theorem dX11_init_24 : decode cX11_init 24 = .ok (.aload_n 0, 1) := by decide +kernel
theorem dX11_init_25 : decode cX11_init 25 = .ok (.iconst 4, 1) := by decide +kernel
theorem dX11_init_26 : decode cX11_init 26 = .ok (.anewarray 22, 3) := by decide +kernel
theorem dX11_init_29 : decode cX11_init 29 = .ok (.putfield 24, 3) := by decide +kernel
theorem dX11_init_32 : decode cX11_init 32 = .ok (.aload_n 0, 1) := by decide +kernel
theorem dX11_init_33 : decode cX11_init 33 = .ok (.new 28, 3) := by decide +kernel
theorem dX11_init_36 : decode cX11_init 36 = .ok (.dup, 1) := by decide +kernel
theorem dX11_init_37 : decode cX11_init 37 = .ok (.invokespecial 30, 3) := by decide +kernel
theorem dX11_init_40 : decode cX11_init 40 = .ok (.putfield 31, 3) := by decide +kernel
theorem dX11_init_43 : decode cX11_init 43 = .ok (.aload_n 0, 1) := by decide +kernel
theorem dX11_init_44 : decode cX11_init 44 = .ok (.aload_n 0, 1) := by decide +kernel
theorem dX11_init_45 : decode cX11_init 45 = .ok (.getfield 31, 3) := by decide +kernel
theorem dX11_init_48 : decode cX11_init 48 = .ok (.getfield 35, 3) := by decide +kernel
theorem dX11_init_51 : decode cX11_init 51 = .ok (.putfield 39, 3) := by decide +kernel
theorem dX11_init_54 : decode cX11_init 54 = .ok (.aload_n 0, 1) := by decide +kernel
theorem dX11_init_55 : decode cX11_init 55 = .ok (.new 40, 3) := by decide +kernel
theorem dX11_init_58 : decode cX11_init 58 = .ok (.dup, 1) := by decide +kernel
theorem dX11_init_59 : decode cX11_init 59 = .ok (.invokespecial 42, 3) := by decide +kernel
theorem dX11_init_62 : decode cX11_init 62 = .ok (.putfield 43, 3) := by decide +kernel
theorem dX11_init_65 : decode cX11_init 65 = .ok (.aload_n 0, 1) := by decide +kernel
theorem dX11_init_66 : decode cX11_init 66 = .ok (.new 47, 3) := by decide +kernel
theorem dX11_init_69 : decode cX11_init 69 = .ok (.dup, 1) := by decide +kernel
theorem dX11_init_70 : decode cX11_init 70 = .ok (.invokespecial 49, 3) := by decide +kernel
theorem dX11_init_73 : decode cX11_init 73 = .ok (.putfield 50, 3) := by decide +kernel
theorem dX11_init_76 : decode cX11_init 76 = .ok (.aload_n 0, 1) := by decide +kernel
theorem dX11_init_77 : decode cX11_init 77 = .ok (.new 54, 3) := by decide +kernel
theorem dX11_init_80 : decode cX11_init 80 = .ok (.dup, 1) := by decide +kernel
theorem dX11_init_81 : decode cX11_init 81 = .ok (.invokespecial 56, 3) := by decide +kernel
theorem dX11_init_84 : decode cX11_init 84 = .ok (.putfield 57, 3) := by decide +kernel
theorem dX11_init_87 : decode cX11_init 87 = .ok (.aload_n 0, 1) := by decide +kernel
theorem dX11_init_88 : decode cX11_init 88 = .ok (.new 61, 3) := by decide +kernel
theorem dX11_init_91 : decode cX11_init 91 = .ok (.dup, 1) := by decide +kernel
theorem dX11_init_92 : decode cX11_init 92 = .ok (.aload_n 0, 1) := by decide +kernel
theorem dX11_init_93 : decode cX11_init 93 = .ok (.getfield 31, 3) := by decide +kernel
theorem dX11_init_96 : decode cX11_init 96 = .ok (.aload_n 0, 1) := by decide +kernel
theorem dX11_init_97 : decode cX11_init 97 = .ok (.getfield 43, 3) := by decide +kernel
theorem dX11_init_100 : decode cX11_init 100 = .ok (.invokespecial 63, 3) := by decide +kernel
theorem dX11_init_103 : decode cX11_init 103 = .ok (.putfield 66, 3) := by decide +kernel
theorem dX11_init_106 : decode cX11_init 106 = .ok (.aload_n 0, 1) := by decide +kernel
theorem dX11_init_107 : decode cX11_init 107 = .ok (.new 70, 3) := by decide +kernel
theorem dX11_init_110 : decode cX11_init 110 = .ok (.dup, 1) := by decide +kernel
theorem dX11_init_111 : decode cX11_init 111 = .ok (.aload_n 0, 1) := by decide +kernel
theorem dX11_init_112 : decode cX11_init 112 = .ok (.getfield 31, 3) := by decide +kernel
theorem dX11_init_115 : decode cX11_init 115 = .ok (.invokespecial 72, 3) := by decide +kernel
theorem dX11_init_118 : decode cX11_init 118 = .ok (.putfield 75, 3) := by decide +kernel
theorem dX11_init_121 : decode cX11_init 121 = .ok (.aload_n 0, 1) := by decide +kernel
theorem dX11_init_122 : decode cX11_init 122 = .ok (.new 79, 3) := by decide +kernel
theorem dX11_init_125 : decode cX11_init 125 = .ok (.dup, 1) := by decide +kernel
theorem dX11_init_126 : decode cX11_init 126 = .ok (.aload_n 0, 1) := by decide +kernel
theorem dX11_init_127 : decode cX11_init 127 = .ok (.getfield 31, 3) := by decide +kernel
theorem dX11_init_130 : decode cX11_init 130 = .ok (.invokespecial 81, 3) := by decide +kernel
theorem dX11_init_133 : decode cX11_init 133 = .ok (.putfield 82, 3) := by decide +kernel
theorem dX11_init_136 : decode cX11_init 136 = .ok (.iconst 0, 1) := by decide +kernel
theorem dX11_init_137 : decode cX11_init 137 = .ok (.istore_n 1, 1) := by decide +kernel
theorem dX11_init_138 : decode cX11_init 138 = .ok (.iload_n 1, 1) := by decide +kernel
theorem dX11_init_139 : decode cX11_init 139 = .ok (.bipush 6, 2) := by decide +kernel
theorem dX11_init_141 : decode cX11_init 141 = .ok (.if_icmp .ge 22, 3) := by decide +kernel
theorem dX11_init_144 : decode cX11_init 144 = .ok (.aload_n 0, 1) := by decide +kernel
theorem dX11_init_145 : decode cX11_init 145 = .ok (.getfield 18, 3) := by decide +kernel
theorem dX11_init_148 : decode cX11_init 148 = .ok (.iload_n 1, 1) := by decide +kernel
theorem dX11_init_149 : decode cX11_init 149 = .ok (.new 16, 3) := by decide +kernel
theorem dX11_init_152 : decode cX11_init 152 = .ok (.dup, 1) := by decide +kernel
theorem dX11_init_153 : decode cX11_init 153 = .ok (.invokespecial 86, 3) := by decide +kernel
theorem dX11_init_156 : decode cX11_init 156 = .ok (.aastore, 1) := by decide +kernel
theorem dX11_init_157 : decode cX11_init 157 = .ok (.iinc 1 1, 3) := by decide +kernel
theorem dX11_init_160 : decode cX11_init 160 = .ok (.goto (-22), 3) := by decide +kernel
theorem dX11_init_163 : decode cX11_init 163 = .ok (.iconst 0, 1) := by decide +kernel
theorem dX11_init_164 : decode cX11_init 164 = .ok (.istore_n 1, 1) := by decide +kernel
theorem dX11_init_165 : decode cX11_init 165 = .ok (.iload_n 1, 1) := by decide +kernel
theorem dX11_init_166 : decode cX11_init 166 = .ok (.iconst 4, 1) := by decide +kernel
theorem dX11_init_167 : decode cX11_init 167 = .ok (.if_icmp .ge 22, 3) := by decide +kernel
theorem dX11_init_170 : decode cX11_init 170 = .ok (.aload_n 0, 1) := by decide +kernel
theorem dX11_init_171 : decode cX11_init 171 = .ok (.getfield 24, 3) := by decide +kernel
theorem dX11_init_174 : decode cX11_init 174 = .ok (.iload_n 1, 1) := by decide +kernel
theorem dX11_init_175 : decode cX11_init 175 = .ok (.new 22, 3) := by decide +kernel
theorem dX11_init_178 : decode cX11_init 178 = .ok (.dup, 1) := by decide +kernel
theorem dX11_init_179 : decode cX11_init 179 = .ok (.invokespecial 87, 3) := by decide +kernel
theorem dX11_init_182 : decode cX11_init 182 = .ok (.aastore, 1) := by decide +kernel
theorem dX11_init_183 : decode cX11_init 183 = .ok (.iinc 1 1, 3) := by decide +kernel
theorem dX11_init_186 : decode cX11_init 186 = .ok (.goto (-21), 3) := by decide +kernel
theorem dX11_init_189 : decode cX11_init 189 = .ok (.return_, 1) := by decide +kernel
theorem dX11_row_0 : decode cX11_row 0 = .ok (.aload_n 0, 1) := by decide +kernel
theorem dX11_row_1 : decode cX11_row 1 = .ok (.iload_n 1, 1) := by decide +kernel
theorem dX11_row_2 : decode cX11_row 2 = .ok (.invokevirtual 88, 3) := by decide +kernel
theorem dX11_row_5 : decode cX11_row 5 = .ok (.astore_n 3, 1) := by decide +kernel
theorem dX11_row_6 : decode cX11_row 6 = .ok (.aload_n 3, 1) := by decide +kernel
theorem dX11_row_7 : decode cX11_row 7 = .ok (.ifnull 9, 3) := by decide +kernel
theorem dX11_row_10 : decode cX11_row 10 = .ok (.iload_n 2, 1) := by decide +kernel
theorem dX11_row_11 : decode cX11_row 11 = .ok (.bipush 60, 2) := by decide +kernel
theorem dX11_row_13 : decode cX11_row 13 = .ok (.if_icmp .le 5, 3) := by decide +kernel
theorem dX11_row_16 : decode cX11_row 16 = .ok (.iconst (-1), 1) := by decide +kernel
theorem dX11_row_17 : decode cX11_row 17 = .ok (.ireturn, 1) := by decide +kernel
theorem dX11_row_18 : decode cX11_row 18 = .ok (.iload_n 2, 1) := by decide +kernel
theorem dX11_row_19 : decode cX11_row 19 = .ok (.ifCond .ge 12, 3) := by decide +kernel
theorem dX11_row_22 : decode cX11_row 22 = .ok (.aload_n 0, 1) := by decide +kernel
theorem dX11_row_23 : decode cX11_row 23 = .ok (.getfield 10, 3) := by decide +kernel
theorem dX11_row_26 : decode cX11_row 26 = .ok (.iconst 5, 1) := by decide +kernel
theorem dX11_row_27 : decode cX11_row 27 = .ok (.invokevirtual 92, 3) := by decide +kernel
theorem dX11_row_30 : decode cX11_row 30 = .ok (.ireturn, 1) := by decide +kernel
theorem dX11_row_31 : decode cX11_row 31 = .ok (.aload_n 3, 1) := by decide +kernel
theorem dX11_row_32 : decode cX11_row 32 = .ok (.iload_n 2, 1) := by decide +kernel
theorem dX11_row_33 : decode cX11_row 33 = .ok (.invokevirtual 96, 3) := by decide +kernel
theorem dX11_row_36 : decode cX11_row 36 = .ok (.iload_n 2, 1) := by decide +kernel
theorem dX11_row_37 : decode cX11_row 37 = .ok (.ireturn, 1) := by decide +kernel
theorem dX11_lay_0 : decode cX11_lay 0 = .ok (.aload_n 0, 1) := by decide +kernel
theorem dX11_lay_1 : decode cX11_lay 1 = .ok (.iload_n 1, 1) := by decide +kernel
theorem dX11_lay_2 : decode cX11_lay 2 = .ok (.invokevirtual 88, 3) := by decide +kernel
theorem dX11_lay_5 : decode cX11_lay 5 = .ok (.astore 4, 2) := by decide +kernel
theorem dX11_lay_7 : decode cX11_lay 7 = .ok (.aload 4, 2) := by decide +kernel
theorem dX11_lay_9 : decode cX11_lay 9 = .ok (.ifnonnull 5, 3) := by decide +kernel
theorem dX11_lay_12 : decode cX11_lay 12 = .ok (.iconst (-1), 1) := by decide +kernel
theorem dX11_lay_13 : decode cX11_lay 13 = .ok (.ireturn, 1) := by decide +kernel
theorem dX11_lay_14 : decode cX11_lay 14 = .ok (.aload_n 0, 1) := by decide +kernel
theorem dX11_lay_15 : decode cX11_lay 15 = .ok (.aload 4, 2) := by decide +kernel
theorem dX11_lay_17 : decode cX11_lay 17 = .ok (.iload_n 2, 1) := by decide +kernel
theorem dX11_lay_18 : decode cX11_lay 18 = .ok (.invokevirtual 100, 3) := by decide +kernel
theorem dX11_lay_21 : decode cX11_lay 21 = .ok (.istore 5, 2) := by decide +kernel
theorem dX11_lay_23 : decode cX11_lay 23 = .ok (.iload 5, 2) := by decide +kernel
theorem dX11_lay_25 : decode cX11_lay 25 = .ok (.ifCond .eq 6, 3) := by decide +kernel
theorem dX11_lay_28 : decode cX11_lay 28 = .ok (.iload 5, 2) := by decide +kernel
theorem dX11_lay_30 : decode cX11_lay 30 = .ok (.ireturn, 1) := by decide +kernel
theorem dX11_lay_31 : decode cX11_lay 31 = .ok (.aload_n 0, 1) := by decide +kernel
theorem dX11_lay_32 : decode cX11_lay 32 = .ok (.getfield 10, 3) := by decide +kernel
theorem dX11_lay_35 : decode cX11_lay 35 = .ok (.aload 4, 2) := by decide +kernel
theorem dX11_lay_37 : decode cX11_lay 37 = .ok (.iload_n 2, 1) := by decide +kernel
theorem dX11_lay_38 : decode cX11_lay 38 = .ok (.invokevirtual 104, 3) := by decide +kernel
theorem dX11_lay_41 : decode cX11_lay 41 = .ok (.invokevirtual 107, 3) := by decide +kernel
theorem dX11_lay_44 : decode cX11_lay 44 = .ok (.aload 4, 2) := by decide +kernel
theorem dX11_lay_46 : decode cX11_lay 46 = .ok (.iload_n 2, 1) := by decide +kernel
theorem dX11_lay_47 : decode cX11_lay 47 = .ok (.iload_n 3, 1) := by decide +kernel
theorem dX11_lay_48 : decode cX11_lay 48 = .ok (.invokevirtual 110, 3) := by decide +kernel
theorem dX11_lay_51 : decode cX11_lay 51 = .ok (.iconst 1, 1) := by decide +kernel
theorem dX11_lay_52 : decode cX11_lay 52 = .ok (.ireturn, 1) := by decide +kernel
theorem dX11_at_0 : decode cX11_at 0 = .ok (.aload_n 0, 1) := by decide +kernel
theorem dX11_at_1 : decode cX11_at 1 = .ok (.iload_n 1, 1) := by decide +kernel
theorem dX11_at_2 : decode cX11_at 2 = .ok (.invokevirtual 88, 3) := by decide +kernel
theorem dX11_at_5 : decode cX11_at 5 = .ok (.astore_n 3, 1) := by decide +kernel
theorem dX11_at_6 : decode cX11_at 6 = .ok (.aload_n 3, 1) := by decide +kernel
theorem dX11_at_7 : decode cX11_at 7 = .ok (.ifnonnull 5, 3) := by decide +kernel
theorem dX11_at_10 : decode cX11_at 10 = .ok (.iconst (-1), 1) := by decide +kernel
theorem dX11_at_11 : decode cX11_at 11 = .ok (.ireturn, 1) := by decide +kernel
theorem dX11_at_12 : decode cX11_at 12 = .ok (.aload_n 0, 1) := by decide +kernel
theorem dX11_at_13 : decode cX11_at 13 = .ok (.aload_n 3, 1) := by decide +kernel
theorem dX11_at_14 : decode cX11_at 14 = .ok (.iload_n 2, 1) := by decide +kernel
theorem dX11_at_15 : decode cX11_at 15 = .ok (.invokevirtual 100, 3) := by decide +kernel
theorem dX11_at_18 : decode cX11_at 18 = .ok (.istore 4, 2) := by decide +kernel
theorem dX11_at_20 : decode cX11_at 20 = .ok (.iload 4, 2) := by decide +kernel
theorem dX11_at_22 : decode cX11_at 22 = .ok (.ifCond .eq 6, 3) := by decide +kernel
theorem dX11_at_25 : decode cX11_at 25 = .ok (.iload 4, 2) := by decide +kernel
theorem dX11_at_27 : decode cX11_at 27 = .ok (.ireturn, 1) := by decide +kernel
theorem dX11_at_28 : decode cX11_at 28 = .ok (.aload_n 0, 1) := by decide +kernel
theorem dX11_at_29 : decode cX11_at 29 = .ok (.getfield 10, 3) := by decide +kernel
theorem dX11_at_32 : decode cX11_at 32 = .ok (.aload_n 3, 1) := by decide +kernel
theorem dX11_at_33 : decode cX11_at 33 = .ok (.iload_n 2, 1) := by decide +kernel
theorem dX11_at_34 : decode cX11_at 34 = .ok (.invokevirtual 104, 3) := by decide +kernel
theorem dX11_at_37 : decode cX11_at 37 = .ok (.invokevirtual 107, 3) := by decide +kernel
theorem dX11_at_40 : decode cX11_at 40 = .ok (.iconst 1, 1) := by decide +kernel
theorem dX11_at_41 : decode cX11_at 41 = .ok (.ireturn, 1) := by decide +kernel
theorem dX11_tear_0 : decode cX11_tear 0 = .ok (.aload_n 0, 1) := by decide +kernel
theorem dX11_tear_1 : decode cX11_tear 1 = .ok (.iload_n 1, 1) := by decide +kernel
theorem dX11_tear_2 : decode cX11_tear 2 = .ok (.invokevirtual 88, 3) := by decide +kernel
theorem dX11_tear_5 : decode cX11_tear 5 = .ok (.astore_n 2, 1) := by decide +kernel
theorem dX11_tear_6 : decode cX11_tear 6 = .ok (.aload_n 2, 1) := by decide +kernel
theorem dX11_tear_7 : decode cX11_tear 7 = .ok (.ifnonnull 5, 3) := by decide +kernel
theorem dX11_tear_10 : decode cX11_tear 10 = .ok (.iconst (-1), 1) := by decide +kernel
theorem dX11_tear_11 : decode cX11_tear 11 = .ok (.ireturn, 1) := by decide +kernel
theorem dX11_tear_12 : decode cX11_tear 12 = .ok (.aload_n 2, 1) := by decide +kernel
theorem dX11_tear_13 : decode cX11_tear 13 = .ok (.invokevirtual 114, 3) := by decide +kernel
theorem dX11_tear_16 : decode cX11_tear 16 = .ok (.ifCond .eq 12, 3) := by decide +kernel
theorem dX11_tear_19 : decode cX11_tear 19 = .ok (.aload_n 0, 1) := by decide +kernel
theorem dX11_tear_20 : decode cX11_tear 20 = .ok (.getfield 10, 3) := by decide +kernel
theorem dX11_tear_23 : decode cX11_tear 23 = .ok (.iconst 1, 1) := by decide +kernel
theorem dX11_tear_24 : decode cX11_tear 24 = .ok (.invokevirtual 92, 3) := by decide +kernel
theorem dX11_tear_27 : decode cX11_tear 27 = .ok (.ireturn, 1) := by decide +kernel
theorem dX11_tear_28 : decode cX11_tear 28 = .ok (.aload_n 2, 1) := by decide +kernel
theorem dX11_tear_29 : decode cX11_tear 29 = .ok (.invokevirtual 118, 3) := by decide +kernel
theorem dX11_tear_32 : decode cX11_tear 32 = .ok (.iconst 1, 1) := by decide +kernel
theorem dX11_tear_33 : decode cX11_tear 33 = .ok (.ireturn, 1) := by decide +kernel
theorem dX11_copy_0 : decode cX11_copy 0 = .ok (.aload_n 0, 1) := by decide +kernel
theorem dX11_copy_1 : decode cX11_copy 1 = .ok (.iload_n 1, 1) := by decide +kernel
theorem dX11_copy_2 : decode cX11_copy 2 = .ok (.invokevirtual 88, 3) := by decide +kernel
theorem dX11_copy_5 : decode cX11_copy 5 = .ok (.astore 6, 2) := by decide +kernel
theorem dX11_copy_7 : decode cX11_copy 7 = .ok (.aload_n 0, 1) := by decide +kernel
theorem dX11_copy_8 : decode cX11_copy 8 = .ok (.iload_n 3, 1) := by decide +kernel
theorem dX11_copy_9 : decode cX11_copy 9 = .ok (.invokevirtual 88, 3) := by decide +kernel
theorem dX11_copy_12 : decode cX11_copy 12 = .ok (.astore 7, 2) := by decide +kernel
theorem dX11_copy_14 : decode cX11_copy 14 = .ok (.aload 6, 2) := by decide +kernel
theorem dX11_copy_16 : decode cX11_copy 16 = .ok (.ifnull 8, 3) := by decide +kernel
theorem dX11_copy_19 : decode cX11_copy 19 = .ok (.aload 7, 2) := by decide +kernel
theorem dX11_copy_21 : decode cX11_copy 21 = .ok (.ifnonnull 5, 3) := by decide +kernel
theorem dX11_copy_24 : decode cX11_copy 24 = .ok (.iconst (-1), 1) := by decide +kernel
theorem dX11_copy_25 : decode cX11_copy 25 = .ok (.ireturn, 1) := by decide +kernel
theorem dX11_copy_26 : decode cX11_copy 26 = .ok (.iload 5, 2) := by decide +kernel
theorem dX11_copy_28 : decode cX11_copy 28 = .ok (.ifCond .ge 12, 3) := by decide +kernel
theorem dX11_copy_31 : decode cX11_copy 31 = .ok (.aload_n 0, 1) := by decide +kernel
theorem dX11_copy_32 : decode cX11_copy 32 = .ok (.getfield 10, 3) := by decide +kernel
theorem dX11_copy_35 : decode cX11_copy 35 = .ok (.iconst 5, 1) := by decide +kernel
theorem dX11_copy_36 : decode cX11_copy 36 = .ok (.invokevirtual 92, 3) := by decide +kernel
theorem dX11_copy_39 : decode cX11_copy 39 = .ok (.ireturn, 1) := by decide +kernel
theorem dX11_copy_40 : decode cX11_copy 40 = .ok (.aload 6, 2) := by decide +kernel
theorem dX11_copy_42 : decode cX11_copy 42 = .ok (.invokevirtual 114, 3) := by decide +kernel
theorem dX11_copy_45 : decode cX11_copy 45 = .ok (.ifCond .ne 11, 3) := by decide +kernel
theorem dX11_copy_48 : decode cX11_copy 48 = .ok (.aload 7, 2) := by decide +kernel
theorem dX11_copy_50 : decode cX11_copy 50 = .ok (.invokevirtual 114, 3) := by decide +kernel
theorem dX11_copy_53 : decode cX11_copy 53 = .ok (.ifCond .eq 12, 3) := by decide +kernel
theorem dX11_copy_56 : decode cX11_copy 56 = .ok (.aload_n 0, 1) := by decide +kernel
theorem dX11_copy_57 : decode cX11_copy 57 = .ok (.getfield 10, 3) := by decide +kernel
theorem dX11_copy_60 : decode cX11_copy 60 = .ok (.iconst 1, 1) := by decide +kernel
theorem dX11_copy_61 : decode cX11_copy 61 = .ok (.invokevirtual 92, 3) := by decide +kernel
theorem dX11_copy_64 : decode cX11_copy 64 = .ok (.ireturn, 1) := by decide +kernel
theorem dX11_copy_65 : decode cX11_copy 65 = .ok (.aload 6, 2) := by decide +kernel
theorem dX11_copy_67 : decode cX11_copy 67 = .ok (.iload_n 2, 1) := by decide +kernel
theorem dX11_copy_68 : decode cX11_copy 68 = .ok (.iload 5, 2) := by decide +kernel
theorem dX11_copy_70 : decode cX11_copy 70 = .ok (.invokevirtual 121, 3) := by decide +kernel
theorem dX11_copy_73 : decode cX11_copy 73 = .ok (.ifCond .eq 15, 3) := by decide +kernel
theorem dX11_copy_76 : decode cX11_copy 76 = .ok (.aload 7, 2) := by decide +kernel
theorem dX11_copy_78 : decode cX11_copy 78 = .ok (.iload 4, 2) := by decide +kernel
theorem dX11_copy_80 : decode cX11_copy 80 = .ok (.iload 5, 2) := by decide +kernel
theorem dX11_copy_82 : decode cX11_copy 82 = .ok (.invokevirtual 121, 3) := by decide +kernel
theorem dX11_copy_85 : decode cX11_copy 85 = .ok (.ifCond .ne 12, 3) := by decide +kernel
theorem dX11_copy_88 : decode cX11_copy 88 = .ok (.aload_n 0, 1) := by decide +kernel
theorem dX11_copy_89 : decode cX11_copy 89 = .ok (.getfield 10, 3) := by decide +kernel
theorem dX11_copy_92 : decode cX11_copy 92 = .ok (.iconst 2, 1) := by decide +kernel
theorem dX11_copy_93 : decode cX11_copy 93 = .ok (.invokevirtual 92, 3) := by decide +kernel
theorem dX11_copy_96 : decode cX11_copy 96 = .ok (.ireturn, 1) := by decide +kernel
theorem dX11_copy_97 : decode cX11_copy 97 = .ok (.aload 6, 2) := by decide +kernel
theorem dX11_copy_99 : decode cX11_copy 99 = .ok (.getfield 125, 3) := by decide +kernel
theorem dX11_copy_102 : decode cX11_copy 102 = .ok (.iload_n 2, 1) := by decide +kernel
theorem dX11_copy_103 : decode cX11_copy 103 = .ok (.aload 7, 2) := by decide +kernel
theorem dX11_copy_105 : decode cX11_copy 105 = .ok (.getfield 125, 3) := by decide +kernel
theorem dX11_copy_108 : decode cX11_copy 108 = .ok (.iload 4, 2) := by decide +kernel
theorem dX11_copy_110 : decode cX11_copy 110 = .ok (.iload 5, 2) := by decide +kernel
theorem dX11_copy_112 : decode cX11_copy 112 = .ok (.invokestatic 129, 3) := by decide +kernel
theorem dX11_copy_115 : decode cX11_copy 115 = .ok (.iconst 1, 1) := by decide +kernel
theorem dX11_copy_116 : decode cX11_copy 116 = .ok (.ireturn, 1) := by decide +kernel
theorem dX11_mean_0 : decode cX11_mean 0 = .ok (.aload_n 0, 1) := by decide +kernel
theorem dX11_mean_1 : decode cX11_mean 1 = .ok (.iload_n 1, 1) := by decide +kernel
theorem dX11_mean_2 : decode cX11_mean 2 = .ok (.invokevirtual 88, 3) := by decide +kernel
theorem dX11_mean_5 : decode cX11_mean 5 = .ok (.astore_n 2, 1) := by decide +kernel
theorem dX11_mean_6 : decode cX11_mean 6 = .ok (.aload_n 2, 1) := by decide +kernel
theorem dX11_mean_7 : decode cX11_mean 7 = .ok (.ifnonnull 5, 3) := by decide +kernel
theorem dX11_mean_10 : decode cX11_mean 10 = .ok (.iconst (-1), 1) := by decide +kernel
theorem dX11_mean_11 : decode cX11_mean 11 = .ok (.ireturn, 1) := by decide +kernel
theorem dX11_mean_12 : decode cX11_mean 12 = .ok (.aload_n 2, 1) := by decide +kernel
theorem dX11_mean_13 : decode cX11_mean 13 = .ok (.invokevirtual 114, 3) := by decide +kernel
theorem dX11_mean_16 : decode cX11_mean 16 = .ok (.ifCond .eq 12, 3) := by decide +kernel
theorem dX11_mean_19 : decode cX11_mean 19 = .ok (.aload_n 0, 1) := by decide +kernel
theorem dX11_mean_20 : decode cX11_mean 20 = .ok (.getfield 10, 3) := by decide +kernel
theorem dX11_mean_23 : decode cX11_mean 23 = .ok (.iconst 1, 1) := by decide +kernel
theorem dX11_mean_24 : decode cX11_mean 24 = .ok (.invokevirtual 92, 3) := by decide +kernel
theorem dX11_mean_27 : decode cX11_mean 27 = .ok (.ireturn, 1) := by decide +kernel
theorem dX11_mean_28 : decode cX11_mean 28 = .ok (.aload_n 2, 1) := by decide +kernel
theorem dX11_mean_29 : decode cX11_mean 29 = .ok (.getfield 135, 3) := by decide +kernel
theorem dX11_mean_32 : decode cX11_mean 32 = .ok (.ifCond .ne 12, 3) := by decide +kernel
theorem dX11_mean_35 : decode cX11_mean 35 = .ok (.aload_n 0, 1) := by decide +kernel
theorem dX11_mean_36 : decode cX11_mean 36 = .ok (.getfield 10, 3) := by decide +kernel
theorem dX11_mean_39 : decode cX11_mean 39 = .ok (.iconst 4, 1) := by decide +kernel
theorem dX11_mean_40 : decode cX11_mean 40 = .ok (.invokevirtual 92, 3) := by decide +kernel
theorem dX11_mean_43 : decode cX11_mean 43 = .ok (.ireturn, 1) := by decide +kernel
theorem dX11_mean_44 : decode cX11_mean 44 = .ok (.aload_n 0, 1) := by decide +kernel
theorem dX11_mean_45 : decode cX11_mean 45 = .ok (.getfield 10, 3) := by decide +kernel
theorem dX11_mean_48 : decode cX11_mean 48 = .ok (.aload_n 2, 1) := by decide +kernel
theorem dX11_mean_49 : decode cX11_mean 49 = .ok (.invokevirtual 139, 3) := by decide +kernel
theorem dX11_mean_52 : decode cX11_mean 52 = .ok (.aload_n 2, 1) := by decide +kernel
theorem dX11_mean_53 : decode cX11_mean 53 = .ok (.getfield 135, 3) := by decide +kernel
theorem dX11_mean_56 : decode cX11_mean 56 = .ok (.i2l, 1) := by decide +kernel
theorem dX11_mean_57 : decode cX11_mean 57 = .ok (.ldiv, 1) := by decide +kernel
theorem dX11_mean_58 : decode cX11_mean 58 = .ok (.l2i, 1) := by decide +kernel
theorem dX11_mean_59 : decode cX11_mean 59 = .ok (.invokevirtual 107, 3) := by decide +kernel
theorem dX11_mean_62 : decode cX11_mean 62 = .ok (.iconst 1, 1) := by decide +kernel
theorem dX11_mean_63 : decode cX11_mean 63 = .ok (.ireturn, 1) := by decide +kernel
theorem dX11_text_0 : decode cX11_text 0 = .ok (.aload_n 0, 1) := by decide +kernel
theorem dX11_text_1 : decode cX11_text 1 = .ok (.iload_n 1, 1) := by decide +kernel
theorem dX11_text_2 : decode cX11_text 2 = .ok (.invokevirtual 143, 3) := by decide +kernel
theorem dX11_text_5 : decode cX11_text 5 = .ok (.astore_n 3, 1) := by decide +kernel
theorem dX11_text_6 : decode cX11_text 6 = .ok (.aload_n 3, 1) := by decide +kernel
theorem dX11_text_7 : decode cX11_text 7 = .ok (.ifnull 9, 3) := by decide +kernel
theorem dX11_text_10 : decode cX11_text 10 = .ok (.iload_n 2, 1) := by decide +kernel
theorem dX11_text_11 : decode cX11_text 11 = .ok (.bipush 60, 2) := by decide +kernel
theorem dX11_text_13 : decode cX11_text 13 = .ok (.if_icmp .le 5, 3) := by decide +kernel
theorem dX11_text_16 : decode cX11_text 16 = .ok (.iconst (-1), 1) := by decide +kernel
theorem dX11_text_17 : decode cX11_text 17 = .ok (.ireturn, 1) := by decide +kernel
theorem dX11_text_18 : decode cX11_text 18 = .ok (.iload_n 2, 1) := by decide +kernel
theorem dX11_text_19 : decode cX11_text 19 = .ok (.ifCond .ge 12, 3) := by decide +kernel
theorem dX11_text_22 : decode cX11_text 22 = .ok (.aload_n 0, 1) := by decide +kernel
theorem dX11_text_23 : decode cX11_text 23 = .ok (.getfield 10, 3) := by decide +kernel
theorem dX11_text_26 : decode cX11_text 26 = .ok (.iconst 5, 1) := by decide +kernel
theorem dX11_text_27 : decode cX11_text 27 = .ok (.invokevirtual 92, 3) := by decide +kernel
theorem dX11_text_30 : decode cX11_text 30 = .ok (.ireturn, 1) := by decide +kernel
theorem dX11_text_31 : decode cX11_text 31 = .ok (.aload_n 3, 1) := by decide +kernel
theorem dX11_text_32 : decode cX11_text 32 = .ok (.iload_n 2, 1) := by decide +kernel
theorem dX11_text_33 : decode cX11_text 33 = .ok (.invokevirtual 147, 3) := by decide +kernel
theorem dX11_text_36 : decode cX11_text 36 = .ok (.iload_n 2, 1) := by decide +kernel
theorem dX11_text_37 : decode cX11_text 37 = .ok (.ireturn, 1) := by decide +kernel
theorem dX11_put_0 : decode cX11_put 0 = .ok (.aload_n 0, 1) := by decide +kernel
theorem dX11_put_1 : decode cX11_put 1 = .ok (.iload_n 1, 1) := by decide +kernel
theorem dX11_put_2 : decode cX11_put 2 = .ok (.invokevirtual 143, 3) := by decide +kernel
theorem dX11_put_5 : decode cX11_put 5 = .ok (.astore 4, 2) := by decide +kernel
theorem dX11_put_7 : decode cX11_put 7 = .ok (.aload 4, 2) := by decide +kernel
theorem dX11_put_9 : decode cX11_put 9 = .ok (.ifnonnull 5, 3) := by decide +kernel
theorem dX11_put_12 : decode cX11_put 12 = .ok (.iconst (-1), 1) := by decide +kernel
theorem dX11_put_13 : decode cX11_put 13 = .ok (.ireturn, 1) := by decide +kernel
theorem dX11_put_14 : decode cX11_put 14 = .ok (.aload 4, 2) := by decide +kernel
theorem dX11_put_16 : decode cX11_put 16 = .ok (.invokevirtual 148, 3) := by decide +kernel
theorem dX11_put_19 : decode cX11_put 19 = .ok (.ifCond .eq 12, 3) := by decide +kernel
theorem dX11_put_22 : decode cX11_put 22 = .ok (.aload_n 0, 1) := by decide +kernel
theorem dX11_put_23 : decode cX11_put 23 = .ok (.getfield 10, 3) := by decide +kernel
theorem dX11_put_26 : decode cX11_put 26 = .ok (.iconst 1, 1) := by decide +kernel
theorem dX11_put_27 : decode cX11_put 27 = .ok (.invokevirtual 92, 3) := by decide +kernel
theorem dX11_put_30 : decode cX11_put 30 = .ok (.ireturn, 1) := by decide +kernel
theorem dX11_put_31 : decode cX11_put 31 = .ok (.aload 4, 2) := by decide +kernel
theorem dX11_put_33 : decode cX11_put 33 = .ok (.iload_n 2, 1) := by decide +kernel
theorem dX11_put_34 : decode cX11_put 34 = .ok (.invokevirtual 149, 3) := by decide +kernel
theorem dX11_put_37 : decode cX11_put 37 = .ok (.ifCond .ne 12, 3) := by decide +kernel
theorem dX11_put_40 : decode cX11_put 40 = .ok (.aload_n 0, 1) := by decide +kernel
theorem dX11_put_41 : decode cX11_put 41 = .ok (.getfield 10, 3) := by decide +kernel
theorem dX11_put_44 : decode cX11_put 44 = .ok (.iconst 2, 1) := by decide +kernel
theorem dX11_put_45 : decode cX11_put 45 = .ok (.invokevirtual 92, 3) := by decide +kernel
theorem dX11_put_48 : decode cX11_put 48 = .ok (.ireturn, 1) := by decide +kernel
theorem dX11_put_49 : decode cX11_put 49 = .ok (.aload 4, 2) := by decide +kernel
theorem dX11_put_51 : decode cX11_put 51 = .ok (.getfield 153, 3) := by decide +kernel
theorem dX11_put_54 : decode cX11_put 54 = .ok (.iload_n 2, 1) := by decide +kernel
theorem dX11_put_55 : decode cX11_put 55 = .ok (.baload, 1) := by decide +kernel
theorem dX11_put_56 : decode cX11_put 56 = .ok (.istore 5, 2) := by decide +kernel
theorem dX11_put_58 : decode cX11_put 58 = .ok (.aload 4, 2) := by decide +kernel
theorem dX11_put_60 : decode cX11_put 60 = .ok (.getfield 153, 3) := by decide +kernel
theorem dX11_put_63 : decode cX11_put 63 = .ok (.iload_n 2, 1) := by decide +kernel
theorem dX11_put_64 : decode cX11_put 64 = .ok (.iload_n 3, 1) := by decide +kernel
theorem dX11_put_65 : decode cX11_put 65 = .ok (.i2b, 1) := by decide +kernel
theorem dX11_put_66 : decode cX11_put 66 = .ok (.bastore, 1) := by decide +kernel
theorem dX11_put_67 : decode cX11_put 67 = .ok (.iload 5, 2) := by decide +kernel
theorem dX11_put_69 : decode cX11_put 69 = .ok (.sipush 1000, 3) := by decide +kernel
theorem dX11_put_72 : decode cX11_put 72 = .ok (.iadd, 1) := by decide +kernel
theorem dX11_put_73 : decode cX11_put 73 = .ok (.ireturn, 1) := by decide +kernel
theorem dX11_fault_0 : decode cX11_fault 0 = .ok (.aload_n 0, 1) := by decide +kernel
theorem dX11_fault_1 : decode cX11_fault 1 = .ok (.iload_n 1, 1) := by decide +kernel
theorem dX11_fault_2 : decode cX11_fault 2 = .ok (.invokevirtual 143, 3) := by decide +kernel
theorem dX11_fault_5 : decode cX11_fault 5 = .ok (.astore_n 3, 1) := by decide +kernel
theorem dX11_fault_6 : decode cX11_fault 6 = .ok (.aload_n 3, 1) := by decide +kernel
theorem dX11_fault_7 : decode cX11_fault 7 = .ok (.ifnonnull 5, 3) := by decide +kernel
theorem dX11_fault_10 : decode cX11_fault 10 = .ok (.iconst (-1), 1) := by decide +kernel
theorem dX11_fault_11 : decode cX11_fault 11 = .ok (.ireturn, 1) := by decide +kernel
theorem dX11_fault_12 : decode cX11_fault 12 = .ok (.aload_n 3, 1) := by decide +kernel
theorem dX11_fault_13 : decode cX11_fault 13 = .ok (.invokevirtual 148, 3) := by decide +kernel
theorem dX11_fault_16 : decode cX11_fault 16 = .ok (.ifCond .eq 12, 3) := by decide +kernel
theorem dX11_fault_19 : decode cX11_fault 19 = .ok (.aload_n 0, 1) := by decide +kernel
theorem dX11_fault_20 : decode cX11_fault 20 = .ok (.getfield 10, 3) := by decide +kernel
theorem dX11_fault_23 : decode cX11_fault 23 = .ok (.iconst 1, 1) := by decide +kernel
theorem dX11_fault_24 : decode cX11_fault 24 = .ok (.invokevirtual 92, 3) := by decide +kernel
theorem dX11_fault_27 : decode cX11_fault 27 = .ok (.ireturn, 1) := by decide +kernel
theorem dX11_fault_28 : decode cX11_fault 28 = .ok (.iload_n 2, 1) := by decide +kernel
theorem dX11_fault_29 : decode cX11_fault 29 = .ok (.ifCond .eq 10, 3) := by decide +kernel
theorem dX11_fault_32 : decode cX11_fault 32 = .ok (.aload_n 3, 1) := by decide +kernel
theorem dX11_fault_33 : decode cX11_fault 33 = .ok (.invokevirtual 157, 3) := by decide +kernel
theorem dX11_fault_36 : decode cX11_fault 36 = .ok (.goto 7, 3) := by decide +kernel
theorem dX11_fault_39 : decode cX11_fault 39 = .ok (.aload_n 3, 1) := by decide +kernel
theorem dX11_fault_40 : decode cX11_fault 40 = .ok (.invokevirtual 161, 3) := by decide +kernel
theorem dX11_fault_43 : decode cX11_fault 43 = .ok (.ireturn, 1) := by decide +kernel
theorem dX11_barge_0 : decode cX11_barge 0 = .ok (.aload_n 0, 1) := by decide +kernel
theorem dX11_barge_1 : decode cX11_barge 1 = .ok (.iload_n 1, 1) := by decide +kernel
theorem dX11_barge_2 : decode cX11_barge 2 = .ok (.invokevirtual 143, 3) := by decide +kernel
theorem dX11_barge_5 : decode cX11_barge 5 = .ok (.astore_n 2, 1) := by decide +kernel
theorem dX11_barge_6 : decode cX11_barge 6 = .ok (.aload_n 2, 1) := by decide +kernel
theorem dX11_barge_7 : decode cX11_barge 7 = .ok (.ifnonnull 5, 3) := by decide +kernel
theorem dX11_barge_10 : decode cX11_barge 10 = .ok (.iconst (-1), 1) := by decide +kernel
theorem dX11_barge_11 : decode cX11_barge 11 = .ok (.ireturn, 1) := by decide +kernel
theorem dX11_barge_12 : decode cX11_barge 12 = .ok (.aload_n 2, 1) := by decide +kernel
theorem dX11_barge_13 : decode cX11_barge 13 = .ok (.invokevirtual 148, 3) := by decide +kernel
theorem dX11_barge_16 : decode cX11_barge 16 = .ok (.ifCond .eq 12, 3) := by decide +kernel
theorem dX11_barge_19 : decode cX11_barge 19 = .ok (.aload_n 0, 1) := by decide +kernel
theorem dX11_barge_20 : decode cX11_barge 20 = .ok (.getfield 10, 3) := by decide +kernel
theorem dX11_barge_23 : decode cX11_barge 23 = .ok (.iconst 1, 1) := by decide +kernel
theorem dX11_barge_24 : decode cX11_barge 24 = .ok (.invokevirtual 92, 3) := by decide +kernel
theorem dX11_barge_27 : decode cX11_barge 27 = .ok (.ireturn, 1) := by decide +kernel
theorem dX11_barge_28 : decode cX11_barge 28 = .ok (.aload_n 2, 1) := by decide +kernel
theorem dX11_barge_29 : decode cX11_barge 29 = .ok (.invokevirtual 161, 3) := by decide +kernel
theorem dX11_barge_32 : decode cX11_barge 32 = .ok (.bipush (-9), 2) := by decide +kernel
theorem dX11_barge_34 : decode cX11_barge 34 = .ok (.if_icmp .eq 6, 3) := by decide +kernel
theorem dX11_barge_37 : decode cX11_barge 37 = .ok (.bipush (-4), 2) := by decide +kernel
theorem dX11_barge_39 : decode cX11_barge 39 = .ok (.ireturn, 1) := by decide +kernel
theorem dX11_barge_40 : decode cX11_barge 40 = .ok (.aload_n 0, 1) := by decide +kernel
theorem dX11_barge_41 : decode cX11_barge 41 = .ok (.getfield 31, 3) := by decide +kernel
theorem dX11_barge_44 : decode cX11_barge 44 = .ok (.invokevirtual 164, 3) := by decide +kernel
theorem dX11_barge_47 : decode cX11_barge 47 = .ok (.aload_n 2, 1) := by decide +kernel
theorem dX11_barge_48 : decode cX11_barge 48 = .ok (.aload_n 0, 1) := by decide +kernel
theorem dX11_barge_49 : decode cX11_barge 49 = .ok (.getfield 31, 3) := by decide +kernel
theorem dX11_barge_52 : decode cX11_barge 52 = .ok (.invokevirtual 167, 3) := by decide +kernel
theorem dX11_barge_55 : decode cX11_barge 55 = .ok (.aload_n 0, 1) := by decide +kernel
theorem dX11_barge_56 : decode cX11_barge 56 = .ok (.getfield 50, 3) := by decide +kernel
theorem dX11_barge_59 : decode cX11_barge 59 = .ok (.invokevirtual 170, 3) := by decide +kernel
theorem dX11_barge_62 : decode cX11_barge 62 = .ok (.aload_n 0, 1) := by decide +kernel
theorem dX11_barge_63 : decode cX11_barge 63 = .ok (.getfield 57, 3) := by decide +kernel
theorem dX11_barge_66 : decode cX11_barge 66 = .ok (.invokevirtual 173, 3) := by decide +kernel
theorem dX11_barge_69 : decode cX11_barge 69 = .ok (.aload_n 0, 1) := by decide +kernel
theorem dX11_barge_70 : decode cX11_barge 70 = .ok (.getfield 31, 3) := by decide +kernel
theorem dX11_barge_73 : decode cX11_barge 73 = .ok (.getfield 174, 3) := by decide +kernel
theorem dX11_barge_76 : decode cX11_barge 76 = .ok (.ireturn, 1) := by decide +kernel
theorem dX11_rite_0 : decode cX11_rite 0 = .ok (.aload_n 0, 1) := by decide +kernel
theorem dX11_rite_1 : decode cX11_rite 1 = .ok (.iload_n 1, 1) := by decide +kernel
theorem dX11_rite_2 : decode cX11_rite 2 = .ok (.invokevirtual 143, 3) := by decide +kernel
theorem dX11_rite_5 : decode cX11_rite 5 = .ok (.astore_n 2, 1) := by decide +kernel
theorem dX11_rite_6 : decode cX11_rite 6 = .ok (.aload_n 2, 1) := by decide +kernel
theorem dX11_rite_7 : decode cX11_rite 7 = .ok (.ifnonnull 5, 3) := by decide +kernel
theorem dX11_rite_10 : decode cX11_rite 10 = .ok (.iconst (-1), 1) := by decide +kernel
theorem dX11_rite_11 : decode cX11_rite 11 = .ok (.ireturn, 1) := by decide +kernel
theorem dX11_rite_12 : decode cX11_rite 12 = .ok (.aload_n 2, 1) := by decide +kernel
theorem dX11_rite_13 : decode cX11_rite 13 = .ok (.invokevirtual 148, 3) := by decide +kernel
theorem dX11_rite_16 : decode cX11_rite 16 = .ok (.ifCond .eq 12, 3) := by decide +kernel
theorem dX11_rite_19 : decode cX11_rite 19 = .ok (.aload_n 0, 1) := by decide +kernel
theorem dX11_rite_20 : decode cX11_rite 20 = .ok (.getfield 10, 3) := by decide +kernel
theorem dX11_rite_23 : decode cX11_rite 23 = .ok (.iconst 1, 1) := by decide +kernel
theorem dX11_rite_24 : decode cX11_rite 24 = .ok (.invokevirtual 92, 3) := by decide +kernel
theorem dX11_rite_27 : decode cX11_rite 27 = .ok (.ireturn, 1) := by decide +kernel
theorem dX11_rite_28 : decode cX11_rite 28 = .ok (.aload_n 2, 1) := by decide +kernel
theorem dX11_rite_29 : decode cX11_rite 29 = .ok (.invokevirtual 157, 3) := by decide +kernel
theorem dX11_rite_32 : decode cX11_rite 32 = .ok (.bipush (-9), 2) := by decide +kernel
theorem dX11_rite_34 : decode cX11_rite 34 = .ok (.if_icmp .eq 6, 3) := by decide +kernel
theorem dX11_rite_37 : decode cX11_rite 37 = .ok (.bipush (-4), 2) := by decide +kernel
theorem dX11_rite_39 : decode cX11_rite 39 = .ok (.ireturn, 1) := by decide +kernel
theorem dX11_rite_40 : decode cX11_rite 40 = .ok (.aload_n 0, 1) := by decide +kernel
theorem dX11_rite_41 : decode cX11_rite 41 = .ok (.getfield 43, 3) := by decide +kernel
theorem dX11_rite_44 : decode cX11_rite 44 = .ok (.invokevirtual 177, 3) := by decide +kernel
theorem dX11_rite_47 : decode cX11_rite 47 = .ok (.aload_n 2, 1) := by decide +kernel
theorem dX11_rite_48 : decode cX11_rite 48 = .ok (.aload_n 0, 1) := by decide +kernel
theorem dX11_rite_49 : decode cX11_rite 49 = .ok (.getfield 43, 3) := by decide +kernel
theorem dX11_rite_52 : decode cX11_rite 52 = .ok (.invokevirtual 178, 3) := by decide +kernel
theorem dX11_rite_55 : decode cX11_rite 55 = .ok (.aload_n 0, 1) := by decide +kernel
theorem dX11_rite_56 : decode cX11_rite 56 = .ok (.getfield 43, 3) := by decide +kernel
theorem dX11_rite_59 : decode cX11_rite 59 = .ok (.getfield 182, 3) := by decide +kernel
theorem dX11_rite_62 : decode cX11_rite 62 = .ok (.ireturn, 1) := by decide +kernel
theorem dX11_bench_0 : decode cX11_bench 0 = .ok (.aload_n 0, 1) := by decide +kernel
theorem dX11_bench_1 : decode cX11_bench 1 = .ok (.getfield 31, 3) := by decide +kernel
theorem dX11_bench_4 : decode cX11_bench 4 = .ok (.iload_n 1, 1) := by decide +kernel
theorem dX11_bench_5 : decode cX11_bench 5 = .ok (.invokevirtual 185, 3) := by decide +kernel
theorem dX11_bench_8 : decode cX11_bench 8 = .ok (.ifCond .eq 12, 3) := by decide +kernel
theorem dX11_bench_11 : decode cX11_bench 11 = .ok (.iload_n 2, 1) := by decide +kernel
theorem dX11_bench_12 : decode cX11_bench 12 = .ok (.iconst 0, 1) := by decide +kernel
theorem dX11_bench_13 : decode cX11_bench 13 = .ok (.iconst 3, 1) := by decide +kernel
theorem dX11_bench_14 : decode cX11_bench 14 = .ok (.invokestatic 188, 3) := by decide +kernel
theorem dX11_bench_17 : decode cX11_bench 17 = .ok (.ifCond .ne 5, 3) := by decide +kernel
theorem dX11_bench_20 : decode cX11_bench 20 = .ok (.iconst (-1), 1) := by decide +kernel
theorem dX11_bench_21 : decode cX11_bench 21 = .ok (.ireturn, 1) := by decide +kernel
theorem dX11_bench_22 : decode cX11_bench 22 = .ok (.aload_n 0, 1) := by decide +kernel
theorem dX11_bench_23 : decode cX11_bench 23 = .ok (.getfield 10, 3) := by decide +kernel
theorem dX11_bench_26 : decode cX11_bench 26 = .ok (.aload_n 0, 1) := by decide +kernel
theorem dX11_bench_27 : decode cX11_bench 27 = .ok (.iload_n 1, 1) := by decide +kernel
theorem dX11_bench_28 : decode cX11_bench 28 = .ok (.iload_n 2, 1) := by decide +kernel
theorem dX11_bench_29 : decode cX11_bench 29 = .ok (.invokevirtual 192, 3) := by decide +kernel
theorem dX11_bench_32 : decode cX11_bench 32 = .ok (.invokevirtual 107, 3) := by decide +kernel
theorem dX11_bench_35 : decode cX11_bench 35 = .ok (.iconst 1, 1) := by decide +kernel
theorem dX11_bench_36 : decode cX11_bench 36 = .ok (.ireturn, 1) := by decide +kernel
theorem dX11_guest_0 : decode cX11_guest 0 = .ok (.aload_n 0, 1) := by decide +kernel
theorem dX11_guest_1 : decode cX11_guest 1 = .ok (.getfield 31, 3) := by decide +kernel
theorem dX11_guest_4 : decode cX11_guest 4 = .ok (.iload_n 1, 1) := by decide +kernel
theorem dX11_guest_5 : decode cX11_guest 5 = .ok (.invokevirtual 196, 3) := by decide +kernel
theorem dX11_guest_8 : decode cX11_guest 8 = .ok (.ifCond .eq 12, 3) := by decide +kernel
theorem dX11_guest_11 : decode cX11_guest 11 = .ok (.iload_n 2, 1) := by decide +kernel
theorem dX11_guest_12 : decode cX11_guest 12 = .ok (.iconst 0, 1) := by decide +kernel
theorem dX11_guest_13 : decode cX11_guest 13 = .ok (.iconst 4, 1) := by decide +kernel
theorem dX11_guest_14 : decode cX11_guest 14 = .ok (.invokestatic 188, 3) := by decide +kernel
theorem dX11_guest_17 : decode cX11_guest 17 = .ok (.ifCond .ne 5, 3) := by decide +kernel
theorem dX11_guest_20 : decode cX11_guest 20 = .ok (.iconst (-1), 1) := by decide +kernel
theorem dX11_guest_21 : decode cX11_guest 21 = .ok (.ireturn, 1) := by decide +kernel
theorem dX11_guest_22 : decode cX11_guest 22 = .ok (.aload_n 0, 1) := by decide +kernel
theorem dX11_guest_23 : decode cX11_guest 23 = .ok (.getfield 10, 3) := by decide +kernel
theorem dX11_guest_26 : decode cX11_guest 26 = .ok (.aload_n 0, 1) := by decide +kernel
theorem dX11_guest_27 : decode cX11_guest 27 = .ok (.iload_n 1, 1) := by decide +kernel
theorem dX11_guest_28 : decode cX11_guest 28 = .ok (.iload_n 2, 1) := by decide +kernel
theorem dX11_guest_29 : decode cX11_guest 29 = .ok (.invokevirtual 199, 3) := by decide +kernel
theorem dX11_guest_32 : decode cX11_guest 32 = .ok (.invokevirtual 107, 3) := by decide +kernel
theorem dX11_guest_35 : decode cX11_guest 35 = .ok (.iconst 1, 1) := by decide +kernel
theorem dX11_guest_36 : decode cX11_guest 36 = .ok (.ireturn, 1) := by decide +kernel
theorem dX11_mark_0 : decode cX11_mark 0 = .ok (.aload_n 0, 1) := by decide +kernel
theorem dX11_mark_1 : decode cX11_mark 1 = .ok (.getfield 31, 3) := by decide +kernel
theorem dX11_mark_4 : decode cX11_mark 4 = .ok (.iload_n 1, 1) := by decide +kernel
theorem dX11_mark_5 : decode cX11_mark 5 = .ok (.invokevirtual 196, 3) := by decide +kernel
theorem dX11_mark_8 : decode cX11_mark 8 = .ok (.ifCond .eq 12, 3) := by decide +kernel
theorem dX11_mark_11 : decode cX11_mark 11 = .ok (.iload_n 2, 1) := by decide +kernel
theorem dX11_mark_12 : decode cX11_mark 12 = .ok (.iconst 1, 1) := by decide +kernel
theorem dX11_mark_13 : decode cX11_mark 13 = .ok (.iconst 5, 1) := by decide +kernel
theorem dX11_mark_14 : decode cX11_mark 14 = .ok (.invokestatic 188, 3) := by decide +kernel
theorem dX11_mark_17 : decode cX11_mark 17 = .ok (.ifCond .ne 5, 3) := by decide +kernel
theorem dX11_mark_20 : decode cX11_mark 20 = .ok (.iconst (-1), 1) := by decide +kernel
theorem dX11_mark_21 : decode cX11_mark 21 = .ok (.ireturn, 1) := by decide +kernel
theorem dX11_mark_22 : decode cX11_mark 22 = .ok (.aload_n 0, 1) := by decide +kernel
theorem dX11_mark_23 : decode cX11_mark 23 = .ok (.getfield 31, 3) := by decide +kernel
theorem dX11_mark_26 : decode cX11_mark 26 = .ok (.iload_n 1, 1) := by decide +kernel
theorem dX11_mark_27 : decode cX11_mark 27 = .ok (.iload_n 2, 1) := by decide +kernel
theorem dX11_mark_28 : decode cX11_mark 28 = .ok (.invokevirtual 202, 3) := by decide +kernel
theorem dX11_mark_31 : decode cX11_mark 31 = .ok (.ifCond .ne 12, 3) := by decide +kernel
theorem dX11_mark_34 : decode cX11_mark 34 = .ok (.aload_n 0, 1) := by decide +kernel
theorem dX11_mark_35 : decode cX11_mark 35 = .ok (.getfield 10, 3) := by decide +kernel
theorem dX11_mark_38 : decode cX11_mark 38 = .ok (.iconst 3, 1) := by decide +kernel
theorem dX11_mark_39 : decode cX11_mark 39 = .ok (.invokevirtual 92, 3) := by decide +kernel
theorem dX11_mark_42 : decode cX11_mark 42 = .ok (.ireturn, 1) := by decide +kernel
theorem dX11_mark_43 : decode cX11_mark 43 = .ok (.aload_n 0, 1) := by decide +kernel
theorem dX11_mark_44 : decode cX11_mark 44 = .ok (.getfield 31, 3) := by decide +kernel
theorem dX11_mark_47 : decode cX11_mark 47 = .ok (.iload_n 1, 1) := by decide +kernel
theorem dX11_mark_48 : decode cX11_mark 48 = .ok (.invokevirtual 205, 3) := by decide +kernel
theorem dX11_mark_51 : decode cX11_mark 51 = .ok (.istore_n 3, 1) := by decide +kernel
theorem dX11_mark_52 : decode cX11_mark 52 = .ok (.iload_n 2, 1) := by decide +kernel
theorem dX11_mark_53 : decode cX11_mark 53 = .ok (.tableswitch 114 1 4 #[31, 53, 75, 100], 31) := by decide +kernel
theorem dX11_mark_84 : decode cX11_mark 84 = .ok (.aload_n 0, 1) := by decide +kernel
theorem dX11_mark_85 : decode cX11_mark 85 = .ok (.getfield 31, 3) := by decide +kernel
theorem dX11_mark_88 : decode cX11_mark 88 = .ok (.iload_n 1, 1) := by decide +kernel
theorem dX11_mark_89 : decode cX11_mark 89 = .ok (.iload_n 3, 1) := by decide +kernel
theorem dX11_mark_90 : decode cX11_mark 90 = .ok (.iconst 1, 1) := by decide +kernel
theorem dX11_mark_91 : decode cX11_mark 91 = .ok (.invokevirtual 208, 3) := by decide +kernel
theorem dX11_mark_94 : decode cX11_mark 94 = .ok (.aload_n 0, 1) := by decide +kernel
theorem dX11_mark_95 : decode cX11_mark 95 = .ok (.getfield 31, 3) := by decide +kernel
theorem dX11_mark_98 : decode cX11_mark 98 = .ok (.iload_n 1, 1) := by decide +kernel
theorem dX11_mark_99 : decode cX11_mark 99 = .ok (.iload_n 3, 1) := by decide +kernel
theorem dX11_mark_100 : decode cX11_mark 100 = .ok (.iconst 0, 1) := by decide +kernel
theorem dX11_mark_101 : decode cX11_mark 101 = .ok (.invokevirtual 208, 3) := by decide +kernel
theorem dX11_mark_104 : decode cX11_mark 104 = .ok (.isub, 1) := by decide +kernel
theorem dX11_mark_105 : decode cX11_mark 105 = .ok (.ireturn, 1) := by decide +kernel
theorem dX11_mark_106 : decode cX11_mark 106 = .ok (.aload_n 0, 1) := by decide +kernel
theorem dX11_mark_107 : decode cX11_mark 107 = .ok (.getfield 31, 3) := by decide +kernel
theorem dX11_mark_110 : decode cX11_mark 110 = .ok (.iload_n 1, 1) := by decide +kernel
theorem dX11_mark_111 : decode cX11_mark 111 = .ok (.iload_n 3, 1) := by decide +kernel
theorem dX11_mark_112 : decode cX11_mark 112 = .ok (.iconst 2, 1) := by decide +kernel
theorem dX11_mark_113 : decode cX11_mark 113 = .ok (.invokevirtual 208, 3) := by decide +kernel
theorem dX11_mark_116 : decode cX11_mark 116 = .ok (.aload_n 0, 1) := by decide +kernel
theorem dX11_mark_117 : decode cX11_mark 117 = .ok (.getfield 31, 3) := by decide +kernel
theorem dX11_mark_120 : decode cX11_mark 120 = .ok (.iload_n 1, 1) := by decide +kernel
theorem dX11_mark_121 : decode cX11_mark 121 = .ok (.iload_n 3, 1) := by decide +kernel
theorem dX11_mark_122 : decode cX11_mark 122 = .ok (.iconst 0, 1) := by decide +kernel
theorem dX11_mark_123 : decode cX11_mark 123 = .ok (.invokevirtual 208, 3) := by decide +kernel
theorem dX11_mark_126 : decode cX11_mark 126 = .ok (.isub, 1) := by decide +kernel
theorem dX11_mark_127 : decode cX11_mark 127 = .ok (.ireturn, 1) := by decide +kernel
theorem dX11_mark_128 : decode cX11_mark 128 = .ok (.iload_n 3, 1) := by decide +kernel
theorem dX11_mark_129 : decode cX11_mark 129 = .ok (.bipush (-9), 2) := by decide +kernel
theorem dX11_mark_131 : decode cX11_mark 131 = .ok (.if_icmp .ne 8, 3) := by decide +kernel
theorem dX11_mark_134 : decode cX11_mark 134 = .ok (.bipush (-9), 2) := by decide +kernel
theorem dX11_mark_136 : decode cX11_mark 136 = .ok (.goto 16, 3) := by decide +kernel
theorem dX11_mark_139 : decode cX11_mark 139 = .ok (.aload_n 0, 1) := by decide +kernel
theorem dX11_mark_140 : decode cX11_mark 140 = .ok (.getfield 31, 3) := by decide +kernel
theorem dX11_mark_143 : decode cX11_mark 143 = .ok (.iload_n 3, 1) := by decide +kernel
theorem dX11_mark_144 : decode cX11_mark 144 = .ok (.invokevirtual 212, 3) := by decide +kernel
theorem dX11_mark_147 : decode cX11_mark 147 = .ok (.invokestatic 215, 3) := by decide +kernel
theorem dX11_mark_150 : decode cX11_mark 150 = .ok (.iconst 1, 1) := by decide +kernel
theorem dX11_mark_151 : decode cX11_mark 151 = .ok (.isub, 1) := by decide +kernel
theorem dX11_mark_152 : decode cX11_mark 152 = .ok (.ireturn, 1) := by decide +kernel
theorem dX11_mark_153 : decode cX11_mark 153 = .ok (.iconst 4, 1) := by decide +kernel
theorem dX11_mark_154 : decode cX11_mark 154 = .ok (.aload_n 0, 1) := by decide +kernel
theorem dX11_mark_155 : decode cX11_mark 155 = .ok (.getfield 31, 3) := by decide +kernel
theorem dX11_mark_158 : decode cX11_mark 158 = .ok (.iload_n 3, 1) := by decide +kernel
theorem dX11_mark_159 : decode cX11_mark 159 = .ok (.invokevirtual 220, 3) := by decide +kernel
theorem dX11_mark_162 : decode cX11_mark 162 = .ok (.iconst 1, 1) := by decide +kernel
theorem dX11_mark_163 : decode cX11_mark 163 = .ok (.invokestatic 223, 3) := by decide +kernel
theorem dX11_mark_166 : decode cX11_mark 166 = .ok (.ireturn, 1) := by decide +kernel
theorem dX11_mark_167 : decode cX11_mark 167 = .ok (.aload_n 0, 1) := by decide +kernel
theorem dX11_mark_168 : decode cX11_mark 168 = .ok (.getfield 31, 3) := by decide +kernel
theorem dX11_mark_171 : decode cX11_mark 171 = .ok (.invokevirtual 226, 3) := by decide +kernel
theorem dX11_mark_174 : decode cX11_mark 174 = .ok (.aload_n 0, 1) := by decide +kernel
theorem dX11_mark_175 : decode cX11_mark 175 = .ok (.getfield 31, 3) := by decide +kernel
theorem dX11_mark_178 : decode cX11_mark 178 = .ok (.aload_n 0, 1) := by decide +kernel
theorem dX11_mark_179 : decode cX11_mark 179 = .ok (.getfield 31, 3) := by decide +kernel
theorem dX11_mark_182 : decode cX11_mark 182 = .ok (.iload_n 1, 1) := by decide +kernel
theorem dX11_mark_183 : decode cX11_mark 183 = .ok (.invokevirtual 229, 3) := by decide +kernel
theorem dX11_mark_186 : decode cX11_mark 186 = .ok (.invokevirtual 232, 3) := by decide +kernel
theorem dX11_mark_189 : decode cX11_mark 189 = .ok (.iand, 1) := by decide +kernel
theorem dX11_mark_190 : decode cX11_mark 190 = .ok (.iconst 1, 1) := by decide +kernel
theorem dX11_mark_191 : decode cX11_mark 191 = .ok (.iload_n 1, 1) := by decide +kernel
theorem dX11_mark_192 : decode cX11_mark 192 = .ok (.ishl, 1) := by decide +kernel
theorem dX11_mark_193 : decode cX11_mark 193 = .ok (.iconst (-1), 1) := by decide +kernel
theorem dX11_mark_194 : decode cX11_mark 194 = .ok (.ixor, 1) := by decide +kernel
theorem dX11_mark_195 : decode cX11_mark 195 = .ok (.iand, 1) := by decide +kernel
theorem dX11_mark_196 : decode cX11_mark 196 = .ok (.invokestatic 215, 3) := by decide +kernel
theorem dX11_mark_199 : decode cX11_mark 199 = .ok (.ireturn, 1) := by decide +kernel
theorem dX11_limit_0 : decode cX11_limit 0 = .ok (.iload_n 1, 1) := by decide +kernel
theorem dX11_limit_1 : decode cX11_limit 1 = .ok (.iconst 0, 1) := by decide +kernel
theorem dX11_limit_2 : decode cX11_limit 2 = .ok (.sipush 999, 3) := by decide +kernel
theorem dX11_limit_5 : decode cX11_limit 5 = .ok (.invokestatic 188, 3) := by decide +kernel
theorem dX11_limit_8 : decode cX11_limit 8 = .ok (.ifCond .ne 5, 3) := by decide +kernel
theorem dX11_limit_11 : decode cX11_limit 11 = .ok (.iconst (-1), 1) := by decide +kernel
theorem dX11_limit_12 : decode cX11_limit 12 = .ok (.ireturn, 1) := by decide +kernel
theorem dX11_limit_13 : decode cX11_limit 13 = .ok (.aload_n 0, 1) := by decide +kernel
theorem dX11_limit_14 : decode cX11_limit 14 = .ok (.getfield 31, 3) := by decide +kernel
theorem dX11_limit_17 : decode cX11_limit 17 = .ok (.getfield 235, 3) := by decide +kernel
theorem dX11_limit_20 : decode cX11_limit 20 = .ok (.istore_n 2, 1) := by decide +kernel
theorem dX11_limit_21 : decode cX11_limit 21 = .ok (.aload_n 0, 1) := by decide +kernel
theorem dX11_limit_22 : decode cX11_limit 22 = .ok (.getfield 31, 3) := by decide +kernel
theorem dX11_limit_25 : decode cX11_limit 25 = .ok (.iload_n 1, 1) := by decide +kernel
theorem dX11_limit_26 : decode cX11_limit 26 = .ok (.putfield 235, 3) := by decide +kernel
theorem dX11_limit_29 : decode cX11_limit 29 = .ok (.iload_n 2, 1) := by decide +kernel
theorem dX11_limit_30 : decode cX11_limit 30 = .ok (.ireturn, 1) := by decide +kernel
theorem dX11_rain_0 : decode cX11_rain 0 = .ok (.iload_n 1, 1) := by decide +kernel
theorem dX11_rain_1 : decode cX11_rain 1 = .ok (.sipush (-200), 3) := by decide +kernel
theorem dX11_rain_4 : decode cX11_rain 4 = .ok (.sipush 200, 3) := by decide +kernel
theorem dX11_rain_7 : decode cX11_rain 7 = .ok (.invokestatic 188, 3) := by decide +kernel
theorem dX11_rain_10 : decode cX11_rain 10 = .ok (.ifCond .ne 5, 3) := by decide +kernel
theorem dX11_rain_13 : decode cX11_rain 13 = .ok (.iconst (-1), 1) := by decide +kernel
theorem dX11_rain_14 : decode cX11_rain 14 = .ok (.ireturn, 1) := by decide +kernel
theorem dX11_rain_15 : decode cX11_rain 15 = .ok (.aload_n 0, 1) := by decide +kernel
theorem dX11_rain_16 : decode cX11_rain 16 = .ok (.getfield 10, 3) := by decide +kernel
theorem dX11_rain_19 : decode cX11_rain 19 = .ok (.aload_n 0, 1) := by decide +kernel
theorem dX11_rain_20 : decode cX11_rain 20 = .ok (.getfield 31, 3) := by decide +kernel
theorem dX11_rain_23 : decode cX11_rain 23 = .ok (.getfield 238, 3) := by decide +kernel
theorem dX11_rain_26 : decode cX11_rain 26 = .ok (.invokevirtual 107, 3) := by decide +kernel
theorem dX11_rain_29 : decode cX11_rain 29 = .ok (.aload_n 0, 1) := by decide +kernel
theorem dX11_rain_30 : decode cX11_rain 30 = .ok (.getfield 31, 3) := by decide +kernel
theorem dX11_rain_33 : decode cX11_rain 33 = .ok (.iload_n 1, 1) := by decide +kernel
theorem dX11_rain_34 : decode cX11_rain 34 = .ok (.putfield 238, 3) := by decide +kernel
theorem dX11_rain_37 : decode cX11_rain 37 = .ok (.iconst 1, 1) := by decide +kernel
theorem dX11_rain_38 : decode cX11_rain 38 = .ok (.ireturn, 1) := by decide +kernel
theorem dX11_quarrel_0 : decode cX11_quarrel 0 = .ok (.aload_n 0, 1) := by decide +kernel
theorem dX11_quarrel_1 : decode cX11_quarrel 1 = .ok (.getfield 31, 3) := by decide +kernel
theorem dX11_quarrel_4 : decode cX11_quarrel 4 = .ok (.iload_n 1, 1) := by decide +kernel
theorem dX11_quarrel_5 : decode cX11_quarrel 5 = .ok (.invokevirtual 196, 3) := by decide +kernel
theorem dX11_quarrel_8 : decode cX11_quarrel 8 = .ok (.ifCond .eq 19, 3) := by decide +kernel
theorem dX11_quarrel_11 : decode cX11_quarrel 11 = .ok (.aload_n 0, 1) := by decide +kernel
theorem dX11_quarrel_12 : decode cX11_quarrel 12 = .ok (.getfield 31, 3) := by decide +kernel
theorem dX11_quarrel_15 : decode cX11_quarrel 15 = .ok (.iload_n 2, 1) := by decide +kernel
theorem dX11_quarrel_16 : decode cX11_quarrel 16 = .ok (.invokevirtual 196, 3) := by decide +kernel
theorem dX11_quarrel_19 : decode cX11_quarrel 19 = .ok (.ifCond .eq 8, 3) := by decide +kernel
theorem dX11_quarrel_22 : decode cX11_quarrel 22 = .ok (.iload_n 1, 1) := by decide +kernel
theorem dX11_quarrel_23 : decode cX11_quarrel 23 = .ok (.iload_n 2, 1) := by decide +kernel
theorem dX11_quarrel_24 : decode cX11_quarrel 24 = .ok (.if_icmp .ne 5, 3) := by decide +kernel
theorem dX11_quarrel_27 : decode cX11_quarrel 27 = .ok (.iconst (-1), 1) := by decide +kernel
theorem dX11_quarrel_28 : decode cX11_quarrel 28 = .ok (.ireturn, 1) := by decide +kernel
theorem dX11_quarrel_29 : decode cX11_quarrel 29 = .ok (.aload_n 0, 1) := by decide +kernel
theorem dX11_quarrel_30 : decode cX11_quarrel 30 = .ok (.getfield 39, 3) := by decide +kernel
theorem dX11_quarrel_33 : decode cX11_quarrel 33 = .ok (.getfield 241, 3) := by decide +kernel
theorem dX11_quarrel_36 : decode cX11_quarrel 36 = .ok (.bipush 8, 2) := by decide +kernel
theorem dX11_quarrel_38 : decode cX11_quarrel 38 = .ok (.if_icmp .lt 6, 3) := by decide +kernel
theorem dX11_quarrel_41 : decode cX11_quarrel 41 = .ok (.bipush (-2), 2) := by decide +kernel
theorem dX11_quarrel_43 : decode cX11_quarrel 43 = .ok (.ireturn, 1) := by decide +kernel
theorem dX11_quarrel_44 : decode cX11_quarrel 44 = .ok (.aload_n 0, 1) := by decide +kernel
theorem dX11_quarrel_45 : decode cX11_quarrel 45 = .ok (.getfield 39, 3) := by decide +kernel
theorem dX11_quarrel_48 : decode cX11_quarrel 48 = .ok (.iload_n 1, 1) := by decide +kernel
theorem dX11_quarrel_49 : decode cX11_quarrel 49 = .ok (.iload_n 2, 1) := by decide +kernel
theorem dX11_quarrel_50 : decode cX11_quarrel 50 = .ok (.invokevirtual 244, 3) := by decide +kernel
theorem dX11_quarrel_53 : decode cX11_quarrel 53 = .ok (.aload_n 0, 1) := by decide +kernel
theorem dX11_quarrel_54 : decode cX11_quarrel 54 = .ok (.getfield 39, 3) := by decide +kernel
theorem dX11_quarrel_57 : decode cX11_quarrel 57 = .ok (.getfield 241, 3) := by decide +kernel
theorem dX11_quarrel_60 : decode cX11_quarrel 60 = .ok (.iconst 1, 1) := by decide +kernel
theorem dX11_quarrel_61 : decode cX11_quarrel 61 = .ok (.isub, 1) := by decide +kernel
theorem dX11_quarrel_62 : decode cX11_quarrel 62 = .ok (.ireturn, 1) := by decide +kernel
theorem dX11_peace_0 : decode cX11_peace 0 = .ok (.iload_n 1, 1) := by decide +kernel
theorem dX11_peace_1 : decode cX11_peace 1 = .ok (.iconst 0, 1) := by decide +kernel
theorem dX11_peace_2 : decode cX11_peace 2 = .ok (.aload_n 0, 1) := by decide +kernel
theorem dX11_peace_3 : decode cX11_peace 3 = .ok (.getfield 39, 3) := by decide +kernel
theorem dX11_peace_6 : decode cX11_peace 6 = .ok (.getfield 241, 3) := by decide +kernel
theorem dX11_peace_9 : decode cX11_peace 9 = .ok (.invokestatic 188, 3) := by decide +kernel
theorem dX11_peace_12 : decode cX11_peace 12 = .ok (.ifCond .ne 5, 3) := by decide +kernel
theorem dX11_peace_15 : decode cX11_peace 15 = .ok (.iconst (-1), 1) := by decide +kernel
theorem dX11_peace_16 : decode cX11_peace 16 = .ok (.ireturn, 1) := by decide +kernel
theorem dX11_peace_17 : decode cX11_peace 17 = .ok (.aload_n 0, 1) := by decide +kernel
theorem dX11_peace_18 : decode cX11_peace 18 = .ok (.getfield 39, 3) := by decide +kernel
theorem dX11_peace_21 : decode cX11_peace 21 = .ok (.getfield 241, 3) := by decide +kernel
theorem dX11_peace_24 : decode cX11_peace 24 = .ok (.iload_n 1, 1) := by decide +kernel
theorem dX11_peace_25 : decode cX11_peace 25 = .ok (.isub, 1) := by decide +kernel
theorem dX11_peace_26 : decode cX11_peace 26 = .ok (.istore_n 2, 1) := by decide +kernel
theorem dX11_peace_27 : decode cX11_peace 27 = .ok (.aload_n 0, 1) := by decide +kernel
theorem dX11_peace_28 : decode cX11_peace 28 = .ok (.getfield 39, 3) := by decide +kernel
theorem dX11_peace_31 : decode cX11_peace 31 = .ok (.iload_n 1, 1) := by decide +kernel
theorem dX11_peace_32 : decode cX11_peace 32 = .ok (.invokevirtual 247, 3) := by decide +kernel
theorem dX11_peace_35 : decode cX11_peace 35 = .ok (.iload_n 2, 1) := by decide +kernel
theorem dX11_peace_36 : decode cX11_peace 36 = .ok (.ireturn, 1) := by decide +kernel
theorem dX11_seat_0 : decode cX11_seat 0 = .ok (.aload_n 0, 1) := by decide +kernel
theorem dX11_seat_1 : decode cX11_seat 1 = .ok (.getfield 31, 3) := by decide +kernel
theorem dX11_seat_4 : decode cX11_seat 4 = .ok (.iload_n 1, 1) := by decide +kernel
theorem dX11_seat_5 : decode cX11_seat 5 = .ok (.invokevirtual 196, 3) := by decide +kernel
theorem dX11_seat_8 : decode cX11_seat 8 = .ok (.ifCond .eq 14, 3) := by decide +kernel
theorem dX11_seat_11 : decode cX11_seat 11 = .ok (.aload_n 0, 1) := by decide +kernel
theorem dX11_seat_12 : decode cX11_seat 12 = .ok (.getfield 31, 3) := by decide +kernel
theorem dX11_seat_15 : decode cX11_seat 15 = .ok (.iload_n 2, 1) := by decide +kernel
theorem dX11_seat_16 : decode cX11_seat 16 = .ok (.invokevirtual 185, 3) := by decide +kernel
theorem dX11_seat_19 : decode cX11_seat 19 = .ok (.ifCond .ne 5, 3) := by decide +kernel
theorem dX11_seat_22 : decode cX11_seat 22 = .ok (.iconst (-1), 1) := by decide +kernel
theorem dX11_seat_23 : decode cX11_seat 23 = .ok (.ireturn, 1) := by decide +kernel
theorem dX11_seat_24 : decode cX11_seat 24 = .ok (.aload_n 0, 1) := by decide +kernel
theorem dX11_seat_25 : decode cX11_seat 25 = .ok (.getfield 31, 3) := by decide +kernel
theorem dX11_seat_28 : decode cX11_seat 28 = .ok (.iload_n 1, 1) := by decide +kernel
theorem dX11_seat_29 : decode cX11_seat 29 = .ok (.invokevirtual 205, 3) := by decide +kernel
theorem dX11_seat_32 : decode cX11_seat 32 = .ok (.istore_n 3, 1) := by decide +kernel
theorem dX11_seat_33 : decode cX11_seat 33 = .ok (.iload_n 3, 1) := by decide +kernel
theorem dX11_seat_34 : decode cX11_seat 34 = .ok (.iload_n 2, 1) := by decide +kernel
theorem dX11_seat_35 : decode cX11_seat 35 = .ok (.if_icmp .eq 15, 3) := by decide +kernel
theorem dX11_seat_38 : decode cX11_seat 38 = .ok (.aload_n 0, 1) := by decide +kernel
theorem dX11_seat_39 : decode cX11_seat 39 = .ok (.getfield 31, 3) := by decide +kernel
theorem dX11_seat_42 : decode cX11_seat 42 = .ok (.iload_n 1, 1) := by decide +kernel
theorem dX11_seat_43 : decode cX11_seat 43 = .ok (.iload_n 2, 1) := by decide +kernel
theorem dX11_seat_44 : decode cX11_seat 44 = .ok (.invokevirtual 250, 3) := by decide +kernel
theorem dX11_seat_47 : decode cX11_seat 47 = .ok (.ifCond .ne 6, 3) := by decide +kernel
theorem dX11_seat_50 : decode cX11_seat 50 = .ok (.bipush (-4), 2) := by decide +kernel
theorem dX11_seat_52 : decode cX11_seat 52 = .ok (.ireturn, 1) := by decide +kernel
theorem dX11_seat_53 : decode cX11_seat 53 = .ok (.aload_n 0, 1) := by decide +kernel
theorem dX11_seat_54 : decode cX11_seat 54 = .ok (.getfield 31, 3) := by decide +kernel
theorem dX11_seat_57 : decode cX11_seat 57 = .ok (.iload_n 1, 1) := by decide +kernel
theorem dX11_seat_58 : decode cX11_seat 58 = .ok (.iload_n 2, 1) := by decide +kernel
theorem dX11_seat_59 : decode cX11_seat 59 = .ok (.invokevirtual 253, 3) := by decide +kernel
theorem dX11_seat_62 : decode cX11_seat 62 = .ok (.aload_n 0, 1) := by decide +kernel
theorem dX11_seat_63 : decode cX11_seat 63 = .ok (.getfield 50, 3) := by decide +kernel
theorem dX11_seat_66 : decode cX11_seat 66 = .ok (.iconst 0, 1) := by decide +kernel
theorem dX11_seat_67 : decode cX11_seat 67 = .ok (.iload_n 1, 1) := by decide +kernel
theorem dX11_seat_68 : decode cX11_seat 68 = .ok (.iload_n 3, 1) := by decide +kernel
theorem dX11_seat_69 : decode cX11_seat 69 = .ok (.invokevirtual 256, 3) := by decide +kernel
theorem dX11_seat_72 : decode cX11_seat 72 = .ok (.iload_n 2, 1) := by decide +kernel
theorem dX11_seat_73 : decode cX11_seat 73 = .ok (.ireturn, 1) := by decide +kernel
theorem dX11_rise_0 : decode cX11_rise 0 = .ok (.aload_n 0, 1) := by decide +kernel
theorem dX11_rise_1 : decode cX11_rise 1 = .ok (.getfield 31, 3) := by decide +kernel
theorem dX11_rise_4 : decode cX11_rise 4 = .ok (.iload_n 1, 1) := by decide +kernel
theorem dX11_rise_5 : decode cX11_rise 5 = .ok (.invokevirtual 196, 3) := by decide +kernel
theorem dX11_rise_8 : decode cX11_rise 8 = .ok (.ifCond .ne 5, 3) := by decide +kernel
theorem dX11_rise_11 : decode cX11_rise 11 = .ok (.iconst (-1), 1) := by decide +kernel
theorem dX11_rise_12 : decode cX11_rise 12 = .ok (.ireturn, 1) := by decide +kernel
theorem dX11_rise_13 : decode cX11_rise 13 = .ok (.aload_n 0, 1) := by decide +kernel
theorem dX11_rise_14 : decode cX11_rise 14 = .ok (.getfield 31, 3) := by decide +kernel
theorem dX11_rise_17 : decode cX11_rise 17 = .ok (.iload_n 1, 1) := by decide +kernel
theorem dX11_rise_18 : decode cX11_rise 18 = .ok (.invokevirtual 205, 3) := by decide +kernel
theorem dX11_rise_21 : decode cX11_rise 21 = .ok (.istore_n 2, 1) := by decide +kernel
theorem dX11_rise_22 : decode cX11_rise 22 = .ok (.iload_n 2, 1) := by decide +kernel
theorem dX11_rise_23 : decode cX11_rise 23 = .ok (.bipush (-9), 2) := by decide +kernel
theorem dX11_rise_25 : decode cX11_rise 25 = .ok (.if_icmp .ne 6, 3) := by decide +kernel
theorem dX11_rise_28 : decode cX11_rise 28 = .ok (.bipush (-4), 2) := by decide +kernel
theorem dX11_rise_30 : decode cX11_rise 30 = .ok (.ireturn, 1) := by decide +kernel
theorem dX11_rise_31 : decode cX11_rise 31 = .ok (.aload_n 0, 1) := by decide +kernel
theorem dX11_rise_32 : decode cX11_rise 32 = .ok (.getfield 31, 3) := by decide +kernel
theorem dX11_rise_35 : decode cX11_rise 35 = .ok (.iload_n 1, 1) := by decide +kernel
theorem dX11_rise_36 : decode cX11_rise 36 = .ok (.bipush (-9), 2) := by decide +kernel
theorem dX11_rise_38 : decode cX11_rise 38 = .ok (.invokevirtual 253, 3) := by decide +kernel
theorem dX11_rise_41 : decode cX11_rise 41 = .ok (.aload_n 0, 1) := by decide +kernel
theorem dX11_rise_42 : decode cX11_rise 42 = .ok (.getfield 50, 3) := by decide +kernel
theorem dX11_rise_45 : decode cX11_rise 45 = .ok (.iconst 1, 1) := by decide +kernel
theorem dX11_rise_46 : decode cX11_rise 46 = .ok (.iload_n 1, 1) := by decide +kernel
theorem dX11_rise_47 : decode cX11_rise 47 = .ok (.iload_n 2, 1) := by decide +kernel
theorem dX11_rise_48 : decode cX11_rise 48 = .ok (.invokevirtual 256, 3) := by decide +kernel
theorem dX11_rise_51 : decode cX11_rise 51 = .ok (.iload_n 2, 1) := by decide +kernel
theorem dX11_rise_52 : decode cX11_rise 52 = .ok (.ireturn, 1) := by decide +kernel
theorem dX11_change_0 : decode cX11_change 0 = .ok (.aload_n 0, 1) := by decide +kernel
theorem dX11_change_1 : decode cX11_change 1 = .ok (.getfield 31, 3) := by decide +kernel
theorem dX11_change_4 : decode cX11_change 4 = .ok (.iload_n 1, 1) := by decide +kernel
theorem dX11_change_5 : decode cX11_change 5 = .ok (.invokevirtual 196, 3) := by decide +kernel
theorem dX11_change_8 : decode cX11_change 8 = .ok (.ifCond .eq 19, 3) := by decide +kernel
theorem dX11_change_11 : decode cX11_change 11 = .ok (.aload_n 0, 1) := by decide +kernel
theorem dX11_change_12 : decode cX11_change 12 = .ok (.getfield 31, 3) := by decide +kernel
theorem dX11_change_15 : decode cX11_change 15 = .ok (.iload_n 2, 1) := by decide +kernel
theorem dX11_change_16 : decode cX11_change 16 = .ok (.invokevirtual 196, 3) := by decide +kernel
theorem dX11_change_19 : decode cX11_change 19 = .ok (.ifCond .eq 8, 3) := by decide +kernel
theorem dX11_change_22 : decode cX11_change 22 = .ok (.iload_n 1, 1) := by decide +kernel
theorem dX11_change_23 : decode cX11_change 23 = .ok (.iload_n 2, 1) := by decide +kernel
theorem dX11_change_24 : decode cX11_change 24 = .ok (.if_icmp .ne 5, 3) := by decide +kernel
theorem dX11_change_27 : decode cX11_change 27 = .ok (.iconst (-1), 1) := by decide +kernel
theorem dX11_change_28 : decode cX11_change 28 = .ok (.ireturn, 1) := by decide +kernel
theorem dX11_change_29 : decode cX11_change 29 = .ok (.aload_n 0, 1) := by decide +kernel
theorem dX11_change_30 : decode cX11_change 30 = .ok (.getfield 31, 3) := by decide +kernel
theorem dX11_change_33 : decode cX11_change 33 = .ok (.iload_n 1, 1) := by decide +kernel
theorem dX11_change_34 : decode cX11_change 34 = .ok (.iload_n 2, 1) := by decide +kernel
theorem dX11_change_35 : decode cX11_change 35 = .ok (.invokevirtual 260, 3) := by decide +kernel
theorem dX11_change_38 : decode cX11_change 38 = .ok (.ifCond .ne 6, 3) := by decide +kernel
theorem dX11_change_41 : decode cX11_change 41 = .ok (.bipush (-4), 2) := by decide +kernel
theorem dX11_change_43 : decode cX11_change 43 = .ok (.ireturn, 1) := by decide +kernel
theorem dX11_change_44 : decode cX11_change 44 = .ok (.aload_n 0, 1) := by decide +kernel
theorem dX11_change_45 : decode cX11_change 45 = .ok (.getfield 50, 3) := by decide +kernel
theorem dX11_change_48 : decode cX11_change 48 = .ok (.iconst 2, 1) := by decide +kernel
theorem dX11_change_49 : decode cX11_change 49 = .ok (.iload_n 1, 1) := by decide +kernel
theorem dX11_change_50 : decode cX11_change 50 = .ok (.iload_n 2, 1) := by decide +kernel
theorem dX11_change_51 : decode cX11_change 51 = .ok (.invokevirtual 256, 3) := by decide +kernel
theorem dX11_change_54 : decode cX11_change 54 = .ok (.iconst 1, 1) := by decide +kernel
theorem dX11_change_55 : decode cX11_change 55 = .ok (.ireturn, 1) := by decide +kernel
theorem dX11_undo_0 : decode cX11_undo 0 = .ok (.aload_n 0, 1) := by decide +kernel
theorem dX11_undo_1 : decode cX11_undo 1 = .ok (.getfield 50, 3) := by decide +kernel
theorem dX11_undo_4 : decode cX11_undo 4 = .ok (.getfield 263, 3) := by decide +kernel
theorem dX11_undo_7 : decode cX11_undo 7 = .ok (.ifCond .ne 6, 3) := by decide +kernel
theorem dX11_undo_10 : decode cX11_undo 10 = .ok (.bipush (-4), 2) := by decide +kernel
theorem dX11_undo_12 : decode cX11_undo 12 = .ok (.ireturn, 1) := by decide +kernel
theorem dX11_undo_13 : decode cX11_undo 13 = .ok (.aload_n 0, 1) := by decide +kernel
theorem dX11_undo_14 : decode cX11_undo 14 = .ok (.getfield 50, 3) := by decide +kernel
theorem dX11_undo_17 : decode cX11_undo 17 = .ok (.invokevirtual 264, 3) := by decide +kernel
theorem dX11_undo_20 : decode cX11_undo 20 = .ok (.istore_n 1, 1) := by decide +kernel
theorem dX11_undo_21 : decode cX11_undo 21 = .ok (.aload_n 0, 1) := by decide +kernel
theorem dX11_undo_22 : decode cX11_undo 22 = .ok (.getfield 50, 3) := by decide +kernel
theorem dX11_undo_25 : decode cX11_undo 25 = .ok (.invokevirtual 267, 3) := by decide +kernel
theorem dX11_undo_28 : decode cX11_undo 28 = .ok (.istore_n 2, 1) := by decide +kernel
theorem dX11_undo_29 : decode cX11_undo 29 = .ok (.aload_n 0, 1) := by decide +kernel
theorem dX11_undo_30 : decode cX11_undo 30 = .ok (.getfield 50, 3) := by decide +kernel
theorem dX11_undo_33 : decode cX11_undo 33 = .ok (.invokevirtual 270, 3) := by decide +kernel
theorem dX11_undo_36 : decode cX11_undo 36 = .ok (.istore_n 3, 1) := by decide +kernel
theorem dX11_undo_37 : decode cX11_undo 37 = .ok (.aload_n 0, 1) := by decide +kernel
theorem dX11_undo_38 : decode cX11_undo 38 = .ok (.getfield 50, 3) := by decide +kernel
theorem dX11_undo_41 : decode cX11_undo 41 = .ok (.invokevirtual 273, 3) := by decide +kernel
theorem dX11_undo_44 : decode cX11_undo 44 = .ok (.iload_n 1, 1) := by decide +kernel
theorem dX11_undo_45 : decode cX11_undo 45 = .ok (.iconst 2, 1) := by decide +kernel
theorem dX11_undo_46 : decode cX11_undo 46 = .ok (.if_icmp .ne 15, 3) := by decide +kernel
theorem dX11_undo_49 : decode cX11_undo 49 = .ok (.aload_n 0, 1) := by decide +kernel
theorem dX11_undo_50 : decode cX11_undo 50 = .ok (.getfield 31, 3) := by decide +kernel
theorem dX11_undo_53 : decode cX11_undo 53 = .ok (.iload_n 2, 1) := by decide +kernel
theorem dX11_undo_54 : decode cX11_undo 54 = .ok (.iload_n 3, 1) := by decide +kernel
theorem dX11_undo_55 : decode cX11_undo 55 = .ok (.invokevirtual 276, 3) := by decide +kernel
theorem dX11_undo_58 : decode cX11_undo 58 = .ok (.goto 12, 3) := by decide +kernel
theorem dX11_undo_61 : decode cX11_undo 61 = .ok (.aload_n 0, 1) := by decide +kernel
theorem dX11_undo_62 : decode cX11_undo 62 = .ok (.getfield 31, 3) := by decide +kernel
theorem dX11_undo_65 : decode cX11_undo 65 = .ok (.iload_n 2, 1) := by decide +kernel
theorem dX11_undo_66 : decode cX11_undo 66 = .ok (.iload_n 3, 1) := by decide +kernel
theorem dX11_undo_67 : decode cX11_undo 67 = .ok (.invokevirtual 253, 3) := by decide +kernel
theorem dX11_undo_70 : decode cX11_undo 70 = .ok (.iload_n 1, 1) := by decide +kernel
theorem dX11_undo_71 : decode cX11_undo 71 = .ok (.ireturn, 1) := by decide +kernel
theorem dX11_keep_0 : decode cX11_keep 0 = .ok (.iload_n 1, 1) := by decide +kernel
theorem dX11_keep_1 : decode cX11_keep 1 = .ok (.iconst 0, 1) := by decide +kernel
theorem dX11_keep_2 : decode cX11_keep 2 = .ok (.iconst 2, 1) := by decide +kernel
theorem dX11_keep_3 : decode cX11_keep 3 = .ok (.invokestatic 188, 3) := by decide +kernel
theorem dX11_keep_6 : decode cX11_keep 6 = .ok (.ifCond .ne 5, 3) := by decide +kernel
theorem dX11_keep_9 : decode cX11_keep 9 = .ok (.iconst (-1), 1) := by decide +kernel
theorem dX11_keep_10 : decode cX11_keep 10 = .ok (.ireturn, 1) := by decide +kernel
theorem dX11_keep_11 : decode cX11_keep 11 = .ok (.aload_n 0, 1) := by decide +kernel
theorem dX11_keep_12 : decode cX11_keep 12 = .ok (.getfield 31, 3) := by decide +kernel
theorem dX11_keep_15 : decode cX11_keep 15 = .ok (.getfield 174, 3) := by decide +kernel
theorem dX11_keep_18 : decode cX11_keep 18 = .ok (.ifCond .ne 6, 3) := by decide +kernel
theorem dX11_keep_21 : decode cX11_keep 21 = .ok (.bipush (-4), 2) := by decide +kernel
theorem dX11_keep_23 : decode cX11_keep 23 = .ok (.ireturn, 1) := by decide +kernel
theorem dX11_keep_24 : decode cX11_keep 24 = .ok (.aload_n 0, 1) := by decide +kernel
theorem dX11_keep_25 : decode cX11_keep 25 = .ok (.getfield 57, 3) := by decide +kernel
theorem dX11_keep_28 : decode cX11_keep 28 = .ok (.iload_n 1, 1) := by decide +kernel
theorem dX11_keep_29 : decode cX11_keep 29 = .ok (.aload_n 0, 1) := by decide +kernel
theorem dX11_keep_30 : decode cX11_keep 30 = .ok (.getfield 31, 3) := by decide +kernel
theorem dX11_keep_33 : decode cX11_keep 33 = .ok (.invokevirtual 279, 3) := by decide +kernel
theorem dX11_keep_36 : decode cX11_keep 36 = .ok (.aload_n 0, 1) := by decide +kernel
theorem dX11_keep_37 : decode cX11_keep 37 = .ok (.getfield 31, 3) := by decide +kernel
theorem dX11_keep_40 : decode cX11_keep 40 = .ok (.invokevirtual 283, 3) := by decide +kernel
theorem dX11_keep_43 : decode cX11_keep 43 = .ok (.ireturn, 1) := by decide +kernel
theorem dX11_on_0 : decode cX11_on 0 = .ok (.iload_n 1, 1) := by decide +kernel
theorem dX11_on_1 : decode cX11_on 1 = .ok (.iconst 0, 1) := by decide +kernel
theorem dX11_on_2 : decode cX11_on 2 = .ok (.iconst 2, 1) := by decide +kernel
theorem dX11_on_3 : decode cX11_on 3 = .ok (.invokestatic 188, 3) := by decide +kernel
theorem dX11_on_6 : decode cX11_on 6 = .ok (.ifCond .ne 5, 3) := by decide +kernel
theorem dX11_on_9 : decode cX11_on 9 = .ok (.iconst (-1), 1) := by decide +kernel
theorem dX11_on_10 : decode cX11_on 10 = .ok (.ireturn, 1) := by decide +kernel
theorem dX11_on_11 : decode cX11_on 11 = .ok (.aload_n 0, 1) := by decide +kernel
theorem dX11_on_12 : decode cX11_on 12 = .ok (.getfield 57, 3) := by decide +kernel
theorem dX11_on_15 : decode cX11_on 15 = .ok (.iload_n 1, 1) := by decide +kernel
theorem dX11_on_16 : decode cX11_on 16 = .ok (.invokevirtual 286, 3) := by decide +kernel
theorem dX11_on_19 : decode cX11_on 19 = .ok (.ifCond .ne 12, 3) := by decide +kernel
theorem dX11_on_22 : decode cX11_on 22 = .ok (.aload_n 0, 1) := by decide +kernel
theorem dX11_on_23 : decode cX11_on 23 = .ok (.getfield 10, 3) := by decide +kernel
theorem dX11_on_26 : decode cX11_on 26 = .ok (.iconst 1, 1) := by decide +kernel
theorem dX11_on_27 : decode cX11_on 27 = .ok (.invokevirtual 92, 3) := by decide +kernel
theorem dX11_on_30 : decode cX11_on 30 = .ok (.ireturn, 1) := by decide +kernel
theorem dX11_on_31 : decode cX11_on 31 = .ok (.aload_n 0, 1) := by decide +kernel
theorem dX11_on_32 : decode cX11_on 32 = .ok (.getfield 57, 3) := by decide +kernel
theorem dX11_on_35 : decode cX11_on 35 = .ok (.iload_n 1, 1) := by decide +kernel
theorem dX11_on_36 : decode cX11_on 36 = .ok (.aload_n 0, 1) := by decide +kernel
theorem dX11_on_37 : decode cX11_on 37 = .ok (.getfield 31, 3) := by decide +kernel
theorem dX11_on_40 : decode cX11_on 40 = .ok (.invokevirtual 287, 3) := by decide +kernel
theorem dX11_on_43 : decode cX11_on 43 = .ok (.aload_n 0, 1) := by decide +kernel
theorem dX11_on_44 : decode cX11_on 44 = .ok (.getfield 50, 3) := by decide +kernel
theorem dX11_on_47 : decode cX11_on 47 = .ok (.invokevirtual 170, 3) := by decide +kernel
theorem dX11_on_50 : decode cX11_on 50 = .ok (.aload_n 0, 1) := by decide +kernel
theorem dX11_on_51 : decode cX11_on 51 = .ok (.getfield 31, 3) := by decide +kernel
theorem dX11_on_54 : decode cX11_on 54 = .ok (.invokevirtual 283, 3) := by decide +kernel
theorem dX11_on_57 : decode cX11_on 57 = .ok (.ireturn, 1) := by decide +kernel
theorem dX11_list_0 : decode cX11_list 0 = .ok (.iload_n 1, 1) := by decide +kernel
theorem dX11_list_1 : decode cX11_list 1 = .ok (.invokestatic 290, 3) := by decide +kernel
theorem dX11_list_4 : decode cX11_list 4 = .ok (.ifCond .ne 5, 3) := by decide +kernel
theorem dX11_list_7 : decode cX11_list 7 = .ok (.iconst (-1), 1) := by decide +kernel
theorem dX11_list_8 : decode cX11_list 8 = .ok (.ireturn, 1) := by decide +kernel
theorem dX11_list_9 : decode cX11_list 9 = .ok (.aload_n 0, 1) := by decide +kernel
theorem dX11_list_10 : decode cX11_list 10 = .ok (.getfield 31, 3) := by decide +kernel
theorem dX11_list_13 : decode cX11_list 13 = .ok (.iload_n 1, 1) := by decide +kernel
theorem dX11_list_14 : decode cX11_list 14 = .ok (.invokevirtual 293, 3) := by decide +kernel
theorem dX11_list_17 : decode cX11_list 17 = .ok (.istore_n 2, 1) := by decide +kernel
theorem dX11_list_18 : decode cX11_list 18 = .ok (.aload_n 0, 1) := by decide +kernel
theorem dX11_list_19 : decode cX11_list 19 = .ok (.getfield 10, 3) := by decide +kernel
theorem dX11_list_22 : decode cX11_list 22 = .ok (.iload_n 2, 1) := by decide +kernel
theorem dX11_list_23 : decode cX11_list 23 = .ok (.invokevirtual 107, 3) := by decide +kernel
theorem dX11_list_26 : decode cX11_list 26 = .ok (.aload_n 0, 1) := by decide +kernel
theorem dX11_list_27 : decode cX11_list 27 = .ok (.getfield 31, 3) := by decide +kernel
theorem dX11_list_30 : decode cX11_list 30 = .ok (.iload_n 2, 1) := by decide +kernel
theorem dX11_list_31 : decode cX11_list 31 = .ok (.invokevirtual 296, 3) := by decide +kernel
theorem dX11_list_34 : decode cX11_list 34 = .ok (.ifCond .eq 7, 3) := by decide +kernel
theorem dX11_list_37 : decode cX11_list 37 = .ok (.iconst 1, 1) := by decide +kernel
theorem dX11_list_38 : decode cX11_list 38 = .ok (.goto 4, 3) := by decide +kernel
theorem dX11_list_41 : decode cX11_list 41 = .ok (.iconst 0, 1) := by decide +kernel
theorem dX11_list_42 : decode cX11_list 42 = .ok (.ireturn, 1) := by decide +kernel
theorem dX11_when_0 : decode cX11_when 0 = .ok (.iconst 0, 1) := by decide +kernel
theorem dX11_when_1 : decode cX11_when 1 = .ok (.istore_n 1, 1) := by decide +kernel
theorem dX11_when_2 : decode cX11_when 2 = .ok (.iload_n 1, 1) := by decide +kernel
theorem dX11_when_3 : decode cX11_when 3 = .ok (.aload_n 0, 1) := by decide +kernel
theorem dX11_when_4 : decode cX11_when 4 = .ok (.getfield 43, 3) := by decide +kernel
theorem dX11_when_7 : decode cX11_when 7 = .ok (.getfield 182, 3) := by decide +kernel
theorem dX11_when_10 : decode cX11_when 10 = .ok (.if_icmp .ge 46, 3) := by decide +kernel
theorem dX11_when_13 : decode cX11_when 13 = .ok (.aload_n 0, 1) := by decide +kernel
theorem dX11_when_14 : decode cX11_when 14 = .ok (.getfield 31, 3) := by decide +kernel
theorem dX11_when_17 : decode cX11_when 17 = .ok (.aload_n 0, 1) := by decide +kernel
theorem dX11_when_18 : decode cX11_when 18 = .ok (.getfield 43, 3) := by decide +kernel
theorem dX11_when_21 : decode cX11_when 21 = .ok (.iload_n 1, 1) := by decide +kernel
theorem dX11_when_22 : decode cX11_when 22 = .ok (.invokevirtual 299, 3) := by decide +kernel
theorem dX11_when_25 : decode cX11_when 25 = .ok (.invokevirtual 293, 3) := by decide +kernel
theorem dX11_when_28 : decode cX11_when 28 = .ok (.istore_n 2, 1) := by decide +kernel
theorem dX11_when_29 : decode cX11_when 29 = .ok (.aload_n 0, 1) := by decide +kernel
theorem dX11_when_30 : decode cX11_when 30 = .ok (.getfield 31, 3) := by decide +kernel
theorem dX11_when_33 : decode cX11_when 33 = .ok (.iload_n 2, 1) := by decide +kernel
theorem dX11_when_34 : decode cX11_when 34 = .ok (.invokevirtual 296, 3) := by decide +kernel
theorem dX11_when_37 : decode cX11_when 37 = .ok (.ifCond .ne 13, 3) := by decide +kernel
theorem dX11_when_40 : decode cX11_when 40 = .ok (.aload_n 0, 1) := by decide +kernel
theorem dX11_when_41 : decode cX11_when 41 = .ok (.getfield 10, 3) := by decide +kernel
theorem dX11_when_44 : decode cX11_when 44 = .ok (.iload_n 2, 1) := by decide +kernel
theorem dX11_when_45 : decode cX11_when 45 = .ok (.invokevirtual 107, 3) := by decide +kernel
theorem dX11_when_48 : decode cX11_when 48 = .ok (.iload_n 1, 1) := by decide +kernel
theorem dX11_when_49 : decode cX11_when 49 = .ok (.ireturn, 1) := by decide +kernel
theorem dX11_when_50 : decode cX11_when 50 = .ok (.iinc 1 1, 3) := by decide +kernel
theorem dX11_when_53 : decode cX11_when 53 = .ok (.goto (-51), 3) := by decide +kernel
theorem dX11_when_56 : decode cX11_when 56 = .ok (.bipush (-9), 2) := by decide +kernel
theorem dX11_when_58 : decode cX11_when 58 = .ok (.ireturn, 1) := by decide +kernel
theorem dX11_minutes_0 : decode cX11_minutes 0 = .ok (.iconst 0, 1) := by decide +kernel
theorem dX11_minutes_1 : decode cX11_minutes 1 = .ok (.istore_n 1, 1) := by decide +kernel
theorem dX11_minutes_2 : decode cX11_minutes 2 = .ok (.iconst 0, 1) := by decide +kernel
theorem dX11_minutes_3 : decode cX11_minutes 3 = .ok (.istore_n 2, 1) := by decide +kernel
theorem dX11_minutes_4 : decode cX11_minutes 4 = .ok (.iload_n 2, 1) := by decide +kernel
theorem dX11_minutes_5 : decode cX11_minutes 5 = .ok (.aload_n 0, 1) := by decide +kernel
theorem dX11_minutes_6 : decode cX11_minutes 6 = .ok (.getfield 43, 3) := by decide +kernel
theorem dX11_minutes_9 : decode cX11_minutes 9 = .ok (.getfield 182, 3) := by decide +kernel
theorem dX11_minutes_12 : decode cX11_minutes 12 = .ok (.if_icmp .ge 37, 3) := by decide +kernel
theorem dX11_minutes_15 : decode cX11_minutes 15 = .ok (.aload_n 0, 1) := by decide +kernel
theorem dX11_minutes_16 : decode cX11_minutes 16 = .ok (.getfield 31, 3) := by decide +kernel
theorem dX11_minutes_19 : decode cX11_minutes 19 = .ok (.aload_n 0, 1) := by decide +kernel
theorem dX11_minutes_20 : decode cX11_minutes 20 = .ok (.getfield 31, 3) := by decide +kernel
theorem dX11_minutes_23 : decode cX11_minutes 23 = .ok (.aload_n 0, 1) := by decide +kernel
theorem dX11_minutes_24 : decode cX11_minutes 24 = .ok (.getfield 43, 3) := by decide +kernel
theorem dX11_minutes_27 : decode cX11_minutes 27 = .ok (.iload_n 2, 1) := by decide +kernel
theorem dX11_minutes_28 : decode cX11_minutes 28 = .ok (.invokevirtual 299, 3) := by decide +kernel
theorem dX11_minutes_31 : decode cX11_minutes 31 = .ok (.invokevirtual 293, 3) := by decide +kernel
theorem dX11_minutes_34 : decode cX11_minutes 34 = .ok (.invokevirtual 296, 3) := by decide +kernel
theorem dX11_minutes_37 : decode cX11_minutes 37 = .ok (.ifCond .eq 6, 3) := by decide +kernel
theorem dX11_minutes_40 : decode cX11_minutes 40 = .ok (.iinc 1 1, 3) := by decide +kernel
theorem dX11_minutes_43 : decode cX11_minutes 43 = .ok (.iinc 2 1, 3) := by decide +kernel
theorem dX11_minutes_46 : decode cX11_minutes 46 = .ok (.goto (-42), 3) := by decide +kernel
theorem dX11_minutes_49 : decode cX11_minutes 49 = .ok (.aload_n 0, 1) := by decide +kernel
theorem dX11_minutes_50 : decode cX11_minutes 50 = .ok (.getfield 10, 3) := by decide +kernel
theorem dX11_minutes_53 : decode cX11_minutes 53 = .ok (.iload_n 1, 1) := by decide +kernel
theorem dX11_minutes_54 : decode cX11_minutes 54 = .ok (.aload_n 0, 1) := by decide +kernel
theorem dX11_minutes_55 : decode cX11_minutes 55 = .ok (.getfield 43, 3) := by decide +kernel
theorem dX11_minutes_58 : decode cX11_minutes 58 = .ok (.getfield 182, 3) := by decide +kernel
theorem dX11_minutes_61 : decode cX11_minutes 61 = .ok (.invokevirtual 302, 3) := by decide +kernel
theorem dX11_minutes_64 : decode cX11_minutes 64 = .ok (.iload_n 1, 1) := by decide +kernel
theorem dX11_minutes_65 : decode cX11_minutes 65 = .ok (.ireturn, 1) := by decide +kernel
theorem dX11_worst_0 : decode cX11_worst 0 = .ok (.aload_n 0, 1) := by decide +kernel
theorem dX11_worst_1 : decode cX11_worst 1 = .ok (.invokevirtual 305, 3) := by decide +kernel
theorem dX11_worst_4 : decode cX11_worst 4 = .ok (.istore_n 1, 1) := by decide +kernel
theorem dX11_worst_5 : decode cX11_worst 5 = .ok (.aload_n 0, 1) := by decide +kernel
theorem dX11_worst_6 : decode cX11_worst 6 = .ok (.getfield 10, 3) := by decide +kernel
theorem dX11_worst_9 : decode cX11_worst 9 = .ok (.iload_n 1, 1) := by decide +kernel
theorem dX11_worst_10 : decode cX11_worst 10 = .ok (.invokevirtual 107, 3) := by decide +kernel
theorem dX11_worst_13 : decode cX11_worst 13 = .ok (.aload_n 0, 1) := by decide +kernel
theorem dX11_worst_14 : decode cX11_worst 14 = .ok (.iload_n 1, 1) := by decide +kernel
theorem dX11_worst_15 : decode cX11_worst 15 = .ok (.invokevirtual 308, 3) := by decide +kernel
theorem dX11_worst_18 : decode cX11_worst 18 = .ok (.ireturn, 1) := by decide +kernel
theorem dX11_need_0 : decode cX11_need 0 = .ok (.aload_n 0, 1) := by decide +kernel
theorem dX11_need_1 : decode cX11_need 1 = .ok (.aload_n 0, 1) := by decide +kernel
theorem dX11_need_2 : decode cX11_need 2 = .ok (.invokevirtual 305, 3) := by decide +kernel
theorem dX11_need_5 : decode cX11_need 5 = .ok (.invokevirtual 308, 3) := by decide +kernel
theorem dX11_need_8 : decode cX11_need 8 = .ok (.istore_n 1, 1) := by decide +kernel
theorem dX11_need_9 : decode cX11_need 9 = .ok (.iload_n 1, 1) := by decide +kernel
theorem dX11_need_10 : decode cX11_need 10 = .ok (.sipush 999, 3) := by decide +kernel
theorem dX11_need_13 : decode cX11_need 13 = .ok (.if_icmp .le 8, 3) := by decide +kernel
theorem dX11_need_16 : decode cX11_need 16 = .ok (.bipush (-9), 2) := by decide +kernel
theorem dX11_need_18 : decode cX11_need 18 = .ok (.goto 4, 3) := by decide +kernel
theorem dX11_need_21 : decode cX11_need 21 = .ok (.iload_n 1, 1) := by decide +kernel
theorem dX11_need_22 : decode cX11_need 22 = .ok (.ireturn, 1) := by decide +kernel
theorem dX11_best_0 : decode cX11_best 0 = .ok (.aload_n 0, 1) := by decide +kernel
theorem dX11_best_1 : decode cX11_best 1 = .ok (.iload_n 1, 1) := by decide +kernel
theorem dX11_best_2 : decode cX11_best 2 = .ok (.invokevirtual 88, 3) := by decide +kernel
theorem dX11_best_5 : decode cX11_best 5 = .ok (.astore_n 2, 1) := by decide +kernel
theorem dX11_best_6 : decode cX11_best 6 = .ok (.aload_n 2, 1) := by decide +kernel
theorem dX11_best_7 : decode cX11_best 7 = .ok (.ifnonnull 5, 3) := by decide +kernel
theorem dX11_best_10 : decode cX11_best 10 = .ok (.iconst (-1), 1) := by decide +kernel
theorem dX11_best_11 : decode cX11_best 11 = .ok (.ireturn, 1) := by decide +kernel
theorem dX11_best_12 : decode cX11_best 12 = .ok (.aload_n 0, 1) := by decide +kernel
theorem dX11_best_13 : decode cX11_best 13 = .ok (.invokevirtual 311, 3) := by decide +kernel
theorem dX11_best_16 : decode cX11_best 16 = .ok (.istore_n 3, 1) := by decide +kernel
theorem dX11_best_17 : decode cX11_best 17 = .ok (.iload_n 3, 1) := by decide +kernel
theorem dX11_best_18 : decode cX11_best 18 = .ok (.ifCond .eq 5, 3) := by decide +kernel
theorem dX11_best_21 : decode cX11_best 21 = .ok (.iload_n 3, 1) := by decide +kernel
theorem dX11_best_22 : decode cX11_best 22 = .ok (.ireturn, 1) := by decide +kernel
theorem dX11_best_23 : decode cX11_best 23 = .ok (.aload_n 0, 1) := by decide +kernel
theorem dX11_best_24 : decode cX11_best 24 = .ok (.getfield 66, 3) := by decide +kernel
theorem dX11_best_27 : decode cX11_best 27 = .ok (.invokevirtual 314, 3) := by decide +kernel
theorem dX11_best_30 : decode cX11_best 30 = .ok (.aload_n 0, 1) := by decide +kernel
theorem dX11_best_31 : decode cX11_best 31 = .ok (.getfield 66, 3) := by decide +kernel
theorem dX11_best_34 : decode cX11_best 34 = .ok (.getfield 317, 3) := by decide +kernel
theorem dX11_best_37 : decode cX11_best 37 = .ok (.ifCond .ne 6, 3) := by decide +kernel
theorem dX11_best_40 : decode cX11_best 40 = .ok (.bipush (-9), 2) := by decide +kernel
theorem dX11_best_42 : decode cX11_best 42 = .ok (.ireturn, 1) := by decide +kernel
theorem dX11_best_43 : decode cX11_best 43 = .ok (.aload_n 2, 1) := by decide +kernel
theorem dX11_best_44 : decode cX11_best 44 = .ok (.aload_n 0, 1) := by decide +kernel
theorem dX11_best_45 : decode cX11_best 45 = .ok (.getfield 66, 3) := by decide +kernel
theorem dX11_best_48 : decode cX11_best 48 = .ok (.getfield 320, 3) := by decide +kernel
theorem dX11_best_51 : decode cX11_best 51 = .ok (.aload_n 0, 1) := by decide +kernel
theorem dX11_best_52 : decode cX11_best 52 = .ok (.getfield 31, 3) := by decide +kernel
theorem dX11_best_55 : decode cX11_best 55 = .ok (.getfield 323, 3) := by decide +kernel
theorem dX11_best_58 : decode cX11_best 58 = .ok (.invokevirtual 326, 3) := by decide +kernel
theorem dX11_best_61 : decode cX11_best 61 = .ok (.aload_n 0, 1) := by decide +kernel
theorem dX11_best_62 : decode cX11_best 62 = .ok (.getfield 66, 3) := by decide +kernel
theorem dX11_best_65 : decode cX11_best 65 = .ok (.getfield 329, 3) := by decide +kernel
theorem dX11_best_68 : decode cX11_best 68 = .ok (.ireturn, 1) := by decide +kernel
theorem dX11_ways_0 : decode cX11_ways 0 = .ok (.aload_n 0, 1) := by decide +kernel
theorem dX11_ways_1 : decode cX11_ways 1 = .ok (.invokevirtual 311, 3) := by decide +kernel
theorem dX11_ways_4 : decode cX11_ways 4 = .ok (.istore_n 1, 1) := by decide +kernel
theorem dX11_ways_5 : decode cX11_ways 5 = .ok (.iload_n 1, 1) := by decide +kernel
theorem dX11_ways_6 : decode cX11_ways 6 = .ok (.ifCond .eq 5, 3) := by decide +kernel
theorem dX11_ways_9 : decode cX11_ways 9 = .ok (.iload_n 1, 1) := by decide +kernel
theorem dX11_ways_10 : decode cX11_ways 10 = .ok (.ireturn, 1) := by decide +kernel
theorem dX11_ways_11 : decode cX11_ways 11 = .ok (.aload_n 0, 1) := by decide +kernel
theorem dX11_ways_12 : decode cX11_ways 12 = .ok (.getfield 66, 3) := by decide +kernel
theorem dX11_ways_15 : decode cX11_ways 15 = .ok (.invokevirtual 314, 3) := by decide +kernel
theorem dX11_ways_18 : decode cX11_ways 18 = .ok (.aload_n 0, 1) := by decide +kernel
theorem dX11_ways_19 : decode cX11_ways 19 = .ok (.getfield 10, 3) := by decide +kernel
theorem dX11_ways_22 : decode cX11_ways 22 = .ok (.aload_n 0, 1) := by decide +kernel
theorem dX11_ways_23 : decode cX11_ways 23 = .ok (.getfield 66, 3) := by decide +kernel
theorem dX11_ways_26 : decode cX11_ways 26 = .ok (.getfield 332, 3) := by decide +kernel
theorem dX11_ways_29 : decode cX11_ways 29 = .ok (.aload_n 0, 1) := by decide +kernel
theorem dX11_ways_30 : decode cX11_ways 30 = .ok (.getfield 66, 3) := by decide +kernel
theorem dX11_ways_33 : decode cX11_ways 33 = .ok (.getfield 317, 3) := by decide +kernel
theorem dX11_ways_36 : decode cX11_ways 36 = .ok (.invokevirtual 302, 3) := by decide +kernel
theorem dX11_ways_39 : decode cX11_ways 39 = .ok (.aload_n 0, 1) := by decide +kernel
theorem dX11_ways_40 : decode cX11_ways 40 = .ok (.getfield 66, 3) := by decide +kernel
theorem dX11_ways_43 : decode cX11_ways 43 = .ok (.getfield 332, 3) := by decide +kernel
theorem dX11_ways_46 : decode cX11_ways 46 = .ok (.ireturn, 1) := by decide +kernel
theorem dX11_sure_0 : decode cX11_sure 0 = .ok (.aload_n 0, 1) := by decide +kernel
theorem dX11_sure_1 : decode cX11_sure 1 = .ok (.invokevirtual 311, 3) := by decide +kernel
theorem dX11_sure_4 : decode cX11_sure 4 = .ok (.istore_n 1, 1) := by decide +kernel
theorem dX11_sure_5 : decode cX11_sure 5 = .ok (.iload_n 1, 1) := by decide +kernel
theorem dX11_sure_6 : decode cX11_sure 6 = .ok (.ifCond .eq 5, 3) := by decide +kernel
theorem dX11_sure_9 : decode cX11_sure 9 = .ok (.iload_n 1, 1) := by decide +kernel
theorem dX11_sure_10 : decode cX11_sure 10 = .ok (.ireturn, 1) := by decide +kernel
theorem dX11_sure_11 : decode cX11_sure 11 = .ok (.aload_n 0, 1) := by decide +kernel
theorem dX11_sure_12 : decode cX11_sure 12 = .ok (.getfield 66, 3) := by decide +kernel
theorem dX11_sure_15 : decode cX11_sure 15 = .ok (.invokevirtual 314, 3) := by decide +kernel
theorem dX11_sure_18 : decode cX11_sure 18 = .ok (.iconst 0, 1) := by decide +kernel
theorem dX11_sure_19 : decode cX11_sure 19 = .ok (.istore_n 2, 1) := by decide +kernel
theorem dX11_sure_20 : decode cX11_sure 20 = .ok (.iconst 0, 1) := by decide +kernel
theorem dX11_sure_21 : decode cX11_sure 21 = .ok (.istore_n 3, 1) := by decide +kernel
theorem dX11_sure_22 : decode cX11_sure 22 = .ok (.iload_n 3, 1) := by decide +kernel
theorem dX11_sure_23 : decode cX11_sure 23 = .ok (.aload_n 0, 1) := by decide +kernel
theorem dX11_sure_24 : decode cX11_sure 24 = .ok (.getfield 31, 3) := by decide +kernel
theorem dX11_sure_27 : decode cX11_sure 27 = .ok (.getfield 323, 3) := by decide +kernel
theorem dX11_sure_30 : decode cX11_sure 30 = .ok (.if_icmp .ge 30, 3) := by decide +kernel
theorem dX11_sure_33 : decode cX11_sure 33 = .ok (.aload_n 0, 1) := by decide +kernel
theorem dX11_sure_34 : decode cX11_sure 34 = .ok (.getfield 66, 3) := by decide +kernel
theorem dX11_sure_37 : decode cX11_sure 37 = .ok (.iload_n 3, 1) := by decide +kernel
theorem dX11_sure_38 : decode cX11_sure 38 = .ok (.invokevirtual 335, 3) := by decide +kernel
theorem dX11_sure_41 : decode cX11_sure 41 = .ok (.invokestatic 215, 3) := by decide +kernel
theorem dX11_sure_44 : decode cX11_sure 44 = .ok (.iconst 1, 1) := by decide +kernel
theorem dX11_sure_45 : decode cX11_sure 45 = .ok (.if_icmp .ne 9, 3) := by decide +kernel
theorem dX11_sure_48 : decode cX11_sure 48 = .ok (.iload_n 2, 1) := by decide +kernel
theorem dX11_sure_49 : decode cX11_sure 49 = .ok (.iconst 1, 1) := by decide +kernel
theorem dX11_sure_50 : decode cX11_sure 50 = .ok (.iload_n 3, 1) := by decide +kernel
theorem dX11_sure_51 : decode cX11_sure 51 = .ok (.ishl, 1) := by decide +kernel
theorem dX11_sure_52 : decode cX11_sure 52 = .ok (.ior, 1) := by decide +kernel
theorem dX11_sure_53 : decode cX11_sure 53 = .ok (.istore_n 2, 1) := by decide +kernel
theorem dX11_sure_54 : decode cX11_sure 54 = .ok (.iinc 3 1, 3) := by decide +kernel
theorem dX11_sure_57 : decode cX11_sure 57 = .ok (.goto (-35), 3) := by decide +kernel
theorem dX11_sure_60 : decode cX11_sure 60 = .ok (.iload_n 2, 1) := by decide +kernel
theorem dX11_sure_61 : decode cX11_sure 61 = .ok (.ireturn, 1) := by decide +kernel
theorem dX11_where_0 : decode cX11_where 0 = .ok (.aload_n 0, 1) := by decide +kernel
theorem dX11_where_1 : decode cX11_where 1 = .ok (.getfield 31, 3) := by decide +kernel
theorem dX11_where_4 : decode cX11_where 4 = .ok (.iload_n 1, 1) := by decide +kernel
theorem dX11_where_5 : decode cX11_where 5 = .ok (.invokevirtual 196, 3) := by decide +kernel
theorem dX11_where_8 : decode cX11_where 8 = .ok (.ifCond .ne 5, 3) := by decide +kernel
theorem dX11_where_11 : decode cX11_where 11 = .ok (.iconst (-1), 1) := by decide +kernel
theorem dX11_where_12 : decode cX11_where 12 = .ok (.ireturn, 1) := by decide +kernel
theorem dX11_where_13 : decode cX11_where 13 = .ok (.aload_n 0, 1) := by decide +kernel
theorem dX11_where_14 : decode cX11_where 14 = .ok (.getfield 31, 3) := by decide +kernel
theorem dX11_where_17 : decode cX11_where 17 = .ok (.iload_n 1, 1) := by decide +kernel
theorem dX11_where_18 : decode cX11_where 18 = .ok (.invokevirtual 205, 3) := by decide +kernel
theorem dX11_where_21 : decode cX11_where 21 = .ok (.bipush (-9), 2) := by decide +kernel
theorem dX11_where_23 : decode cX11_where 23 = .ok (.if_icmp .eq 6, 3) := by decide +kernel
theorem dX11_where_26 : decode cX11_where 26 = .ok (.bipush (-4), 2) := by decide +kernel
theorem dX11_where_28 : decode cX11_where 28 = .ok (.ireturn, 1) := by decide +kernel
theorem dX11_where_29 : decode cX11_where 29 = .ok (.aload_n 0, 1) := by decide +kernel
theorem dX11_where_30 : decode cX11_where 30 = .ok (.invokevirtual 311, 3) := by decide +kernel
theorem dX11_where_33 : decode cX11_where 33 = .ok (.istore_n 2, 1) := by decide +kernel
theorem dX11_where_34 : decode cX11_where 34 = .ok (.iload_n 2, 1) := by decide +kernel
theorem dX11_where_35 : decode cX11_where 35 = .ok (.ifCond .eq 5, 3) := by decide +kernel
theorem dX11_where_38 : decode cX11_where 38 = .ok (.iload_n 2, 1) := by decide +kernel
theorem dX11_where_39 : decode cX11_where 39 = .ok (.ireturn, 1) := by decide +kernel
theorem dX11_where_40 : decode cX11_where 40 = .ok (.aload_n 0, 1) := by decide +kernel
theorem dX11_where_41 : decode cX11_where 41 = .ok (.getfield 66, 3) := by decide +kernel
theorem dX11_where_44 : decode cX11_where 44 = .ok (.invokevirtual 314, 3) := by decide +kernel
theorem dX11_where_47 : decode cX11_where 47 = .ok (.aload_n 0, 1) := by decide +kernel
theorem dX11_where_48 : decode cX11_where 48 = .ok (.getfield 66, 3) := by decide +kernel
theorem dX11_where_51 : decode cX11_where 51 = .ok (.iload_n 1, 1) := by decide +kernel
theorem dX11_where_52 : decode cX11_where 52 = .ok (.invokevirtual 335, 3) := by decide +kernel
theorem dX11_where_55 : decode cX11_where 55 = .ok (.istore_n 3, 1) := by decide +kernel
theorem dX11_where_56 : decode cX11_where 56 = .ok (.aload_n 0, 1) := by decide +kernel
theorem dX11_where_57 : decode cX11_where 57 = .ok (.getfield 10, 3) := by decide +kernel
theorem dX11_where_60 : decode cX11_where 60 = .ok (.iload_n 3, 1) := by decide +kernel
theorem dX11_where_61 : decode cX11_where 61 = .ok (.invokevirtual 107, 3) := by decide +kernel
theorem dX11_where_64 : decode cX11_where 64 = .ok (.iload_n 3, 1) := by decide +kernel
theorem dX11_where_65 : decode cX11_where 65 = .ok (.invokestatic 215, 3) := by decide +kernel
theorem dX11_where_68 : decode cX11_where 68 = .ok (.ireturn, 1) := by decide +kernel
theorem dX11_aisle_0 : decode cX11_aisle 0 = .ok (.aload_n 0, 1) := by decide +kernel
theorem dX11_aisle_1 : decode cX11_aisle 1 = .ok (.getfield 31, 3) := by decide +kernel
theorem dX11_aisle_4 : decode cX11_aisle 4 = .ok (.iconst 0, 1) := by decide +kernel
theorem dX11_aisle_5 : decode cX11_aisle 5 = .ok (.invokevirtual 293, 3) := by decide +kernel
theorem dX11_aisle_8 : decode cX11_aisle 8 = .ok (.invokestatic 338, 3) := by decide +kernel
theorem dX11_aisle_11 : decode cX11_aisle 11 = .ok (.istore_n 1, 1) := by decide +kernel
theorem dX11_aisle_12 : decode cX11_aisle 12 = .ok (.bipush (-9), 2) := by decide +kernel
theorem dX11_aisle_14 : decode cX11_aisle 14 = .ok (.istore_n 2, 1) := by decide +kernel
theorem dX11_aisle_15 : decode cX11_aisle 15 = .ok (.iconst 0, 1) := by decide +kernel
theorem dX11_aisle_16 : decode cX11_aisle 16 = .ok (.istore_n 3, 1) := by decide +kernel
theorem dX11_aisle_17 : decode cX11_aisle 17 = .ok (.iload_n 3, 1) := by decide +kernel
theorem dX11_aisle_18 : decode cX11_aisle 18 = .ok (.aload_n 0, 1) := by decide +kernel
theorem dX11_aisle_19 : decode cX11_aisle 19 = .ok (.getfield 31, 3) := by decide +kernel
theorem dX11_aisle_22 : decode cX11_aisle 22 = .ok (.getfield 323, 3) := by decide +kernel
theorem dX11_aisle_25 : decode cX11_aisle 25 = .ok (.if_icmp .ge 85, 3) := by decide +kernel
theorem dX11_aisle_28 : decode cX11_aisle 28 = .ok (.iload_n 3, 1) := by decide +kernel
theorem dX11_aisle_29 : decode cX11_aisle 29 = .ok (.iconst 1, 1) := by decide +kernel
theorem dX11_aisle_30 : decode cX11_aisle 30 = .ok (.iadd, 1) := by decide +kernel
theorem dX11_aisle_31 : decode cX11_aisle 31 = .ok (.istore 4, 2) := by decide +kernel
theorem dX11_aisle_33 : decode cX11_aisle 33 = .ok (.iload 4, 2) := by decide +kernel
theorem dX11_aisle_35 : decode cX11_aisle 35 = .ok (.aload_n 0, 1) := by decide +kernel
theorem dX11_aisle_36 : decode cX11_aisle 36 = .ok (.getfield 31, 3) := by decide +kernel
theorem dX11_aisle_39 : decode cX11_aisle 39 = .ok (.getfield 323, 3) := by decide +kernel
theorem dX11_aisle_42 : decode cX11_aisle 42 = .ok (.if_icmp .ge 62, 3) := by decide +kernel
theorem dX11_aisle_45 : decode cX11_aisle 45 = .ok (.aload_n 0, 1) := by decide +kernel
theorem dX11_aisle_46 : decode cX11_aisle 46 = .ok (.getfield 31, 3) := by decide +kernel
theorem dX11_aisle_49 : decode cX11_aisle 49 = .ok (.iload_n 3, 1) := by decide +kernel
theorem dX11_aisle_50 : decode cX11_aisle 50 = .ok (.iload 4, 2) := by decide +kernel
theorem dX11_aisle_52 : decode cX11_aisle 52 = .ok (.invokevirtual 260, 3) := by decide +kernel
theorem dX11_aisle_55 : decode cX11_aisle 55 = .ok (.ifCond .eq 43, 3) := by decide +kernel
theorem dX11_aisle_58 : decode cX11_aisle 58 = .ok (.aload_n 0, 1) := by decide +kernel
theorem dX11_aisle_59 : decode cX11_aisle 59 = .ok (.getfield 31, 3) := by decide +kernel
theorem dX11_aisle_62 : decode cX11_aisle 62 = .ok (.iconst 0, 1) := by decide +kernel
theorem dX11_aisle_63 : decode cX11_aisle 63 = .ok (.invokevirtual 293, 3) := by decide +kernel
theorem dX11_aisle_66 : decode cX11_aisle 66 = .ok (.invokestatic 338, 3) := by decide +kernel
theorem dX11_aisle_69 : decode cX11_aisle 69 = .ok (.istore 5, 2) := by decide +kernel
theorem dX11_aisle_71 : decode cX11_aisle 71 = .ok (.aload_n 0, 1) := by decide +kernel
theorem dX11_aisle_72 : decode cX11_aisle 72 = .ok (.getfield 31, 3) := by decide +kernel
theorem dX11_aisle_75 : decode cX11_aisle 75 = .ok (.iload_n 3, 1) := by decide +kernel
theorem dX11_aisle_76 : decode cX11_aisle 76 = .ok (.iload 4, 2) := by decide +kernel
theorem dX11_aisle_78 : decode cX11_aisle 78 = .ok (.invokevirtual 276, 3) := by decide +kernel
theorem dX11_aisle_81 : decode cX11_aisle 81 = .ok (.iload 5, 2) := by decide +kernel
theorem dX11_aisle_83 : decode cX11_aisle 83 = .ok (.iload_n 1, 1) := by decide +kernel
theorem dX11_aisle_84 : decode cX11_aisle 84 = .ok (.if_icmp .ge 14, 3) := by decide +kernel
theorem dX11_aisle_87 : decode cX11_aisle 87 = .ok (.iload 5, 2) := by decide +kernel
theorem dX11_aisle_89 : decode cX11_aisle 89 = .ok (.istore_n 1, 1) := by decide +kernel
theorem dX11_aisle_90 : decode cX11_aisle 90 = .ok (.bipush 10, 2) := by decide +kernel
theorem dX11_aisle_92 : decode cX11_aisle 92 = .ok (.iload_n 3, 1) := by decide +kernel
theorem dX11_aisle_93 : decode cX11_aisle 93 = .ok (.imul, 1) := by decide +kernel
theorem dX11_aisle_94 : decode cX11_aisle 94 = .ok (.iload 4, 2) := by decide +kernel
theorem dX11_aisle_96 : decode cX11_aisle 96 = .ok (.iadd, 1) := by decide +kernel
theorem dX11_aisle_97 : decode cX11_aisle 97 = .ok (.istore_n 2, 1) := by decide +kernel
theorem dX11_aisle_98 : decode cX11_aisle 98 = .ok (.iinc 4 1, 3) := by decide +kernel
theorem dX11_aisle_101 : decode cX11_aisle 101 = .ok (.goto (-68), 3) := by decide +kernel
theorem dX11_aisle_104 : decode cX11_aisle 104 = .ok (.iinc 3 1, 3) := by decide +kernel
theorem dX11_aisle_107 : decode cX11_aisle 107 = .ok (.goto (-90), 3) := by decide +kernel
theorem dX11_aisle_110 : decode cX11_aisle 110 = .ok (.iload_n 2, 1) := by decide +kernel
theorem dX11_aisle_111 : decode cX11_aisle 111 = .ok (.bipush (-9), 2) := by decide +kernel
theorem dX11_aisle_113 : decode cX11_aisle 113 = .ok (.if_icmp .eq 11, 3) := by decide +kernel
theorem dX11_aisle_116 : decode cX11_aisle 116 = .ok (.aload_n 0, 1) := by decide +kernel
theorem dX11_aisle_117 : decode cX11_aisle 117 = .ok (.getfield 10, 3) := by decide +kernel
theorem dX11_aisle_120 : decode cX11_aisle 120 = .ok (.iload_n 1, 1) := by decide +kernel
theorem dX11_aisle_121 : decode cX11_aisle 121 = .ok (.invokevirtual 107, 3) := by decide +kernel
theorem dX11_aisle_124 : decode cX11_aisle 124 = .ok (.iload_n 2, 1) := by decide +kernel
theorem dX11_aisle_125 : decode cX11_aisle 125 = .ok (.ireturn, 1) := by decide +kernel
theorem dX11_leave_0 : decode cX11_leave 0 = .ok (.aload_n 0, 1) := by decide +kernel
theorem dX11_leave_1 : decode cX11_leave 1 = .ok (.iload_n 1, 1) := by decide +kernel
theorem dX11_leave_2 : decode cX11_leave 2 = .ok (.invokevirtual 88, 3) := by decide +kernel
theorem dX11_leave_5 : decode cX11_leave 5 = .ok (.astore_n 2, 1) := by decide +kernel
theorem dX11_leave_6 : decode cX11_leave 6 = .ok (.aload_n 2, 1) := by decide +kernel
theorem dX11_leave_7 : decode cX11_leave 7 = .ok (.ifnonnull 5, 3) := by decide +kernel
theorem dX11_leave_10 : decode cX11_leave 10 = .ok (.iconst (-1), 1) := by decide +kernel
theorem dX11_leave_11 : decode cX11_leave 11 = .ok (.ireturn, 1) := by decide +kernel
theorem dX11_leave_12 : decode cX11_leave 12 = .ok (.aload_n 0, 1) := by decide +kernel
theorem dX11_leave_13 : decode cX11_leave 13 = .ok (.getfield 75, 3) := by decide +kernel
theorem dX11_leave_16 : decode cX11_leave 16 = .ok (.invokevirtual 343, 3) := by decide +kernel
theorem dX11_leave_19 : decode cX11_leave 19 = .ok (.aload_n 0, 1) := by decide +kernel
theorem dX11_leave_20 : decode cX11_leave 20 = .ok (.getfield 75, 3) := by decide +kernel
theorem dX11_leave_23 : decode cX11_leave 23 = .ok (.invokevirtual 346, 3) := by decide +kernel
theorem dX11_leave_26 : decode cX11_leave 26 = .ok (.ifCond .ne 6, 3) := by decide +kernel
theorem dX11_leave_29 : decode cX11_leave 29 = .ok (.bipush (-9), 2) := by decide +kernel
theorem dX11_leave_31 : decode cX11_leave 31 = .ok (.ireturn, 1) := by decide +kernel
theorem dX11_leave_32 : decode cX11_leave 32 = .ok (.aload_n 0, 1) := by decide +kernel
theorem dX11_leave_33 : decode cX11_leave 33 = .ok (.getfield 31, 3) := by decide +kernel
theorem dX11_leave_36 : decode cX11_leave 36 = .ok (.invokevirtual 283, 3) := by decide +kernel
theorem dX11_leave_39 : decode cX11_leave 39 = .ok (.istore_n 3, 1) := by decide +kernel
theorem dX11_leave_40 : decode cX11_leave 40 = .ok (.aload_n 2, 1) := by decide +kernel
theorem dX11_leave_41 : decode cX11_leave 41 = .ok (.aload_n 0, 1) := by decide +kernel
theorem dX11_leave_42 : decode cX11_leave 42 = .ok (.getfield 75, 3) := by decide +kernel
theorem dX11_leave_45 : decode cX11_leave 45 = .ok (.invokevirtual 349, 3) := by decide +kernel
theorem dX11_leave_48 : decode cX11_leave 48 = .ok (.iload_n 3, 1) := by decide +kernel
theorem dX11_leave_49 : decode cX11_leave 49 = .ok (.invokevirtual 326, 3) := by decide +kernel
theorem dX11_leave_52 : decode cX11_leave 52 = .ok (.iload_n 3, 1) := by decide +kernel
theorem dX11_leave_53 : decode cX11_leave 53 = .ok (.ireturn, 1) := by decide +kernel
theorem dX11_leavers_0 : decode cX11_leavers 0 = .ok (.aload_n 0, 1) := by decide +kernel
theorem dX11_leavers_1 : decode cX11_leavers 1 = .ok (.getfield 75, 3) := by decide +kernel
theorem dX11_leavers_4 : decode cX11_leavers 4 = .ok (.invokevirtual 343, 3) := by decide +kernel
theorem dX11_leavers_7 : decode cX11_leavers 7 = .ok (.aload_n 0, 1) := by decide +kernel
theorem dX11_leavers_8 : decode cX11_leavers 8 = .ok (.getfield 10, 3) := by decide +kernel
theorem dX11_leavers_11 : decode cX11_leavers 11 = .ok (.aload_n 0, 1) := by decide +kernel
theorem dX11_leavers_12 : decode cX11_leavers 12 = .ok (.getfield 75, 3) := by decide +kernel
theorem dX11_leavers_15 : decode cX11_leavers 15 = .ok (.invokevirtual 353, 3) := by decide +kernel
theorem dX11_leavers_18 : decode cX11_leavers 18 = .ok (.invokevirtual 107, 3) := by decide +kernel
theorem dX11_leavers_21 : decode cX11_leavers 21 = .ok (.aload_n 0, 1) := by decide +kernel
theorem dX11_leavers_22 : decode cX11_leavers 22 = .ok (.getfield 75, 3) := by decide +kernel
theorem dX11_leavers_25 : decode cX11_leavers 25 = .ok (.invokevirtual 356, 3) := by decide +kernel
theorem dX11_leavers_28 : decode cX11_leavers 28 = .ok (.ireturn, 1) := by decide +kernel
theorem dX11_invite_0 : decode cX11_invite 0 = .ok (.aload_n 0, 1) := by decide +kernel
theorem dX11_invite_1 : decode cX11_invite 1 = .ok (.iload_n 1, 1) := by decide +kernel
theorem dX11_invite_2 : decode cX11_invite 2 = .ok (.invokevirtual 88, 3) := by decide +kernel
theorem dX11_invite_5 : decode cX11_invite 5 = .ok (.astore 4, 2) := by decide +kernel
theorem dX11_invite_7 : decode cX11_invite 7 = .ok (.aload_n 0, 1) := by decide +kernel
theorem dX11_invite_8 : decode cX11_invite 8 = .ok (.iload_n 2, 1) := by decide +kernel
theorem dX11_invite_9 : decode cX11_invite 9 = .ok (.invokevirtual 88, 3) := by decide +kernel
theorem dX11_invite_12 : decode cX11_invite 12 = .ok (.astore 5, 2) := by decide +kernel
theorem dX11_invite_14 : decode cX11_invite 14 = .ok (.aload_n 0, 1) := by decide +kernel
theorem dX11_invite_15 : decode cX11_invite 15 = .ok (.iload_n 3, 1) := by decide +kernel
theorem dX11_invite_16 : decode cX11_invite 16 = .ok (.invokevirtual 88, 3) := by decide +kernel
theorem dX11_invite_19 : decode cX11_invite 19 = .ok (.astore 6, 2) := by decide +kernel
theorem dX11_invite_21 : decode cX11_invite 21 = .ok (.aload 4, 2) := by decide +kernel
theorem dX11_invite_23 : decode cX11_invite 23 = .ok (.ifnull 13, 3) := by decide +kernel
theorem dX11_invite_26 : decode cX11_invite 26 = .ok (.aload 5, 2) := by decide +kernel
theorem dX11_invite_28 : decode cX11_invite 28 = .ok (.ifnull 8, 3) := by decide +kernel
theorem dX11_invite_31 : decode cX11_invite 31 = .ok (.aload 6, 2) := by decide +kernel
theorem dX11_invite_33 : decode cX11_invite 33 = .ok (.ifnonnull 5, 3) := by decide +kernel
theorem dX11_invite_36 : decode cX11_invite 36 = .ok (.iconst (-1), 1) := by decide +kernel
theorem dX11_invite_37 : decode cX11_invite 37 = .ok (.ireturn, 1) := by decide +kernel
theorem dX11_invite_38 : decode cX11_invite 38 = .ok (.aload_n 0, 1) := by decide +kernel
theorem dX11_invite_39 : decode cX11_invite 39 = .ok (.getfield 31, 3) := by decide +kernel
theorem dX11_invite_42 : decode cX11_invite 42 = .ok (.getfield 174, 3) := by decide +kernel
theorem dX11_invite_45 : decode cX11_invite 45 = .ok (.ifCond .ne 6, 3) := by decide +kernel
theorem dX11_invite_48 : decode cX11_invite 48 = .ok (.bipush (-4), 2) := by decide +kernel
theorem dX11_invite_50 : decode cX11_invite 50 = .ok (.ireturn, 1) := by decide +kernel
theorem dX11_invite_51 : decode cX11_invite 51 = .ok (.aload 4, 2) := by decide +kernel
theorem dX11_invite_53 : decode cX11_invite 53 = .ok (.invokevirtual 114, 3) := by decide +kernel
theorem dX11_invite_56 : decode cX11_invite 56 = .ok (.ifCond .ne 11, 3) := by decide +kernel
theorem dX11_invite_59 : decode cX11_invite 59 = .ok (.aload 5, 2) := by decide +kernel
theorem dX11_invite_61 : decode cX11_invite 61 = .ok (.invokevirtual 114, 3) := by decide +kernel
theorem dX11_invite_64 : decode cX11_invite 64 = .ok (.ifCond .eq 12, 3) := by decide +kernel
theorem dX11_invite_67 : decode cX11_invite 67 = .ok (.aload_n 0, 1) := by decide +kernel
theorem dX11_invite_68 : decode cX11_invite 68 = .ok (.getfield 10, 3) := by decide +kernel
theorem dX11_invite_71 : decode cX11_invite 71 = .ok (.iconst 1, 1) := by decide +kernel
theorem dX11_invite_72 : decode cX11_invite 72 = .ok (.invokevirtual 92, 3) := by decide +kernel
theorem dX11_invite_75 : decode cX11_invite 75 = .ok (.ireturn, 1) := by decide +kernel
theorem dX11_invite_76 : decode cX11_invite 76 = .ok (.aload 4, 2) := by decide +kernel
theorem dX11_invite_78 : decode cX11_invite 78 = .ok (.getfield 135, 3) := by decide +kernel
theorem dX11_invite_81 : decode cX11_invite 81 = .ok (.iconst 4, 1) := by decide +kernel
theorem dX11_invite_82 : decode cX11_invite 82 = .ok (.if_icmp .gt 16, 3) := by decide +kernel
theorem dX11_invite_85 : decode cX11_invite 85 = .ok (.aload 5, 2) := by decide +kernel
theorem dX11_invite_87 : decode cX11_invite 87 = .ok (.getfield 135, 3) := by decide +kernel
theorem dX11_invite_90 : decode cX11_invite 90 = .ok (.aload 4, 2) := by decide +kernel
theorem dX11_invite_92 : decode cX11_invite 92 = .ok (.getfield 135, 3) := by decide +kernel
theorem dX11_invite_95 : decode cX11_invite 95 = .ok (.if_icmp .eq 12, 3) := by decide +kernel
theorem dX11_invite_98 : decode cX11_invite 98 = .ok (.aload_n 0, 1) := by decide +kernel
theorem dX11_invite_99 : decode cX11_invite 99 = .ok (.getfield 10, 3) := by decide +kernel
theorem dX11_invite_102 : decode cX11_invite 102 = .ok (.iconst 5, 1) := by decide +kernel
theorem dX11_invite_103 : decode cX11_invite 103 = .ok (.invokevirtual 92, 3) := by decide +kernel
theorem dX11_invite_106 : decode cX11_invite 106 = .ok (.ireturn, 1) := by decide +kernel
theorem dX11_invite_107 : decode cX11_invite 107 = .ok (.aload 4, 2) := by decide +kernel
theorem dX11_invite_109 : decode cX11_invite 109 = .ok (.iconst 1, 1) := by decide +kernel
theorem dX11_invite_110 : decode cX11_invite 110 = .ok (.bipush 9, 2) := by decide +kernel
theorem dX11_invite_112 : decode cX11_invite 112 = .ok (.invokevirtual 359, 3) := by decide +kernel
theorem dX11_invite_115 : decode cX11_invite 115 = .ok (.ifCond .eq 14, 3) := by decide +kernel
theorem dX11_invite_118 : decode cX11_invite 118 = .ok (.aload 5, 2) := by decide +kernel
theorem dX11_invite_120 : decode cX11_invite 120 = .ok (.iconst 0, 1) := by decide +kernel
theorem dX11_invite_121 : decode cX11_invite 121 = .ok (.bipush 99, 2) := by decide +kernel
theorem dX11_invite_123 : decode cX11_invite 123 = .ok (.invokevirtual 359, 3) := by decide +kernel
theorem dX11_invite_126 : decode cX11_invite 126 = .ok (.ifCond .ne 12, 3) := by decide +kernel
theorem dX11_invite_129 : decode cX11_invite 129 = .ok (.aload_n 0, 1) := by decide +kernel
theorem dX11_invite_130 : decode cX11_invite 130 = .ok (.getfield 10, 3) := by decide +kernel
theorem dX11_invite_133 : decode cX11_invite 133 = .ok (.iconst 3, 1) := by decide +kernel
theorem dX11_invite_134 : decode cX11_invite 134 = .ok (.invokevirtual 92, 3) := by decide +kernel
theorem dX11_invite_137 : decode cX11_invite 137 = .ok (.ireturn, 1) := by decide +kernel
theorem dX11_invite_138 : decode cX11_invite 138 = .ok (.aload_n 0, 1) := by decide +kernel
theorem dX11_invite_139 : decode cX11_invite 139 = .ok (.getfield 82, 3) := by decide +kernel
theorem dX11_invite_142 : decode cX11_invite 142 = .ok (.aload 4, 2) := by decide +kernel
theorem dX11_invite_144 : decode cX11_invite 144 = .ok (.aload 5, 2) := by decide +kernel
theorem dX11_invite_146 : decode cX11_invite 146 = .ok (.invokevirtual 362, 3) := by decide +kernel
theorem dX11_invite_149 : decode cX11_invite 149 = .ok (.aload_n 0, 1) := by decide +kernel
theorem dX11_invite_150 : decode cX11_invite 150 = .ok (.getfield 82, 3) := by decide +kernel
theorem dX11_invite_153 : decode cX11_invite 153 = .ok (.getfield 365, 3) := by decide +kernel
theorem dX11_invite_156 : decode cX11_invite 156 = .ok (.bipush (-9), 2) := by decide +kernel
theorem dX11_invite_158 : decode cX11_invite 158 = .ok (.if_icmp .eq 22, 3) := by decide +kernel
theorem dX11_invite_161 : decode cX11_invite 161 = .ok (.aload 6, 2) := by decide +kernel
theorem dX11_invite_163 : decode cX11_invite 163 = .ok (.aload_n 0, 1) := by decide +kernel
theorem dX11_invite_164 : decode cX11_invite 164 = .ok (.getfield 82, 3) := by decide +kernel
theorem dX11_invite_167 : decode cX11_invite 167 = .ok (.getfield 368, 3) := by decide +kernel
theorem dX11_invite_170 : decode cX11_invite 170 = .ok (.aload_n 0, 1) := by decide +kernel
theorem dX11_invite_171 : decode cX11_invite 171 = .ok (.getfield 82, 3) := by decide +kernel
theorem dX11_invite_174 : decode cX11_invite 174 = .ok (.getfield 371, 3) := by decide +kernel
theorem dX11_invite_177 : decode cX11_invite 177 = .ok (.invokevirtual 326, 3) := by decide +kernel
theorem dX11_invite_180 : decode cX11_invite 180 = .ok (.aload_n 0, 1) := by decide +kernel
theorem dX11_invite_181 : decode cX11_invite 181 = .ok (.getfield 82, 3) := by decide +kernel
theorem dX11_invite_184 : decode cX11_invite 184 = .ok (.getfield 365, 3) := by decide +kernel
theorem dX11_invite_187 : decode cX11_invite 187 = .ok (.ireturn, 1) := by decide +kernel
theorem dX11_far_0 : decode cX11_far 0 = .ok (.aload_n 0, 1) := by decide +kernel
theorem dX11_far_1 : decode cX11_far 1 = .ok (.getfield 31, 3) := by decide +kernel
theorem dX11_far_4 : decode cX11_far 4 = .ok (.iload_n 1, 1) := by decide +kernel
theorem dX11_far_5 : decode cX11_far 5 = .ok (.invokevirtual 196, 3) := by decide +kernel
theorem dX11_far_8 : decode cX11_far 8 = .ok (.ifCond .eq 10, 3) := by decide +kernel
theorem dX11_far_11 : decode cX11_far 11 = .ok (.iload_n 2, 1) := by decide +kernel
theorem dX11_far_12 : decode cX11_far 12 = .ok (.invokestatic 290, 3) := by decide +kernel
theorem dX11_far_15 : decode cX11_far 15 = .ok (.ifCond .ne 5, 3) := by decide +kernel
theorem dX11_far_18 : decode cX11_far 18 = .ok (.iconst (-1), 1) := by decide +kernel
theorem dX11_far_19 : decode cX11_far 19 = .ok (.ireturn, 1) := by decide +kernel
theorem dX11_far_20 : decode cX11_far 20 = .ok (.aload_n 0, 1) := by decide +kernel
theorem dX11_far_21 : decode cX11_far 21 = .ok (.getfield 31, 3) := by decide +kernel
theorem dX11_far_24 : decode cX11_far 24 = .ok (.iload_n 2, 1) := by decide +kernel
theorem dX11_far_25 : decode cX11_far 25 = .ok (.invokevirtual 293, 3) := by decide +kernel
theorem dX11_far_28 : decode cX11_far 28 = .ok (.aload_n 0, 1) := by decide +kernel
theorem dX11_far_29 : decode cX11_far 29 = .ok (.getfield 31, 3) := by decide +kernel
theorem dX11_far_32 : decode cX11_far 32 = .ok (.iload_n 1, 1) := by decide +kernel
theorem dX11_far_33 : decode cX11_far 33 = .ok (.aload_n 0, 1) := by decide +kernel
theorem dX11_far_34 : decode cX11_far 34 = .ok (.getfield 31, 3) := by decide +kernel
theorem dX11_far_37 : decode cX11_far 37 = .ok (.iload_n 1, 1) := by decide +kernel
theorem dX11_far_38 : decode cX11_far 38 = .ok (.invokevirtual 205, 3) := by decide +kernel
theorem dX11_far_41 : decode cX11_far 41 = .ok (.iload_n 2, 1) := by decide +kernel
theorem dX11_far_42 : decode cX11_far 42 = .ok (.invokevirtual 208, 3) := by decide +kernel
theorem dX11_far_45 : decode cX11_far 45 = .ok (.isub, 1) := by decide +kernel
theorem dX11_far_46 : decode cX11_far 46 = .ok (.istore_n 3, 1) := by decide +kernel
theorem dX11_far_47 : decode cX11_far 47 = .ok (.bipush (-9), 2) := by decide +kernel
theorem dX11_far_49 : decode cX11_far 49 = .ok (.istore 4, 2) := by decide +kernel
theorem dX11_far_51 : decode cX11_far 51 = .ok (.bipush (-9), 2) := by decide +kernel
theorem dX11_far_53 : decode cX11_far 53 = .ok (.istore 5, 2) := by decide +kernel
theorem dX11_far_55 : decode cX11_far 55 = .ok (.iconst 0, 1) := by decide +kernel
theorem dX11_far_56 : decode cX11_far 56 = .ok (.istore 6, 2) := by decide +kernel
theorem dX11_far_58 : decode cX11_far 58 = .ok (.iload 6, 2) := by decide +kernel
theorem dX11_far_60 : decode cX11_far 60 = .ok (.aload_n 0, 1) := by decide +kernel
theorem dX11_far_61 : decode cX11_far 61 = .ok (.getfield 31, 3) := by decide +kernel
theorem dX11_far_64 : decode cX11_far 64 = .ok (.getfield 174, 3) := by decide +kernel
theorem dX11_far_67 : decode cX11_far 67 = .ok (.if_icmp .ge 61, 3) := by decide +kernel
theorem dX11_far_70 : decode cX11_far 70 = .ok (.aload_n 0, 1) := by decide +kernel
theorem dX11_far_71 : decode cX11_far 71 = .ok (.getfield 31, 3) := by decide +kernel
theorem dX11_far_74 : decode cX11_far 74 = .ok (.iload 6, 2) := by decide +kernel
theorem dX11_far_76 : decode cX11_far 76 = .ok (.invokevirtual 220, 3) := by decide +kernel
theorem dX11_far_79 : decode cX11_far 79 = .ok (.invokestatic 338, 3) := by decide +kernel
theorem dX11_far_82 : decode cX11_far 82 = .ok (.istore 7, 2) := by decide +kernel
theorem dX11_far_84 : decode cX11_far 84 = .ok (.iload 7, 2) := by decide +kernel
theorem dX11_far_86 : decode cX11_far 86 = .ok (.iload 4, 2) := by decide +kernel
theorem dX11_far_88 : decode cX11_far 88 = .ok (.if_icmp .le 34, 3) := by decide +kernel
theorem dX11_far_91 : decode cX11_far 91 = .ok (.aload_n 0, 1) := by decide +kernel
theorem dX11_far_92 : decode cX11_far 92 = .ok (.getfield 31, 3) := by decide +kernel
theorem dX11_far_95 : decode cX11_far 95 = .ok (.iload_n 3, 1) := by decide +kernel
theorem dX11_far_96 : decode cX11_far 96 = .ok (.aload_n 0, 1) := by decide +kernel
theorem dX11_far_97 : decode cX11_far 97 = .ok (.getfield 31, 3) := by decide +kernel
theorem dX11_far_100 : decode cX11_far 100 = .ok (.iload_n 1, 1) := by decide +kernel
theorem dX11_far_101 : decode cX11_far 101 = .ok (.iload 6, 2) := by decide +kernel
theorem dX11_far_103 : decode cX11_far 103 = .ok (.iload_n 2, 1) := by decide +kernel
theorem dX11_far_104 : decode cX11_far 104 = .ok (.invokevirtual 208, 3) := by decide +kernel
theorem dX11_far_107 : decode cX11_far 107 = .ok (.iadd, 1) := by decide +kernel
theorem dX11_far_108 : decode cX11_far 108 = .ok (.invokevirtual 296, 3) := by decide +kernel
theorem dX11_far_111 : decode cX11_far 111 = .ok (.ifCond .eq 11, 3) := by decide +kernel
theorem dX11_far_114 : decode cX11_far 114 = .ok (.iload 7, 2) := by decide +kernel
theorem dX11_far_116 : decode cX11_far 116 = .ok (.istore 4, 2) := by decide +kernel
theorem dX11_far_118 : decode cX11_far 118 = .ok (.iload 6, 2) := by decide +kernel
theorem dX11_far_120 : decode cX11_far 120 = .ok (.istore 5, 2) := by decide +kernel
theorem dX11_far_122 : decode cX11_far 122 = .ok (.iinc 6 1, 3) := by decide +kernel
theorem dX11_far_125 : decode cX11_far 125 = .ok (.goto (-67), 3) := by decide +kernel
theorem dX11_far_128 : decode cX11_far 128 = .ok (.iload 5, 2) := by decide +kernel
theorem dX11_far_130 : decode cX11_far 130 = .ok (.bipush (-9), 2) := by decide +kernel
theorem dX11_far_132 : decode cX11_far 132 = .ok (.if_icmp .eq 12, 3) := by decide +kernel
theorem dX11_far_135 : decode cX11_far 135 = .ok (.aload_n 0, 1) := by decide +kernel
theorem dX11_far_136 : decode cX11_far 136 = .ok (.getfield 10, 3) := by decide +kernel
theorem dX11_far_139 : decode cX11_far 139 = .ok (.iload 5, 2) := by decide +kernel
theorem dX11_far_141 : decode cX11_far 141 = .ok (.invokevirtual 107, 3) := by decide +kernel
theorem dX11_far_144 : decode cX11_far 144 = .ok (.iload 4, 2) := by decide +kernel
theorem dX11_far_146 : decode cX11_far 146 = .ok (.ireturn, 1) := by decide +kernel
theorem dX11_crossed_0 : decode cX11_crossed 0 = .ok (.iconst 0, 1) := by decide +kernel
theorem dX11_crossed_1 : decode cX11_crossed 1 = .ok (.istore_n 1, 1) := by decide +kernel
theorem dX11_crossed_2 : decode cX11_crossed 2 = .ok (.iconst 0, 1) := by decide +kernel
theorem dX11_crossed_3 : decode cX11_crossed 3 = .ok (.istore_n 2, 1) := by decide +kernel
theorem dX11_crossed_4 : decode cX11_crossed 4 = .ok (.iconst 0, 1) := by decide +kernel
theorem dX11_crossed_5 : decode cX11_crossed 5 = .ok (.istore_n 3, 1) := by decide +kernel
theorem dX11_crossed_6 : decode cX11_crossed 6 = .ok (.iload_n 3, 1) := by decide +kernel
theorem dX11_crossed_7 : decode cX11_crossed 7 = .ok (.aload_n 0, 1) := by decide +kernel
theorem dX11_crossed_8 : decode cX11_crossed 8 = .ok (.getfield 39, 3) := by decide +kernel
theorem dX11_crossed_11 : decode cX11_crossed 11 = .ok (.getfield 241, 3) := by decide +kernel
theorem dX11_crossed_14 : decode cX11_crossed 14 = .ok (.if_icmp .ge 97, 3) := by decide +kernel
theorem dX11_crossed_17 : decode cX11_crossed 17 = .ok (.aload_n 0, 1) := by decide +kernel
theorem dX11_crossed_18 : decode cX11_crossed 18 = .ok (.getfield 31, 3) := by decide +kernel
theorem dX11_crossed_21 : decode cX11_crossed 21 = .ok (.aload_n 0, 1) := by decide +kernel
theorem dX11_crossed_22 : decode cX11_crossed 22 = .ok (.getfield 39, 3) := by decide +kernel
theorem dX11_crossed_25 : decode cX11_crossed 25 = .ok (.iload_n 3, 1) := by decide +kernel
theorem dX11_crossed_26 : decode cX11_crossed 26 = .ok (.invokevirtual 374, 3) := by decide +kernel
theorem dX11_crossed_29 : decode cX11_crossed 29 = .ok (.invokevirtual 205, 3) := by decide +kernel
theorem dX11_crossed_32 : decode cX11_crossed 32 = .ok (.istore 4, 2) := by decide +kernel
theorem dX11_crossed_34 : decode cX11_crossed 34 = .ok (.aload_n 0, 1) := by decide +kernel
theorem dX11_crossed_35 : decode cX11_crossed 35 = .ok (.getfield 31, 3) := by decide +kernel
theorem dX11_crossed_38 : decode cX11_crossed 38 = .ok (.aload_n 0, 1) := by decide +kernel
theorem dX11_crossed_39 : decode cX11_crossed 39 = .ok (.getfield 39, 3) := by decide +kernel
theorem dX11_crossed_42 : decode cX11_crossed 42 = .ok (.iload_n 3, 1) := by decide +kernel
theorem dX11_crossed_43 : decode cX11_crossed 43 = .ok (.invokevirtual 377, 3) := by decide +kernel
theorem dX11_crossed_46 : decode cX11_crossed 46 = .ok (.invokevirtual 205, 3) := by decide +kernel
theorem dX11_crossed_49 : decode cX11_crossed 49 = .ok (.istore 5, 2) := by decide +kernel
theorem dX11_crossed_51 : decode cX11_crossed 51 = .ok (.iload 4, 2) := by decide +kernel
theorem dX11_crossed_53 : decode cX11_crossed 53 = .ok (.bipush (-9), 2) := by decide +kernel
theorem dX11_crossed_55 : decode cX11_crossed 55 = .ok (.if_icmp .eq 50, 3) := by decide +kernel
theorem dX11_crossed_58 : decode cX11_crossed 58 = .ok (.iload 5, 2) := by decide +kernel
theorem dX11_crossed_60 : decode cX11_crossed 60 = .ok (.bipush (-9), 2) := by decide +kernel
theorem dX11_crossed_62 : decode cX11_crossed 62 = .ok (.if_icmp .eq 43, 3) := by decide +kernel
theorem dX11_crossed_65 : decode cX11_crossed 65 = .ok (.aload_n 0, 1) := by decide +kernel
theorem dX11_crossed_66 : decode cX11_crossed 66 = .ok (.getfield 31, 3) := by decide +kernel
theorem dX11_crossed_69 : decode cX11_crossed 69 = .ok (.iload 4, 2) := by decide +kernel
theorem dX11_crossed_71 : decode cX11_crossed 71 = .ok (.invokevirtual 220, 3) := by decide +kernel
theorem dX11_crossed_74 : decode cX11_crossed 74 = .ok (.aload_n 0, 1) := by decide +kernel
theorem dX11_crossed_75 : decode cX11_crossed 75 = .ok (.getfield 31, 3) := by decide +kernel
theorem dX11_crossed_78 : decode cX11_crossed 78 = .ok (.iload 5, 2) := by decide +kernel
theorem dX11_crossed_80 : decode cX11_crossed 80 = .ok (.invokevirtual 220, 3) := by decide +kernel
theorem dX11_crossed_83 : decode cX11_crossed 83 = .ok (.imul, 1) := by decide +kernel
theorem dX11_crossed_84 : decode cX11_crossed 84 = .ok (.ifCond .ge 6, 3) := by decide +kernel
theorem dX11_crossed_87 : decode cX11_crossed 87 = .ok (.iinc 1 1, 3) := by decide +kernel
theorem dX11_crossed_90 : decode cX11_crossed 90 = .ok (.iload 4, 2) := by decide +kernel
theorem dX11_crossed_92 : decode cX11_crossed 92 = .ok (.iload 5, 2) := by decide +kernel
theorem dX11_crossed_94 : decode cX11_crossed 94 = .ok (.isub, 1) := by decide +kernel
theorem dX11_crossed_95 : decode cX11_crossed 95 = .ok (.invokestatic 338, 3) := by decide +kernel
theorem dX11_crossed_98 : decode cX11_crossed 98 = .ok (.iconst 1, 1) := by decide +kernel
theorem dX11_crossed_99 : decode cX11_crossed 99 = .ok (.if_icmp .gt 6, 3) := by decide +kernel
theorem dX11_crossed_102 : decode cX11_crossed 102 = .ok (.iinc 2 1, 3) := by decide +kernel
theorem dX11_crossed_105 : decode cX11_crossed 105 = .ok (.iinc 3 1, 3) := by decide +kernel
theorem dX11_crossed_108 : decode cX11_crossed 108 = .ok (.goto (-102), 3) := by decide +kernel
theorem dX11_crossed_111 : decode cX11_crossed 111 = .ok (.aload_n 0, 1) := by decide +kernel
theorem dX11_crossed_112 : decode cX11_crossed 112 = .ok (.getfield 10, 3) := by decide +kernel
theorem dX11_crossed_115 : decode cX11_crossed 115 = .ok (.iload_n 2, 1) := by decide +kernel
theorem dX11_crossed_116 : decode cX11_crossed 116 = .ok (.invokevirtual 107, 3) := by decide +kernel
theorem dX11_crossed_119 : decode cX11_crossed 119 = .ok (.iload_n 1, 1) := by decide +kernel
theorem dX11_crossed_120 : decode cX11_crossed 120 = .ok (.ireturn, 1) := by decide +kernel
theorem dX11_divorce_0 : decode cX11_divorce 0 = .ok (.aload_n 0, 1) := by decide +kernel
theorem dX11_divorce_1 : decode cX11_divorce 1 = .ok (.getfield 31, 3) := by decide +kernel
theorem dX11_divorce_4 : decode cX11_divorce 4 = .ok (.aload_n 0, 1) := by decide +kernel
theorem dX11_divorce_5 : decode cX11_divorce 5 = .ok (.getfield 31, 3) := by decide +kernel
theorem dX11_divorce_8 : decode cX11_divorce 8 = .ok (.invokevirtual 380, 3) := by decide +kernel
theorem dX11_divorce_11 : decode cX11_divorce 11 = .ok (.invokevirtual 383, 3) := by decide +kernel
theorem dX11_divorce_14 : decode cX11_divorce 14 = .ok (.istore_n 1, 1) := by decide +kernel
theorem dX11_divorce_15 : decode cX11_divorce 15 = .ok (.iload_n 1, 1) := by decide +kernel
theorem dX11_divorce_16 : decode cX11_divorce 16 = .ok (.istore_n 2, 1) := by decide +kernel
theorem dX11_divorce_17 : decode cX11_divorce 17 = .ok (.aload_n 0, 1) := by decide +kernel
theorem dX11_divorce_18 : decode cX11_divorce 18 = .ok (.getfield 31, 3) := by decide +kernel
theorem dX11_divorce_21 : decode cX11_divorce 21 = .ok (.invokevirtual 380, 3) := by decide +kernel
theorem dX11_divorce_24 : decode cX11_divorce 24 = .ok (.istore_n 3, 1) := by decide +kernel
theorem dX11_divorce_25 : decode cX11_divorce 25 = .ok (.aload_n 0, 1) := by decide +kernel
theorem dX11_divorce_26 : decode cX11_divorce 26 = .ok (.getfield 31, 3) := by decide +kernel
theorem dX11_divorce_29 : decode cX11_divorce 29 = .ok (.invokevirtual 380, 3) := by decide +kernel
theorem dX11_divorce_32 : decode cX11_divorce 32 = .ok (.istore 4, 2) := by decide +kernel
theorem dX11_divorce_34 : decode cX11_divorce 34 = .ok (.iload 4, 2) := by decide +kernel
theorem dX11_divorce_36 : decode cX11_divorce 36 = .ok (.ifCond .lt 41, 3) := by decide +kernel
theorem dX11_divorce_39 : decode cX11_divorce 39 = .ok (.iconst 2, 1) := by decide +kernel
theorem dX11_divorce_40 : decode cX11_divorce 40 = .ok (.aload_n 0, 1) := by decide +kernel
theorem dX11_divorce_41 : decode cX11_divorce 41 = .ok (.getfield 31, 3) := by decide +kernel
theorem dX11_divorce_44 : decode cX11_divorce 44 = .ok (.iload 4, 2) := by decide +kernel
theorem dX11_divorce_46 : decode cX11_divorce 46 = .ok (.invokevirtual 383, 3) := by decide +kernel
theorem dX11_divorce_49 : decode cX11_divorce 49 = .ok (.imul, 1) := by decide +kernel
theorem dX11_divorce_50 : decode cX11_divorce 50 = .ok (.iload_n 1, 1) := by decide +kernel
theorem dX11_divorce_51 : decode cX11_divorce 51 = .ok (.isub, 1) := by decide +kernel
theorem dX11_divorce_52 : decode cX11_divorce 52 = .ok (.istore 5, 2) := by decide +kernel
theorem dX11_divorce_54 : decode cX11_divorce 54 = .ok (.iload 5, 2) := by decide +kernel
theorem dX11_divorce_56 : decode cX11_divorce 56 = .ok (.ifCond .lt 15, 3) := by decide +kernel
theorem dX11_divorce_59 : decode cX11_divorce 59 = .ok (.iload 5, 2) := by decide +kernel
theorem dX11_divorce_61 : decode cX11_divorce 61 = .ok (.iload_n 2, 1) := by decide +kernel
theorem dX11_divorce_62 : decode cX11_divorce 62 = .ok (.if_icmp .gt 9, 3) := by decide +kernel
theorem dX11_divorce_65 : decode cX11_divorce 65 = .ok (.iload 5, 2) := by decide +kernel
theorem dX11_divorce_67 : decode cX11_divorce 67 = .ok (.istore_n 2, 1) := by decide +kernel
theorem dX11_divorce_68 : decode cX11_divorce 68 = .ok (.iload 4, 2) := by decide +kernel
theorem dX11_divorce_70 : decode cX11_divorce 70 = .ok (.istore_n 3, 1) := by decide +kernel
theorem dX11_divorce_71 : decode cX11_divorce 71 = .ok (.iinc 4 (-1), 3) := by decide +kernel
theorem dX11_divorce_74 : decode cX11_divorce 74 = .ok (.goto (-40), 3) := by decide +kernel
theorem dX11_divorce_77 : decode cX11_divorce 77 = .ok (.aload_n 0, 1) := by decide +kernel
theorem dX11_divorce_78 : decode cX11_divorce 78 = .ok (.getfield 10, 3) := by decide +kernel
theorem dX11_divorce_81 : decode cX11_divorce 81 = .ok (.iload_n 3, 1) := by decide +kernel
theorem dX11_divorce_82 : decode cX11_divorce 82 = .ok (.invokevirtual 107, 3) := by decide +kernel
theorem dX11_divorce_85 : decode cX11_divorce 85 = .ok (.iload_n 2, 1) := by decide +kernel
theorem dX11_divorce_86 : decode cX11_divorce 86 = .ok (.ireturn, 1) := by decide +kernel
theorem dX11_kin_0 : decode cX11_kin 0 = .ok (.iload_n 1, 1) := by decide +kernel
theorem dX11_kin_1 : decode cX11_kin 1 = .ok (.iconst 0, 1) := by decide +kernel
theorem dX11_kin_2 : decode cX11_kin 2 = .ok (.bipush 99, 2) := by decide +kernel
theorem dX11_kin_4 : decode cX11_kin 4 = .ok (.invokestatic 188, 3) := by decide +kernel
theorem dX11_kin_7 : decode cX11_kin 7 = .ok (.ifCond .ne 5, 3) := by decide +kernel
theorem dX11_kin_10 : decode cX11_kin 10 = .ok (.iconst (-1), 1) := by decide +kernel
theorem dX11_kin_11 : decode cX11_kin 11 = .ok (.ireturn, 1) := by decide +kernel
theorem dX11_kin_12 : decode cX11_kin 12 = .ok (.aload_n 0, 1) := by decide +kernel
theorem dX11_kin_13 : decode cX11_kin 13 = .ok (.getfield 31, 3) := by decide +kernel
theorem dX11_kin_16 : decode cX11_kin 16 = .ok (.aload_n 0, 1) := by decide +kernel
theorem dX11_kin_17 : decode cX11_kin 17 = .ok (.getfield 31, 3) := by decide +kernel
theorem dX11_kin_20 : decode cX11_kin 20 = .ok (.invokevirtual 380, 3) := by decide +kernel
theorem dX11_kin_23 : decode cX11_kin 23 = .ok (.invokevirtual 383, 3) := by decide +kernel
theorem dX11_kin_26 : decode cX11_kin 26 = .ok (.istore_n 2, 1) := by decide +kernel
theorem dX11_kin_27 : decode cX11_kin 27 = .ok (.aload_n 0, 1) := by decide +kernel
theorem dX11_kin_28 : decode cX11_kin 28 = .ok (.getfield 31, 3) := by decide +kernel
theorem dX11_kin_31 : decode cX11_kin 31 = .ok (.iconst 1, 1) := by decide +kernel
theorem dX11_kin_32 : decode cX11_kin 32 = .ok (.invokevirtual 232, 3) := by decide +kernel
theorem dX11_kin_35 : decode cX11_kin 35 = .ok (.istore_n 3, 1) := by decide +kernel
theorem dX11_kin_36 : decode cX11_kin 36 = .ok (.bipush (-9), 2) := by decide +kernel
theorem dX11_kin_38 : decode cX11_kin 38 = .ok (.istore 4, 2) := by decide +kernel
theorem dX11_kin_40 : decode cX11_kin 40 = .ok (.iconst 0, 1) := by decide +kernel
theorem dX11_kin_41 : decode cX11_kin 41 = .ok (.istore 5, 2) := by decide +kernel
theorem dX11_kin_43 : decode cX11_kin 43 = .ok (.iconst 0, 1) := by decide +kernel
theorem dX11_kin_44 : decode cX11_kin 44 = .ok (.istore 6, 2) := by decide +kernel
theorem dX11_kin_46 : decode cX11_kin 46 = .ok (.iload 6, 2) := by decide +kernel
theorem dX11_kin_48 : decode cX11_kin 48 = .ok (.aload_n 0, 1) := by decide +kernel
theorem dX11_kin_49 : decode cX11_kin 49 = .ok (.getfield 31, 3) := by decide +kernel
theorem dX11_kin_52 : decode cX11_kin 52 = .ok (.invokevirtual 380, 3) := by decide +kernel
theorem dX11_kin_55 : decode cX11_kin 55 = .ok (.if_icmp .gt 64, 3) := by decide +kernel
theorem dX11_kin_58 : decode cX11_kin 58 = .ok (.iconst 2, 1) := by decide +kernel
theorem dX11_kin_59 : decode cX11_kin 59 = .ok (.aload_n 0, 1) := by decide +kernel
theorem dX11_kin_60 : decode cX11_kin 60 = .ok (.getfield 31, 3) := by decide +kernel
theorem dX11_kin_63 : decode cX11_kin 63 = .ok (.iload_n 3, 1) := by decide +kernel
theorem dX11_kin_64 : decode cX11_kin 64 = .ok (.iload 6, 2) := by decide +kernel
theorem dX11_kin_66 : decode cX11_kin 66 = .ok (.ixor, 1) := by decide +kernel
theorem dX11_kin_67 : decode cX11_kin 67 = .ok (.invokevirtual 383, 3) := by decide +kernel
theorem dX11_kin_70 : decode cX11_kin 70 = .ok (.imul, 1) := by decide +kernel
theorem dX11_kin_71 : decode cX11_kin 71 = .ok (.iload_n 2, 1) := by decide +kernel
theorem dX11_kin_72 : decode cX11_kin 72 = .ok (.isub, 1) := by decide +kernel
theorem dX11_kin_73 : decode cX11_kin 73 = .ok (.invokestatic 338, 3) := by decide +kernel
theorem dX11_kin_76 : decode cX11_kin 76 = .ok (.istore 7, 2) := by decide +kernel
theorem dX11_kin_78 : decode cX11_kin 78 = .ok (.iload 6, 2) := by decide +kernel
theorem dX11_kin_80 : decode cX11_kin 80 = .ok (.invokestatic 215, 3) := by decide +kernel
theorem dX11_kin_83 : decode cX11_kin 83 = .ok (.istore 8, 2) := by decide +kernel
theorem dX11_kin_85 : decode cX11_kin 85 = .ok (.iload 7, 2) := by decide +kernel
theorem dX11_kin_87 : decode cX11_kin 87 = .ok (.iload_n 1, 1) := by decide +kernel
theorem dX11_kin_88 : decode cX11_kin 88 = .ok (.if_icmp .gt 25, 3) := by decide +kernel
theorem dX11_kin_91 : decode cX11_kin 91 = .ok (.iload 4, 2) := by decide +kernel
theorem dX11_kin_93 : decode cX11_kin 93 = .ok (.bipush (-9), 2) := by decide +kernel
theorem dX11_kin_95 : decode cX11_kin 95 = .ok (.if_icmp .eq 10, 3) := by decide +kernel
theorem dX11_kin_98 : decode cX11_kin 98 = .ok (.iload 8, 2) := by decide +kernel
theorem dX11_kin_100 : decode cX11_kin 100 = .ok (.iload 4, 2) := by decide +kernel
theorem dX11_kin_102 : decode cX11_kin 102 = .ok (.if_icmp .ge 11, 3) := by decide +kernel
theorem dX11_kin_105 : decode cX11_kin 105 = .ok (.iload 8, 2) := by decide +kernel
theorem dX11_kin_107 : decode cX11_kin 107 = .ok (.istore 4, 2) := by decide +kernel
theorem dX11_kin_109 : decode cX11_kin 109 = .ok (.iload 6, 2) := by decide +kernel
theorem dX11_kin_111 : decode cX11_kin 111 = .ok (.istore 5, 2) := by decide +kernel
theorem dX11_kin_113 : decode cX11_kin 113 = .ok (.iinc 6 1, 3) := by decide +kernel
theorem dX11_kin_116 : decode cX11_kin 116 = .ok (.goto (-70), 3) := by decide +kernel
theorem dX11_kin_119 : decode cX11_kin 119 = .ok (.iload 4, 2) := by decide +kernel
theorem dX11_kin_121 : decode cX11_kin 121 = .ok (.bipush (-9), 2) := by decide +kernel
theorem dX11_kin_123 : decode cX11_kin 123 = .ok (.if_icmp .eq 12, 3) := by decide +kernel
theorem dX11_kin_126 : decode cX11_kin 126 = .ok (.aload_n 0, 1) := by decide +kernel
theorem dX11_kin_127 : decode cX11_kin 127 = .ok (.getfield 10, 3) := by decide +kernel
theorem dX11_kin_130 : decode cX11_kin 130 = .ok (.iload 5, 2) := by decide +kernel
theorem dX11_kin_132 : decode cX11_kin 132 = .ok (.invokevirtual 107, 3) := by decide +kernel
theorem dX11_kin_135 : decode cX11_kin 135 = .ok (.iload 4, 2) := by decide +kernel
theorem dX11_kin_137 : decode cX11_kin 137 = .ok (.ireturn, 1) := by decide +kernel
theorem dX11_odds_0 : decode cX11_odds 0 = .ok (.iload_n 1, 1) := by decide +kernel
theorem dX11_odds_1 : decode cX11_odds 1 = .ok (.invokestatic 290, 3) := by decide +kernel
theorem dX11_odds_4 : decode cX11_odds 4 = .ok (.ifCond .eq 14, 3) := by decide +kernel
theorem dX11_odds_7 : decode cX11_odds 7 = .ok (.iload_n 2, 1) := by decide +kernel
theorem dX11_odds_8 : decode cX11_odds 8 = .ok (.iconst 0, 1) := by decide +kernel
theorem dX11_odds_9 : decode cX11_odds 9 = .ok (.sipush 200, 3) := by decide +kernel
theorem dX11_odds_12 : decode cX11_odds 12 = .ok (.invokestatic 188, 3) := by decide +kernel
theorem dX11_odds_15 : decode cX11_odds 15 = .ok (.ifCond .ne 5, 3) := by decide +kernel
theorem dX11_odds_18 : decode cX11_odds 18 = .ok (.iconst (-1), 1) := by decide +kernel
theorem dX11_odds_19 : decode cX11_odds 19 = .ok (.ireturn, 1) := by decide +kernel
theorem dX11_odds_20 : decode cX11_odds 20 = .ok (.aload_n 0, 1) := by decide +kernel
theorem dX11_odds_21 : decode cX11_odds 21 = .ok (.getfield 31, 3) := by decide +kernel
theorem dX11_odds_24 : decode cX11_odds 24 = .ok (.iload_n 1, 1) := by decide +kernel
theorem dX11_odds_25 : decode cX11_odds 25 = .ok (.invokevirtual 386, 3) := by decide +kernel
theorem dX11_odds_28 : decode cX11_odds 28 = .ok (.istore_n 3, 1) := by decide +kernel
theorem dX11_odds_29 : decode cX11_odds 29 = .ok (.iconst 0, 1) := by decide +kernel
theorem dX11_odds_30 : decode cX11_odds 30 = .ok (.istore 4, 2) := by decide +kernel
theorem dX11_odds_32 : decode cX11_odds 32 = .ok (.iload_n 2, 1) := by decide +kernel
theorem dX11_odds_33 : decode cX11_odds 33 = .ok (.ineg, 1) := by decide +kernel
theorem dX11_odds_34 : decode cX11_odds 34 = .ok (.istore 5, 2) := by decide +kernel
theorem dX11_odds_36 : decode cX11_odds 36 = .ok (.iload 5, 2) := by decide +kernel
theorem dX11_odds_38 : decode cX11_odds 38 = .ok (.iload_n 2, 1) := by decide +kernel
theorem dX11_odds_39 : decode cX11_odds 39 = .ok (.if_icmp .gt 26, 3) := by decide +kernel
theorem dX11_odds_42 : decode cX11_odds 42 = .ok (.aload_n 0, 1) := by decide +kernel
theorem dX11_odds_43 : decode cX11_odds 43 = .ok (.getfield 31, 3) := by decide +kernel
theorem dX11_odds_46 : decode cX11_odds 46 = .ok (.iload_n 3, 1) := by decide +kernel
theorem dX11_odds_47 : decode cX11_odds 47 = .ok (.iload 5, 2) := by decide +kernel
theorem dX11_odds_49 : decode cX11_odds 49 = .ok (.iadd, 1) := by decide +kernel
theorem dX11_odds_50 : decode cX11_odds 50 = .ok (.invokevirtual 296, 3) := by decide +kernel
theorem dX11_odds_53 : decode cX11_odds 53 = .ok (.ifCond .eq 6, 3) := by decide +kernel
theorem dX11_odds_56 : decode cX11_odds 56 = .ok (.iinc 4 1, 3) := by decide +kernel
theorem dX11_odds_59 : decode cX11_odds 59 = .ok (.iinc 5 1, 3) := by decide +kernel
theorem dX11_odds_62 : decode cX11_odds 62 = .ok (.goto (-26), 3) := by decide +kernel
theorem dX11_odds_65 : decode cX11_odds 65 = .ok (.aload_n 0, 1) := by decide +kernel
theorem dX11_odds_66 : decode cX11_odds 66 = .ok (.getfield 10, 3) := by decide +kernel
theorem dX11_odds_69 : decode cX11_odds 69 = .ok (.iload 4, 2) := by decide +kernel
theorem dX11_odds_71 : decode cX11_odds 71 = .ok (.iconst 2, 1) := by decide +kernel
theorem dX11_odds_72 : decode cX11_odds 72 = .ok (.iload_n 2, 1) := by decide +kernel
theorem dX11_odds_73 : decode cX11_odds 73 = .ok (.imul, 1) := by decide +kernel
theorem dX11_odds_74 : decode cX11_odds 74 = .ok (.iconst 1, 1) := by decide +kernel
theorem dX11_odds_75 : decode cX11_odds 75 = .ok (.iadd, 1) := by decide +kernel
theorem dX11_odds_76 : decode cX11_odds 76 = .ok (.invokevirtual 302, 3) := by decide +kernel
theorem dX11_odds_79 : decode cX11_odds 79 = .ok (.iload 4, 2) := by decide +kernel
theorem dX11_odds_81 : decode cX11_odds 81 = .ok (.ireturn, 1) := by decide +kernel
theorem dX11_storm_0 : decode cX11_storm 0 = .ok (.iload_n 1, 1) := by decide +kernel
theorem dX11_storm_1 : decode cX11_storm 1 = .ok (.iconst 1, 1) := by decide +kernel
theorem dX11_storm_2 : decode cX11_storm 2 = .ok (.ldc_w 389, 3) := by decide +kernel
theorem dX11_storm_5 : decode cX11_storm 5 = .ok (.invokestatic 188, 3) := by decide +kernel
theorem dX11_storm_8 : decode cX11_storm 8 = .ok (.ifCond .ne 5, 3) := by decide +kernel
theorem dX11_storm_11 : decode cX11_storm 11 = .ok (.iconst (-1), 1) := by decide +kernel
theorem dX11_storm_12 : decode cX11_storm 12 = .ok (.ireturn, 1) := by decide +kernel
theorem dX11_storm_13 : decode cX11_storm 13 = .ok (.iload_n 1, 1) := by decide +kernel
theorem dX11_storm_14 : decode cX11_storm 14 = .ok (.i2l, 1) := by decide +kernel
theorem dX11_storm_15 : decode cX11_storm 15 = .ok (.lstore_n 2, 1) := by decide +kernel
theorem dX11_storm_16 : decode cX11_storm 16 = .ok (.aload_n 0, 1) := by decide +kernel
theorem dX11_storm_17 : decode cX11_storm 17 = .ok (.getfield 31, 3) := by decide +kernel
theorem dX11_storm_20 : decode cX11_storm 20 = .ok (.getfield 238, 3) := by decide +kernel
theorem dX11_storm_23 : decode cX11_storm 23 = .ok (.istore 4, 2) := by decide +kernel
theorem dX11_storm_25 : decode cX11_storm 25 = .ok (.iconst 0, 1) := by decide +kernel
theorem dX11_storm_26 : decode cX11_storm 26 = .ok (.istore 5, 2) := by decide +kernel
theorem dX11_storm_28 : decode cX11_storm 28 = .ok (.iconst 0, 1) := by decide +kernel
theorem dX11_storm_29 : decode cX11_storm 29 = .ok (.istore 6, 2) := by decide +kernel
theorem dX11_storm_31 : decode cX11_storm 31 = .ok (.iload 6, 2) := by decide +kernel
theorem dX11_storm_33 : decode cX11_storm 33 = .ok (.aload_n 0, 1) := by decide +kernel
theorem dX11_storm_34 : decode cX11_storm 34 = .ok (.getfield 43, 3) := by decide +kernel
theorem dX11_storm_37 : decode cX11_storm 37 = .ok (.getfield 182, 3) := by decide +kernel
theorem dX11_storm_40 : decode cX11_storm 40 = .ok (.if_icmp .ge 80, 3) := by decide +kernel
theorem dX11_storm_43 : decode cX11_storm 43 = .ok (.lload_n 2, 1) := by decide +kernel
theorem dX11_storm_44 : decode cX11_storm 44 = .ok (.ldc2_w 390, 3) := by decide +kernel
theorem dX11_storm_47 : decode cX11_storm 47 = .ok (.lmul, 1) := by decide +kernel
theorem dX11_storm_48 : decode cX11_storm 48 = .ok (.ldc2_w 392, 3) := by decide +kernel
theorem dX11_storm_51 : decode cX11_storm 51 = .ok (.lrem, 1) := by decide +kernel
theorem dX11_storm_52 : decode cX11_storm 52 = .ok (.lstore_n 2, 1) := by decide +kernel
theorem dX11_storm_53 : decode cX11_storm 53 = .ok (.iload 4, 2) := by decide +kernel
theorem dX11_storm_55 : decode cX11_storm 55 = .ok (.lload_n 2, 1) := by decide +kernel
theorem dX11_storm_56 : decode cX11_storm 56 = .ok (.ldc2_w 394, 3) := by decide +kernel
theorem dX11_storm_59 : decode cX11_storm 59 = .ok (.lrem, 1) := by decide +kernel
theorem dX11_storm_60 : decode cX11_storm 60 = .ok (.l2i, 1) := by decide +kernel
theorem dX11_storm_61 : decode cX11_storm 61 = .ok (.iconst 3, 1) := by decide +kernel
theorem dX11_storm_62 : decode cX11_storm 62 = .ok (.isub, 1) := by decide +kernel
theorem dX11_storm_63 : decode cX11_storm 63 = .ok (.iadd, 1) := by decide +kernel
theorem dX11_storm_64 : decode cX11_storm 64 = .ok (.istore 4, 2) := by decide +kernel
theorem dX11_storm_66 : decode cX11_storm 66 = .ok (.sipush (-200), 3) := by decide +kernel
theorem dX11_storm_69 : decode cX11_storm 69 = .ok (.sipush 200, 3) := by decide +kernel
theorem dX11_storm_72 : decode cX11_storm 72 = .ok (.iload 4, 2) := by decide +kernel
theorem dX11_storm_74 : decode cX11_storm 74 = .ok (.invokestatic 396, 3) := by decide +kernel
theorem dX11_storm_77 : decode cX11_storm 77 = .ok (.invokestatic 399, 3) := by decide +kernel
theorem dX11_storm_80 : decode cX11_storm 80 = .ok (.istore 4, 2) := by decide +kernel
theorem dX11_storm_82 : decode cX11_storm 82 = .ok (.aload_n 0, 1) := by decide +kernel
theorem dX11_storm_83 : decode cX11_storm 83 = .ok (.getfield 31, 3) := by decide +kernel
theorem dX11_storm_86 : decode cX11_storm 86 = .ok (.aload_n 0, 1) := by decide +kernel
theorem dX11_storm_87 : decode cX11_storm 87 = .ok (.getfield 31, 3) := by decide +kernel
theorem dX11_storm_90 : decode cX11_storm 90 = .ok (.aload_n 0, 1) := by decide +kernel
theorem dX11_storm_91 : decode cX11_storm 91 = .ok (.getfield 43, 3) := by decide +kernel
theorem dX11_storm_94 : decode cX11_storm 94 = .ok (.iload 6, 2) := by decide +kernel
theorem dX11_storm_96 : decode cX11_storm 96 = .ok (.invokevirtual 299, 3) := by decide +kernel
theorem dX11_storm_99 : decode cX11_storm 99 = .ok (.invokevirtual 386, 3) := by decide +kernel
theorem dX11_storm_102 : decode cX11_storm 102 = .ok (.iload 4, 2) := by decide +kernel
theorem dX11_storm_104 : decode cX11_storm 104 = .ok (.iadd, 1) := by decide +kernel
theorem dX11_storm_105 : decode cX11_storm 105 = .ok (.invokevirtual 296, 3) := by decide +kernel
theorem dX11_storm_108 : decode cX11_storm 108 = .ok (.ifCond .ne 6, 3) := by decide +kernel
theorem dX11_storm_111 : decode cX11_storm 111 = .ok (.iinc 5 1, 3) := by decide +kernel
theorem dX11_storm_114 : decode cX11_storm 114 = .ok (.iinc 6 1, 3) := by decide +kernel
theorem dX11_storm_117 : decode cX11_storm 117 = .ok (.goto (-86), 3) := by decide +kernel
theorem dX11_storm_120 : decode cX11_storm 120 = .ok (.aload_n 0, 1) := by decide +kernel
theorem dX11_storm_121 : decode cX11_storm 121 = .ok (.getfield 10, 3) := by decide +kernel
theorem dX11_storm_124 : decode cX11_storm 124 = .ok (.iload 4, 2) := by decide +kernel
theorem dX11_storm_126 : decode cX11_storm 126 = .ok (.invokevirtual 107, 3) := by decide +kernel
theorem dX11_storm_129 : decode cX11_storm 129 = .ok (.iload 5, 2) := by decide +kernel
theorem dX11_storm_131 : decode cX11_storm 131 = .ok (.ireturn, 1) := by decide +kernel
theorem dX11_asked_0 : decode cX11_asked 0 = .ok (.aload_n 0, 1) := by decide +kernel
theorem dX11_asked_1 : decode cX11_asked 1 = .ok (.getfield 10, 3) := by decide +kernel
theorem dX11_asked_4 : decode cX11_asked 4 = .ok (.getfield 402, 3) := by decide +kernel
theorem dX11_asked_7 : decode cX11_asked 7 = .ok (.ireturn, 1) := by decide +kernel
theorem dX11_upper_0 : decode cX11_upper 0 = .ok (.aload_n 0, 1) := by decide +kernel
theorem dX11_upper_1 : decode cX11_upper 1 = .ok (.getfield 10, 3) := by decide +kernel
theorem dX11_upper_4 : decode cX11_upper 4 = .ok (.getfield 405, 3) := by decide +kernel
theorem dX11_upper_7 : decode cX11_upper 7 = .ok (.lreturn, 1) := by decide +kernel
theorem dX11_lower_0 : decode cX11_lower 0 = .ok (.aload_n 0, 1) := by decide +kernel
theorem dX11_lower_1 : decode cX11_lower 1 = .ok (.getfield 10, 3) := by decide +kernel
theorem dX11_lower_4 : decode cX11_lower 4 = .ok (.getfield 409, 3) := by decide +kernel
theorem dX11_lower_7 : decode cX11_lower 7 = .ok (.lreturn, 1) := by decide +kernel
theorem dX11_count_0 : decode cX11_count 0 = .ok (.iload_n 1, 1) := by decide +kernel
theorem dX11_count_1 : decode cX11_count 1 = .ok (.iconst 0, 1) := by decide +kernel
theorem dX11_count_2 : decode cX11_count 2 = .ok (.bipush 9, 2) := by decide +kernel
theorem dX11_count_4 : decode cX11_count 4 = .ok (.invokestatic 188, 3) := by decide +kernel
theorem dX11_count_7 : decode cX11_count 7 = .ok (.ifCond .eq 11, 3) := by decide +kernel
theorem dX11_count_10 : decode cX11_count 10 = .ok (.aload_n 0, 1) := by decide +kernel
theorem dX11_count_11 : decode cX11_count 11 = .ok (.iload_n 1, 1) := by decide +kernel
theorem dX11_count_12 : decode cX11_count 12 = .ok (.invokevirtual 412, 3) := by decide +kernel
theorem dX11_count_15 : decode cX11_count 15 = .ok (.goto 4, 3) := by decide +kernel
theorem dX11_count_18 : decode cX11_count 18 = .ok (.iconst (-1), 1) := by decide +kernel
theorem dX11_count_19 : decode cX11_count 19 = .ok (.ireturn, 1) := by decide +kernel
theorem dX11_finding_0 : decode cX11_finding 0 = .ok (.aload_n 0, 1) := by decide +kernel
theorem dX11_finding_1 : decode cX11_finding 1 = .ok (.getfield 10, 3) := by decide +kernel
theorem dX11_finding_4 : decode cX11_finding 4 = .ok (.getfield 415, 3) := by decide +kernel
theorem dX11_finding_7 : decode cX11_finding 7 = .ok (.ireturn, 1) := by decide +kernel
theorem dX11_findings_0 : decode cX11_findings 0 = .ok (.iload_n 1, 1) := by decide +kernel
theorem dX11_findings_1 : decode cX11_findings 1 = .ok (.iconst 1, 1) := by decide +kernel
theorem dX11_findings_2 : decode cX11_findings 2 = .ok (.iconst 5, 1) := by decide +kernel
theorem dX11_findings_3 : decode cX11_findings 3 = .ok (.invokestatic 188, 3) := by decide +kernel
theorem dX11_findings_6 : decode cX11_findings 6 = .ok (.ifCond .eq 14, 3) := by decide +kernel
theorem dX11_findings_9 : decode cX11_findings 9 = .ok (.aload_n 0, 1) := by decide +kernel
theorem dX11_findings_10 : decode cX11_findings 10 = .ok (.getfield 10, 3) := by decide +kernel
theorem dX11_findings_13 : decode cX11_findings 13 = .ok (.iload_n 1, 1) := by decide +kernel
theorem dX11_findings_14 : decode cX11_findings 14 = .ok (.invokevirtual 418, 3) := by decide +kernel
theorem dX11_findings_17 : decode cX11_findings 17 = .ok (.goto 4, 3) := by decide +kernel
theorem dX11_findings_20 : decode cX11_findings 20 = .ok (.iconst (-1), 1) := by decide +kernel
theorem dX11_findings_21 : decode cX11_findings 21 = .ok (.ireturn, 1) := by decide +kernel
theorem dX11_digest_0 : decode cX11_digest 0 = .ok (.ldc2_w 421, 3) := by decide +kernel
theorem dX11_digest_3 : decode cX11_digest 3 = .ok (.lstore_n 1, 1) := by decide +kernel
theorem dX11_digest_4 : decode cX11_digest 4 = .ok (.iconst 0, 1) := by decide +kernel
theorem dX11_digest_5 : decode cX11_digest 5 = .ok (.istore_n 3, 1) := by decide +kernel
theorem dX11_digest_6 : decode cX11_digest 6 = .ok (.iload_n 3, 1) := by decide +kernel
theorem dX11_digest_7 : decode cX11_digest 7 = .ok (.bipush 10, 2) := by decide +kernel
theorem dX11_digest_9 : decode cX11_digest 9 = .ok (.if_icmp .ge 22, 3) := by decide +kernel
theorem dX11_digest_12 : decode cX11_digest 12 = .ok (.ldc2_w 423, 3) := by decide +kernel
theorem dX11_digest_15 : decode cX11_digest 15 = .ok (.lload_n 1, 1) := by decide +kernel
theorem dX11_digest_16 : decode cX11_digest 16 = .ok (.lmul, 1) := by decide +kernel
theorem dX11_digest_17 : decode cX11_digest 17 = .ok (.aload_n 0, 1) := by decide +kernel
theorem dX11_digest_18 : decode cX11_digest 18 = .ok (.iload_n 3, 1) := by decide +kernel
theorem dX11_digest_19 : decode cX11_digest 19 = .ok (.invokevirtual 412, 3) := by decide +kernel
theorem dX11_digest_22 : decode cX11_digest 22 = .ok (.i2l, 1) := by decide +kernel
theorem dX11_digest_23 : decode cX11_digest 23 = .ok (.ladd, 1) := by decide +kernel
theorem dX11_digest_24 : decode cX11_digest 24 = .ok (.lstore_n 1, 1) := by decide +kernel
theorem dX11_digest_25 : decode cX11_digest 25 = .ok (.iinc 3 1, 3) := by decide +kernel
theorem dX11_digest_28 : decode cX11_digest 28 = .ok (.goto (-22), 3) := by decide +kernel
theorem dX11_digest_31 : decode cX11_digest 31 = .ok (.ldc2_w 423, 3) := by decide +kernel
theorem dX11_digest_34 : decode cX11_digest 34 = .ok (.lload_n 1, 1) := by decide +kernel
theorem dX11_digest_35 : decode cX11_digest 35 = .ok (.lmul, 1) := by decide +kernel
theorem dX11_digest_36 : decode cX11_digest 36 = .ok (.aload_n 0, 1) := by decide +kernel
theorem dX11_digest_37 : decode cX11_digest 37 = .ok (.getfield 31, 3) := by decide +kernel
theorem dX11_digest_40 : decode cX11_digest 40 = .ok (.getfield 235, 3) := by decide +kernel
theorem dX11_digest_43 : decode cX11_digest 43 = .ok (.i2l, 1) := by decide +kernel
theorem dX11_digest_44 : decode cX11_digest 44 = .ok (.ladd, 1) := by decide +kernel
theorem dX11_digest_45 : decode cX11_digest 45 = .ok (.lstore_n 1, 1) := by decide +kernel
theorem dX11_digest_46 : decode cX11_digest 46 = .ok (.ldc2_w 423, 3) := by decide +kernel
theorem dX11_digest_49 : decode cX11_digest 49 = .ok (.lload_n 1, 1) := by decide +kernel
theorem dX11_digest_50 : decode cX11_digest 50 = .ok (.lmul, 1) := by decide +kernel
theorem dX11_digest_51 : decode cX11_digest 51 = .ok (.aload_n 0, 1) := by decide +kernel
theorem dX11_digest_52 : decode cX11_digest 52 = .ok (.getfield 31, 3) := by decide +kernel
theorem dX11_digest_55 : decode cX11_digest 55 = .ok (.getfield 238, 3) := by decide +kernel
theorem dX11_digest_58 : decode cX11_digest 58 = .ok (.i2l, 1) := by decide +kernel
theorem dX11_digest_59 : decode cX11_digest 59 = .ok (.ladd, 1) := by decide +kernel
theorem dX11_digest_60 : decode cX11_digest 60 = .ok (.lstore_n 1, 1) := by decide +kernel
theorem dX11_digest_61 : decode cX11_digest 61 = .ok (.aload_n 0, 1) := by decide +kernel
theorem dX11_digest_62 : decode cX11_digest 62 = .ok (.lload_n 1, 1) := by decide +kernel
theorem dX11_digest_63 : decode cX11_digest 63 = .ok (.invokevirtual 425, 3) := by decide +kernel
theorem dX11_digest_66 : decode cX11_digest 66 = .ok (.lstore_n 1, 1) := by decide +kernel
theorem dX11_digest_67 : decode cX11_digest 67 = .ok (.iconst 0, 1) := by decide +kernel
theorem dX11_digest_68 : decode cX11_digest 68 = .ok (.istore_n 3, 1) := by decide +kernel
theorem dX11_digest_69 : decode cX11_digest 69 = .ok (.iload_n 3, 1) := by decide +kernel
theorem dX11_digest_70 : decode cX11_digest 70 = .ok (.aload_n 0, 1) := by decide +kernel
theorem dX11_digest_71 : decode cX11_digest 71 = .ok (.getfield 43, 3) := by decide +kernel
theorem dX11_digest_74 : decode cX11_digest 74 = .ok (.getfield 182, 3) := by decide +kernel
theorem dX11_digest_77 : decode cX11_digest 77 = .ok (.if_icmp .ge 25, 3) := by decide +kernel
theorem dX11_digest_80 : decode cX11_digest 80 = .ok (.ldc2_w 423, 3) := by decide +kernel
theorem dX11_digest_83 : decode cX11_digest 83 = .ok (.lload_n 1, 1) := by decide +kernel
theorem dX11_digest_84 : decode cX11_digest 84 = .ok (.lmul, 1) := by decide +kernel
theorem dX11_digest_85 : decode cX11_digest 85 = .ok (.aload_n 0, 1) := by decide +kernel
theorem dX11_digest_86 : decode cX11_digest 86 = .ok (.getfield 43, 3) := by decide +kernel
theorem dX11_digest_89 : decode cX11_digest 89 = .ok (.iload_n 3, 1) := by decide +kernel
theorem dX11_digest_90 : decode cX11_digest 90 = .ok (.invokevirtual 299, 3) := by decide +kernel
theorem dX11_digest_93 : decode cX11_digest 93 = .ok (.i2l, 1) := by decide +kernel
theorem dX11_digest_94 : decode cX11_digest 94 = .ok (.ladd, 1) := by decide +kernel
theorem dX11_digest_95 : decode cX11_digest 95 = .ok (.lstore_n 1, 1) := by decide +kernel
theorem dX11_digest_96 : decode cX11_digest 96 = .ok (.iinc 3 1, 3) := by decide +kernel
theorem dX11_digest_99 : decode cX11_digest 99 = .ok (.goto (-30), 3) := by decide +kernel
theorem dX11_digest_102 : decode cX11_digest 102 = .ok (.iconst 0, 1) := by decide +kernel
theorem dX11_digest_103 : decode cX11_digest 103 = .ok (.istore_n 3, 1) := by decide +kernel
theorem dX11_digest_104 : decode cX11_digest 104 = .ok (.iload_n 3, 1) := by decide +kernel
theorem dX11_digest_105 : decode cX11_digest 105 = .ok (.aload_n 0, 1) := by decide +kernel
theorem dX11_digest_106 : decode cX11_digest 106 = .ok (.getfield 39, 3) := by decide +kernel
theorem dX11_digest_109 : decode cX11_digest 109 = .ok (.getfield 241, 3) := by decide +kernel
theorem dX11_digest_112 : decode cX11_digest 112 = .ok (.if_icmp .ge 41, 3) := by decide +kernel
theorem dX11_digest_115 : decode cX11_digest 115 = .ok (.ldc2_w 423, 3) := by decide +kernel
theorem dX11_digest_118 : decode cX11_digest 118 = .ok (.lload_n 1, 1) := by decide +kernel
theorem dX11_digest_119 : decode cX11_digest 119 = .ok (.lmul, 1) := by decide +kernel
theorem dX11_digest_120 : decode cX11_digest 120 = .ok (.aload_n 0, 1) := by decide +kernel
theorem dX11_digest_121 : decode cX11_digest 121 = .ok (.getfield 39, 3) := by decide +kernel
theorem dX11_digest_124 : decode cX11_digest 124 = .ok (.iload_n 3, 1) := by decide +kernel
theorem dX11_digest_125 : decode cX11_digest 125 = .ok (.invokevirtual 374, 3) := by decide +kernel
theorem dX11_digest_128 : decode cX11_digest 128 = .ok (.i2l, 1) := by decide +kernel
theorem dX11_digest_129 : decode cX11_digest 129 = .ok (.ladd, 1) := by decide +kernel
theorem dX11_digest_130 : decode cX11_digest 130 = .ok (.lstore_n 1, 1) := by decide +kernel
theorem dX11_digest_131 : decode cX11_digest 131 = .ok (.ldc2_w 423, 3) := by decide +kernel
theorem dX11_digest_134 : decode cX11_digest 134 = .ok (.lload_n 1, 1) := by decide +kernel
theorem dX11_digest_135 : decode cX11_digest 135 = .ok (.lmul, 1) := by decide +kernel
theorem dX11_digest_136 : decode cX11_digest 136 = .ok (.aload_n 0, 1) := by decide +kernel
theorem dX11_digest_137 : decode cX11_digest 137 = .ok (.getfield 39, 3) := by decide +kernel
theorem dX11_digest_140 : decode cX11_digest 140 = .ok (.iload_n 3, 1) := by decide +kernel
theorem dX11_digest_141 : decode cX11_digest 141 = .ok (.invokevirtual 377, 3) := by decide +kernel
theorem dX11_digest_144 : decode cX11_digest 144 = .ok (.i2l, 1) := by decide +kernel
theorem dX11_digest_145 : decode cX11_digest 145 = .ok (.ladd, 1) := by decide +kernel
theorem dX11_digest_146 : decode cX11_digest 146 = .ok (.lstore_n 1, 1) := by decide +kernel
theorem dX11_digest_147 : decode cX11_digest 147 = .ok (.iinc 3 1, 3) := by decide +kernel
theorem dX11_digest_150 : decode cX11_digest 150 = .ok (.goto (-46), 3) := by decide +kernel
theorem dX11_digest_153 : decode cX11_digest 153 = .ok (.aload_n 0, 1) := by decide +kernel
theorem dX11_digest_154 : decode cX11_digest 154 = .ok (.aload_n 0, 1) := by decide +kernel
theorem dX11_digest_155 : decode cX11_digest 155 = .ok (.aload_n 0, 1) := by decide +kernel
theorem dX11_digest_156 : decode cX11_digest 156 = .ok (.lload_n 1, 1) := by decide +kernel
theorem dX11_digest_157 : decode cX11_digest 157 = .ok (.invokevirtual 429, 3) := by decide +kernel
theorem dX11_digest_160 : decode cX11_digest 160 = .ok (.invokevirtual 432, 3) := by decide +kernel
theorem dX11_digest_163 : decode cX11_digest 163 = .ok (.invokevirtual 435, 3) := by decide +kernel
theorem dX11_digest_166 : decode cX11_digest 166 = .ok (.lreturn, 1) := by decide +kernel
theorem dX11_isWithin_0 : decode cX11_isWithin 0 = .ok (.iload_n 0, 1) := by decide +kernel
theorem dX11_isWithin_1 : decode cX11_isWithin 1 = .ok (.iload_n 1, 1) := by decide +kernel
theorem dX11_isWithin_2 : decode cX11_isWithin 2 = .ok (.if_icmp .lt 12, 3) := by decide +kernel
theorem dX11_isWithin_5 : decode cX11_isWithin 5 = .ok (.iload_n 0, 1) := by decide +kernel
theorem dX11_isWithin_6 : decode cX11_isWithin 6 = .ok (.iload_n 2, 1) := by decide +kernel
theorem dX11_isWithin_7 : decode cX11_isWithin 7 = .ok (.if_icmp .gt 7, 3) := by decide +kernel
theorem dX11_isWithin_10 : decode cX11_isWithin 10 = .ok (.iconst 1, 1) := by decide +kernel
theorem dX11_isWithin_11 : decode cX11_isWithin 11 = .ok (.goto 4, 3) := by decide +kernel
theorem dX11_isWithin_14 : decode cX11_isWithin 14 = .ok (.iconst 0, 1) := by decide +kernel
theorem dX11_isWithin_15 : decode cX11_isWithin 15 = .ok (.ireturn, 1) := by decide +kernel
theorem dX11_isPosture_0 : decode cX11_isPosture 0 = .ok (.iload_n 0, 1) := by decide +kernel
theorem dX11_isPosture_1 : decode cX11_isPosture 1 = .ok (.ifCond .lt 12, 3) := by decide +kernel
theorem dX11_isPosture_4 : decode cX11_isPosture 4 = .ok (.iload_n 0, 1) := by decide +kernel
theorem dX11_isPosture_5 : decode cX11_isPosture 5 = .ok (.iconst 3, 1) := by decide +kernel
theorem dX11_isPosture_6 : decode cX11_isPosture 6 = .ok (.if_icmp .ge 7, 3) := by decide +kernel
theorem dX11_isPosture_9 : decode cX11_isPosture 9 = .ok (.iconst 1, 1) := by decide +kernel
theorem dX11_isPosture_10 : decode cX11_isPosture 10 = .ok (.goto 4, 3) := by decide +kernel
theorem dX11_isPosture_13 : decode cX11_isPosture 13 = .ok (.iconst 0, 1) := by decide +kernel
theorem dX11_isPosture_14 : decode cX11_isPosture 14 = .ok (.ireturn, 1) := by decide +kernel
theorem dX11_rowOf_0 : decode cX11_rowOf 0 = .ok (.iload_n 1, 1) := by decide +kernel
theorem dX11_rowOf_1 : decode cX11_rowOf 1 = .ok (.ifCond .lt 21, 3) := by decide +kernel
theorem dX11_rowOf_4 : decode cX11_rowOf 4 = .ok (.iload_n 1, 1) := by decide +kernel
theorem dX11_rowOf_5 : decode cX11_rowOf 5 = .ok (.aload_n 0, 1) := by decide +kernel
theorem dX11_rowOf_6 : decode cX11_rowOf 6 = .ok (.getfield 18, 3) := by decide +kernel
theorem dX11_rowOf_9 : decode cX11_rowOf 9 = .ok (.arraylength, 1) := by decide +kernel
theorem dX11_rowOf_10 : decode cX11_rowOf 10 = .ok (.if_icmp .ge 12, 3) := by decide +kernel
theorem dX11_rowOf_13 : decode cX11_rowOf 13 = .ok (.aload_n 0, 1) := by decide +kernel
theorem dX11_rowOf_14 : decode cX11_rowOf 14 = .ok (.getfield 18, 3) := by decide +kernel
theorem dX11_rowOf_17 : decode cX11_rowOf 17 = .ok (.iload_n 1, 1) := by decide +kernel
theorem dX11_rowOf_18 : decode cX11_rowOf 18 = .ok (.aaload, 1) := by decide +kernel
theorem dX11_rowOf_19 : decode cX11_rowOf 19 = .ok (.goto 4, 3) := by decide +kernel
theorem dX11_rowOf_22 : decode cX11_rowOf 22 = .ok (.aconst_null, 1) := by decide +kernel
theorem dX11_rowOf_23 : decode cX11_rowOf 23 = .ok (.areturn, 1) := by decide +kernel
theorem dX11_textOf_0 : decode cX11_textOf 0 = .ok (.iload_n 1, 1) := by decide +kernel
theorem dX11_textOf_1 : decode cX11_textOf 1 = .ok (.ifCond .lt 21, 3) := by decide +kernel
theorem dX11_textOf_4 : decode cX11_textOf 4 = .ok (.iload_n 1, 1) := by decide +kernel
theorem dX11_textOf_5 : decode cX11_textOf 5 = .ok (.aload_n 0, 1) := by decide +kernel
theorem dX11_textOf_6 : decode cX11_textOf 6 = .ok (.getfield 24, 3) := by decide +kernel
theorem dX11_textOf_9 : decode cX11_textOf 9 = .ok (.arraylength, 1) := by decide +kernel
theorem dX11_textOf_10 : decode cX11_textOf 10 = .ok (.if_icmp .ge 12, 3) := by decide +kernel
theorem dX11_textOf_13 : decode cX11_textOf 13 = .ok (.aload_n 0, 1) := by decide +kernel
theorem dX11_textOf_14 : decode cX11_textOf 14 = .ok (.getfield 24, 3) := by decide +kernel
theorem dX11_textOf_17 : decode cX11_textOf 17 = .ok (.iload_n 1, 1) := by decide +kernel
theorem dX11_textOf_18 : decode cX11_textOf 18 = .ok (.aaload, 1) := by decide +kernel
theorem dX11_textOf_19 : decode cX11_textOf 19 = .ok (.goto 4, 3) := by decide +kernel
theorem dX11_textOf_22 : decode cX11_textOf 22 = .ok (.aconst_null, 1) := by decide +kernel
theorem dX11_textOf_23 : decode cX11_textOf 23 = .ok (.areturn, 1) := by decide +kernel
theorem dX11_placeRefused_0 : decode cX11_placeRefused 0 = .ok (.aload_n 1, 1) := by decide +kernel
theorem dX11_placeRefused_1 : decode cX11_placeRefused 1 = .ok (.invokevirtual 114, 3) := by decide +kernel
theorem dX11_placeRefused_4 : decode cX11_placeRefused 4 = .ok (.ifCond .eq 12, 3) := by decide +kernel
theorem dX11_placeRefused_7 : decode cX11_placeRefused 7 = .ok (.aload_n 0, 1) := by decide +kernel
theorem dX11_placeRefused_8 : decode cX11_placeRefused 8 = .ok (.getfield 10, 3) := by decide +kernel
theorem dX11_placeRefused_11 : decode cX11_placeRefused 11 = .ok (.iconst 1, 1) := by decide +kernel
theorem dX11_placeRefused_12 : decode cX11_placeRefused 12 = .ok (.invokevirtual 92, 3) := by decide +kernel
theorem dX11_placeRefused_15 : decode cX11_placeRefused 15 = .ok (.ireturn, 1) := by decide +kernel
theorem dX11_placeRefused_16 : decode cX11_placeRefused 16 = .ok (.aload_n 1, 1) := by decide +kernel
theorem dX11_placeRefused_17 : decode cX11_placeRefused 17 = .ok (.iload_n 2, 1) := by decide +kernel
theorem dX11_placeRefused_18 : decode cX11_placeRefused 18 = .ok (.invokevirtual 438, 3) := by decide +kernel
theorem dX11_placeRefused_21 : decode cX11_placeRefused 21 = .ok (.ifCond .eq 7, 3) := by decide +kernel
theorem dX11_placeRefused_24 : decode cX11_placeRefused 24 = .ok (.iconst 0, 1) := by decide +kernel
theorem dX11_placeRefused_25 : decode cX11_placeRefused 25 = .ok (.goto 11, 3) := by decide +kernel
theorem dX11_placeRefused_28 : decode cX11_placeRefused 28 = .ok (.aload_n 0, 1) := by decide +kernel
theorem dX11_placeRefused_29 : decode cX11_placeRefused 29 = .ok (.getfield 10, 3) := by decide +kernel
theorem dX11_placeRefused_32 : decode cX11_placeRefused 32 = .ok (.iconst 2, 1) := by decide +kernel
theorem dX11_placeRefused_33 : decode cX11_placeRefused 33 = .ok (.invokevirtual 92, 3) := by decide +kernel
theorem dX11_placeRefused_36 : decode cX11_placeRefused 36 = .ok (.ireturn, 1) := by decide +kernel
theorem dX11_seatingsRefused_0 : decode cX11_seatingsRefused 0 = .ok (.aload_n 0, 1) := by decide +kernel
theorem dX11_seatingsRefused_1 : decode cX11_seatingsRefused 1 = .ok (.getfield 31, 3) := by decide +kernel
theorem dX11_seatingsRefused_4 : decode cX11_seatingsRefused 4 = .ok (.getfield 174, 3) := by decide +kernel
theorem dX11_seatingsRefused_7 : decode cX11_seatingsRefused 7 = .ok (.ifCond .ne 6, 3) := by decide +kernel
theorem dX11_seatingsRefused_10 : decode cX11_seatingsRefused 10 = .ok (.bipush (-4), 2) := by decide +kernel
theorem dX11_seatingsRefused_12 : decode cX11_seatingsRefused 12 = .ok (.ireturn, 1) := by decide +kernel
theorem dX11_seatingsRefused_13 : decode cX11_seatingsRefused 13 = .ok (.aload_n 0, 1) := by decide +kernel
theorem dX11_seatingsRefused_14 : decode cX11_seatingsRefused 14 = .ok (.getfield 31, 3) := by decide +kernel
theorem dX11_seatingsRefused_17 : decode cX11_seatingsRefused 17 = .ok (.getfield 323, 3) := by decide +kernel
theorem dX11_seatingsRefused_20 : decode cX11_seatingsRefused 20 = .ok (.aload_n 0, 1) := by decide +kernel
theorem dX11_seatingsRefused_21 : decode cX11_seatingsRefused 21 = .ok (.getfield 31, 3) := by decide +kernel
theorem dX11_seatingsRefused_24 : decode cX11_seatingsRefused 24 = .ok (.invokevirtual 283, 3) := by decide +kernel
theorem dX11_seatingsRefused_27 : decode cX11_seatingsRefused 27 = .ok (.isub, 1) := by decide +kernel
theorem dX11_seatingsRefused_28 : decode cX11_seatingsRefused 28 = .ok (.iconst 5, 1) := by decide +kernel
theorem dX11_seatingsRefused_29 : decode cX11_seatingsRefused 29 = .ok (.if_icmp .le 8, 3) := by decide +kernel
theorem dX11_seatingsRefused_32 : decode cX11_seatingsRefused 32 = .ok (.bipush (-6), 2) := by decide +kernel
theorem dX11_seatingsRefused_34 : decode cX11_seatingsRefused 34 = .ok (.goto 4, 3) := by decide +kernel
theorem dX11_seatingsRefused_37 : decode cX11_seatingsRefused 37 = .ok (.iconst 0, 1) := by decide +kernel
theorem dX11_seatingsRefused_38 : decode cX11_seatingsRefused 38 = .ok (.ireturn, 1) := by decide +kernel
theorem dX11_ofBench_0 : decode cX11_ofBench 0 = .ok (.iload_n 2, 1) := by decide +kernel
theorem dX11_ofBench_1 : decode cX11_ofBench 1 = .ok (.tableswitch 61 0 2 #[27, 36, 45], 27) := by decide +kernel
theorem dX11_ofBench_28 : decode cX11_ofBench 28 = .ok (.aload_n 0, 1) := by decide +kernel
theorem dX11_ofBench_29 : decode cX11_ofBench 29 = .ok (.getfield 31, 3) := by decide +kernel
theorem dX11_ofBench_32 : decode cX11_ofBench 32 = .ok (.iload_n 1, 1) := by decide +kernel
theorem dX11_ofBench_33 : decode cX11_ofBench 33 = .ok (.invokevirtual 220, 3) := by decide +kernel
theorem dX11_ofBench_36 : decode cX11_ofBench 36 = .ok (.ireturn, 1) := by decide +kernel
theorem dX11_ofBench_37 : decode cX11_ofBench 37 = .ok (.aload_n 0, 1) := by decide +kernel
theorem dX11_ofBench_38 : decode cX11_ofBench 38 = .ok (.getfield 31, 3) := by decide +kernel
theorem dX11_ofBench_41 : decode cX11_ofBench 41 = .ok (.iload_n 1, 1) := by decide +kernel
theorem dX11_ofBench_42 : decode cX11_ofBench 42 = .ok (.invokevirtual 439, 3) := by decide +kernel
theorem dX11_ofBench_45 : decode cX11_ofBench 45 = .ok (.ireturn, 1) := by decide +kernel
theorem dX11_ofBench_46 : decode cX11_ofBench 46 = .ok (.aload_n 0, 1) := by decide +kernel
theorem dX11_ofBench_47 : decode cX11_ofBench 47 = .ok (.getfield 31, 3) := by decide +kernel
theorem dX11_ofBench_50 : decode cX11_ofBench 50 = .ok (.aload_n 0, 1) := by decide +kernel
theorem dX11_ofBench_51 : decode cX11_ofBench 51 = .ok (.getfield 31, 3) := by decide +kernel
theorem dX11_ofBench_54 : decode cX11_ofBench 54 = .ok (.iload_n 1, 1) := by decide +kernel
theorem dX11_ofBench_55 : decode cX11_ofBench 55 = .ok (.invokevirtual 212, 3) := by decide +kernel
theorem dX11_ofBench_58 : decode cX11_ofBench 58 = .ok (.invokevirtual 383, 3) := by decide +kernel
theorem dX11_ofBench_61 : decode cX11_ofBench 61 = .ok (.ireturn, 1) := by decide +kernel
theorem dX11_ofBench_62 : decode cX11_ofBench 62 = .ok (.aload_n 0, 1) := by decide +kernel
theorem dX11_ofBench_63 : decode cX11_ofBench 63 = .ok (.getfield 31, 3) := by decide +kernel
theorem dX11_ofBench_66 : decode cX11_ofBench 66 = .ok (.iload_n 1, 1) := by decide +kernel
theorem dX11_ofBench_67 : decode cX11_ofBench 67 = .ok (.invokevirtual 212, 3) := by decide +kernel
theorem dX11_ofBench_70 : decode cX11_ofBench 70 = .ok (.ireturn, 1) := by decide +kernel
theorem dX11_ofGuest_0 : decode cX11_ofGuest 0 = .ok (.iload_n 2, 1) := by decide +kernel
theorem dX11_ofGuest_1 : decode cX11_ofGuest 1 = .ok (.tableswitch 67 0 3 #[31, 40, 49, 58], 31) := by decide +kernel
theorem dX11_ofGuest_32 : decode cX11_ofGuest 32 = .ok (.aload_n 0, 1) := by decide +kernel
theorem dX11_ofGuest_33 : decode cX11_ofGuest 33 = .ok (.getfield 31, 3) := by decide +kernel
theorem dX11_ofGuest_36 : decode cX11_ofGuest 36 = .ok (.iload_n 1, 1) := by decide +kernel
theorem dX11_ofGuest_37 : decode cX11_ofGuest 37 = .ok (.invokevirtual 442, 3) := by decide +kernel
theorem dX11_ofGuest_40 : decode cX11_ofGuest 40 = .ok (.ireturn, 1) := by decide +kernel
theorem dX11_ofGuest_41 : decode cX11_ofGuest 41 = .ok (.aload_n 0, 1) := by decide +kernel
theorem dX11_ofGuest_42 : decode cX11_ofGuest 42 = .ok (.getfield 31, 3) := by decide +kernel
theorem dX11_ofGuest_45 : decode cX11_ofGuest 45 = .ok (.iload_n 1, 1) := by decide +kernel
theorem dX11_ofGuest_46 : decode cX11_ofGuest 46 = .ok (.invokevirtual 445, 3) := by decide +kernel
theorem dX11_ofGuest_49 : decode cX11_ofGuest 49 = .ok (.ireturn, 1) := by decide +kernel
theorem dX11_ofGuest_50 : decode cX11_ofGuest 50 = .ok (.aload_n 0, 1) := by decide +kernel
theorem dX11_ofGuest_51 : decode cX11_ofGuest 51 = .ok (.getfield 31, 3) := by decide +kernel
theorem dX11_ofGuest_54 : decode cX11_ofGuest 54 = .ok (.iload_n 1, 1) := by decide +kernel
theorem dX11_ofGuest_55 : decode cX11_ofGuest 55 = .ok (.invokevirtual 229, 3) := by decide +kernel
theorem dX11_ofGuest_58 : decode cX11_ofGuest 58 = .ok (.ireturn, 1) := by decide +kernel
theorem dX11_ofGuest_59 : decode cX11_ofGuest 59 = .ok (.aload_n 0, 1) := by decide +kernel
theorem dX11_ofGuest_60 : decode cX11_ofGuest 60 = .ok (.getfield 31, 3) := by decide +kernel
theorem dX11_ofGuest_63 : decode cX11_ofGuest 63 = .ok (.iload_n 1, 1) := by decide +kernel
theorem dX11_ofGuest_64 : decode cX11_ofGuest 64 = .ok (.invokevirtual 205, 3) := by decide +kernel
theorem dX11_ofGuest_67 : decode cX11_ofGuest 67 = .ok (.ireturn, 1) := by decide +kernel
theorem dX11_ofGuest_68 : decode cX11_ofGuest 68 = .ok (.aload_n 0, 1) := by decide +kernel
theorem dX11_ofGuest_69 : decode cX11_ofGuest 69 = .ok (.getfield 31, 3) := by decide +kernel
theorem dX11_ofGuest_72 : decode cX11_ofGuest 72 = .ok (.iload_n 1, 1) := by decide +kernel
theorem dX11_ofGuest_73 : decode cX11_ofGuest 73 = .ok (.invokevirtual 448, 3) := by decide +kernel
theorem dX11_ofGuest_76 : decode cX11_ofGuest 76 = .ok (.ireturn, 1) := by decide +kernel
theorem dX11_countOf_0 : decode cX11_countOf 0 = .ok (.iload_n 1, 1) := by decide +kernel
theorem dX11_countOf_1 : decode cX11_countOf 1 = .ok (.tableswitch 119 0 8 #[51, 59, 67, 75, 83, 92, 101, 106, 111], 51) := by decide +kernel
theorem dX11_countOf_52 : decode cX11_countOf 52 = .ok (.aload_n 0, 1) := by decide +kernel
theorem dX11_countOf_53 : decode cX11_countOf 53 = .ok (.getfield 31, 3) := by decide +kernel
theorem dX11_countOf_56 : decode cX11_countOf 56 = .ok (.getfield 174, 3) := by decide +kernel
theorem dX11_countOf_59 : decode cX11_countOf 59 = .ok (.ireturn, 1) := by decide +kernel
theorem dX11_countOf_60 : decode cX11_countOf 60 = .ok (.aload_n 0, 1) := by decide +kernel
theorem dX11_countOf_61 : decode cX11_countOf 61 = .ok (.getfield 31, 3) := by decide +kernel
theorem dX11_countOf_64 : decode cX11_countOf 64 = .ok (.getfield 323, 3) := by decide +kernel
theorem dX11_countOf_67 : decode cX11_countOf 67 = .ok (.ireturn, 1) := by decide +kernel
theorem dX11_countOf_68 : decode cX11_countOf 68 = .ok (.aload_n 0, 1) := by decide +kernel
theorem dX11_countOf_69 : decode cX11_countOf 69 = .ok (.getfield 31, 3) := by decide +kernel
theorem dX11_countOf_72 : decode cX11_countOf 72 = .ok (.invokevirtual 283, 3) := by decide +kernel
theorem dX11_countOf_75 : decode cX11_countOf 75 = .ok (.ireturn, 1) := by decide +kernel
theorem dX11_countOf_76 : decode cX11_countOf 76 = .ok (.aload_n 0, 1) := by decide +kernel
theorem dX11_countOf_77 : decode cX11_countOf 77 = .ok (.getfield 43, 3) := by decide +kernel
theorem dX11_countOf_80 : decode cX11_countOf 80 = .ok (.getfield 182, 3) := by decide +kernel
theorem dX11_countOf_83 : decode cX11_countOf 83 = .ok (.ireturn, 1) := by decide +kernel
theorem dX11_countOf_84 : decode cX11_countOf 84 = .ok (.aload_n 0, 1) := by decide +kernel
theorem dX11_countOf_85 : decode cX11_countOf 85 = .ok (.getfield 31, 3) := by decide +kernel
theorem dX11_countOf_88 : decode cX11_countOf 88 = .ok (.iconst 1, 1) := by decide +kernel
theorem dX11_countOf_89 : decode cX11_countOf 89 = .ok (.invokevirtual 451, 3) := by decide +kernel
theorem dX11_countOf_92 : decode cX11_countOf 92 = .ok (.ireturn, 1) := by decide +kernel
theorem dX11_countOf_93 : decode cX11_countOf 93 = .ok (.aload_n 0, 1) := by decide +kernel
theorem dX11_countOf_94 : decode cX11_countOf 94 = .ok (.getfield 31, 3) := by decide +kernel
theorem dX11_countOf_97 : decode cX11_countOf 97 = .ok (.iconst 2, 1) := by decide +kernel
theorem dX11_countOf_98 : decode cX11_countOf 98 = .ok (.invokevirtual 451, 3) := by decide +kernel
theorem dX11_countOf_101 : decode cX11_countOf 101 = .ok (.ireturn, 1) := by decide +kernel
theorem dX11_countOf_102 : decode cX11_countOf 102 = .ok (.aload_n 0, 1) := by decide +kernel
theorem dX11_countOf_103 : decode cX11_countOf 103 = .ok (.invokevirtual 454, 3) := by decide +kernel
theorem dX11_countOf_106 : decode cX11_countOf 106 = .ok (.ireturn, 1) := by decide +kernel
theorem dX11_countOf_107 : decode cX11_countOf 107 = .ok (.aload_n 0, 1) := by decide +kernel
theorem dX11_countOf_108 : decode cX11_countOf 108 = .ok (.invokevirtual 457, 3) := by decide +kernel
theorem dX11_countOf_111 : decode cX11_countOf 111 = .ok (.ireturn, 1) := by decide +kernel
theorem dX11_countOf_112 : decode cX11_countOf 112 = .ok (.aload_n 0, 1) := by decide +kernel
theorem dX11_countOf_113 : decode cX11_countOf 113 = .ok (.getfield 39, 3) := by decide +kernel
theorem dX11_countOf_116 : decode cX11_countOf 116 = .ok (.getfield 241, 3) := by decide +kernel
theorem dX11_countOf_119 : decode cX11_countOf 119 = .ok (.ireturn, 1) := by decide +kernel
theorem dX11_countOf_120 : decode cX11_countOf 120 = .ok (.aload_n 0, 1) := by decide +kernel
theorem dX11_countOf_121 : decode cX11_countOf 121 = .ok (.getfield 50, 3) := by decide +kernel
theorem dX11_countOf_124 : decode cX11_countOf 124 = .ok (.getfield 263, 3) := by decide +kernel
theorem dX11_countOf_127 : decode cX11_countOf 127 = .ok (.ireturn, 1) := by decide +kernel
theorem dX11_rowsThere_0 : decode cX11_rowsThere 0 = .ok (.iconst 0, 1) := by decide +kernel
theorem dX11_rowsThere_1 : decode cX11_rowsThere 1 = .ok (.istore_n 1, 1) := by decide +kernel
theorem dX11_rowsThere_2 : decode cX11_rowsThere 2 = .ok (.aload_n 0, 1) := by decide +kernel
theorem dX11_rowsThere_3 : decode cX11_rowsThere 3 = .ok (.getfield 18, 3) := by decide +kernel
theorem dX11_rowsThere_6 : decode cX11_rowsThere 6 = .ok (.astore_n 2, 1) := by decide +kernel
theorem dX11_rowsThere_7 : decode cX11_rowsThere 7 = .ok (.aload_n 2, 1) := by decide +kernel
theorem dX11_rowsThere_8 : decode cX11_rowsThere 8 = .ok (.arraylength, 1) := by decide +kernel
theorem dX11_rowsThere_9 : decode cX11_rowsThere 9 = .ok (.istore_n 3, 1) := by decide +kernel
theorem dX11_rowsThere_10 : decode cX11_rowsThere 10 = .ok (.iconst 0, 1) := by decide +kernel
theorem dX11_rowsThere_11 : decode cX11_rowsThere 11 = .ok (.istore 4, 2) := by decide +kernel
theorem dX11_rowsThere_13 : decode cX11_rowsThere 13 = .ok (.iload 4, 2) := by decide +kernel
theorem dX11_rowsThere_15 : decode cX11_rowsThere 15 = .ok (.iload_n 3, 1) := by decide +kernel
theorem dX11_rowsThere_16 : decode cX11_rowsThere 16 = .ok (.if_icmp .ge 36, 3) := by decide +kernel
theorem dX11_rowsThere_19 : decode cX11_rowsThere 19 = .ok (.aload_n 2, 1) := by decide +kernel
theorem dX11_rowsThere_20 : decode cX11_rowsThere 20 = .ok (.iload 4, 2) := by decide +kernel
theorem dX11_rowsThere_22 : decode cX11_rowsThere 22 = .ok (.aaload, 1) := by decide +kernel
theorem dX11_rowsThere_23 : decode cX11_rowsThere 23 = .ok (.astore 5, 2) := by decide +kernel
theorem dX11_rowsThere_25 : decode cX11_rowsThere 25 = .ok (.iload_n 1, 1) := by decide +kernel
theorem dX11_rowsThere_26 : decode cX11_rowsThere 26 = .ok (.aload 5, 2) := by decide +kernel
theorem dX11_rowsThere_28 : decode cX11_rowsThere 28 = .ok (.ifnull 11, 3) := by decide +kernel
theorem dX11_rowsThere_31 : decode cX11_rowsThere 31 = .ok (.aload 5, 2) := by decide +kernel
theorem dX11_rowsThere_33 : decode cX11_rowsThere 33 = .ok (.invokevirtual 114, 3) := by decide +kernel
theorem dX11_rowsThere_36 : decode cX11_rowsThere 36 = .ok (.ifCond .eq 7, 3) := by decide +kernel
theorem dX11_rowsThere_39 : decode cX11_rowsThere 39 = .ok (.iconst 0, 1) := by decide +kernel
theorem dX11_rowsThere_40 : decode cX11_rowsThere 40 = .ok (.goto 4, 3) := by decide +kernel
theorem dX11_rowsThere_43 : decode cX11_rowsThere 43 = .ok (.iconst 1, 1) := by decide +kernel
theorem dX11_rowsThere_44 : decode cX11_rowsThere 44 = .ok (.iadd, 1) := by decide +kernel
theorem dX11_rowsThere_45 : decode cX11_rowsThere 45 = .ok (.istore_n 1, 1) := by decide +kernel
theorem dX11_rowsThere_46 : decode cX11_rowsThere 46 = .ok (.iinc 4 1, 3) := by decide +kernel
theorem dX11_rowsThere_49 : decode cX11_rowsThere 49 = .ok (.goto (-36), 3) := by decide +kernel
theorem dX11_rowsThere_52 : decode cX11_rowsThere 52 = .ok (.iload_n 1, 1) := by decide +kernel
theorem dX11_rowsThere_53 : decode cX11_rowsThere 53 = .ok (.ireturn, 1) := by decide +kernel
theorem dX11_textsThere_0 : decode cX11_textsThere 0 = .ok (.iconst 0, 1) := by decide +kernel
theorem dX11_textsThere_1 : decode cX11_textsThere 1 = .ok (.istore_n 1, 1) := by decide +kernel
theorem dX11_textsThere_2 : decode cX11_textsThere 2 = .ok (.aload_n 0, 1) := by decide +kernel
theorem dX11_textsThere_3 : decode cX11_textsThere 3 = .ok (.getfield 24, 3) := by decide +kernel
theorem dX11_textsThere_6 : decode cX11_textsThere 6 = .ok (.astore_n 2, 1) := by decide +kernel
theorem dX11_textsThere_7 : decode cX11_textsThere 7 = .ok (.aload_n 2, 1) := by decide +kernel
theorem dX11_textsThere_8 : decode cX11_textsThere 8 = .ok (.arraylength, 1) := by decide +kernel
theorem dX11_textsThere_9 : decode cX11_textsThere 9 = .ok (.istore_n 3, 1) := by decide +kernel
theorem dX11_textsThere_10 : decode cX11_textsThere 10 = .ok (.iconst 0, 1) := by decide +kernel
theorem dX11_textsThere_11 : decode cX11_textsThere 11 = .ok (.istore 4, 2) := by decide +kernel
theorem dX11_textsThere_13 : decode cX11_textsThere 13 = .ok (.iload 4, 2) := by decide +kernel
theorem dX11_textsThere_15 : decode cX11_textsThere 15 = .ok (.iload_n 3, 1) := by decide +kernel
theorem dX11_textsThere_16 : decode cX11_textsThere 16 = .ok (.if_icmp .ge 36, 3) := by decide +kernel
theorem dX11_textsThere_19 : decode cX11_textsThere 19 = .ok (.aload_n 2, 1) := by decide +kernel
theorem dX11_textsThere_20 : decode cX11_textsThere 20 = .ok (.iload 4, 2) := by decide +kernel
theorem dX11_textsThere_22 : decode cX11_textsThere 22 = .ok (.aaload, 1) := by decide +kernel
theorem dX11_textsThere_23 : decode cX11_textsThere 23 = .ok (.astore 5, 2) := by decide +kernel
theorem dX11_textsThere_25 : decode cX11_textsThere 25 = .ok (.iload_n 1, 1) := by decide +kernel
theorem dX11_textsThere_26 : decode cX11_textsThere 26 = .ok (.aload 5, 2) := by decide +kernel
theorem dX11_textsThere_28 : decode cX11_textsThere 28 = .ok (.ifnull 11, 3) := by decide +kernel
theorem dX11_textsThere_31 : decode cX11_textsThere 31 = .ok (.aload 5, 2) := by decide +kernel
theorem dX11_textsThere_33 : decode cX11_textsThere 33 = .ok (.invokevirtual 148, 3) := by decide +kernel
theorem dX11_textsThere_36 : decode cX11_textsThere 36 = .ok (.ifCond .eq 7, 3) := by decide +kernel
theorem dX11_textsThere_39 : decode cX11_textsThere 39 = .ok (.iconst 0, 1) := by decide +kernel
theorem dX11_textsThere_40 : decode cX11_textsThere 40 = .ok (.goto 4, 3) := by decide +kernel
theorem dX11_textsThere_43 : decode cX11_textsThere 43 = .ok (.iconst 1, 1) := by decide +kernel
theorem dX11_textsThere_44 : decode cX11_textsThere 44 = .ok (.iadd, 1) := by decide +kernel
theorem dX11_textsThere_45 : decode cX11_textsThere 45 = .ok (.istore_n 1, 1) := by decide +kernel
theorem dX11_textsThere_46 : decode cX11_textsThere 46 = .ok (.iinc 4 1, 3) := by decide +kernel
theorem dX11_textsThere_49 : decode cX11_textsThere 49 = .ok (.goto (-36), 3) := by decide +kernel
theorem dX11_textsThere_52 : decode cX11_textsThere 52 = .ok (.iload_n 1, 1) := by decide +kernel
theorem dX11_textsThere_53 : decode cX11_textsThere 53 = .ok (.ireturn, 1) := by decide +kernel
theorem dX11_sizeIn_0 : decode cX11_sizeIn 0 = .ok (.aload_n 0, 1) := by decide +kernel
theorem dX11_sizeIn_1 : decode cX11_sizeIn 1 = .ok (.getfield 31, 3) := by decide +kernel
theorem dX11_sizeIn_4 : decode cX11_sizeIn 4 = .ok (.aload_n 0, 1) := by decide +kernel
theorem dX11_sizeIn_5 : decode cX11_sizeIn 5 = .ok (.getfield 43, 3) := by decide +kernel
theorem dX11_sizeIn_8 : decode cX11_sizeIn 8 = .ok (.iload_n 1, 1) := by decide +kernel
theorem dX11_sizeIn_9 : decode cX11_sizeIn 9 = .ok (.invokevirtual 299, 3) := by decide +kernel
theorem dX11_sizeIn_12 : decode cX11_sizeIn 12 = .ok (.invokevirtual 293, 3) := by decide +kernel
theorem dX11_sizeIn_15 : decode cX11_sizeIn 15 = .ok (.invokestatic 338, 3) := by decide +kernel
theorem dX11_sizeIn_18 : decode cX11_sizeIn 18 = .ok (.ireturn, 1) := by decide +kernel
theorem dX11_worstMinute_0 : decode cX11_worstMinute 0 = .ok (.iconst 0, 1) := by decide +kernel
theorem dX11_worstMinute_1 : decode cX11_worstMinute 1 = .ok (.istore_n 1, 1) := by decide +kernel
theorem dX11_worstMinute_2 : decode cX11_worstMinute 2 = .ok (.iconst 1, 1) := by decide +kernel
theorem dX11_worstMinute_3 : decode cX11_worstMinute 3 = .ok (.istore_n 2, 1) := by decide +kernel
theorem dX11_worstMinute_4 : decode cX11_worstMinute 4 = .ok (.iload_n 2, 1) := by decide +kernel
theorem dX11_worstMinute_5 : decode cX11_worstMinute 5 = .ok (.aload_n 0, 1) := by decide +kernel
theorem dX11_worstMinute_6 : decode cX11_worstMinute 6 = .ok (.getfield 43, 3) := by decide +kernel
theorem dX11_worstMinute_9 : decode cX11_worstMinute 9 = .ok (.getfield 182, 3) := by decide +kernel
theorem dX11_worstMinute_12 : decode cX11_worstMinute 12 = .ok (.if_icmp .ge 24, 3) := by decide +kernel
theorem dX11_worstMinute_15 : decode cX11_worstMinute 15 = .ok (.aload_n 0, 1) := by decide +kernel
theorem dX11_worstMinute_16 : decode cX11_worstMinute 16 = .ok (.iload_n 2, 1) := by decide +kernel
theorem dX11_worstMinute_17 : decode cX11_worstMinute 17 = .ok (.invokevirtual 308, 3) := by decide +kernel
theorem dX11_worstMinute_20 : decode cX11_worstMinute 20 = .ok (.aload_n 0, 1) := by decide +kernel
theorem dX11_worstMinute_21 : decode cX11_worstMinute 21 = .ok (.iload_n 1, 1) := by decide +kernel
theorem dX11_worstMinute_22 : decode cX11_worstMinute 22 = .ok (.invokevirtual 308, 3) := by decide +kernel
theorem dX11_worstMinute_25 : decode cX11_worstMinute 25 = .ok (.if_icmp .le 5, 3) := by decide +kernel
theorem dX11_worstMinute_28 : decode cX11_worstMinute 28 = .ok (.iload_n 2, 1) := by decide +kernel
theorem dX11_worstMinute_29 : decode cX11_worstMinute 29 = .ok (.istore_n 1, 1) := by decide +kernel
theorem dX11_worstMinute_30 : decode cX11_worstMinute 30 = .ok (.iinc 2 1, 3) := by decide +kernel
theorem dX11_worstMinute_33 : decode cX11_worstMinute 33 = .ok (.goto (-29), 3) := by decide +kernel
theorem dX11_worstMinute_36 : decode cX11_worstMinute 36 = .ok (.iload_n 1, 1) := by decide +kernel
theorem dX11_worstMinute_37 : decode cX11_worstMinute 37 = .ok (.ireturn, 1) := by decide +kernel
theorem dX11_withBarge_0 : decode cX11_withBarge 0 = .ok (.lload_n 1, 1) := by decide +kernel
theorem dX11_withBarge_1 : decode cX11_withBarge 1 = .ok (.lstore_n 3, 1) := by decide +kernel
theorem dX11_withBarge_2 : decode cX11_withBarge 2 = .ok (.iconst 0, 1) := by decide +kernel
theorem dX11_withBarge_3 : decode cX11_withBarge 3 = .ok (.istore 5, 2) := by decide +kernel
theorem dX11_withBarge_5 : decode cX11_withBarge 5 = .ok (.iload 5, 2) := by decide +kernel
theorem dX11_withBarge_7 : decode cX11_withBarge 7 = .ok (.aload_n 0, 1) := by decide +kernel
theorem dX11_withBarge_8 : decode cX11_withBarge 8 = .ok (.getfield 31, 3) := by decide +kernel
theorem dX11_withBarge_11 : decode cX11_withBarge 11 = .ok (.getfield 174, 3) := by decide +kernel
theorem dX11_withBarge_14 : decode cX11_withBarge 14 = .ok (.if_icmp .ge 40, 3) := by decide +kernel
theorem dX11_withBarge_17 : decode cX11_withBarge 17 = .ok (.iconst 0, 1) := by decide +kernel
theorem dX11_withBarge_18 : decode cX11_withBarge 18 = .ok (.istore 6, 2) := by decide +kernel
theorem dX11_withBarge_20 : decode cX11_withBarge 20 = .ok (.iload 6, 2) := by decide +kernel
theorem dX11_withBarge_22 : decode cX11_withBarge 22 = .ok (.iconst 4, 1) := by decide +kernel
theorem dX11_withBarge_23 : decode cX11_withBarge 23 = .ok (.if_icmp .ge 25, 3) := by decide +kernel
theorem dX11_withBarge_26 : decode cX11_withBarge 26 = .ok (.ldc2_w 423, 3) := by decide +kernel
theorem dX11_withBarge_29 : decode cX11_withBarge 29 = .ok (.lload_n 3, 1) := by decide +kernel
theorem dX11_withBarge_30 : decode cX11_withBarge 30 = .ok (.lmul, 1) := by decide +kernel
theorem dX11_withBarge_31 : decode cX11_withBarge 31 = .ok (.aload_n 0, 1) := by decide +kernel
theorem dX11_withBarge_32 : decode cX11_withBarge 32 = .ok (.iload 5, 2) := by decide +kernel
theorem dX11_withBarge_34 : decode cX11_withBarge 34 = .ok (.iload 6, 2) := by decide +kernel
theorem dX11_withBarge_36 : decode cX11_withBarge 36 = .ok (.invokevirtual 192, 3) := by decide +kernel
theorem dX11_withBarge_39 : decode cX11_withBarge 39 = .ok (.i2l, 1) := by decide +kernel
theorem dX11_withBarge_40 : decode cX11_withBarge 40 = .ok (.ladd, 1) := by decide +kernel
theorem dX11_withBarge_41 : decode cX11_withBarge 41 = .ok (.lstore_n 3, 1) := by decide +kernel
theorem dX11_withBarge_42 : decode cX11_withBarge 42 = .ok (.iinc 6 1, 3) := by decide +kernel
theorem dX11_withBarge_45 : decode cX11_withBarge 45 = .ok (.goto (-25), 3) := by decide +kernel
theorem dX11_withBarge_48 : decode cX11_withBarge 48 = .ok (.iinc 5 1, 3) := by decide +kernel
theorem dX11_withBarge_51 : decode cX11_withBarge 51 = .ok (.goto (-46), 3) := by decide +kernel
theorem dX11_withBarge_54 : decode cX11_withBarge 54 = .ok (.iconst 0, 1) := by decide +kernel
theorem dX11_withBarge_55 : decode cX11_withBarge 55 = .ok (.istore 5, 2) := by decide +kernel
theorem dX11_withBarge_57 : decode cX11_withBarge 57 = .ok (.iload 5, 2) := by decide +kernel
theorem dX11_withBarge_59 : decode cX11_withBarge 59 = .ok (.aload_n 0, 1) := by decide +kernel
theorem dX11_withBarge_60 : decode cX11_withBarge 60 = .ok (.getfield 31, 3) := by decide +kernel
theorem dX11_withBarge_63 : decode cX11_withBarge 63 = .ok (.getfield 323, 3) := by decide +kernel
theorem dX11_withBarge_66 : decode cX11_withBarge 66 = .ok (.if_icmp .ge 40, 3) := by decide +kernel
theorem dX11_withBarge_69 : decode cX11_withBarge 69 = .ok (.iconst 0, 1) := by decide +kernel
theorem dX11_withBarge_70 : decode cX11_withBarge 70 = .ok (.istore 6, 2) := by decide +kernel
theorem dX11_withBarge_72 : decode cX11_withBarge 72 = .ok (.iload 6, 2) := by decide +kernel
theorem dX11_withBarge_74 : decode cX11_withBarge 74 = .ok (.iconst 5, 1) := by decide +kernel
theorem dX11_withBarge_75 : decode cX11_withBarge 75 = .ok (.if_icmp .ge 25, 3) := by decide +kernel
theorem dX11_withBarge_78 : decode cX11_withBarge 78 = .ok (.ldc2_w 423, 3) := by decide +kernel
theorem dX11_withBarge_81 : decode cX11_withBarge 81 = .ok (.lload_n 3, 1) := by decide +kernel
theorem dX11_withBarge_82 : decode cX11_withBarge 82 = .ok (.lmul, 1) := by decide +kernel
theorem dX11_withBarge_83 : decode cX11_withBarge 83 = .ok (.aload_n 0, 1) := by decide +kernel
theorem dX11_withBarge_84 : decode cX11_withBarge 84 = .ok (.iload 5, 2) := by decide +kernel
theorem dX11_withBarge_86 : decode cX11_withBarge 86 = .ok (.iload 6, 2) := by decide +kernel
theorem dX11_withBarge_88 : decode cX11_withBarge 88 = .ok (.invokevirtual 199, 3) := by decide +kernel
theorem dX11_withBarge_91 : decode cX11_withBarge 91 = .ok (.i2l, 1) := by decide +kernel
theorem dX11_withBarge_92 : decode cX11_withBarge 92 = .ok (.ladd, 1) := by decide +kernel
theorem dX11_withBarge_93 : decode cX11_withBarge 93 = .ok (.lstore_n 3, 1) := by decide +kernel
theorem dX11_withBarge_94 : decode cX11_withBarge 94 = .ok (.iinc 6 1, 3) := by decide +kernel
theorem dX11_withBarge_97 : decode cX11_withBarge 97 = .ok (.goto (-25), 3) := by decide +kernel
theorem dX11_withBarge_100 : decode cX11_withBarge 100 = .ok (.iinc 5 1, 3) := by decide +kernel
theorem dX11_withBarge_103 : decode cX11_withBarge 103 = .ok (.goto (-46), 3) := by decide +kernel
theorem dX11_withBarge_106 : decode cX11_withBarge 106 = .ok (.lload_n 3, 1) := by decide +kernel
theorem dX11_withBarge_107 : decode cX11_withBarge 107 = .ok (.lreturn, 1) := by decide +kernel
theorem dX11_withKept_0 : decode cX11_withKept 0 = .ok (.lload_n 1, 1) := by decide +kernel
theorem dX11_withKept_1 : decode cX11_withKept 1 = .ok (.lstore_n 3, 1) := by decide +kernel
theorem dX11_withKept_2 : decode cX11_withKept 2 = .ok (.iconst 0, 1) := by decide +kernel
theorem dX11_withKept_3 : decode cX11_withKept 3 = .ok (.istore 5, 2) := by decide +kernel
theorem dX11_withKept_5 : decode cX11_withKept 5 = .ok (.iload 5, 2) := by decide +kernel
theorem dX11_withKept_7 : decode cX11_withKept 7 = .ok (.iconst 3, 1) := by decide +kernel
theorem dX11_withKept_8 : decode cX11_withKept 8 = .ok (.if_icmp .ge 74, 3) := by decide +kernel
theorem dX11_withKept_11 : decode cX11_withKept 11 = .ok (.aload_n 0, 1) := by decide +kernel
theorem dX11_withKept_12 : decode cX11_withKept 12 = .ok (.getfield 57, 3) := by decide +kernel
theorem dX11_withKept_15 : decode cX11_withKept 15 = .ok (.iload 5, 2) := by decide +kernel
theorem dX11_withKept_17 : decode cX11_withKept 17 = .ok (.invokevirtual 286, 3) := by decide +kernel
theorem dX11_withKept_20 : decode cX11_withKept 20 = .ok (.ifCond .eq 46, 3) := by decide +kernel
theorem dX11_withKept_23 : decode cX11_withKept 23 = .ok (.iconst 0, 1) := by decide +kernel
theorem dX11_withKept_24 : decode cX11_withKept 24 = .ok (.istore 6, 2) := by decide +kernel
theorem dX11_withKept_26 : decode cX11_withKept 26 = .ok (.iload 6, 2) := by decide +kernel
theorem dX11_withKept_28 : decode cX11_withKept 28 = .ok (.aload_n 0, 1) := by decide +kernel
theorem dX11_withKept_29 : decode cX11_withKept 29 = .ok (.getfield 31, 3) := by decide +kernel
theorem dX11_withKept_32 : decode cX11_withKept 32 = .ok (.getfield 323, 3) := by decide +kernel
theorem dX11_withKept_35 : decode cX11_withKept 35 = .ok (.if_icmp .ge 28, 3) := by decide +kernel
theorem dX11_withKept_38 : decode cX11_withKept 38 = .ok (.ldc2_w 423, 3) := by decide +kernel
theorem dX11_withKept_41 : decode cX11_withKept 41 = .ok (.lload_n 3, 1) := by decide +kernel
theorem dX11_withKept_42 : decode cX11_withKept 42 = .ok (.lmul, 1) := by decide +kernel
theorem dX11_withKept_43 : decode cX11_withKept 43 = .ok (.aload_n 0, 1) := by decide +kernel
theorem dX11_withKept_44 : decode cX11_withKept 44 = .ok (.getfield 57, 3) := by decide +kernel
theorem dX11_withKept_47 : decode cX11_withKept 47 = .ok (.iload 5, 2) := by decide +kernel
theorem dX11_withKept_49 : decode cX11_withKept 49 = .ok (.iload 6, 2) := by decide +kernel
theorem dX11_withKept_51 : decode cX11_withKept 51 = .ok (.invokevirtual 460, 3) := by decide +kernel
theorem dX11_withKept_54 : decode cX11_withKept 54 = .ok (.i2l, 1) := by decide +kernel
theorem dX11_withKept_55 : decode cX11_withKept 55 = .ok (.ladd, 1) := by decide +kernel
theorem dX11_withKept_56 : decode cX11_withKept 56 = .ok (.lstore_n 3, 1) := by decide +kernel
theorem dX11_withKept_57 : decode cX11_withKept 57 = .ok (.iinc 6 1, 3) := by decide +kernel
theorem dX11_withKept_60 : decode cX11_withKept 60 = .ok (.goto (-34), 3) := by decide +kernel
theorem dX11_withKept_63 : decode cX11_withKept 63 = .ok (.goto 13, 3) := by decide +kernel
theorem dX11_withKept_66 : decode cX11_withKept 66 = .ok (.ldc2_w 423, 3) := by decide +kernel
theorem dX11_withKept_69 : decode cX11_withKept 69 = .ok (.lload_n 3, 1) := by decide +kernel
theorem dX11_withKept_70 : decode cX11_withKept 70 = .ok (.lmul, 1) := by decide +kernel
theorem dX11_withKept_71 : decode cX11_withKept 71 = .ok (.ldc2_w 462, 3) := by decide +kernel
theorem dX11_withKept_74 : decode cX11_withKept 74 = .ok (.ladd, 1) := by decide +kernel
theorem dX11_withKept_75 : decode cX11_withKept 75 = .ok (.lstore_n 3, 1) := by decide +kernel
theorem dX11_withKept_76 : decode cX11_withKept 76 = .ok (.iinc 5 1, 3) := by decide +kernel
theorem dX11_withKept_79 : decode cX11_withKept 79 = .ok (.goto (-74), 3) := by decide +kernel
theorem dX11_withKept_82 : decode cX11_withKept 82 = .ok (.lload_n 3, 1) := by decide +kernel
theorem dX11_withKept_83 : decode cX11_withKept 83 = .ok (.lreturn, 1) := by decide +kernel
theorem dX11_withRows_0 : decode cX11_withRows 0 = .ok (.lload_n 1, 1) := by decide +kernel
theorem dX11_withRows_1 : decode cX11_withRows 1 = .ok (.lstore_n 3, 1) := by decide +kernel
theorem dX11_withRows_2 : decode cX11_withRows 2 = .ok (.aload_n 0, 1) := by decide +kernel
theorem dX11_withRows_3 : decode cX11_withRows 3 = .ok (.getfield 18, 3) := by decide +kernel
theorem dX11_withRows_6 : decode cX11_withRows 6 = .ok (.astore 5, 2) := by decide +kernel
theorem dX11_withRows_8 : decode cX11_withRows 8 = .ok (.aload 5, 2) := by decide +kernel
theorem dX11_withRows_10 : decode cX11_withRows 10 = .ok (.arraylength, 1) := by decide +kernel
theorem dX11_withRows_11 : decode cX11_withRows 11 = .ok (.istore 6, 2) := by decide +kernel
theorem dX11_withRows_13 : decode cX11_withRows 13 = .ok (.iconst 0, 1) := by decide +kernel
theorem dX11_withRows_14 : decode cX11_withRows 14 = .ok (.istore 7, 2) := by decide +kernel
theorem dX11_withRows_16 : decode cX11_withRows 16 = .ok (.iload 7, 2) := by decide +kernel
theorem dX11_withRows_18 : decode cX11_withRows 18 = .ok (.iload 6, 2) := by decide +kernel
theorem dX11_withRows_20 : decode cX11_withRows 20 = .ok (.if_icmp .ge 68, 3) := by decide +kernel
theorem dX11_withRows_23 : decode cX11_withRows 23 = .ok (.aload 5, 2) := by decide +kernel
theorem dX11_withRows_25 : decode cX11_withRows 25 = .ok (.iload 7, 2) := by decide +kernel
theorem dX11_withRows_27 : decode cX11_withRows 27 = .ok (.aaload, 1) := by decide +kernel
theorem dX11_withRows_28 : decode cX11_withRows 28 = .ok (.astore 8, 2) := by decide +kernel
theorem dX11_withRows_30 : decode cX11_withRows 30 = .ok (.aload 8, 2) := by decide +kernel
theorem dX11_withRows_32 : decode cX11_withRows 32 = .ok (.ifnull 50, 3) := by decide +kernel
theorem dX11_withRows_35 : decode cX11_withRows 35 = .ok (.ldc2_w 423, 3) := by decide +kernel
theorem dX11_withRows_38 : decode cX11_withRows 38 = .ok (.lload_n 3, 1) := by decide +kernel
theorem dX11_withRows_39 : decode cX11_withRows 39 = .ok (.lmul, 1) := by decide +kernel
theorem dX11_withRows_40 : decode cX11_withRows 40 = .ok (.aload 8, 2) := by decide +kernel
theorem dX11_withRows_42 : decode cX11_withRows 42 = .ok (.getfield 135, 3) := by decide +kernel
theorem dX11_withRows_45 : decode cX11_withRows 45 = .ok (.i2l, 1) := by decide +kernel
theorem dX11_withRows_46 : decode cX11_withRows 46 = .ok (.ladd, 1) := by decide +kernel
theorem dX11_withRows_47 : decode cX11_withRows 47 = .ok (.lstore_n 3, 1) := by decide +kernel
theorem dX11_withRows_48 : decode cX11_withRows 48 = .ok (.iconst 0, 1) := by decide +kernel
theorem dX11_withRows_49 : decode cX11_withRows 49 = .ok (.istore 9, 2) := by decide +kernel
theorem dX11_withRows_51 : decode cX11_withRows 51 = .ok (.iload 9, 2) := by decide +kernel
theorem dX11_withRows_53 : decode cX11_withRows 53 = .ok (.aload 8, 2) := by decide +kernel
theorem dX11_withRows_55 : decode cX11_withRows 55 = .ok (.getfield 135, 3) := by decide +kernel
theorem dX11_withRows_58 : decode cX11_withRows 58 = .ok (.if_icmp .ge 24, 3) := by decide +kernel
theorem dX11_withRows_61 : decode cX11_withRows 61 = .ok (.ldc2_w 423, 3) := by decide +kernel
theorem dX11_withRows_64 : decode cX11_withRows 64 = .ok (.lload_n 3, 1) := by decide +kernel
theorem dX11_withRows_65 : decode cX11_withRows 65 = .ok (.lmul, 1) := by decide +kernel
theorem dX11_withRows_66 : decode cX11_withRows 66 = .ok (.aload 8, 2) := by decide +kernel
theorem dX11_withRows_68 : decode cX11_withRows 68 = .ok (.iload 9, 2) := by decide +kernel
theorem dX11_withRows_70 : decode cX11_withRows 70 = .ok (.invokevirtual 104, 3) := by decide +kernel
theorem dX11_withRows_73 : decode cX11_withRows 73 = .ok (.i2l, 1) := by decide +kernel
theorem dX11_withRows_74 : decode cX11_withRows 74 = .ok (.ladd, 1) := by decide +kernel
theorem dX11_withRows_75 : decode cX11_withRows 75 = .ok (.lstore_n 3, 1) := by decide +kernel
theorem dX11_withRows_76 : decode cX11_withRows 76 = .ok (.iinc 9 1, 3) := by decide +kernel
theorem dX11_withRows_79 : decode cX11_withRows 79 = .ok (.goto (-28), 3) := by decide +kernel
theorem dX11_withRows_82 : decode cX11_withRows 82 = .ok (.iinc 7 1, 3) := by decide +kernel
theorem dX11_withRows_85 : decode cX11_withRows 85 = .ok (.goto (-69), 3) := by decide +kernel
theorem dX11_withRows_88 : decode cX11_withRows 88 = .ok (.lload_n 3, 1) := by decide +kernel
theorem dX11_withRows_89 : decode cX11_withRows 89 = .ok (.lreturn, 1) := by decide +kernel
theorem dX11_withTexts_0 : decode cX11_withTexts 0 = .ok (.lload_n 1, 1) := by decide +kernel
theorem dX11_withTexts_1 : decode cX11_withTexts 1 = .ok (.lstore_n 3, 1) := by decide +kernel
theorem dX11_withTexts_2 : decode cX11_withTexts 2 = .ok (.aload_n 0, 1) := by decide +kernel
theorem dX11_withTexts_3 : decode cX11_withTexts 3 = .ok (.getfield 24, 3) := by decide +kernel
theorem dX11_withTexts_6 : decode cX11_withTexts 6 = .ok (.astore 5, 2) := by decide +kernel
theorem dX11_withTexts_8 : decode cX11_withTexts 8 = .ok (.aload 5, 2) := by decide +kernel
theorem dX11_withTexts_10 : decode cX11_withTexts 10 = .ok (.arraylength, 1) := by decide +kernel
theorem dX11_withTexts_11 : decode cX11_withTexts 11 = .ok (.istore 6, 2) := by decide +kernel
theorem dX11_withTexts_13 : decode cX11_withTexts 13 = .ok (.iconst 0, 1) := by decide +kernel
theorem dX11_withTexts_14 : decode cX11_withTexts 14 = .ok (.istore 7, 2) := by decide +kernel
theorem dX11_withTexts_16 : decode cX11_withTexts 16 = .ok (.iload 7, 2) := by decide +kernel
theorem dX11_withTexts_18 : decode cX11_withTexts 18 = .ok (.iload 6, 2) := by decide +kernel
theorem dX11_withTexts_20 : decode cX11_withTexts 20 = .ok (.if_icmp .ge 68, 3) := by decide +kernel
theorem dX11_withTexts_23 : decode cX11_withTexts 23 = .ok (.aload 5, 2) := by decide +kernel
theorem dX11_withTexts_25 : decode cX11_withTexts 25 = .ok (.iload 7, 2) := by decide +kernel
theorem dX11_withTexts_27 : decode cX11_withTexts 27 = .ok (.aaload, 1) := by decide +kernel
theorem dX11_withTexts_28 : decode cX11_withTexts 28 = .ok (.astore 8, 2) := by decide +kernel
theorem dX11_withTexts_30 : decode cX11_withTexts 30 = .ok (.aload 8, 2) := by decide +kernel
theorem dX11_withTexts_32 : decode cX11_withTexts 32 = .ok (.ifnull 50, 3) := by decide +kernel
theorem dX11_withTexts_35 : decode cX11_withTexts 35 = .ok (.ldc2_w 423, 3) := by decide +kernel
theorem dX11_withTexts_38 : decode cX11_withTexts 38 = .ok (.lload_n 3, 1) := by decide +kernel
theorem dX11_withTexts_39 : decode cX11_withTexts 39 = .ok (.lmul, 1) := by decide +kernel
theorem dX11_withTexts_40 : decode cX11_withTexts 40 = .ok (.aload 8, 2) := by decide +kernel
theorem dX11_withTexts_42 : decode cX11_withTexts 42 = .ok (.getfield 464, 3) := by decide +kernel
theorem dX11_withTexts_45 : decode cX11_withTexts 45 = .ok (.i2l, 1) := by decide +kernel
theorem dX11_withTexts_46 : decode cX11_withTexts 46 = .ok (.ladd, 1) := by decide +kernel
theorem dX11_withTexts_47 : decode cX11_withTexts 47 = .ok (.lstore_n 3, 1) := by decide +kernel
theorem dX11_withTexts_48 : decode cX11_withTexts 48 = .ok (.iconst 0, 1) := by decide +kernel
theorem dX11_withTexts_49 : decode cX11_withTexts 49 = .ok (.istore 9, 2) := by decide +kernel
theorem dX11_withTexts_51 : decode cX11_withTexts 51 = .ok (.iload 9, 2) := by decide +kernel
theorem dX11_withTexts_53 : decode cX11_withTexts 53 = .ok (.aload 8, 2) := by decide +kernel
theorem dX11_withTexts_55 : decode cX11_withTexts 55 = .ok (.getfield 464, 3) := by decide +kernel
theorem dX11_withTexts_58 : decode cX11_withTexts 58 = .ok (.if_icmp .ge 24, 3) := by decide +kernel
theorem dX11_withTexts_61 : decode cX11_withTexts 61 = .ok (.ldc2_w 423, 3) := by decide +kernel
theorem dX11_withTexts_64 : decode cX11_withTexts 64 = .ok (.lload_n 3, 1) := by decide +kernel
theorem dX11_withTexts_65 : decode cX11_withTexts 65 = .ok (.lmul, 1) := by decide +kernel
theorem dX11_withTexts_66 : decode cX11_withTexts 66 = .ok (.aload 8, 2) := by decide +kernel
theorem dX11_withTexts_68 : decode cX11_withTexts 68 = .ok (.iload 9, 2) := by decide +kernel
theorem dX11_withTexts_70 : decode cX11_withTexts 70 = .ok (.invokevirtual 465, 3) := by decide +kernel
theorem dX11_withTexts_73 : decode cX11_withTexts 73 = .ok (.i2l, 1) := by decide +kernel
theorem dX11_withTexts_74 : decode cX11_withTexts 74 = .ok (.ladd, 1) := by decide +kernel
theorem dX11_withTexts_75 : decode cX11_withTexts 75 = .ok (.lstore_n 3, 1) := by decide +kernel
theorem dX11_withTexts_76 : decode cX11_withTexts 76 = .ok (.iinc 9 1, 3) := by decide +kernel
theorem dX11_withTexts_79 : decode cX11_withTexts 79 = .ok (.goto (-28), 3) := by decide +kernel
theorem dX11_withTexts_82 : decode cX11_withTexts 82 = .ok (.iinc 7 1, 3) := by decide +kernel
theorem dX11_withTexts_85 : decode cX11_withTexts 85 = .ok (.goto (-69), 3) := by decide +kernel
theorem dX11_withTexts_88 : decode cX11_withTexts 88 = .ok (.lload_n 3, 1) := by decide +kernel
theorem dX11_withTexts_89 : decode cX11_withTexts 89 = .ok (.lreturn, 1) := by decide +kernel
