-- decode rows (printed)
theorem dX12_limit_0 : decode cX12_limit 0 = .ok (.iload_n 1, 1) := by decide +kernel
theorem dX12_limit_1 : decode cX12_limit 1 = .ok (.iconst 0, 1) := by decide +kernel
theorem dX12_limit_2 : decode cX12_limit 2 = .ok (.sipush 999, 3) := by decide +kernel
theorem dX12_limit_5 : decode cX12_limit 5 = .ok (.invokestatic 113, 3) := by decide +kernel
theorem dX12_limit_8 : decode cX12_limit 8 = .ok (.ifCond .ne 5, 3) := by decide +kernel
theorem dX12_limit_11 : decode cX12_limit 11 = .ok (.iconst (-1), 1) := by decide +kernel
theorem dX12_limit_12 : decode cX12_limit 12 = .ok (.ireturn, 1) := by decide +kernel
theorem dX12_limit_13 : decode cX12_limit 13 = .ok (.aload_n 0, 1) := by decide +kernel
theorem dX12_limit_14 : decode cX12_limit 14 = .ok (.getfield 205, 3) := by decide +kernel
theorem dX12_limit_17 : decode cX12_limit 17 = .ok (.istore_n 2, 1) := by decide +kernel
theorem dX12_limit_18 : decode cX12_limit 18 = .ok (.aload_n 0, 1) := by decide +kernel
theorem dX12_limit_19 : decode cX12_limit 19 = .ok (.iload_n 1, 1) := by decide +kernel
theorem dX12_limit_20 : decode cX12_limit 20 = .ok (.putfield 205, 3) := by decide +kernel
theorem dX12_limit_23 : decode cX12_limit 23 = .ok (.iload_n 2, 1) := by decide +kernel
theorem dX12_limit_24 : decode cX12_limit 24 = .ok (.ireturn, 1) := by decide +kernel
theorem dX12_rain_0 : decode cX12_rain 0 = .ok (.iload_n 1, 1) := by decide +kernel
theorem dX12_rain_1 : decode cX12_rain 1 = .ok (.sipush (-200), 3) := by decide +kernel
theorem dX12_rain_4 : decode cX12_rain 4 = .ok (.sipush 200, 3) := by decide +kernel
theorem dX12_rain_7 : decode cX12_rain 7 = .ok (.invokestatic 113, 3) := by decide +kernel
theorem dX12_rain_10 : decode cX12_rain 10 = .ok (.ifCond .ne 5, 3) := by decide +kernel
theorem dX12_rain_13 : decode cX12_rain 13 = .ok (.iconst (-1), 1) := by decide +kernel
theorem dX12_rain_14 : decode cX12_rain 14 = .ok (.ireturn, 1) := by decide +kernel
theorem dX12_rain_15 : decode cX12_rain 15 = .ok (.aload_n 0, 1) := by decide +kernel
theorem dX12_rain_16 : decode cX12_rain 16 = .ok (.getfield 235, 3) := by decide +kernel
theorem dX12_rain_19 : decode cX12_rain 19 = .ok (.istore_n 2, 1) := by decide +kernel
theorem dX12_rain_20 : decode cX12_rain 20 = .ok (.aload_n 0, 1) := by decide +kernel
theorem dX12_rain_21 : decode cX12_rain 21 = .ok (.iload_n 1, 1) := by decide +kernel
theorem dX12_rain_22 : decode cX12_rain 22 = .ok (.putfield 235, 3) := by decide +kernel
theorem dX12_rain_25 : decode cX12_rain 25 = .ok (.aload_n 0, 1) := by decide +kernel
theorem dX12_rain_26 : decode cX12_rain 26 = .ok (.iload_n 2, 1) := by decide +kernel
theorem dX12_rain_27 : decode cX12_rain 27 = .ok (.iconst 1, 1) := by decide +kernel
theorem dX12_rain_28 : decode cX12_rain 28 = .ok (.invokevirtual 135, 3) := by decide +kernel
theorem dX12_rain_31 : decode cX12_rain 31 = .ok (.ireturn, 1) := by decide +kernel
theorem dX12_quarrel_0 : decode cX12_quarrel 0 = .ok (.aload_n 0, 1) := by decide +kernel
theorem dX12_quarrel_1 : decode cX12_quarrel 1 = .ok (.iload_n 1, 1) := by decide +kernel
theorem dX12_quarrel_2 : decode cX12_quarrel 2 = .ok (.invokevirtual 223, 3) := by decide +kernel
theorem dX12_quarrel_5 : decode cX12_quarrel 5 = .ok (.ifCond .eq 16, 3) := by decide +kernel
theorem dX12_quarrel_8 : decode cX12_quarrel 8 = .ok (.aload_n 0, 1) := by decide +kernel
theorem dX12_quarrel_9 : decode cX12_quarrel 9 = .ok (.iload_n 2, 1) := by decide +kernel
theorem dX12_quarrel_10 : decode cX12_quarrel 10 = .ok (.invokevirtual 223, 3) := by decide +kernel
theorem dX12_quarrel_13 : decode cX12_quarrel 13 = .ok (.ifCond .eq 8, 3) := by decide +kernel
theorem dX12_quarrel_16 : decode cX12_quarrel 16 = .ok (.iload_n 1, 1) := by decide +kernel
theorem dX12_quarrel_17 : decode cX12_quarrel 17 = .ok (.iload_n 2, 1) := by decide +kernel
theorem dX12_quarrel_18 : decode cX12_quarrel 18 = .ok (.if_icmp .ne 5, 3) := by decide +kernel
theorem dX12_quarrel_21 : decode cX12_quarrel 21 = .ok (.iconst (-1), 1) := by decide +kernel
theorem dX12_quarrel_22 : decode cX12_quarrel 22 = .ok (.ireturn, 1) := by decide +kernel
theorem dX12_quarrel_23 : decode cX12_quarrel 23 = .ok (.aload_n 0, 1) := by decide +kernel
theorem dX12_quarrel_24 : decode cX12_quarrel 24 = .ok (.getfield 183, 3) := by decide +kernel
theorem dX12_quarrel_27 : decode cX12_quarrel 27 = .ok (.bipush 8, 2) := by decide +kernel
theorem dX12_quarrel_29 : decode cX12_quarrel 29 = .ok (.if_icmp .ne 6, 3) := by decide +kernel
theorem dX12_quarrel_32 : decode cX12_quarrel 32 = .ok (.bipush (-2), 2) := by decide +kernel
theorem dX12_quarrel_34 : decode cX12_quarrel 34 = .ok (.ireturn, 1) := by decide +kernel
theorem dX12_quarrel_35 : decode cX12_quarrel 35 = .ok (.aload_n 0, 1) := by decide +kernel
theorem dX12_quarrel_36 : decode cX12_quarrel 36 = .ok (.getfield 59, 3) := by decide +kernel
theorem dX12_quarrel_39 : decode cX12_quarrel 39 = .ok (.aload_n 0, 1) := by decide +kernel
theorem dX12_quarrel_40 : decode cX12_quarrel 40 = .ok (.getfield 183, 3) := by decide +kernel
theorem dX12_quarrel_43 : decode cX12_quarrel 43 = .ok (.iload_n 1, 1) := by decide +kernel
theorem dX12_quarrel_44 : decode cX12_quarrel 44 = .ok (.iastore, 1) := by decide +kernel
theorem dX12_quarrel_45 : decode cX12_quarrel 45 = .ok (.aload_n 0, 1) := by decide +kernel
theorem dX12_quarrel_46 : decode cX12_quarrel 46 = .ok (.getfield 62, 3) := by decide +kernel
theorem dX12_quarrel_49 : decode cX12_quarrel 49 = .ok (.aload_n 0, 1) := by decide +kernel
theorem dX12_quarrel_50 : decode cX12_quarrel 50 = .ok (.getfield 183, 3) := by decide +kernel
theorem dX12_quarrel_53 : decode cX12_quarrel 53 = .ok (.iload_n 2, 1) := by decide +kernel
theorem dX12_quarrel_54 : decode cX12_quarrel 54 = .ok (.iastore, 1) := by decide +kernel
theorem dX12_quarrel_55 : decode cX12_quarrel 55 = .ok (.aload_n 0, 1) := by decide +kernel
theorem dX12_quarrel_56 : decode cX12_quarrel 56 = .ok (.dup, 1) := by decide +kernel
theorem dX12_quarrel_57 : decode cX12_quarrel 57 = .ok (.getfield 183, 3) := by decide +kernel
theorem dX12_quarrel_60 : decode cX12_quarrel 60 = .ok (.iconst 1, 1) := by decide +kernel
theorem dX12_quarrel_61 : decode cX12_quarrel 61 = .ok (.iadd, 1) := by decide +kernel
theorem dX12_quarrel_62 : decode cX12_quarrel 62 = .ok (.putfield 183, 3) := by decide +kernel
theorem dX12_quarrel_65 : decode cX12_quarrel 65 = .ok (.aload_n 0, 1) := by decide +kernel
theorem dX12_quarrel_66 : decode cX12_quarrel 66 = .ok (.getfield 183, 3) := by decide +kernel
theorem dX12_quarrel_69 : decode cX12_quarrel 69 = .ok (.iconst 1, 1) := by decide +kernel
theorem dX12_quarrel_70 : decode cX12_quarrel 70 = .ok (.isub, 1) := by decide +kernel
theorem dX12_quarrel_71 : decode cX12_quarrel 71 = .ok (.ireturn, 1) := by decide +kernel
theorem dX12_peace_0 : decode cX12_peace 0 = .ok (.iload_n 1, 1) := by decide +kernel
theorem dX12_peace_1 : decode cX12_peace 1 = .ok (.iconst 0, 1) := by decide +kernel
theorem dX12_peace_2 : decode cX12_peace 2 = .ok (.aload_n 0, 1) := by decide +kernel
theorem dX12_peace_3 : decode cX12_peace 3 = .ok (.getfield 183, 3) := by decide +kernel
theorem dX12_peace_6 : decode cX12_peace 6 = .ok (.invokestatic 113, 3) := by decide +kernel
theorem dX12_peace_9 : decode cX12_peace 9 = .ok (.ifCond .ne 5, 3) := by decide +kernel
theorem dX12_peace_12 : decode cX12_peace 12 = .ok (.iconst (-1), 1) := by decide +kernel
theorem dX12_peace_13 : decode cX12_peace 13 = .ok (.ireturn, 1) := by decide +kernel
theorem dX12_peace_14 : decode cX12_peace 14 = .ok (.aload_n 0, 1) := by decide +kernel
theorem dX12_peace_15 : decode cX12_peace 15 = .ok (.getfield 183, 3) := by decide +kernel
theorem dX12_peace_18 : decode cX12_peace 18 = .ok (.iload_n 1, 1) := by decide +kernel
theorem dX12_peace_19 : decode cX12_peace 19 = .ok (.isub, 1) := by decide +kernel
theorem dX12_peace_20 : decode cX12_peace 20 = .ok (.istore_n 2, 1) := by decide +kernel
theorem dX12_peace_21 : decode cX12_peace 21 = .ok (.aload_n 0, 1) := by decide +kernel
theorem dX12_peace_22 : decode cX12_peace 22 = .ok (.iload_n 1, 1) := by decide +kernel
theorem dX12_peace_23 : decode cX12_peace 23 = .ok (.putfield 183, 3) := by decide +kernel
theorem dX12_peace_26 : decode cX12_peace 26 = .ok (.iload_n 2, 1) := by decide +kernel
theorem dX12_peace_27 : decode cX12_peace 27 = .ok (.ireturn, 1) := by decide +kernel
theorem dX12_isBroken_0 : decode cX12_isBroken 0 = .ok (.aload_n 0, 1) := by decide +kernel
theorem dX12_isBroken_1 : decode cX12_isBroken 1 = .ok (.getfield 41, 3) := by decide +kernel
theorem dX12_isBroken_4 : decode cX12_isBroken 4 = .ok (.aload_n 0, 1) := by decide +kernel
theorem dX12_isBroken_5 : decode cX12_isBroken 5 = .ok (.getfield 59, 3) := by decide +kernel
theorem dX12_isBroken_8 : decode cX12_isBroken 8 = .ok (.iload_n 1, 1) := by decide +kernel
theorem dX12_isBroken_9 : decode cX12_isBroken 9 = .ok (.iaload, 1) := by decide +kernel
theorem dX12_isBroken_10 : decode cX12_isBroken 10 = .ok (.iaload, 1) := by decide +kernel
theorem dX12_isBroken_11 : decode cX12_isBroken 11 = .ok (.istore_n 2, 1) := by decide +kernel
theorem dX12_isBroken_12 : decode cX12_isBroken 12 = .ok (.aload_n 0, 1) := by decide +kernel
theorem dX12_isBroken_13 : decode cX12_isBroken 13 = .ok (.getfield 41, 3) := by decide +kernel
theorem dX12_isBroken_16 : decode cX12_isBroken 16 = .ok (.aload_n 0, 1) := by decide +kernel
theorem dX12_isBroken_17 : decode cX12_isBroken 17 = .ok (.getfield 62, 3) := by decide +kernel
theorem dX12_isBroken_20 : decode cX12_isBroken 20 = .ok (.iload_n 1, 1) := by decide +kernel
theorem dX12_isBroken_21 : decode cX12_isBroken 21 = .ok (.iaload, 1) := by decide +kernel
theorem dX12_isBroken_22 : decode cX12_isBroken 22 = .ok (.iaload, 1) := by decide +kernel
theorem dX12_isBroken_23 : decode cX12_isBroken 23 = .ok (.istore_n 3, 1) := by decide +kernel
theorem dX12_isBroken_24 : decode cX12_isBroken 24 = .ok (.iload_n 2, 1) := by decide +kernel
theorem dX12_isBroken_25 : decode cX12_isBroken 25 = .ok (.bipush (-9), 2) := by decide +kernel
theorem dX12_isBroken_27 : decode cX12_isBroken 27 = .ok (.if_icmp .eq 23, 3) := by decide +kernel
theorem dX12_isBroken_30 : decode cX12_isBroken 30 = .ok (.iload_n 3, 1) := by decide +kernel
theorem dX12_isBroken_31 : decode cX12_isBroken 31 = .ok (.bipush (-9), 2) := by decide +kernel
theorem dX12_isBroken_33 : decode cX12_isBroken 33 = .ok (.if_icmp .eq 17, 3) := by decide +kernel
theorem dX12_isBroken_36 : decode cX12_isBroken 36 = .ok (.iload_n 2, 1) := by decide +kernel
theorem dX12_isBroken_37 : decode cX12_isBroken 37 = .ok (.iload_n 3, 1) := by decide +kernel
theorem dX12_isBroken_38 : decode cX12_isBroken 38 = .ok (.isub, 1) := by decide +kernel
theorem dX12_isBroken_39 : decode cX12_isBroken 39 = .ok (.invokestatic 189, 3) := by decide +kernel
theorem dX12_isBroken_42 : decode cX12_isBroken 42 = .ok (.iconst 1, 1) := by decide +kernel
theorem dX12_isBroken_43 : decode cX12_isBroken 43 = .ok (.if_icmp .gt 7, 3) := by decide +kernel
theorem dX12_isBroken_46 : decode cX12_isBroken 46 = .ok (.iconst 1, 1) := by decide +kernel
theorem dX12_isBroken_47 : decode cX12_isBroken 47 = .ok (.goto 4, 3) := by decide +kernel
theorem dX12_isBroken_50 : decode cX12_isBroken 50 = .ok (.iconst 0, 1) := by decide +kernel
theorem dX12_isBroken_51 : decode cX12_isBroken 51 = .ok (.ireturn, 1) := by decide +kernel
theorem dX12_isAtPeace_0 : decode cX12_isAtPeace 0 = .ok (.iconst 1, 1) := by decide +kernel
theorem dX12_isAtPeace_1 : decode cX12_isAtPeace 1 = .ok (.istore_n 2, 1) := by decide +kernel
theorem dX12_isAtPeace_2 : decode cX12_isAtPeace 2 = .ok (.iconst 0, 1) := by decide +kernel
theorem dX12_isAtPeace_3 : decode cX12_isAtPeace 3 = .ok (.istore_n 3, 1) := by decide +kernel
theorem dX12_isAtPeace_4 : decode cX12_isAtPeace 4 = .ok (.iload_n 3, 1) := by decide +kernel
theorem dX12_isAtPeace_5 : decode cX12_isAtPeace 5 = .ok (.aload_n 0, 1) := by decide +kernel
theorem dX12_isAtPeace_6 : decode cX12_isAtPeace 6 = .ok (.getfield 183, 3) := by decide +kernel
theorem dX12_isAtPeace_9 : decode cX12_isAtPeace 9 = .ok (.if_icmp .ge 47, 3) := by decide +kernel
theorem dX12_isAtPeace_12 : decode cX12_isAtPeace 12 = .ok (.iload_n 2, 1) := by decide +kernel
theorem dX12_isAtPeace_13 : decode cX12_isAtPeace 13 = .ok (.ifCond .eq 35, 3) := by decide +kernel
theorem dX12_isAtPeace_16 : decode cX12_isAtPeace 16 = .ok (.aload_n 0, 1) := by decide +kernel
theorem dX12_isAtPeace_17 : decode cX12_isAtPeace 17 = .ok (.getfield 59, 3) := by decide +kernel
theorem dX12_isAtPeace_20 : decode cX12_isAtPeace 20 = .ok (.iload_n 3, 1) := by decide +kernel
theorem dX12_isAtPeace_21 : decode cX12_isAtPeace 21 = .ok (.iaload, 1) := by decide +kernel
theorem dX12_isAtPeace_22 : decode cX12_isAtPeace 22 = .ok (.iload_n 1, 1) := by decide +kernel
theorem dX12_isAtPeace_23 : decode cX12_isAtPeace 23 = .ok (.if_icmp .eq 13, 3) := by decide +kernel
theorem dX12_isAtPeace_26 : decode cX12_isAtPeace 26 = .ok (.aload_n 0, 1) := by decide +kernel
theorem dX12_isAtPeace_27 : decode cX12_isAtPeace 27 = .ok (.getfield 62, 3) := by decide +kernel
theorem dX12_isAtPeace_30 : decode cX12_isAtPeace 30 = .ok (.iload_n 3, 1) := by decide +kernel
theorem dX12_isAtPeace_31 : decode cX12_isAtPeace 31 = .ok (.iaload, 1) := by decide +kernel
theorem dX12_isAtPeace_32 : decode cX12_isAtPeace 32 = .ok (.iload_n 1, 1) := by decide +kernel
theorem dX12_isAtPeace_33 : decode cX12_isAtPeace 33 = .ok (.if_icmp .ne 11, 3) := by decide +kernel
theorem dX12_isAtPeace_36 : decode cX12_isAtPeace 36 = .ok (.aload_n 0, 1) := by decide +kernel
theorem dX12_isAtPeace_37 : decode cX12_isAtPeace 37 = .ok (.iload_n 3, 1) := by decide +kernel
theorem dX12_isAtPeace_38 : decode cX12_isAtPeace 38 = .ok (.invokevirtual 238, 3) := by decide +kernel
theorem dX12_isAtPeace_41 : decode cX12_isAtPeace 41 = .ok (.ifCond .ne 7, 3) := by decide +kernel
theorem dX12_isAtPeace_44 : decode cX12_isAtPeace 44 = .ok (.iconst 1, 1) := by decide +kernel
theorem dX12_isAtPeace_45 : decode cX12_isAtPeace 45 = .ok (.goto 4, 3) := by decide +kernel
theorem dX12_isAtPeace_48 : decode cX12_isAtPeace 48 = .ok (.iconst 0, 1) := by decide +kernel
theorem dX12_isAtPeace_49 : decode cX12_isAtPeace 49 = .ok (.istore_n 2, 1) := by decide +kernel
theorem dX12_isAtPeace_50 : decode cX12_isAtPeace 50 = .ok (.iinc 3 1, 3) := by decide +kernel
theorem dX12_isAtPeace_53 : decode cX12_isAtPeace 53 = .ok (.goto (-49), 3) := by decide +kernel
theorem dX12_isAtPeace_56 : decode cX12_isAtPeace 56 = .ok (.iload_n 2, 1) := by decide +kernel
theorem dX12_isAtPeace_57 : decode cX12_isAtPeace 57 = .ok (.ireturn, 1) := by decide +kernel
theorem dX12_remembers_0 : decode cX12_remembers 0 = .ok (.aload_n 0, 1) := by decide +kernel
theorem dX12_remembers_1 : decode cX12_remembers 1 = .ok (.getfield 186, 3) := by decide +kernel
theorem dX12_remembers_4 : decode cX12_remembers 4 = .ok (.bipush 60, 2) := by decide +kernel
theorem dX12_remembers_6 : decode cX12_remembers 6 = .ok (.if_icmp .ne 43, 3) := by decide +kernel
theorem dX12_remembers_9 : decode cX12_remembers 9 = .ok (.iconst 0, 1) := by decide +kernel
theorem dX12_remembers_10 : decode cX12_remembers 10 = .ok (.istore_n 2, 1) := by decide +kernel
theorem dX12_remembers_11 : decode cX12_remembers 11 = .ok (.iload_n 2, 1) := by decide +kernel
theorem dX12_remembers_12 : decode cX12_remembers 12 = .ok (.sipush 472, 3) := by decide +kernel
theorem dX12_remembers_15 : decode cX12_remembers 15 = .ok (.if_icmp .ge 24, 3) := by decide +kernel
theorem dX12_remembers_18 : decode cX12_remembers 18 = .ok (.aload_n 0, 1) := by decide +kernel
theorem dX12_remembers_19 : decode cX12_remembers 19 = .ok (.getfield 65, 3) := by decide +kernel
theorem dX12_remembers_22 : decode cX12_remembers 22 = .ok (.iload_n 2, 1) := by decide +kernel
theorem dX12_remembers_23 : decode cX12_remembers 23 = .ok (.aload_n 0, 1) := by decide +kernel
theorem dX12_remembers_24 : decode cX12_remembers 24 = .ok (.getfield 65, 3) := by decide +kernel
theorem dX12_remembers_27 : decode cX12_remembers 27 = .ok (.iload_n 2, 1) := by decide +kernel
theorem dX12_remembers_28 : decode cX12_remembers 28 = .ok (.bipush 8, 2) := by decide +kernel
theorem dX12_remembers_30 : decode cX12_remembers 30 = .ok (.iadd, 1) := by decide +kernel
theorem dX12_remembers_31 : decode cX12_remembers 31 = .ok (.iaload, 1) := by decide +kernel
theorem dX12_remembers_32 : decode cX12_remembers 32 = .ok (.iastore, 1) := by decide +kernel
theorem dX12_remembers_33 : decode cX12_remembers 33 = .ok (.iinc 2 1, 3) := by decide +kernel
theorem dX12_remembers_36 : decode cX12_remembers 36 = .ok (.goto (-25), 3) := by decide +kernel
theorem dX12_remembers_39 : decode cX12_remembers 39 = .ok (.aload_n 0, 1) := by decide +kernel
theorem dX12_remembers_40 : decode cX12_remembers 40 = .ok (.dup, 1) := by decide +kernel
theorem dX12_remembers_41 : decode cX12_remembers 41 = .ok (.getfield 186, 3) := by decide +kernel
theorem dX12_remembers_44 : decode cX12_remembers 44 = .ok (.iconst 1, 1) := by decide +kernel
theorem dX12_remembers_45 : decode cX12_remembers 45 = .ok (.isub, 1) := by decide +kernel
theorem dX12_remembers_46 : decode cX12_remembers 46 = .ok (.putfield 186, 3) := by decide +kernel
theorem dX12_remembers_49 : decode cX12_remembers 49 = .ok (.iconst 0, 1) := by decide +kernel
theorem dX12_remembers_50 : decode cX12_remembers 50 = .ok (.istore_n 2, 1) := by decide +kernel
theorem dX12_remembers_51 : decode cX12_remembers 51 = .ok (.iload_n 2, 1) := by decide +kernel
theorem dX12_remembers_52 : decode cX12_remembers 52 = .ok (.bipush 7, 2) := by decide +kernel
theorem dX12_remembers_54 : decode cX12_remembers 54 = .ok (.if_icmp .ge 29, 3) := by decide +kernel
theorem dX12_remembers_57 : decode cX12_remembers 57 = .ok (.aload_n 0, 1) := by decide +kernel
theorem dX12_remembers_58 : decode cX12_remembers 58 = .ok (.getfield 65, 3) := by decide +kernel
theorem dX12_remembers_61 : decode cX12_remembers 61 = .ok (.bipush 8, 2) := by decide +kernel
theorem dX12_remembers_63 : decode cX12_remembers 63 = .ok (.aload_n 0, 1) := by decide +kernel
theorem dX12_remembers_64 : decode cX12_remembers 64 = .ok (.getfield 186, 3) := by decide +kernel
theorem dX12_remembers_67 : decode cX12_remembers 67 = .ok (.imul, 1) := by decide +kernel
theorem dX12_remembers_68 : decode cX12_remembers 68 = .ok (.iload_n 2, 1) := by decide +kernel
theorem dX12_remembers_69 : decode cX12_remembers 69 = .ok (.iadd, 1) := by decide +kernel
theorem dX12_remembers_70 : decode cX12_remembers 70 = .ok (.aload_n 0, 1) := by decide +kernel
theorem dX12_remembers_71 : decode cX12_remembers 71 = .ok (.getfield 41, 3) := by decide +kernel
theorem dX12_remembers_74 : decode cX12_remembers 74 = .ok (.iload_n 2, 1) := by decide +kernel
theorem dX12_remembers_75 : decode cX12_remembers 75 = .ok (.iaload, 1) := by decide +kernel
theorem dX12_remembers_76 : decode cX12_remembers 76 = .ok (.iastore, 1) := by decide +kernel
theorem dX12_remembers_77 : decode cX12_remembers 77 = .ok (.iinc 2 1, 3) := by decide +kernel
theorem dX12_remembers_80 : decode cX12_remembers 80 = .ok (.goto (-29), 3) := by decide +kernel
theorem dX12_remembers_83 : decode cX12_remembers 83 = .ok (.aload_n 0, 1) := by decide +kernel
theorem dX12_remembers_84 : decode cX12_remembers 84 = .ok (.getfield 65, 3) := by decide +kernel
theorem dX12_remembers_87 : decode cX12_remembers 87 = .ok (.bipush 8, 2) := by decide +kernel
theorem dX12_remembers_89 : decode cX12_remembers 89 = .ok (.aload_n 0, 1) := by decide +kernel
theorem dX12_remembers_90 : decode cX12_remembers 90 = .ok (.getfield 186, 3) := by decide +kernel
theorem dX12_remembers_93 : decode cX12_remembers 93 = .ok (.imul, 1) := by decide +kernel
theorem dX12_remembers_94 : decode cX12_remembers 94 = .ok (.bipush 7, 2) := by decide +kernel
theorem dX12_remembers_96 : decode cX12_remembers 96 = .ok (.iadd, 1) := by decide +kernel
theorem dX12_remembers_97 : decode cX12_remembers 97 = .ok (.iload_n 1, 1) := by decide +kernel
theorem dX12_remembers_98 : decode cX12_remembers 98 = .ok (.iastore, 1) := by decide +kernel
theorem dX12_remembers_99 : decode cX12_remembers 99 = .ok (.aload_n 0, 1) := by decide +kernel
theorem dX12_remembers_100 : decode cX12_remembers 100 = .ok (.dup, 1) := by decide +kernel
theorem dX12_remembers_101 : decode cX12_remembers 101 = .ok (.getfield 186, 3) := by decide +kernel
theorem dX12_remembers_104 : decode cX12_remembers 104 = .ok (.iconst 1, 1) := by decide +kernel
theorem dX12_remembers_105 : decode cX12_remembers 105 = .ok (.iadd, 1) := by decide +kernel
theorem dX12_remembers_106 : decode cX12_remembers 106 = .ok (.putfield 186, 3) := by decide +kernel
theorem dX12_remembers_109 : decode cX12_remembers 109 = .ok (.return_, 1) := by decide +kernel
theorem dX12_sitsOn_0 : decode cX12_sitsOn 0 = .ok (.aload_n 0, 1) := by decide +kernel
theorem dX12_sitsOn_1 : decode cX12_sitsOn 1 = .ok (.getfield 41, 3) := by decide +kernel
theorem dX12_sitsOn_4 : decode cX12_sitsOn 4 = .ok (.iload_n 1, 1) := by decide +kernel
theorem dX12_sitsOn_5 : decode cX12_sitsOn 5 = .ok (.iaload, 1) := by decide +kernel
theorem dX12_sitsOn_6 : decode cX12_sitsOn 6 = .ok (.istore_n 3, 1) := by decide +kernel
theorem dX12_sitsOn_7 : decode cX12_sitsOn 7 = .ok (.aload_n 0, 1) := by decide +kernel
theorem dX12_sitsOn_8 : decode cX12_sitsOn 8 = .ok (.getfield 41, 3) := by decide +kernel
theorem dX12_sitsOn_11 : decode cX12_sitsOn 11 = .ok (.iload_n 1, 1) := by decide +kernel
theorem dX12_sitsOn_12 : decode cX12_sitsOn 12 = .ok (.iload_n 2, 1) := by decide +kernel
theorem dX12_sitsOn_13 : decode cX12_sitsOn 13 = .ok (.iastore, 1) := by decide +kernel
theorem dX12_sitsOn_14 : decode cX12_sitsOn 14 = .ok (.aload_n 0, 1) := by decide +kernel
theorem dX12_sitsOn_15 : decode cX12_sitsOn 15 = .ok (.iload_n 2, 1) := by decide +kernel
theorem dX12_sitsOn_16 : decode cX12_sitsOn 16 = .ok (.invokevirtual 208, 3) := by decide +kernel
theorem dX12_sitsOn_19 : decode cX12_sitsOn 19 = .ok (.iconst 2, 1) := by decide +kernel
theorem dX12_sitsOn_20 : decode cX12_sitsOn 20 = .ok (.if_icmp .gt 15, 3) := by decide +kernel
theorem dX12_sitsOn_23 : decode cX12_sitsOn 23 = .ok (.aload_n 0, 1) := by decide +kernel
theorem dX12_sitsOn_24 : decode cX12_sitsOn 24 = .ok (.iload_n 1, 1) := by decide +kernel
theorem dX12_sitsOn_25 : decode cX12_sitsOn 25 = .ok (.invokevirtual 241, 3) := by decide +kernel
theorem dX12_sitsOn_28 : decode cX12_sitsOn 28 = .ok (.ifCond .eq 7, 3) := by decide +kernel
theorem dX12_sitsOn_31 : decode cX12_sitsOn 31 = .ok (.iconst 1, 1) := by decide +kernel
theorem dX12_sitsOn_32 : decode cX12_sitsOn 32 = .ok (.goto 4, 3) := by decide +kernel
theorem dX12_sitsOn_35 : decode cX12_sitsOn 35 = .ok (.iconst 0, 1) := by decide +kernel
theorem dX12_sitsOn_36 : decode cX12_sitsOn 36 = .ok (.istore 4, 2) := by decide +kernel
theorem dX12_sitsOn_38 : decode cX12_sitsOn 38 = .ok (.aload_n 0, 1) := by decide +kernel
theorem dX12_sitsOn_39 : decode cX12_sitsOn 39 = .ok (.getfield 41, 3) := by decide +kernel
theorem dX12_sitsOn_42 : decode cX12_sitsOn 42 = .ok (.iload_n 1, 1) := by decide +kernel
theorem dX12_sitsOn_43 : decode cX12_sitsOn 43 = .ok (.iload 4, 2) := by decide +kernel
theorem dX12_sitsOn_45 : decode cX12_sitsOn 45 = .ok (.ifCond .eq 7, 3) := by decide +kernel
theorem dX12_sitsOn_48 : decode cX12_sitsOn 48 = .ok (.iload_n 2, 1) := by decide +kernel
theorem dX12_sitsOn_49 : decode cX12_sitsOn 49 = .ok (.goto 4, 3) := by decide +kernel
theorem dX12_sitsOn_52 : decode cX12_sitsOn 52 = .ok (.iload_n 3, 1) := by decide +kernel
theorem dX12_sitsOn_53 : decode cX12_sitsOn 53 = .ok (.iastore, 1) := by decide +kernel
theorem dX12_sitsOn_54 : decode cX12_sitsOn 54 = .ok (.iload 4, 2) := by decide +kernel
theorem dX12_sitsOn_56 : decode cX12_sitsOn 56 = .ok (.ireturn, 1) := by decide +kernel
theorem dX12_seat_0 : decode cX12_seat 0 = .ok (.aload_n 0, 1) := by decide +kernel
theorem dX12_seat_1 : decode cX12_seat 1 = .ok (.iload_n 1, 1) := by decide +kernel
theorem dX12_seat_2 : decode cX12_seat 2 = .ok (.invokevirtual 223, 3) := by decide +kernel
theorem dX12_seat_5 : decode cX12_seat 5 = .ok (.ifCond .eq 11, 3) := by decide +kernel
theorem dX12_seat_8 : decode cX12_seat 8 = .ok (.aload_n 0, 1) := by decide +kernel
theorem dX12_seat_9 : decode cX12_seat 9 = .ok (.iload_n 2, 1) := by decide +kernel
theorem dX12_seat_10 : decode cX12_seat 10 = .ok (.invokevirtual 217, 3) := by decide +kernel
theorem dX12_seat_13 : decode cX12_seat 13 = .ok (.ifCond .ne 5, 3) := by decide +kernel
theorem dX12_seat_16 : decode cX12_seat 16 = .ok (.iconst (-1), 1) := by decide +kernel
theorem dX12_seat_17 : decode cX12_seat 17 = .ok (.ireturn, 1) := by decide +kernel
theorem dX12_seat_18 : decode cX12_seat 18 = .ok (.aload_n 0, 1) := by decide +kernel
theorem dX12_seat_19 : decode cX12_seat 19 = .ok (.getfield 41, 3) := by decide +kernel
theorem dX12_seat_22 : decode cX12_seat 22 = .ok (.iload_n 1, 1) := by decide +kernel
theorem dX12_seat_23 : decode cX12_seat 23 = .ok (.iaload, 1) := by decide +kernel
theorem dX12_seat_24 : decode cX12_seat 24 = .ok (.istore_n 3, 1) := by decide +kernel
theorem dX12_seat_25 : decode cX12_seat 25 = .ok (.iload_n 3, 1) := by decide +kernel
theorem dX12_seat_26 : decode cX12_seat 26 = .ok (.iload_n 2, 1) := by decide +kernel
theorem dX12_seat_27 : decode cX12_seat 27 = .ok (.if_icmp .eq 12, 3) := by decide +kernel
theorem dX12_seat_30 : decode cX12_seat 30 = .ok (.aload_n 0, 1) := by decide +kernel
theorem dX12_seat_31 : decode cX12_seat 31 = .ok (.iload_n 1, 1) := by decide +kernel
theorem dX12_seat_32 : decode cX12_seat 32 = .ok (.iload_n 2, 1) := by decide +kernel
theorem dX12_seat_33 : decode cX12_seat 33 = .ok (.invokevirtual 244, 3) := by decide +kernel
theorem dX12_seat_36 : decode cX12_seat 36 = .ok (.ifCond .ne 6, 3) := by decide +kernel
theorem dX12_seat_39 : decode cX12_seat 39 = .ok (.bipush (-4), 2) := by decide +kernel
theorem dX12_seat_41 : decode cX12_seat 41 = .ok (.ireturn, 1) := by decide +kernel
theorem dX12_seat_42 : decode cX12_seat 42 = .ok (.aload_n 0, 1) := by decide +kernel
theorem dX12_seat_43 : decode cX12_seat 43 = .ok (.getfield 41, 3) := by decide +kernel
theorem dX12_seat_46 : decode cX12_seat 46 = .ok (.iload_n 1, 1) := by decide +kernel
theorem dX12_seat_47 : decode cX12_seat 47 = .ok (.iload_n 3, 1) := by decide +kernel
theorem dX12_seat_48 : decode cX12_seat 48 = .ok (.iastore, 1) := by decide +kernel
theorem dX12_seat_49 : decode cX12_seat 49 = .ok (.aload_n 0, 1) := by decide +kernel
theorem dX12_seat_50 : decode cX12_seat 50 = .ok (.iconst 0, 1) := by decide +kernel
theorem dX12_seat_51 : decode cX12_seat 51 = .ok (.invokevirtual 248, 3) := by decide +kernel
theorem dX12_seat_54 : decode cX12_seat 54 = .ok (.aload_n 0, 1) := by decide +kernel
theorem dX12_seat_55 : decode cX12_seat 55 = .ok (.getfield 41, 3) := by decide +kernel
theorem dX12_seat_58 : decode cX12_seat 58 = .ok (.iload_n 1, 1) := by decide +kernel
theorem dX12_seat_59 : decode cX12_seat 59 = .ok (.iload_n 2, 1) := by decide +kernel
theorem dX12_seat_60 : decode cX12_seat 60 = .ok (.iastore, 1) := by decide +kernel
theorem dX12_seat_61 : decode cX12_seat 61 = .ok (.iload_n 2, 1) := by decide +kernel
theorem dX12_seat_62 : decode cX12_seat 62 = .ok (.ireturn, 1) := by decide +kernel
theorem dX12_rise_0 : decode cX12_rise 0 = .ok (.aload_n 0, 1) := by decide +kernel
theorem dX12_rise_1 : decode cX12_rise 1 = .ok (.iload_n 1, 1) := by decide +kernel
theorem dX12_rise_2 : decode cX12_rise 2 = .ok (.invokevirtual 223, 3) := by decide +kernel
theorem dX12_rise_5 : decode cX12_rise 5 = .ok (.ifCond .ne 5, 3) := by decide +kernel
theorem dX12_rise_8 : decode cX12_rise 8 = .ok (.iconst (-1), 1) := by decide +kernel
theorem dX12_rise_9 : decode cX12_rise 9 = .ok (.ireturn, 1) := by decide +kernel
theorem dX12_rise_10 : decode cX12_rise 10 = .ok (.aload_n 0, 1) := by decide +kernel
theorem dX12_rise_11 : decode cX12_rise 11 = .ok (.getfield 41, 3) := by decide +kernel
theorem dX12_rise_14 : decode cX12_rise 14 = .ok (.iload_n 1, 1) := by decide +kernel
theorem dX12_rise_15 : decode cX12_rise 15 = .ok (.iaload, 1) := by decide +kernel
theorem dX12_rise_16 : decode cX12_rise 16 = .ok (.istore_n 2, 1) := by decide +kernel
theorem dX12_rise_17 : decode cX12_rise 17 = .ok (.iload_n 2, 1) := by decide +kernel
theorem dX12_rise_18 : decode cX12_rise 18 = .ok (.bipush (-9), 2) := by decide +kernel
theorem dX12_rise_20 : decode cX12_rise 20 = .ok (.if_icmp .ne 6, 3) := by decide +kernel
theorem dX12_rise_23 : decode cX12_rise 23 = .ok (.bipush (-4), 2) := by decide +kernel
theorem dX12_rise_25 : decode cX12_rise 25 = .ok (.ireturn, 1) := by decide +kernel
theorem dX12_rise_26 : decode cX12_rise 26 = .ok (.aload_n 0, 1) := by decide +kernel
theorem dX12_rise_27 : decode cX12_rise 27 = .ok (.iconst 1, 1) := by decide +kernel
theorem dX12_rise_28 : decode cX12_rise 28 = .ok (.invokevirtual 248, 3) := by decide +kernel
theorem dX12_rise_31 : decode cX12_rise 31 = .ok (.aload_n 0, 1) := by decide +kernel
theorem dX12_rise_32 : decode cX12_rise 32 = .ok (.getfield 41, 3) := by decide +kernel
theorem dX12_rise_35 : decode cX12_rise 35 = .ok (.iload_n 1, 1) := by decide +kernel
theorem dX12_rise_36 : decode cX12_rise 36 = .ok (.bipush (-9), 2) := by decide +kernel
theorem dX12_rise_38 : decode cX12_rise 38 = .ok (.iastore, 1) := by decide +kernel
theorem dX12_rise_39 : decode cX12_rise 39 = .ok (.iload_n 2, 1) := by decide +kernel
theorem dX12_rise_40 : decode cX12_rise 40 = .ok (.ireturn, 1) := by decide +kernel
theorem dX12_swap_0 : decode cX12_swap 0 = .ok (.aload_n 0, 1) := by decide +kernel
theorem dX12_swap_1 : decode cX12_swap 1 = .ok (.getfield 41, 3) := by decide +kernel
theorem dX12_swap_4 : decode cX12_swap 4 = .ok (.iload_n 1, 1) := by decide +kernel
theorem dX12_swap_5 : decode cX12_swap 5 = .ok (.iaload, 1) := by decide +kernel
theorem dX12_swap_6 : decode cX12_swap 6 = .ok (.istore_n 3, 1) := by decide +kernel
theorem dX12_swap_7 : decode cX12_swap 7 = .ok (.aload_n 0, 1) := by decide +kernel
theorem dX12_swap_8 : decode cX12_swap 8 = .ok (.getfield 41, 3) := by decide +kernel
theorem dX12_swap_11 : decode cX12_swap 11 = .ok (.iload_n 1, 1) := by decide +kernel
theorem dX12_swap_12 : decode cX12_swap 12 = .ok (.aload_n 0, 1) := by decide +kernel
theorem dX12_swap_13 : decode cX12_swap 13 = .ok (.getfield 41, 3) := by decide +kernel
theorem dX12_swap_16 : decode cX12_swap 16 = .ok (.iload_n 2, 1) := by decide +kernel
theorem dX12_swap_17 : decode cX12_swap 17 = .ok (.iaload, 1) := by decide +kernel
theorem dX12_swap_18 : decode cX12_swap 18 = .ok (.iastore, 1) := by decide +kernel
theorem dX12_swap_19 : decode cX12_swap 19 = .ok (.aload_n 0, 1) := by decide +kernel
theorem dX12_swap_20 : decode cX12_swap 20 = .ok (.getfield 41, 3) := by decide +kernel
theorem dX12_swap_23 : decode cX12_swap 23 = .ok (.iload_n 2, 1) := by decide +kernel
theorem dX12_swap_24 : decode cX12_swap 24 = .ok (.iload_n 3, 1) := by decide +kernel
theorem dX12_swap_25 : decode cX12_swap 25 = .ok (.iastore, 1) := by decide +kernel
theorem dX12_swap_26 : decode cX12_swap 26 = .ok (.return_, 1) := by decide +kernel
theorem dX12_canChange_0 : decode cX12_canChange 0 = .ok (.aload_n 0, 1) := by decide +kernel
theorem dX12_canChange_1 : decode cX12_canChange 1 = .ok (.getfield 41, 3) := by decide +kernel
theorem dX12_canChange_4 : decode cX12_canChange 4 = .ok (.iload_n 1, 1) := by decide +kernel
theorem dX12_canChange_5 : decode cX12_canChange 5 = .ok (.iaload, 1) := by decide +kernel
theorem dX12_canChange_6 : decode cX12_canChange 6 = .ok (.bipush (-9), 2) := by decide +kernel
theorem dX12_canChange_8 : decode cX12_canChange 8 = .ok (.if_icmp .eq 29, 3) := by decide +kernel
theorem dX12_canChange_11 : decode cX12_canChange 11 = .ok (.aload_n 0, 1) := by decide +kernel
theorem dX12_canChange_12 : decode cX12_canChange 12 = .ok (.getfield 41, 3) := by decide +kernel
theorem dX12_canChange_15 : decode cX12_canChange 15 = .ok (.iload_n 2, 1) := by decide +kernel
theorem dX12_canChange_16 : decode cX12_canChange 16 = .ok (.iaload, 1) := by decide +kernel
theorem dX12_canChange_17 : decode cX12_canChange 17 = .ok (.bipush (-9), 2) := by decide +kernel
theorem dX12_canChange_19 : decode cX12_canChange 19 = .ok (.if_icmp .eq 18, 3) := by decide +kernel
theorem dX12_canChange_22 : decode cX12_canChange 22 = .ok (.aload_n 0, 1) := by decide +kernel
theorem dX12_canChange_23 : decode cX12_canChange 23 = .ok (.getfield 41, 3) := by decide +kernel
theorem dX12_canChange_26 : decode cX12_canChange 26 = .ok (.iload_n 1, 1) := by decide +kernel
theorem dX12_canChange_27 : decode cX12_canChange 27 = .ok (.iaload, 1) := by decide +kernel
theorem dX12_canChange_28 : decode cX12_canChange 28 = .ok (.aload_n 0, 1) := by decide +kernel
theorem dX12_canChange_29 : decode cX12_canChange 29 = .ok (.getfield 41, 3) := by decide +kernel
theorem dX12_canChange_32 : decode cX12_canChange 32 = .ok (.iload_n 2, 1) := by decide +kernel
theorem dX12_canChange_33 : decode cX12_canChange 33 = .ok (.iaload, 1) := by decide +kernel
theorem dX12_canChange_34 : decode cX12_canChange 34 = .ok (.if_icmp .ne 5, 3) := by decide +kernel
theorem dX12_canChange_37 : decode cX12_canChange 37 = .ok (.iconst 0, 1) := by decide +kernel
theorem dX12_canChange_38 : decode cX12_canChange 38 = .ok (.ireturn, 1) := by decide +kernel
theorem dX12_canChange_39 : decode cX12_canChange 39 = .ok (.aload_n 0, 1) := by decide +kernel
theorem dX12_canChange_40 : decode cX12_canChange 40 = .ok (.iload_n 1, 1) := by decide +kernel
theorem dX12_canChange_41 : decode cX12_canChange 41 = .ok (.iload_n 2, 1) := by decide +kernel
theorem dX12_canChange_42 : decode cX12_canChange 42 = .ok (.invokevirtual 252, 3) := by decide +kernel
theorem dX12_canChange_45 : decode cX12_canChange 45 = .ok (.aload_n 0, 1) := by decide +kernel
theorem dX12_canChange_46 : decode cX12_canChange 46 = .ok (.aload_n 0, 1) := by decide +kernel
theorem dX12_canChange_47 : decode cX12_canChange 47 = .ok (.getfield 41, 3) := by decide +kernel
theorem dX12_canChange_50 : decode cX12_canChange 50 = .ok (.iload_n 1, 1) := by decide +kernel
theorem dX12_canChange_51 : decode cX12_canChange 51 = .ok (.iaload, 1) := by decide +kernel
theorem dX12_canChange_52 : decode cX12_canChange 52 = .ok (.invokevirtual 208, 3) := by decide +kernel
theorem dX12_canChange_55 : decode cX12_canChange 55 = .ok (.iconst 2, 1) := by decide +kernel
theorem dX12_canChange_56 : decode cX12_canChange 56 = .ok (.if_icmp .gt 37, 3) := by decide +kernel
theorem dX12_canChange_59 : decode cX12_canChange 59 = .ok (.aload_n 0, 1) := by decide +kernel
theorem dX12_canChange_60 : decode cX12_canChange 60 = .ok (.aload_n 0, 1) := by decide +kernel
theorem dX12_canChange_61 : decode cX12_canChange 61 = .ok (.getfield 41, 3) := by decide +kernel
theorem dX12_canChange_64 : decode cX12_canChange 64 = .ok (.iload_n 2, 1) := by decide +kernel
theorem dX12_canChange_65 : decode cX12_canChange 65 = .ok (.iaload, 1) := by decide +kernel
theorem dX12_canChange_66 : decode cX12_canChange 66 = .ok (.invokevirtual 208, 3) := by decide +kernel
theorem dX12_canChange_69 : decode cX12_canChange 69 = .ok (.iconst 2, 1) := by decide +kernel
theorem dX12_canChange_70 : decode cX12_canChange 70 = .ok (.if_icmp .gt 23, 3) := by decide +kernel
theorem dX12_canChange_73 : decode cX12_canChange 73 = .ok (.aload_n 0, 1) := by decide +kernel
theorem dX12_canChange_74 : decode cX12_canChange 74 = .ok (.iload_n 1, 1) := by decide +kernel
theorem dX12_canChange_75 : decode cX12_canChange 75 = .ok (.invokevirtual 241, 3) := by decide +kernel
theorem dX12_canChange_78 : decode cX12_canChange 78 = .ok (.ifCond .eq 15, 3) := by decide +kernel
theorem dX12_canChange_81 : decode cX12_canChange 81 = .ok (.aload_n 0, 1) := by decide +kernel
theorem dX12_canChange_82 : decode cX12_canChange 82 = .ok (.iload_n 2, 1) := by decide +kernel
theorem dX12_canChange_83 : decode cX12_canChange 83 = .ok (.invokevirtual 241, 3) := by decide +kernel
theorem dX12_canChange_86 : decode cX12_canChange 86 = .ok (.ifCond .eq 7, 3) := by decide +kernel
theorem dX12_canChange_89 : decode cX12_canChange 89 = .ok (.iconst 1, 1) := by decide +kernel
theorem dX12_canChange_90 : decode cX12_canChange 90 = .ok (.goto 4, 3) := by decide +kernel
theorem dX12_canChange_93 : decode cX12_canChange 93 = .ok (.iconst 0, 1) := by decide +kernel
theorem dX12_canChange_94 : decode cX12_canChange 94 = .ok (.istore_n 3, 1) := by decide +kernel
theorem dX12_canChange_95 : decode cX12_canChange 95 = .ok (.aload_n 0, 1) := by decide +kernel
theorem dX12_canChange_96 : decode cX12_canChange 96 = .ok (.iload_n 1, 1) := by decide +kernel
theorem dX12_canChange_97 : decode cX12_canChange 97 = .ok (.iload_n 2, 1) := by decide +kernel
theorem dX12_canChange_98 : decode cX12_canChange 98 = .ok (.invokevirtual 252, 3) := by decide +kernel
theorem dX12_canChange_101 : decode cX12_canChange 101 = .ok (.iload_n 3, 1) := by decide +kernel
theorem dX12_canChange_102 : decode cX12_canChange 102 = .ok (.ireturn, 1) := by decide +kernel
theorem dX12_change_0 : decode cX12_change 0 = .ok (.aload_n 0, 1) := by decide +kernel
theorem dX12_change_1 : decode cX12_change 1 = .ok (.iload_n 1, 1) := by decide +kernel
theorem dX12_change_2 : decode cX12_change 2 = .ok (.invokevirtual 223, 3) := by decide +kernel
theorem dX12_change_5 : decode cX12_change 5 = .ok (.ifCond .eq 16, 3) := by decide +kernel
theorem dX12_change_8 : decode cX12_change 8 = .ok (.aload_n 0, 1) := by decide +kernel
theorem dX12_change_9 : decode cX12_change 9 = .ok (.iload_n 2, 1) := by decide +kernel
theorem dX12_change_10 : decode cX12_change 10 = .ok (.invokevirtual 223, 3) := by decide +kernel
theorem dX12_change_13 : decode cX12_change 13 = .ok (.ifCond .eq 8, 3) := by decide +kernel
theorem dX12_change_16 : decode cX12_change 16 = .ok (.iload_n 1, 1) := by decide +kernel
theorem dX12_change_17 : decode cX12_change 17 = .ok (.iload_n 2, 1) := by decide +kernel
theorem dX12_change_18 : decode cX12_change 18 = .ok (.if_icmp .ne 5, 3) := by decide +kernel
theorem dX12_change_21 : decode cX12_change 21 = .ok (.iconst (-1), 1) := by decide +kernel
theorem dX12_change_22 : decode cX12_change 22 = .ok (.ireturn, 1) := by decide +kernel
theorem dX12_change_23 : decode cX12_change 23 = .ok (.aload_n 0, 1) := by decide +kernel
theorem dX12_change_24 : decode cX12_change 24 = .ok (.iload_n 1, 1) := by decide +kernel
theorem dX12_change_25 : decode cX12_change 25 = .ok (.iload_n 2, 1) := by decide +kernel
theorem dX12_change_26 : decode cX12_change 26 = .ok (.invokevirtual 256, 3) := by decide +kernel
theorem dX12_change_29 : decode cX12_change 29 = .ok (.ifCond .ne 6, 3) := by decide +kernel
theorem dX12_change_32 : decode cX12_change 32 = .ok (.bipush (-4), 2) := by decide +kernel
theorem dX12_change_34 : decode cX12_change 34 = .ok (.ireturn, 1) := by decide +kernel
theorem dX12_change_35 : decode cX12_change 35 = .ok (.aload_n 0, 1) := by decide +kernel
theorem dX12_change_36 : decode cX12_change 36 = .ok (.iconst 2, 1) := by decide +kernel
theorem dX12_change_37 : decode cX12_change 37 = .ok (.invokevirtual 248, 3) := by decide +kernel
theorem dX12_change_40 : decode cX12_change 40 = .ok (.aload_n 0, 1) := by decide +kernel
theorem dX12_change_41 : decode cX12_change 41 = .ok (.iload_n 1, 1) := by decide +kernel
theorem dX12_change_42 : decode cX12_change 42 = .ok (.iload_n 2, 1) := by decide +kernel
theorem dX12_change_43 : decode cX12_change 43 = .ok (.invokevirtual 252, 3) := by decide +kernel
theorem dX12_change_46 : decode cX12_change 46 = .ok (.iconst 1, 1) := by decide +kernel
theorem dX12_change_47 : decode cX12_change 47 = .ok (.ireturn, 1) := by decide +kernel
theorem dX12_undo_0 : decode cX12_undo 0 = .ok (.aload_n 0, 1) := by decide +kernel
theorem dX12_undo_1 : decode cX12_undo 1 = .ok (.getfield 186, 3) := by decide +kernel
theorem dX12_undo_4 : decode cX12_undo 4 = .ok (.ifCond .ne 6, 3) := by decide +kernel
theorem dX12_undo_7 : decode cX12_undo 7 = .ok (.bipush (-4), 2) := by decide +kernel
theorem dX12_undo_9 : decode cX12_undo 9 = .ok (.ireturn, 1) := by decide +kernel
theorem dX12_undo_10 : decode cX12_undo 10 = .ok (.aload_n 0, 1) := by decide +kernel
theorem dX12_undo_11 : decode cX12_undo 11 = .ok (.dup, 1) := by decide +kernel
theorem dX12_undo_12 : decode cX12_undo 12 = .ok (.getfield 186, 3) := by decide +kernel
theorem dX12_undo_15 : decode cX12_undo 15 = .ok (.iconst 1, 1) := by decide +kernel
theorem dX12_undo_16 : decode cX12_undo 16 = .ok (.isub, 1) := by decide +kernel
theorem dX12_undo_17 : decode cX12_undo 17 = .ok (.putfield 186, 3) := by decide +kernel
theorem dX12_undo_20 : decode cX12_undo 20 = .ok (.iconst 0, 1) := by decide +kernel
theorem dX12_undo_21 : decode cX12_undo 21 = .ok (.istore_n 1, 1) := by decide +kernel
theorem dX12_undo_22 : decode cX12_undo 22 = .ok (.iload_n 1, 1) := by decide +kernel
theorem dX12_undo_23 : decode cX12_undo 23 = .ok (.bipush 7, 2) := by decide +kernel
theorem dX12_undo_25 : decode cX12_undo 25 = .ok (.if_icmp .ge 29, 3) := by decide +kernel
theorem dX12_undo_28 : decode cX12_undo 28 = .ok (.aload_n 0, 1) := by decide +kernel
theorem dX12_undo_29 : decode cX12_undo 29 = .ok (.getfield 41, 3) := by decide +kernel
theorem dX12_undo_32 : decode cX12_undo 32 = .ok (.iload_n 1, 1) := by decide +kernel
theorem dX12_undo_33 : decode cX12_undo 33 = .ok (.aload_n 0, 1) := by decide +kernel
theorem dX12_undo_34 : decode cX12_undo 34 = .ok (.getfield 65, 3) := by decide +kernel
theorem dX12_undo_37 : decode cX12_undo 37 = .ok (.bipush 8, 2) := by decide +kernel
theorem dX12_undo_39 : decode cX12_undo 39 = .ok (.aload_n 0, 1) := by decide +kernel
theorem dX12_undo_40 : decode cX12_undo 40 = .ok (.getfield 186, 3) := by decide +kernel
theorem dX12_undo_43 : decode cX12_undo 43 = .ok (.imul, 1) := by decide +kernel
theorem dX12_undo_44 : decode cX12_undo 44 = .ok (.iload_n 1, 1) := by decide +kernel
theorem dX12_undo_45 : decode cX12_undo 45 = .ok (.iadd, 1) := by decide +kernel
theorem dX12_undo_46 : decode cX12_undo 46 = .ok (.iaload, 1) := by decide +kernel
theorem dX12_undo_47 : decode cX12_undo 47 = .ok (.iastore, 1) := by decide +kernel
theorem dX12_undo_48 : decode cX12_undo 48 = .ok (.iinc 1 1, 3) := by decide +kernel
theorem dX12_undo_51 : decode cX12_undo 51 = .ok (.goto (-29), 3) := by decide +kernel
theorem dX12_undo_54 : decode cX12_undo 54 = .ok (.aload_n 0, 1) := by decide +kernel
theorem dX12_undo_55 : decode cX12_undo 55 = .ok (.getfield 65, 3) := by decide +kernel
theorem dX12_undo_58 : decode cX12_undo 58 = .ok (.bipush 8, 2) := by decide +kernel
theorem dX12_undo_60 : decode cX12_undo 60 = .ok (.aload_n 0, 1) := by decide +kernel
theorem dX12_undo_61 : decode cX12_undo 61 = .ok (.getfield 186, 3) := by decide +kernel
theorem dX12_undo_64 : decode cX12_undo 64 = .ok (.imul, 1) := by decide +kernel
theorem dX12_undo_65 : decode cX12_undo 65 = .ok (.bipush 7, 2) := by decide +kernel
theorem dX12_undo_67 : decode cX12_undo 67 = .ok (.iadd, 1) := by decide +kernel
theorem dX12_undo_68 : decode cX12_undo 68 = .ok (.iaload, 1) := by decide +kernel
theorem dX12_undo_69 : decode cX12_undo 69 = .ok (.ireturn, 1) := by decide +kernel
theorem dX12_seatedMany_0 : decode cX12_seatedMany 0 = .ok (.iconst 0, 1) := by decide +kernel
theorem dX12_seatedMany_1 : decode cX12_seatedMany 1 = .ok (.istore_n 1, 1) := by decide +kernel
theorem dX12_seatedMany_2 : decode cX12_seatedMany 2 = .ok (.iconst 0, 1) := by decide +kernel
theorem dX12_seatedMany_3 : decode cX12_seatedMany 3 = .ok (.istore_n 2, 1) := by decide +kernel
theorem dX12_seatedMany_4 : decode cX12_seatedMany 4 = .ok (.iload_n 2, 1) := by decide +kernel
theorem dX12_seatedMany_5 : decode cX12_seatedMany 5 = .ok (.aload_n 0, 1) := by decide +kernel
theorem dX12_seatedMany_6 : decode cX12_seatedMany 6 = .ok (.getfield 180, 3) := by decide +kernel
theorem dX12_seatedMany_9 : decode cX12_seatedMany 9 = .ok (.if_icmp .ge 28, 3) := by decide +kernel
theorem dX12_seatedMany_12 : decode cX12_seatedMany 12 = .ok (.iload_n 1, 1) := by decide +kernel
theorem dX12_seatedMany_13 : decode cX12_seatedMany 13 = .ok (.aload_n 0, 1) := by decide +kernel
theorem dX12_seatedMany_14 : decode cX12_seatedMany 14 = .ok (.getfield 41, 3) := by decide +kernel
theorem dX12_seatedMany_17 : decode cX12_seatedMany 17 = .ok (.iload_n 2, 1) := by decide +kernel
theorem dX12_seatedMany_18 : decode cX12_seatedMany 18 = .ok (.iaload, 1) := by decide +kernel
theorem dX12_seatedMany_19 : decode cX12_seatedMany 19 = .ok (.bipush (-9), 2) := by decide +kernel
theorem dX12_seatedMany_21 : decode cX12_seatedMany 21 = .ok (.if_icmp .ne 7, 3) := by decide +kernel
theorem dX12_seatedMany_24 : decode cX12_seatedMany 24 = .ok (.iconst 0, 1) := by decide +kernel
theorem dX12_seatedMany_25 : decode cX12_seatedMany 25 = .ok (.goto 4, 3) := by decide +kernel
theorem dX12_seatedMany_28 : decode cX12_seatedMany 28 = .ok (.iconst 1, 1) := by decide +kernel
theorem dX12_seatedMany_29 : decode cX12_seatedMany 29 = .ok (.iadd, 1) := by decide +kernel
theorem dX12_seatedMany_30 : decode cX12_seatedMany 30 = .ok (.istore_n 1, 1) := by decide +kernel
theorem dX12_seatedMany_31 : decode cX12_seatedMany 31 = .ok (.iinc 2 1, 3) := by decide +kernel
theorem dX12_seatedMany_34 : decode cX12_seatedMany 34 = .ok (.goto (-30), 3) := by decide +kernel
theorem dX12_seatedMany_37 : decode cX12_seatedMany 37 = .ok (.iload_n 1, 1) := by decide +kernel
theorem dX12_seatedMany_38 : decode cX12_seatedMany 38 = .ok (.ireturn, 1) := by decide +kernel
theorem dX12_seatedSet_0 : decode cX12_seatedSet 0 = .ok (.iconst 0, 1) := by decide +kernel
theorem dX12_seatedSet_1 : decode cX12_seatedSet 1 = .ok (.istore_n 1, 1) := by decide +kernel
theorem dX12_seatedSet_2 : decode cX12_seatedSet 2 = .ok (.iconst 0, 1) := by decide +kernel
theorem dX12_seatedSet_3 : decode cX12_seatedSet 3 = .ok (.istore_n 2, 1) := by decide +kernel
theorem dX12_seatedSet_4 : decode cX12_seatedSet 4 = .ok (.iload_n 2, 1) := by decide +kernel
theorem dX12_seatedSet_5 : decode cX12_seatedSet 5 = .ok (.aload_n 0, 1) := by decide +kernel
theorem dX12_seatedSet_6 : decode cX12_seatedSet 6 = .ok (.getfield 180, 3) := by decide +kernel
theorem dX12_seatedSet_9 : decode cX12_seatedSet 9 = .ok (.if_icmp .ge 30, 3) := by decide +kernel
theorem dX12_seatedSet_12 : decode cX12_seatedSet 12 = .ok (.iload_n 1, 1) := by decide +kernel
theorem dX12_seatedSet_13 : decode cX12_seatedSet 13 = .ok (.aload_n 0, 1) := by decide +kernel
theorem dX12_seatedSet_14 : decode cX12_seatedSet 14 = .ok (.getfield 41, 3) := by decide +kernel
theorem dX12_seatedSet_17 : decode cX12_seatedSet 17 = .ok (.iload_n 2, 1) := by decide +kernel
theorem dX12_seatedSet_18 : decode cX12_seatedSet 18 = .ok (.iaload, 1) := by decide +kernel
theorem dX12_seatedSet_19 : decode cX12_seatedSet 19 = .ok (.bipush (-9), 2) := by decide +kernel
theorem dX12_seatedSet_21 : decode cX12_seatedSet 21 = .ok (.if_icmp .ne 7, 3) := by decide +kernel
theorem dX12_seatedSet_24 : decode cX12_seatedSet 24 = .ok (.iconst 0, 1) := by decide +kernel
theorem dX12_seatedSet_25 : decode cX12_seatedSet 25 = .ok (.goto 6, 3) := by decide +kernel
theorem dX12_seatedSet_28 : decode cX12_seatedSet 28 = .ok (.iconst 1, 1) := by decide +kernel
theorem dX12_seatedSet_29 : decode cX12_seatedSet 29 = .ok (.iload_n 2, 1) := by decide +kernel
theorem dX12_seatedSet_30 : decode cX12_seatedSet 30 = .ok (.ishl, 1) := by decide +kernel
theorem dX12_seatedSet_31 : decode cX12_seatedSet 31 = .ok (.ior, 1) := by decide +kernel
theorem dX12_seatedSet_32 : decode cX12_seatedSet 32 = .ok (.istore_n 1, 1) := by decide +kernel
theorem dX12_seatedSet_33 : decode cX12_seatedSet 33 = .ok (.iinc 2 1, 3) := by decide +kernel
theorem dX12_seatedSet_36 : decode cX12_seatedSet 36 = .ok (.goto (-32), 3) := by decide +kernel
theorem dX12_seatedSet_39 : decode cX12_seatedSet 39 = .ok (.iload_n 1, 1) := by decide +kernel
theorem dX12_seatedSet_40 : decode cX12_seatedSet 40 = .ok (.ireturn, 1) := by decide +kernel
theorem dX12_keep_0 : decode cX12_keep 0 = .ok (.iload_n 1, 1) := by decide +kernel
theorem dX12_keep_1 : decode cX12_keep 1 = .ok (.iconst 0, 1) := by decide +kernel
theorem dX12_keep_2 : decode cX12_keep 2 = .ok (.iconst 2, 1) := by decide +kernel
theorem dX12_keep_3 : decode cX12_keep 3 = .ok (.invokestatic 113, 3) := by decide +kernel
theorem dX12_keep_6 : decode cX12_keep 6 = .ok (.ifCond .ne 5, 3) := by decide +kernel
theorem dX12_keep_9 : decode cX12_keep 9 = .ok (.iconst (-1), 1) := by decide +kernel
theorem dX12_keep_10 : decode cX12_keep 10 = .ok (.ireturn, 1) := by decide +kernel
theorem dX12_keep_11 : decode cX12_keep 11 = .ok (.aload_n 0, 1) := by decide +kernel
theorem dX12_keep_12 : decode cX12_keep 12 = .ok (.getfield 177, 3) := by decide +kernel
theorem dX12_keep_15 : decode cX12_keep 15 = .ok (.ifCond .ne 6, 3) := by decide +kernel
theorem dX12_keep_18 : decode cX12_keep 18 = .ok (.bipush (-4), 2) := by decide +kernel
theorem dX12_keep_20 : decode cX12_keep 20 = .ok (.ireturn, 1) := by decide +kernel
theorem dX12_keep_21 : decode cX12_keep 21 = .ok (.iconst 0, 1) := by decide +kernel
theorem dX12_keep_22 : decode cX12_keep 22 = .ok (.istore_n 2, 1) := by decide +kernel
theorem dX12_keep_23 : decode cX12_keep 23 = .ok (.iload_n 2, 1) := by decide +kernel
theorem dX12_keep_24 : decode cX12_keep 24 = .ok (.bipush 7, 2) := by decide +kernel
theorem dX12_keep_26 : decode cX12_keep 26 = .ok (.if_icmp .ge 26, 3) := by decide +kernel
theorem dX12_keep_29 : decode cX12_keep 29 = .ok (.aload_n 0, 1) := by decide +kernel
theorem dX12_keep_30 : decode cX12_keep 30 = .ok (.getfield 72, 3) := by decide +kernel
theorem dX12_keep_33 : decode cX12_keep 33 = .ok (.bipush 7, 2) := by decide +kernel
theorem dX12_keep_35 : decode cX12_keep 35 = .ok (.iload_n 1, 1) := by decide +kernel
theorem dX12_keep_36 : decode cX12_keep 36 = .ok (.imul, 1) := by decide +kernel
theorem dX12_keep_37 : decode cX12_keep 37 = .ok (.iload_n 2, 1) := by decide +kernel
theorem dX12_keep_38 : decode cX12_keep 38 = .ok (.iadd, 1) := by decide +kernel
theorem dX12_keep_39 : decode cX12_keep 39 = .ok (.aload_n 0, 1) := by decide +kernel
theorem dX12_keep_40 : decode cX12_keep 40 = .ok (.getfield 41, 3) := by decide +kernel
theorem dX12_keep_43 : decode cX12_keep 43 = .ok (.iload_n 2, 1) := by decide +kernel
theorem dX12_keep_44 : decode cX12_keep 44 = .ok (.iaload, 1) := by decide +kernel
theorem dX12_keep_45 : decode cX12_keep 45 = .ok (.iastore, 1) := by decide +kernel
theorem dX12_keep_46 : decode cX12_keep 46 = .ok (.iinc 2 1, 3) := by decide +kernel
theorem dX12_keep_49 : decode cX12_keep 49 = .ok (.goto (-26), 3) := by decide +kernel
theorem dX12_keep_52 : decode cX12_keep 52 = .ok (.aload_n 0, 1) := by decide +kernel
theorem dX12_keep_53 : decode cX12_keep 53 = .ok (.getfield 68, 3) := by decide +kernel
theorem dX12_keep_56 : decode cX12_keep 56 = .ok (.iload_n 1, 1) := by decide +kernel
theorem dX12_keep_57 : decode cX12_keep 57 = .ok (.iconst 1, 1) := by decide +kernel
theorem dX12_keep_58 : decode cX12_keep 58 = .ok (.bastore, 1) := by decide +kernel
theorem dX12_keep_59 : decode cX12_keep 59 = .ok (.aload_n 0, 1) := by decide +kernel
theorem dX12_keep_60 : decode cX12_keep 60 = .ok (.invokevirtual 259, 3) := by decide +kernel
theorem dX12_keep_63 : decode cX12_keep 63 = .ok (.ireturn, 1) := by decide +kernel
theorem dX12_on_0 : decode cX12_on 0 = .ok (.iload_n 1, 1) := by decide +kernel
theorem dX12_on_1 : decode cX12_on 1 = .ok (.iconst 0, 1) := by decide +kernel
theorem dX12_on_2 : decode cX12_on 2 = .ok (.iconst 2, 1) := by decide +kernel
theorem dX12_on_3 : decode cX12_on 3 = .ok (.invokestatic 113, 3) := by decide +kernel
theorem dX12_on_6 : decode cX12_on 6 = .ok (.ifCond .ne 5, 3) := by decide +kernel
theorem dX12_on_9 : decode cX12_on 9 = .ok (.iconst (-1), 1) := by decide +kernel
theorem dX12_on_10 : decode cX12_on 10 = .ok (.ireturn, 1) := by decide +kernel
theorem dX12_on_11 : decode cX12_on 11 = .ok (.aload_n 0, 1) := by decide +kernel
theorem dX12_on_12 : decode cX12_on 12 = .ok (.getfield 68, 3) := by decide +kernel
theorem dX12_on_15 : decode cX12_on 15 = .ok (.iload_n 1, 1) := by decide +kernel
theorem dX12_on_16 : decode cX12_on 16 = .ok (.baload, 1) := by decide +kernel
theorem dX12_on_17 : decode cX12_on 17 = .ok (.ifCond .ne 9, 3) := by decide +kernel
theorem dX12_on_20 : decode cX12_on 20 = .ok (.aload_n 0, 1) := by decide +kernel
theorem dX12_on_21 : decode cX12_on 21 = .ok (.iconst 1, 1) := by decide +kernel
theorem dX12_on_22 : decode cX12_on 22 = .ok (.invokevirtual 127, 3) := by decide +kernel
theorem dX12_on_25 : decode cX12_on 25 = .ok (.ireturn, 1) := by decide +kernel
theorem dX12_on_26 : decode cX12_on 26 = .ok (.iconst 0, 1) := by decide +kernel
theorem dX12_on_27 : decode cX12_on 27 = .ok (.istore_n 2, 1) := by decide +kernel
theorem dX12_on_28 : decode cX12_on 28 = .ok (.iload_n 2, 1) := by decide +kernel
theorem dX12_on_29 : decode cX12_on 29 = .ok (.bipush 7, 2) := by decide +kernel
theorem dX12_on_31 : decode cX12_on 31 = .ok (.if_icmp .ge 26, 3) := by decide +kernel
theorem dX12_on_34 : decode cX12_on 34 = .ok (.aload_n 0, 1) := by decide +kernel
theorem dX12_on_35 : decode cX12_on 35 = .ok (.getfield 41, 3) := by decide +kernel
theorem dX12_on_38 : decode cX12_on 38 = .ok (.iload_n 2, 1) := by decide +kernel
theorem dX12_on_39 : decode cX12_on 39 = .ok (.aload_n 0, 1) := by decide +kernel
theorem dX12_on_40 : decode cX12_on 40 = .ok (.getfield 72, 3) := by decide +kernel
theorem dX12_on_43 : decode cX12_on 43 = .ok (.bipush 7, 2) := by decide +kernel
theorem dX12_on_45 : decode cX12_on 45 = .ok (.iload_n 1, 1) := by decide +kernel
theorem dX12_on_46 : decode cX12_on 46 = .ok (.imul, 1) := by decide +kernel
theorem dX12_on_47 : decode cX12_on 47 = .ok (.iload_n 2, 1) := by decide +kernel
theorem dX12_on_48 : decode cX12_on 48 = .ok (.iadd, 1) := by decide +kernel
theorem dX12_on_49 : decode cX12_on 49 = .ok (.iaload, 1) := by decide +kernel
theorem dX12_on_50 : decode cX12_on 50 = .ok (.iastore, 1) := by decide +kernel
theorem dX12_on_51 : decode cX12_on 51 = .ok (.iinc 2 1, 3) := by decide +kernel
theorem dX12_on_54 : decode cX12_on 54 = .ok (.goto (-26), 3) := by decide +kernel
theorem dX12_on_57 : decode cX12_on 57 = .ok (.aload_n 0, 1) := by decide +kernel
theorem dX12_on_58 : decode cX12_on 58 = .ok (.iconst 0, 1) := by decide +kernel
theorem dX12_on_59 : decode cX12_on 59 = .ok (.putfield 186, 3) := by decide +kernel
theorem dX12_on_62 : decode cX12_on 62 = .ok (.aload_n 0, 1) := by decide +kernel
theorem dX12_on_63 : decode cX12_on 63 = .ok (.invokevirtual 259, 3) := by decide +kernel
theorem dX12_on_66 : decode cX12_on 66 = .ok (.ireturn, 1) := by decide +kernel
theorem dX12_list_0 : decode cX12_list 0 = .ok (.iload_n 1, 1) := by decide +kernel
theorem dX12_list_1 : decode cX12_list 1 = .ok (.iconst 0, 1) := by decide +kernel
theorem dX12_list_2 : decode cX12_list 2 = .ok (.iconst 2, 1) := by decide +kernel
theorem dX12_list_3 : decode cX12_list 3 = .ok (.invokestatic 113, 3) := by decide +kernel
theorem dX12_list_6 : decode cX12_list 6 = .ok (.ifCond .ne 5, 3) := by decide +kernel
theorem dX12_list_9 : decode cX12_list 9 = .ok (.iconst (-1), 1) := by decide +kernel
theorem dX12_list_10 : decode cX12_list 10 = .ok (.ireturn, 1) := by decide +kernel
theorem dX12_list_11 : decode cX12_list 11 = .ok (.aload_n 0, 1) := by decide +kernel
theorem dX12_list_12 : decode cX12_list 12 = .ok (.iload_n 1, 1) := by decide +kernel
theorem dX12_list_13 : decode cX12_list 13 = .ok (.aload_n 0, 1) := by decide +kernel
theorem dX12_list_14 : decode cX12_list 14 = .ok (.getfield 235, 3) := by decide +kernel
theorem dX12_list_17 : decode cX12_list 17 = .ok (.invokevirtual 263, 3) := by decide +kernel
theorem dX12_list_20 : decode cX12_list 20 = .ok (.istore_n 2, 1) := by decide +kernel
theorem dX12_list_21 : decode cX12_list 21 = .ok (.aload_n 0, 1) := by decide +kernel
theorem dX12_list_22 : decode cX12_list 22 = .ok (.iload_n 2, 1) := by decide +kernel
theorem dX12_list_23 : decode cX12_list 23 = .ok (.aload_n 0, 1) := by decide +kernel
theorem dX12_list_24 : decode cX12_list 24 = .ok (.iload_n 2, 1) := by decide +kernel
theorem dX12_list_25 : decode cX12_list 25 = .ok (.invokevirtual 266, 3) := by decide +kernel
theorem dX12_list_28 : decode cX12_list 28 = .ok (.ifCond .eq 7, 3) := by decide +kernel
theorem dX12_list_31 : decode cX12_list 31 = .ok (.iconst 1, 1) := by decide +kernel
theorem dX12_list_32 : decode cX12_list 32 = .ok (.goto 4, 3) := by decide +kernel
theorem dX12_list_35 : decode cX12_list 35 = .ok (.iconst 0, 1) := by decide +kernel
theorem dX12_list_36 : decode cX12_list 36 = .ok (.invokevirtual 135, 3) := by decide +kernel
theorem dX12_list_39 : decode cX12_list 39 = .ok (.ireturn, 1) := by decide +kernel
theorem dX12_when_0 : decode cX12_when 0 = .ok (.iconst 0, 1) := by decide +kernel
theorem dX12_when_1 : decode cX12_when 1 = .ok (.istore_n 1, 1) := by decide +kernel
theorem dX12_when_2 : decode cX12_when 2 = .ok (.iload_n 1, 1) := by decide +kernel
theorem dX12_when_3 : decode cX12_when 3 = .ok (.aload_n 0, 1) := by decide +kernel
theorem dX12_when_4 : decode cX12_when 4 = .ok (.getfield 106, 3) := by decide +kernel
theorem dX12_when_7 : decode cX12_when 7 = .ok (.if_icmp .ge 39, 3) := by decide +kernel
theorem dX12_when_10 : decode cX12_when 10 = .ok (.aload_n 0, 1) := by decide +kernel
theorem dX12_when_11 : decode cX12_when 11 = .ok (.aload_n 0, 1) := by decide +kernel
theorem dX12_when_12 : decode cX12_when 12 = .ok (.getfield 44, 3) := by decide +kernel
theorem dX12_when_15 : decode cX12_when 15 = .ok (.iload_n 1, 1) := by decide +kernel
theorem dX12_when_16 : decode cX12_when 16 = .ok (.iaload, 1) := by decide +kernel
theorem dX12_when_17 : decode cX12_when 17 = .ok (.aload_n 0, 1) := by decide +kernel
theorem dX12_when_18 : decode cX12_when 18 = .ok (.getfield 235, 3) := by decide +kernel
theorem dX12_when_21 : decode cX12_when 21 = .ok (.invokevirtual 263, 3) := by decide +kernel
theorem dX12_when_24 : decode cX12_when 24 = .ok (.istore_n 2, 1) := by decide +kernel
theorem dX12_when_25 : decode cX12_when 25 = .ok (.aload_n 0, 1) := by decide +kernel
theorem dX12_when_26 : decode cX12_when 26 = .ok (.iload_n 2, 1) := by decide +kernel
theorem dX12_when_27 : decode cX12_when 27 = .ok (.invokevirtual 266, 3) := by decide +kernel
theorem dX12_when_30 : decode cX12_when 30 = .ok (.ifCond .ne 10, 3) := by decide +kernel
theorem dX12_when_33 : decode cX12_when 33 = .ok (.aload_n 0, 1) := by decide +kernel
theorem dX12_when_34 : decode cX12_when 34 = .ok (.iload_n 2, 1) := by decide +kernel
theorem dX12_when_35 : decode cX12_when 35 = .ok (.iload_n 1, 1) := by decide +kernel
theorem dX12_when_36 : decode cX12_when 36 = .ok (.invokevirtual 135, 3) := by decide +kernel
theorem dX12_when_39 : decode cX12_when 39 = .ok (.ireturn, 1) := by decide +kernel
theorem dX12_when_40 : decode cX12_when 40 = .ok (.iinc 1 1, 3) := by decide +kernel
theorem dX12_when_43 : decode cX12_when 43 = .ok (.goto (-41), 3) := by decide +kernel
theorem dX12_when_46 : decode cX12_when 46 = .ok (.bipush (-9), 2) := by decide +kernel
theorem dX12_when_48 : decode cX12_when 48 = .ok (.ireturn, 1) := by decide +kernel
theorem dX12_minutes_0 : decode cX12_minutes 0 = .ok (.iconst 0, 1) := by decide +kernel
theorem dX12_minutes_1 : decode cX12_minutes 1 = .ok (.istore_n 1, 1) := by decide +kernel
theorem dX12_minutes_2 : decode cX12_minutes 2 = .ok (.iconst 0, 1) := by decide +kernel
theorem dX12_minutes_3 : decode cX12_minutes 3 = .ok (.istore_n 2, 1) := by decide +kernel
theorem dX12_minutes_4 : decode cX12_minutes 4 = .ok (.iload_n 2, 1) := by decide +kernel
theorem dX12_minutes_5 : decode cX12_minutes 5 = .ok (.aload_n 0, 1) := by decide +kernel
theorem dX12_minutes_6 : decode cX12_minutes 6 = .ok (.getfield 106, 3) := by decide +kernel
theorem dX12_minutes_9 : decode cX12_minutes 9 = .ok (.if_icmp .ge 38, 3) := by decide +kernel
theorem dX12_minutes_12 : decode cX12_minutes 12 = .ok (.iload_n 1, 1) := by decide +kernel
theorem dX12_minutes_13 : decode cX12_minutes 13 = .ok (.aload_n 0, 1) := by decide +kernel
theorem dX12_minutes_14 : decode cX12_minutes 14 = .ok (.aload_n 0, 1) := by decide +kernel
theorem dX12_minutes_15 : decode cX12_minutes 15 = .ok (.aload_n 0, 1) := by decide +kernel
theorem dX12_minutes_16 : decode cX12_minutes 16 = .ok (.getfield 44, 3) := by decide +kernel
theorem dX12_minutes_19 : decode cX12_minutes 19 = .ok (.iload_n 2, 1) := by decide +kernel
theorem dX12_minutes_20 : decode cX12_minutes 20 = .ok (.iaload, 1) := by decide +kernel
theorem dX12_minutes_21 : decode cX12_minutes 21 = .ok (.aload_n 0, 1) := by decide +kernel
theorem dX12_minutes_22 : decode cX12_minutes 22 = .ok (.getfield 235, 3) := by decide +kernel
theorem dX12_minutes_25 : decode cX12_minutes 25 = .ok (.invokevirtual 263, 3) := by decide +kernel
theorem dX12_minutes_28 : decode cX12_minutes 28 = .ok (.invokevirtual 266, 3) := by decide +kernel
theorem dX12_minutes_31 : decode cX12_minutes 31 = .ok (.ifCond .eq 7, 3) := by decide +kernel
theorem dX12_minutes_34 : decode cX12_minutes 34 = .ok (.iconst 1, 1) := by decide +kernel
theorem dX12_minutes_35 : decode cX12_minutes 35 = .ok (.goto 4, 3) := by decide +kernel
theorem dX12_minutes_38 : decode cX12_minutes 38 = .ok (.iconst 0, 1) := by decide +kernel
theorem dX12_minutes_39 : decode cX12_minutes 39 = .ok (.iadd, 1) := by decide +kernel
theorem dX12_minutes_40 : decode cX12_minutes 40 = .ok (.istore_n 1, 1) := by decide +kernel
theorem dX12_minutes_41 : decode cX12_minutes 41 = .ok (.iinc 2 1, 3) := by decide +kernel
theorem dX12_minutes_44 : decode cX12_minutes 44 = .ok (.goto (-40), 3) := by decide +kernel
theorem dX12_minutes_47 : decode cX12_minutes 47 = .ok (.aload_n 0, 1) := by decide +kernel
theorem dX12_minutes_48 : decode cX12_minutes 48 = .ok (.iload_n 1, 1) := by decide +kernel
theorem dX12_minutes_49 : decode cX12_minutes 49 = .ok (.aload_n 0, 1) := by decide +kernel
theorem dX12_minutes_50 : decode cX12_minutes 50 = .ok (.getfield 106, 3) := by decide +kernel
theorem dX12_minutes_53 : decode cX12_minutes 53 = .ok (.iload_n 1, 1) := by decide +kernel
theorem dX12_minutes_54 : decode cX12_minutes 54 = .ok (.invokevirtual 269, 3) := by decide +kernel
theorem dX12_minutes_57 : decode cX12_minutes 57 = .ok (.ireturn, 1) := by decide +kernel
theorem dX12_worstNow_0 : decode cX12_worstNow 0 = .ok (.iconst (-1), 1) := by decide +kernel
theorem dX12_worstNow_1 : decode cX12_worstNow 1 = .ok (.istore_n 1, 1) := by decide +kernel
theorem dX12_worstNow_2 : decode cX12_worstNow 2 = .ok (.iconst 0, 1) := by decide +kernel
theorem dX12_worstNow_3 : decode cX12_worstNow 3 = .ok (.istore_n 2, 1) := by decide +kernel
theorem dX12_worstNow_4 : decode cX12_worstNow 4 = .ok (.iload_n 2, 1) := by decide +kernel
theorem dX12_worstNow_5 : decode cX12_worstNow 5 = .ok (.aload_n 0, 1) := by decide +kernel
theorem dX12_worstNow_6 : decode cX12_worstNow 6 = .ok (.getfield 106, 3) := by decide +kernel
theorem dX12_worstNow_9 : decode cX12_worstNow 9 = .ok (.if_icmp .ge 50, 3) := by decide +kernel
theorem dX12_worstNow_12 : decode cX12_worstNow 12 = .ok (.aload_n 0, 1) := by decide +kernel
theorem dX12_worstNow_13 : decode cX12_worstNow 13 = .ok (.aload_n 0, 1) := by decide +kernel
theorem dX12_worstNow_14 : decode cX12_worstNow 14 = .ok (.getfield 44, 3) := by decide +kernel
theorem dX12_worstNow_17 : decode cX12_worstNow 17 = .ok (.iload_n 2, 1) := by decide +kernel
theorem dX12_worstNow_18 : decode cX12_worstNow 18 = .ok (.iaload, 1) := by decide +kernel
theorem dX12_worstNow_19 : decode cX12_worstNow 19 = .ok (.aload_n 0, 1) := by decide +kernel
theorem dX12_worstNow_20 : decode cX12_worstNow 20 = .ok (.getfield 235, 3) := by decide +kernel
theorem dX12_worstNow_23 : decode cX12_worstNow 23 = .ok (.invokevirtual 263, 3) := by decide +kernel
theorem dX12_worstNow_26 : decode cX12_worstNow 26 = .ok (.invokestatic 189, 3) := by decide +kernel
theorem dX12_worstNow_29 : decode cX12_worstNow 29 = .ok (.istore_n 3, 1) := by decide +kernel
theorem dX12_worstNow_30 : decode cX12_worstNow 30 = .ok (.aload_n 0, 1) := by decide +kernel
theorem dX12_worstNow_31 : decode cX12_worstNow 31 = .ok (.iload_n 3, 1) := by decide +kernel
theorem dX12_worstNow_32 : decode cX12_worstNow 32 = .ok (.iload_n 1, 1) := by decide +kernel
theorem dX12_worstNow_33 : decode cX12_worstNow 33 = .ok (.if_icmp .le 7, 3) := by decide +kernel
theorem dX12_worstNow_36 : decode cX12_worstNow 36 = .ok (.iload_n 2, 1) := by decide +kernel
theorem dX12_worstNow_37 : decode cX12_worstNow 37 = .ok (.goto 7, 3) := by decide +kernel
theorem dX12_worstNow_40 : decode cX12_worstNow 40 = .ok (.aload_n 0, 1) := by decide +kernel
theorem dX12_worstNow_41 : decode cX12_worstNow 41 = .ok (.getfield 272, 3) := by decide +kernel
theorem dX12_worstNow_44 : decode cX12_worstNow 44 = .ok (.putfield 272, 3) := by decide +kernel
theorem dX12_worstNow_47 : decode cX12_worstNow 47 = .ok (.iload_n 1, 1) := by decide +kernel
theorem dX12_worstNow_48 : decode cX12_worstNow 48 = .ok (.iload_n 3, 1) := by decide +kernel
theorem dX12_worstNow_49 : decode cX12_worstNow 49 = .ok (.invokestatic 192, 3) := by decide +kernel
theorem dX12_worstNow_52 : decode cX12_worstNow 52 = .ok (.istore_n 1, 1) := by decide +kernel
theorem dX12_worstNow_53 : decode cX12_worstNow 53 = .ok (.iinc 2 1, 3) := by decide +kernel
theorem dX12_worstNow_56 : decode cX12_worstNow 56 = .ok (.goto (-52), 3) := by decide +kernel
theorem dX12_worstNow_59 : decode cX12_worstNow 59 = .ok (.iload_n 1, 1) := by decide +kernel
theorem dX12_worstNow_60 : decode cX12_worstNow 60 = .ok (.ireturn, 1) := by decide +kernel
theorem dX12_worst_0 : decode cX12_worst 0 = .ok (.aload_n 0, 1) := by decide +kernel
theorem dX12_worst_1 : decode cX12_worst 1 = .ok (.invokevirtual 275, 3) := by decide +kernel
theorem dX12_worst_4 : decode cX12_worst 4 = .ok (.istore_n 1, 1) := by decide +kernel
theorem dX12_worst_5 : decode cX12_worst 5 = .ok (.aload_n 0, 1) := by decide +kernel
theorem dX12_worst_6 : decode cX12_worst 6 = .ok (.aload_n 0, 1) := by decide +kernel
theorem dX12_worst_7 : decode cX12_worst 7 = .ok (.getfield 272, 3) := by decide +kernel
theorem dX12_worst_10 : decode cX12_worst 10 = .ok (.iload_n 1, 1) := by decide +kernel
theorem dX12_worst_11 : decode cX12_worst 11 = .ok (.invokevirtual 135, 3) := by decide +kernel
theorem dX12_worst_14 : decode cX12_worst 14 = .ok (.ireturn, 1) := by decide +kernel
theorem dX12_need_0 : decode cX12_need 0 = .ok (.aload_n 0, 1) := by decide +kernel
theorem dX12_need_1 : decode cX12_need 1 = .ok (.invokevirtual 275, 3) := by decide +kernel
theorem dX12_need_4 : decode cX12_need 4 = .ok (.istore_n 1, 1) := by decide +kernel
theorem dX12_need_5 : decode cX12_need 5 = .ok (.iload_n 1, 1) := by decide +kernel
theorem dX12_need_6 : decode cX12_need 6 = .ok (.sipush 999, 3) := by decide +kernel
theorem dX12_need_9 : decode cX12_need 9 = .ok (.if_icmp .le 8, 3) := by decide +kernel
theorem dX12_need_12 : decode cX12_need 12 = .ok (.bipush (-9), 2) := by decide +kernel
theorem dX12_need_14 : decode cX12_need 14 = .ok (.goto 4, 3) := by decide +kernel
theorem dX12_need_17 : decode cX12_need 17 = .ok (.iload_n 1, 1) := by decide +kernel
theorem dX12_need_18 : decode cX12_need 18 = .ok (.ireturn, 1) := by decide +kernel
theorem dX12_meetsSeating_0 : decode cX12_meetsSeating 0 = .ok (.aload_n 0, 1) := by decide +kernel
theorem dX12_meetsSeating_1 : decode cX12_meetsSeating 1 = .ok (.invokevirtual 275, 3) := by decide +kernel
theorem dX12_meetsSeating_4 : decode cX12_meetsSeating 4 = .ok (.istore_n 1, 1) := by decide +kernel
theorem dX12_meetsSeating_5 : decode cX12_meetsSeating 5 = .ok (.aload_n 0, 1) := by decide +kernel
theorem dX12_meetsSeating_6 : decode cX12_meetsSeating 6 = .ok (.dup, 1) := by decide +kernel
theorem dX12_meetsSeating_7 : decode cX12_meetsSeating 7 = .ok (.getfield 278, 3) := by decide +kernel
theorem dX12_meetsSeating_10 : decode cX12_meetsSeating 10 = .ok (.iconst 1, 1) := by decide +kernel
theorem dX12_meetsSeating_11 : decode cX12_meetsSeating 11 = .ok (.iadd, 1) := by decide +kernel
theorem dX12_meetsSeating_12 : decode cX12_meetsSeating 12 = .ok (.putfield 278, 3) := by decide +kernel
theorem dX12_meetsSeating_15 : decode cX12_meetsSeating 15 = .ok (.aload_n 0, 1) := by decide +kernel
theorem dX12_meetsSeating_16 : decode cX12_meetsSeating 16 = .ok (.getfield 281, 3) := by decide +kernel
theorem dX12_meetsSeating_19 : decode cX12_meetsSeating 19 = .ok (.ifCond .lt 11, 3) := by decide +kernel
theorem dX12_meetsSeating_22 : decode cX12_meetsSeating 22 = .ok (.iload_n 1, 1) := by decide +kernel
theorem dX12_meetsSeating_23 : decode cX12_meetsSeating 23 = .ok (.aload_n 0, 1) := by decide +kernel
theorem dX12_meetsSeating_24 : decode cX12_meetsSeating 24 = .ok (.getfield 281, 3) := by decide +kernel
theorem dX12_meetsSeating_27 : decode cX12_meetsSeating 27 = .ok (.if_icmp .ge 36, 3) := by decide +kernel
theorem dX12_meetsSeating_30 : decode cX12_meetsSeating 30 = .ok (.aload_n 0, 1) := by decide +kernel
theorem dX12_meetsSeating_31 : decode cX12_meetsSeating 31 = .ok (.iload_n 1, 1) := by decide +kernel
theorem dX12_meetsSeating_32 : decode cX12_meetsSeating 32 = .ok (.putfield 281, 3) := by decide +kernel
theorem dX12_meetsSeating_35 : decode cX12_meetsSeating 35 = .ok (.iconst 0, 1) := by decide +kernel
theorem dX12_meetsSeating_36 : decode cX12_meetsSeating 36 = .ok (.istore_n 2, 1) := by decide +kernel
theorem dX12_meetsSeating_37 : decode cX12_meetsSeating 37 = .ok (.iload_n 2, 1) := by decide +kernel
theorem dX12_meetsSeating_38 : decode cX12_meetsSeating 38 = .ok (.aload_n 0, 1) := by decide +kernel
theorem dX12_meetsSeating_39 : decode cX12_meetsSeating 39 = .ok (.getfield 180, 3) := by decide +kernel
theorem dX12_meetsSeating_42 : decode cX12_meetsSeating 42 = .ok (.if_icmp .ge 21, 3) := by decide +kernel
theorem dX12_meetsSeating_45 : decode cX12_meetsSeating 45 = .ok (.aload_n 0, 1) := by decide +kernel
theorem dX12_meetsSeating_46 : decode cX12_meetsSeating 46 = .ok (.getfield 75, 3) := by decide +kernel
theorem dX12_meetsSeating_49 : decode cX12_meetsSeating 49 = .ok (.iload_n 2, 1) := by decide +kernel
theorem dX12_meetsSeating_50 : decode cX12_meetsSeating 50 = .ok (.aload_n 0, 1) := by decide +kernel
theorem dX12_meetsSeating_51 : decode cX12_meetsSeating 51 = .ok (.getfield 41, 3) := by decide +kernel
theorem dX12_meetsSeating_54 : decode cX12_meetsSeating 54 = .ok (.iload_n 2, 1) := by decide +kernel
theorem dX12_meetsSeating_55 : decode cX12_meetsSeating 55 = .ok (.iaload, 1) := by decide +kernel
theorem dX12_meetsSeating_56 : decode cX12_meetsSeating 56 = .ok (.iastore, 1) := by decide +kernel
theorem dX12_meetsSeating_57 : decode cX12_meetsSeating 57 = .ok (.iinc 2 1, 3) := by decide +kernel
theorem dX12_meetsSeating_60 : decode cX12_meetsSeating 60 = .ok (.goto (-23), 3) := by decide +kernel
theorem dX12_meetsSeating_63 : decode cX12_meetsSeating 63 = .ok (.iload_n 1, 1) := by decide +kernel
theorem dX12_meetsSeating_64 : decode cX12_meetsSeating 64 = .ok (.aload_n 0, 1) := by decide +kernel
theorem dX12_meetsSeating_65 : decode cX12_meetsSeating 65 = .ok (.getfield 205, 3) := by decide +kernel
theorem dX12_meetsSeating_68 : decode cX12_meetsSeating 68 = .ok (.if_icmp .gt 46, 3) := by decide +kernel
theorem dX12_meetsSeating_71 : decode cX12_meetsSeating 71 = .ok (.aload_n 0, 1) := by decide +kernel
theorem dX12_meetsSeating_72 : decode cX12_meetsSeating 72 = .ok (.dup, 1) := by decide +kernel
theorem dX12_meetsSeating_73 : decode cX12_meetsSeating 73 = .ok (.getfield 284, 3) := by decide +kernel
theorem dX12_meetsSeating_76 : decode cX12_meetsSeating 76 = .ok (.iconst 1, 1) := by decide +kernel
theorem dX12_meetsSeating_77 : decode cX12_meetsSeating 77 = .ok (.iadd, 1) := by decide +kernel
theorem dX12_meetsSeating_78 : decode cX12_meetsSeating 78 = .ok (.putfield 284, 3) := by decide +kernel
theorem dX12_meetsSeating_81 : decode cX12_meetsSeating 81 = .ok (.iconst 0, 1) := by decide +kernel
theorem dX12_meetsSeating_82 : decode cX12_meetsSeating 82 = .ok (.istore_n 2, 1) := by decide +kernel
theorem dX12_meetsSeating_83 : decode cX12_meetsSeating 83 = .ok (.iload_n 2, 1) := by decide +kernel
theorem dX12_meetsSeating_84 : decode cX12_meetsSeating 84 = .ok (.aload_n 0, 1) := by decide +kernel
theorem dX12_meetsSeating_85 : decode cX12_meetsSeating 85 = .ok (.getfield 180, 3) := by decide +kernel
theorem dX12_meetsSeating_88 : decode cX12_meetsSeating 88 = .ok (.if_icmp .ge 26, 3) := by decide +kernel
theorem dX12_meetsSeating_91 : decode cX12_meetsSeating 91 = .ok (.aload_n 0, 1) := by decide +kernel
theorem dX12_meetsSeating_92 : decode cX12_meetsSeating 92 = .ok (.getfield 78, 3) := by decide +kernel
theorem dX12_meetsSeating_95 : decode cX12_meetsSeating 95 = .ok (.iload_n 2, 1) := by decide +kernel
theorem dX12_meetsSeating_96 : decode cX12_meetsSeating 96 = .ok (.dup2, 1) := by decide +kernel
theorem dX12_meetsSeating_97 : decode cX12_meetsSeating 97 = .ok (.iaload, 1) := by decide +kernel
theorem dX12_meetsSeating_98 : decode cX12_meetsSeating 98 = .ok (.iconst 1, 1) := by decide +kernel
theorem dX12_meetsSeating_99 : decode cX12_meetsSeating 99 = .ok (.aload_n 0, 1) := by decide +kernel
theorem dX12_meetsSeating_100 : decode cX12_meetsSeating 100 = .ok (.getfield 41, 3) := by decide +kernel
theorem dX12_meetsSeating_103 : decode cX12_meetsSeating 103 = .ok (.iload_n 2, 1) := by decide +kernel
theorem dX12_meetsSeating_104 : decode cX12_meetsSeating 104 = .ok (.iaload, 1) := by decide +kernel
theorem dX12_meetsSeating_105 : decode cX12_meetsSeating 105 = .ok (.ishl, 1) := by decide +kernel
theorem dX12_meetsSeating_106 : decode cX12_meetsSeating 106 = .ok (.ior, 1) := by decide +kernel
theorem dX12_meetsSeating_107 : decode cX12_meetsSeating 107 = .ok (.iastore, 1) := by decide +kernel
theorem dX12_meetsSeating_108 : decode cX12_meetsSeating 108 = .ok (.iinc 2 1, 3) := by decide +kernel
theorem dX12_meetsSeating_111 : decode cX12_meetsSeating 111 = .ok (.goto (-28), 3) := by decide +kernel
theorem dX12_meetsSeating_114 : decode cX12_meetsSeating 114 = .ok (.return_, 1) := by decide +kernel
theorem dX12_laySeatings_0 : decode cX12_laySeatings 0 = .ok (.iload_n 1, 1) := by decide +kernel
theorem dX12_laySeatings_1 : decode cX12_laySeatings 1 = .ok (.aload_n 0, 1) := by decide +kernel
theorem dX12_laySeatings_2 : decode cX12_laySeatings 2 = .ok (.getfield 180, 3) := by decide +kernel
theorem dX12_laySeatings_5 : decode cX12_laySeatings 5 = .ok (.if_icmp .ne 10, 3) := by decide +kernel
theorem dX12_laySeatings_8 : decode cX12_laySeatings 8 = .ok (.aload_n 0, 1) := by decide +kernel
theorem dX12_laySeatings_9 : decode cX12_laySeatings 9 = .ok (.invokevirtual 287, 3) := by decide +kernel
theorem dX12_laySeatings_12 : decode cX12_laySeatings 12 = .ok (.goto 64, 3) := by decide +kernel
theorem dX12_laySeatings_15 : decode cX12_laySeatings 15 = .ok (.aload_n 0, 1) := by decide +kernel
theorem dX12_laySeatings_16 : decode cX12_laySeatings 16 = .ok (.getfield 41, 3) := by decide +kernel
theorem dX12_laySeatings_19 : decode cX12_laySeatings 19 = .ok (.iload_n 1, 1) := by decide +kernel
theorem dX12_laySeatings_20 : decode cX12_laySeatings 20 = .ok (.iaload, 1) := by decide +kernel
theorem dX12_laySeatings_21 : decode cX12_laySeatings 21 = .ok (.bipush (-9), 2) := by decide +kernel
theorem dX12_laySeatings_23 : decode cX12_laySeatings 23 = .ok (.if_icmp .eq 13, 3) := by decide +kernel
theorem dX12_laySeatings_26 : decode cX12_laySeatings 26 = .ok (.aload_n 0, 1) := by decide +kernel
theorem dX12_laySeatings_27 : decode cX12_laySeatings 27 = .ok (.iload_n 1, 1) := by decide +kernel
theorem dX12_laySeatings_28 : decode cX12_laySeatings 28 = .ok (.iconst 1, 1) := by decide +kernel
theorem dX12_laySeatings_29 : decode cX12_laySeatings 29 = .ok (.iadd, 1) := by decide +kernel
theorem dX12_laySeatings_30 : decode cX12_laySeatings 30 = .ok (.invokevirtual 290, 3) := by decide +kernel
theorem dX12_laySeatings_33 : decode cX12_laySeatings 33 = .ok (.goto 43, 3) := by decide +kernel
theorem dX12_laySeatings_36 : decode cX12_laySeatings 36 = .ok (.iconst 0, 1) := by decide +kernel
theorem dX12_laySeatings_37 : decode cX12_laySeatings 37 = .ok (.istore_n 2, 1) := by decide +kernel
theorem dX12_laySeatings_38 : decode cX12_laySeatings 38 = .ok (.iload_n 2, 1) := by decide +kernel
theorem dX12_laySeatings_39 : decode cX12_laySeatings 39 = .ok (.aload_n 0, 1) := by decide +kernel
theorem dX12_laySeatings_40 : decode cX12_laySeatings 40 = .ok (.getfield 177, 3) := by decide +kernel
theorem dX12_laySeatings_43 : decode cX12_laySeatings 43 = .ok (.if_icmp .ge 33, 3) := by decide +kernel
theorem dX12_laySeatings_46 : decode cX12_laySeatings 46 = .ok (.aload_n 0, 1) := by decide +kernel
theorem dX12_laySeatings_47 : decode cX12_laySeatings 47 = .ok (.iload_n 1, 1) := by decide +kernel
theorem dX12_laySeatings_48 : decode cX12_laySeatings 48 = .ok (.iload_n 2, 1) := by decide +kernel
theorem dX12_laySeatings_49 : decode cX12_laySeatings 49 = .ok (.invokevirtual 244, 3) := by decide +kernel
theorem dX12_laySeatings_52 : decode cX12_laySeatings 52 = .ok (.ifCond .eq 18, 3) := by decide +kernel
theorem dX12_laySeatings_55 : decode cX12_laySeatings 55 = .ok (.aload_n 0, 1) := by decide +kernel
theorem dX12_laySeatings_56 : decode cX12_laySeatings 56 = .ok (.iload_n 1, 1) := by decide +kernel
theorem dX12_laySeatings_57 : decode cX12_laySeatings 57 = .ok (.iconst 1, 1) := by decide +kernel
theorem dX12_laySeatings_58 : decode cX12_laySeatings 58 = .ok (.iadd, 1) := by decide +kernel
theorem dX12_laySeatings_59 : decode cX12_laySeatings 59 = .ok (.invokevirtual 290, 3) := by decide +kernel
theorem dX12_laySeatings_62 : decode cX12_laySeatings 62 = .ok (.aload_n 0, 1) := by decide +kernel
theorem dX12_laySeatings_63 : decode cX12_laySeatings 63 = .ok (.getfield 41, 3) := by decide +kernel
theorem dX12_laySeatings_66 : decode cX12_laySeatings 66 = .ok (.iload_n 1, 1) := by decide +kernel
theorem dX12_laySeatings_67 : decode cX12_laySeatings 67 = .ok (.bipush (-9), 2) := by decide +kernel
theorem dX12_laySeatings_69 : decode cX12_laySeatings 69 = .ok (.iastore, 1) := by decide +kernel
theorem dX12_laySeatings_70 : decode cX12_laySeatings 70 = .ok (.iinc 2 1, 3) := by decide +kernel
theorem dX12_laySeatings_73 : decode cX12_laySeatings 73 = .ok (.goto (-35), 3) := by decide +kernel
theorem dX12_laySeatings_76 : decode cX12_laySeatings 76 = .ok (.return_, 1) := by decide +kernel
theorem dX12_needSeatings_0 : decode cX12_needSeatings 0 = .ok (.iload_n 1, 1) := by decide +kernel
theorem dX12_needSeatings_1 : decode cX12_needSeatings 1 = .ok (.ifCond .ne 5, 3) := by decide +kernel
theorem dX12_needSeatings_4 : decode cX12_needSeatings 4 = .ok (.iconst (-1), 1) := by decide +kernel
theorem dX12_needSeatings_5 : decode cX12_needSeatings 5 = .ok (.ireturn, 1) := by decide +kernel
theorem dX12_needSeatings_6 : decode cX12_needSeatings 6 = .ok (.aload_n 0, 1) := by decide +kernel
theorem dX12_needSeatings_7 : decode cX12_needSeatings 7 = .ok (.getfield 177, 3) := by decide +kernel
theorem dX12_needSeatings_10 : decode cX12_needSeatings 10 = .ok (.ifCond .ne 6, 3) := by decide +kernel
theorem dX12_needSeatings_13 : decode cX12_needSeatings 13 = .ok (.bipush (-4), 2) := by decide +kernel
theorem dX12_needSeatings_15 : decode cX12_needSeatings 15 = .ok (.ireturn, 1) := by decide +kernel
theorem dX12_needSeatings_16 : decode cX12_needSeatings 16 = .ok (.aload_n 0, 1) := by decide +kernel
theorem dX12_needSeatings_17 : decode cX12_needSeatings 17 = .ok (.getfield 180, 3) := by decide +kernel
theorem dX12_needSeatings_20 : decode cX12_needSeatings 20 = .ok (.aload_n 0, 1) := by decide +kernel
theorem dX12_needSeatings_21 : decode cX12_needSeatings 21 = .ok (.invokevirtual 259, 3) := by decide +kernel
theorem dX12_needSeatings_24 : decode cX12_needSeatings 24 = .ok (.isub, 1) := by decide +kernel
theorem dX12_needSeatings_25 : decode cX12_needSeatings 25 = .ok (.iconst 5, 1) := by decide +kernel
theorem dX12_needSeatings_26 : decode cX12_needSeatings 26 = .ok (.if_icmp .le 6, 3) := by decide +kernel
theorem dX12_needSeatings_29 : decode cX12_needSeatings 29 = .ok (.bipush (-6), 2) := by decide +kernel
theorem dX12_needSeatings_31 : decode cX12_needSeatings 31 = .ok (.ireturn, 1) := by decide +kernel
theorem dX12_needSeatings_32 : decode cX12_needSeatings 32 = .ok (.aload_n 0, 1) := by decide +kernel
theorem dX12_needSeatings_33 : decode cX12_needSeatings 33 = .ok (.iconst 0, 1) := by decide +kernel
theorem dX12_needSeatings_34 : decode cX12_needSeatings 34 = .ok (.putfield 278, 3) := by decide +kernel
theorem dX12_needSeatings_37 : decode cX12_needSeatings 37 = .ok (.aload_n 0, 1) := by decide +kernel
theorem dX12_needSeatings_38 : decode cX12_needSeatings 38 = .ok (.iconst 0, 1) := by decide +kernel
theorem dX12_needSeatings_39 : decode cX12_needSeatings 39 = .ok (.putfield 284, 3) := by decide +kernel
theorem dX12_needSeatings_42 : decode cX12_needSeatings 42 = .ok (.aload_n 0, 1) := by decide +kernel
theorem dX12_needSeatings_43 : decode cX12_needSeatings 43 = .ok (.iconst (-1), 1) := by decide +kernel
theorem dX12_needSeatings_44 : decode cX12_needSeatings 44 = .ok (.putfield 281, 3) := by decide +kernel
theorem dX12_needSeatings_47 : decode cX12_needSeatings 47 = .ok (.iconst 0, 1) := by decide +kernel
theorem dX12_needSeatings_48 : decode cX12_needSeatings 48 = .ok (.istore_n 2, 1) := by decide +kernel
theorem dX12_needSeatings_49 : decode cX12_needSeatings 49 = .ok (.iload_n 2, 1) := by decide +kernel
theorem dX12_needSeatings_50 : decode cX12_needSeatings 50 = .ok (.bipush 7, 2) := by decide +kernel
theorem dX12_needSeatings_52 : decode cX12_needSeatings 52 = .ok (.if_icmp .ge 16, 3) := by decide +kernel
theorem dX12_needSeatings_55 : decode cX12_needSeatings 55 = .ok (.aload_n 0, 1) := by decide +kernel
theorem dX12_needSeatings_56 : decode cX12_needSeatings 56 = .ok (.getfield 78, 3) := by decide +kernel
theorem dX12_needSeatings_59 : decode cX12_needSeatings 59 = .ok (.iload_n 2, 1) := by decide +kernel
theorem dX12_needSeatings_60 : decode cX12_needSeatings 60 = .ok (.iconst 0, 1) := by decide +kernel
theorem dX12_needSeatings_61 : decode cX12_needSeatings 61 = .ok (.iastore, 1) := by decide +kernel
theorem dX12_needSeatings_62 : decode cX12_needSeatings 62 = .ok (.iinc 2 1, 3) := by decide +kernel
theorem dX12_needSeatings_65 : decode cX12_needSeatings 65 = .ok (.goto (-16), 3) := by decide +kernel
theorem dX12_needSeatings_68 : decode cX12_needSeatings 68 = .ok (.aload_n 0, 1) := by decide +kernel
theorem dX12_needSeatings_69 : decode cX12_needSeatings 69 = .ok (.iconst 0, 1) := by decide +kernel
theorem dX12_needSeatings_70 : decode cX12_needSeatings 70 = .ok (.invokevirtual 290, 3) := by decide +kernel
theorem dX12_needSeatings_73 : decode cX12_needSeatings 73 = .ok (.iconst 0, 1) := by decide +kernel
theorem dX12_needSeatings_74 : decode cX12_needSeatings 74 = .ok (.ireturn, 1) := by decide +kernel
theorem dX12_best_0 : decode cX12_best 0 = .ok (.aload_n 0, 1) := by decide +kernel
theorem dX12_best_1 : decode cX12_best 1 = .ok (.iload_n 1, 1) := by decide +kernel
theorem dX12_best_2 : decode cX12_best 2 = .ok (.invokestatic 123, 3) := by decide +kernel
theorem dX12_best_5 : decode cX12_best 5 = .ok (.invokevirtual 293, 3) := by decide +kernel
theorem dX12_best_8 : decode cX12_best 8 = .ok (.istore_n 2, 1) := by decide +kernel
theorem dX12_best_9 : decode cX12_best 9 = .ok (.iload_n 2, 1) := by decide +kernel
theorem dX12_best_10 : decode cX12_best 10 = .ok (.ifCond .ge 5, 3) := by decide +kernel
theorem dX12_best_13 : decode cX12_best 13 = .ok (.iload_n 2, 1) := by decide +kernel
theorem dX12_best_14 : decode cX12_best 14 = .ok (.ireturn, 1) := by decide +kernel
theorem dX12_best_15 : decode cX12_best 15 = .ok (.aload_n 0, 1) := by decide +kernel
theorem dX12_best_16 : decode cX12_best 16 = .ok (.getfield 278, 3) := by decide +kernel
theorem dX12_best_19 : decode cX12_best 19 = .ok (.ifCond .ne 6, 3) := by decide +kernel
theorem dX12_best_22 : decode cX12_best 22 = .ok (.bipush (-9), 2) := by decide +kernel
theorem dX12_best_24 : decode cX12_best 24 = .ok (.ireturn, 1) := by decide +kernel
theorem dX12_best_25 : decode cX12_best 25 = .ok (.aload_n 0, 1) := by decide +kernel
theorem dX12_best_26 : decode cX12_best 26 = .ok (.getfield 13, 3) := by decide +kernel
theorem dX12_best_29 : decode cX12_best 29 = .ok (.iload_n 1, 1) := by decide +kernel
theorem dX12_best_30 : decode cX12_best 30 = .ok (.aload_n 0, 1) := by decide +kernel
theorem dX12_best_31 : decode cX12_best 31 = .ok (.getfield 180, 3) := by decide +kernel
theorem dX12_best_34 : decode cX12_best 34 = .ok (.iastore, 1) := by decide +kernel
theorem dX12_best_35 : decode cX12_best 35 = .ok (.iconst 0, 1) := by decide +kernel
theorem dX12_best_36 : decode cX12_best 36 = .ok (.istore_n 3, 1) := by decide +kernel
theorem dX12_best_37 : decode cX12_best 37 = .ok (.iload_n 3, 1) := by decide +kernel
theorem dX12_best_38 : decode cX12_best 38 = .ok (.bipush 60, 2) := by decide +kernel
theorem dX12_best_40 : decode cX12_best 40 = .ok (.if_icmp .ge 38, 3) := by decide +kernel
theorem dX12_best_43 : decode cX12_best 43 = .ok (.aload_n 0, 1) := by decide +kernel
theorem dX12_best_44 : decode cX12_best 44 = .ok (.getfield 16, 3) := by decide +kernel
theorem dX12_best_47 : decode cX12_best 47 = .ok (.bipush 60, 2) := by decide +kernel
theorem dX12_best_49 : decode cX12_best 49 = .ok (.iload_n 1, 1) := by decide +kernel
theorem dX12_best_50 : decode cX12_best 50 = .ok (.imul, 1) := by decide +kernel
theorem dX12_best_51 : decode cX12_best 51 = .ok (.iload_n 3, 1) := by decide +kernel
theorem dX12_best_52 : decode cX12_best 52 = .ok (.iadd, 1) := by decide +kernel
theorem dX12_best_53 : decode cX12_best 53 = .ok (.iload_n 3, 1) := by decide +kernel
theorem dX12_best_54 : decode cX12_best 54 = .ok (.aload_n 0, 1) := by decide +kernel
theorem dX12_best_55 : decode cX12_best 55 = .ok (.getfield 180, 3) := by decide +kernel
theorem dX12_best_58 : decode cX12_best 58 = .ok (.if_icmp .ge 12, 3) := by decide +kernel
theorem dX12_best_61 : decode cX12_best 61 = .ok (.aload_n 0, 1) := by decide +kernel
theorem dX12_best_62 : decode cX12_best 62 = .ok (.getfield 75, 3) := by decide +kernel
theorem dX12_best_65 : decode cX12_best 65 = .ok (.iload_n 3, 1) := by decide +kernel
theorem dX12_best_66 : decode cX12_best 66 = .ok (.iaload, 1) := by decide +kernel
theorem dX12_best_67 : decode cX12_best 67 = .ok (.goto 4, 3) := by decide +kernel
theorem dX12_best_70 : decode cX12_best 70 = .ok (.iconst 0, 1) := by decide +kernel
theorem dX12_best_71 : decode cX12_best 71 = .ok (.iastore, 1) := by decide +kernel
theorem dX12_best_72 : decode cX12_best 72 = .ok (.iinc 3 1, 3) := by decide +kernel
theorem dX12_best_75 : decode cX12_best 75 = .ok (.goto (-38), 3) := by decide +kernel
theorem dX12_best_78 : decode cX12_best 78 = .ok (.aload_n 0, 1) := by decide +kernel
theorem dX12_best_79 : decode cX12_best 79 = .ok (.getfield 281, 3) := by decide +kernel
theorem dX12_best_82 : decode cX12_best 82 = .ok (.ireturn, 1) := by decide +kernel
theorem dX12_ways_0 : decode cX12_ways 0 = .ok (.aload_n 0, 1) := by decide +kernel
theorem dX12_ways_1 : decode cX12_ways 1 = .ok (.iconst 1, 1) := by decide +kernel
theorem dX12_ways_2 : decode cX12_ways 2 = .ok (.invokevirtual 293, 3) := by decide +kernel
theorem dX12_ways_5 : decode cX12_ways 5 = .ok (.istore_n 1, 1) := by decide +kernel
theorem dX12_ways_6 : decode cX12_ways 6 = .ok (.iload_n 1, 1) := by decide +kernel
theorem dX12_ways_7 : decode cX12_ways 7 = .ok (.ifCond .ge 5, 3) := by decide +kernel
theorem dX12_ways_10 : decode cX12_ways 10 = .ok (.iload_n 1, 1) := by decide +kernel
theorem dX12_ways_11 : decode cX12_ways 11 = .ok (.ireturn, 1) := by decide +kernel
theorem dX12_ways_12 : decode cX12_ways 12 = .ok (.aload_n 0, 1) := by decide +kernel
theorem dX12_ways_13 : decode cX12_ways 13 = .ok (.aload_n 0, 1) := by decide +kernel
theorem dX12_ways_14 : decode cX12_ways 14 = .ok (.getfield 284, 3) := by decide +kernel
theorem dX12_ways_17 : decode cX12_ways 17 = .ok (.aload_n 0, 1) := by decide +kernel
theorem dX12_ways_18 : decode cX12_ways 18 = .ok (.getfield 278, 3) := by decide +kernel
theorem dX12_ways_21 : decode cX12_ways 21 = .ok (.ifCond .ne 7, 3) := by decide +kernel
theorem dX12_ways_24 : decode cX12_ways 24 = .ok (.iconst 1, 1) := by decide +kernel
theorem dX12_ways_25 : decode cX12_ways 25 = .ok (.goto 7, 3) := by decide +kernel
theorem dX12_ways_28 : decode cX12_ways 28 = .ok (.aload_n 0, 1) := by decide +kernel
theorem dX12_ways_29 : decode cX12_ways 29 = .ok (.getfield 278, 3) := by decide +kernel
theorem dX12_ways_32 : decode cX12_ways 32 = .ok (.aload_n 0, 1) := by decide +kernel
theorem dX12_ways_33 : decode cX12_ways 33 = .ok (.getfield 284, 3) := by decide +kernel
theorem dX12_ways_36 : decode cX12_ways 36 = .ok (.invokevirtual 269, 3) := by decide +kernel
theorem dX12_ways_39 : decode cX12_ways 39 = .ok (.ireturn, 1) := by decide +kernel
theorem dX12_sure_0 : decode cX12_sure 0 = .ok (.aload_n 0, 1) := by decide +kernel
theorem dX12_sure_1 : decode cX12_sure 1 = .ok (.iconst 1, 1) := by decide +kernel
theorem dX12_sure_2 : decode cX12_sure 2 = .ok (.invokevirtual 293, 3) := by decide +kernel
theorem dX12_sure_5 : decode cX12_sure 5 = .ok (.istore_n 1, 1) := by decide +kernel
theorem dX12_sure_6 : decode cX12_sure 6 = .ok (.iload_n 1, 1) := by decide +kernel
theorem dX12_sure_7 : decode cX12_sure 7 = .ok (.ifCond .ge 5, 3) := by decide +kernel
theorem dX12_sure_10 : decode cX12_sure 10 = .ok (.iload_n 1, 1) := by decide +kernel
theorem dX12_sure_11 : decode cX12_sure 11 = .ok (.ireturn, 1) := by decide +kernel
theorem dX12_sure_12 : decode cX12_sure 12 = .ok (.iconst 0, 1) := by decide +kernel
theorem dX12_sure_13 : decode cX12_sure 13 = .ok (.istore_n 2, 1) := by decide +kernel
theorem dX12_sure_14 : decode cX12_sure 14 = .ok (.iconst 0, 1) := by decide +kernel
theorem dX12_sure_15 : decode cX12_sure 15 = .ok (.istore_n 3, 1) := by decide +kernel
theorem dX12_sure_16 : decode cX12_sure 16 = .ok (.iload_n 3, 1) := by decide +kernel
theorem dX12_sure_17 : decode cX12_sure 17 = .ok (.aload_n 0, 1) := by decide +kernel
theorem dX12_sure_18 : decode cX12_sure 18 = .ok (.getfield 180, 3) := by decide +kernel
theorem dX12_sure_21 : decode cX12_sure 21 = .ok (.if_icmp .ge 43, 3) := by decide +kernel
theorem dX12_sure_24 : decode cX12_sure 24 = .ok (.iload_n 2, 1) := by decide +kernel
theorem dX12_sure_25 : decode cX12_sure 25 = .ok (.aload_n 0, 1) := by decide +kernel
theorem dX12_sure_26 : decode cX12_sure 26 = .ok (.getfield 41, 3) := by decide +kernel
theorem dX12_sure_29 : decode cX12_sure 29 = .ok (.iload_n 3, 1) := by decide +kernel
theorem dX12_sure_30 : decode cX12_sure 30 = .ok (.iaload, 1) := by decide +kernel
theorem dX12_sure_31 : decode cX12_sure 31 = .ok (.bipush (-9), 2) := by decide +kernel
theorem dX12_sure_33 : decode cX12_sure 33 = .ok (.if_icmp .ne 22, 3) := by decide +kernel
theorem dX12_sure_36 : decode cX12_sure 36 = .ok (.aload_n 0, 1) := by decide +kernel
theorem dX12_sure_37 : decode cX12_sure 37 = .ok (.getfield 78, 3) := by decide +kernel
theorem dX12_sure_40 : decode cX12_sure 40 = .ok (.iload_n 3, 1) := by decide +kernel
theorem dX12_sure_41 : decode cX12_sure 41 = .ok (.iaload, 1) := by decide +kernel
theorem dX12_sure_42 : decode cX12_sure 42 = .ok (.invokestatic 229, 3) := by decide +kernel
theorem dX12_sure_45 : decode cX12_sure 45 = .ok (.iconst 1, 1) := by decide +kernel
theorem dX12_sure_46 : decode cX12_sure 46 = .ok (.if_icmp .ne 9, 3) := by decide +kernel
theorem dX12_sure_49 : decode cX12_sure 49 = .ok (.iconst 1, 1) := by decide +kernel
theorem dX12_sure_50 : decode cX12_sure 50 = .ok (.iload_n 3, 1) := by decide +kernel
theorem dX12_sure_51 : decode cX12_sure 51 = .ok (.ishl, 1) := by decide +kernel
theorem dX12_sure_52 : decode cX12_sure 52 = .ok (.goto 4, 3) := by decide +kernel
theorem dX12_sure_55 : decode cX12_sure 55 = .ok (.iconst 0, 1) := by decide +kernel
theorem dX12_sure_56 : decode cX12_sure 56 = .ok (.ior, 1) := by decide +kernel
theorem dX12_sure_57 : decode cX12_sure 57 = .ok (.istore_n 2, 1) := by decide +kernel
theorem dX12_sure_58 : decode cX12_sure 58 = .ok (.iinc 3 1, 3) := by decide +kernel
theorem dX12_sure_61 : decode cX12_sure 61 = .ok (.goto (-45), 3) := by decide +kernel
theorem dX12_sure_64 : decode cX12_sure 64 = .ok (.iload_n 2, 1) := by decide +kernel
theorem dX12_sure_65 : decode cX12_sure 65 = .ok (.ireturn, 1) := by decide +kernel
theorem dX12_where_0 : decode cX12_where 0 = .ok (.aload_n 0, 1) := by decide +kernel
theorem dX12_where_1 : decode cX12_where 1 = .ok (.iload_n 1, 1) := by decide +kernel
theorem dX12_where_2 : decode cX12_where 2 = .ok (.invokevirtual 223, 3) := by decide +kernel
theorem dX12_where_5 : decode cX12_where 5 = .ok (.ifCond .ne 5, 3) := by decide +kernel
theorem dX12_where_8 : decode cX12_where 8 = .ok (.iconst (-1), 1) := by decide +kernel
theorem dX12_where_9 : decode cX12_where 9 = .ok (.ireturn, 1) := by decide +kernel
theorem dX12_where_10 : decode cX12_where 10 = .ok (.aload_n 0, 1) := by decide +kernel
theorem dX12_where_11 : decode cX12_where 11 = .ok (.getfield 41, 3) := by decide +kernel
theorem dX12_where_14 : decode cX12_where 14 = .ok (.iload_n 1, 1) := by decide +kernel
theorem dX12_where_15 : decode cX12_where 15 = .ok (.iaload, 1) := by decide +kernel
theorem dX12_where_16 : decode cX12_where 16 = .ok (.bipush (-9), 2) := by decide +kernel
theorem dX12_where_18 : decode cX12_where 18 = .ok (.if_icmp .eq 6, 3) := by decide +kernel
theorem dX12_where_21 : decode cX12_where 21 = .ok (.bipush (-4), 2) := by decide +kernel
theorem dX12_where_23 : decode cX12_where 23 = .ok (.ireturn, 1) := by decide +kernel
theorem dX12_where_24 : decode cX12_where 24 = .ok (.aload_n 0, 1) := by decide +kernel
theorem dX12_where_25 : decode cX12_where 25 = .ok (.iconst 1, 1) := by decide +kernel
theorem dX12_where_26 : decode cX12_where 26 = .ok (.invokevirtual 293, 3) := by decide +kernel
theorem dX12_where_29 : decode cX12_where 29 = .ok (.istore_n 2, 1) := by decide +kernel
theorem dX12_where_30 : decode cX12_where 30 = .ok (.iload_n 2, 1) := by decide +kernel
theorem dX12_where_31 : decode cX12_where 31 = .ok (.ifCond .ge 7, 3) := by decide +kernel
theorem dX12_where_34 : decode cX12_where 34 = .ok (.iload_n 2, 1) := by decide +kernel
theorem dX12_where_35 : decode cX12_where 35 = .ok (.goto 22, 3) := by decide +kernel
theorem dX12_where_38 : decode cX12_where 38 = .ok (.aload_n 0, 1) := by decide +kernel
theorem dX12_where_39 : decode cX12_where 39 = .ok (.aload_n 0, 1) := by decide +kernel
theorem dX12_where_40 : decode cX12_where 40 = .ok (.getfield 78, 3) := by decide +kernel
theorem dX12_where_43 : decode cX12_where 43 = .ok (.iload_n 1, 1) := by decide +kernel
theorem dX12_where_44 : decode cX12_where 44 = .ok (.iaload, 1) := by decide +kernel
theorem dX12_where_45 : decode cX12_where 45 = .ok (.aload_n 0, 1) := by decide +kernel
theorem dX12_where_46 : decode cX12_where 46 = .ok (.getfield 78, 3) := by decide +kernel
theorem dX12_where_49 : decode cX12_where 49 = .ok (.iload_n 1, 1) := by decide +kernel
theorem dX12_where_50 : decode cX12_where 50 = .ok (.iaload, 1) := by decide +kernel
theorem dX12_where_51 : decode cX12_where 51 = .ok (.invokestatic 229, 3) := by decide +kernel
theorem dX12_where_54 : decode cX12_where 54 = .ok (.invokevirtual 135, 3) := by decide +kernel
theorem dX12_where_57 : decode cX12_where 57 = .ok (.ireturn, 1) := by decide +kernel
theorem dX12_aisle_0 : decode cX12_aisle 0 = .ok (.bipush (-9), 2) := by decide +kernel
theorem dX12_aisle_2 : decode cX12_aisle 2 = .ok (.istore_n 1, 1) := by decide +kernel
theorem dX12_aisle_3 : decode cX12_aisle 3 = .ok (.aload_n 0, 1) := by decide +kernel
theorem dX12_aisle_4 : decode cX12_aisle 4 = .ok (.iconst 0, 1) := by decide +kernel
theorem dX12_aisle_5 : decode cX12_aisle 5 = .ok (.aload_n 0, 1) := by decide +kernel
theorem dX12_aisle_6 : decode cX12_aisle 6 = .ok (.getfield 235, 3) := by decide +kernel
theorem dX12_aisle_9 : decode cX12_aisle 9 = .ok (.invokevirtual 263, 3) := by decide +kernel
theorem dX12_aisle_12 : decode cX12_aisle 12 = .ok (.invokestatic 189, 3) := by decide +kernel
theorem dX12_aisle_15 : decode cX12_aisle 15 = .ok (.istore_n 2, 1) := by decide +kernel
theorem dX12_aisle_16 : decode cX12_aisle 16 = .ok (.iconst 0, 1) := by decide +kernel
theorem dX12_aisle_17 : decode cX12_aisle 17 = .ok (.istore_n 3, 1) := by decide +kernel
theorem dX12_aisle_18 : decode cX12_aisle 18 = .ok (.iload_n 3, 1) := by decide +kernel
theorem dX12_aisle_19 : decode cX12_aisle 19 = .ok (.aload_n 0, 1) := by decide +kernel
theorem dX12_aisle_20 : decode cX12_aisle 20 = .ok (.getfield 180, 3) := by decide +kernel
theorem dX12_aisle_23 : decode cX12_aisle 23 = .ok (.if_icmp .ge 98, 3) := by decide +kernel
theorem dX12_aisle_26 : decode cX12_aisle 26 = .ok (.iload_n 3, 1) := by decide +kernel
theorem dX12_aisle_27 : decode cX12_aisle 27 = .ok (.iconst 1, 1) := by decide +kernel
theorem dX12_aisle_28 : decode cX12_aisle 28 = .ok (.iadd, 1) := by decide +kernel
theorem dX12_aisle_29 : decode cX12_aisle 29 = .ok (.istore 4, 2) := by decide +kernel
theorem dX12_aisle_31 : decode cX12_aisle 31 = .ok (.iload 4, 2) := by decide +kernel
theorem dX12_aisle_33 : decode cX12_aisle 33 = .ok (.aload_n 0, 1) := by decide +kernel
theorem dX12_aisle_34 : decode cX12_aisle 34 = .ok (.getfield 180, 3) := by decide +kernel
theorem dX12_aisle_37 : decode cX12_aisle 37 = .ok (.if_icmp .ge 78, 3) := by decide +kernel
theorem dX12_aisle_40 : decode cX12_aisle 40 = .ok (.aload_n 0, 1) := by decide +kernel
theorem dX12_aisle_41 : decode cX12_aisle 41 = .ok (.iload_n 3, 1) := by decide +kernel
theorem dX12_aisle_42 : decode cX12_aisle 42 = .ok (.iload 4, 2) := by decide +kernel
theorem dX12_aisle_44 : decode cX12_aisle 44 = .ok (.invokevirtual 256, 3) := by decide +kernel
theorem dX12_aisle_47 : decode cX12_aisle 47 = .ok (.ifCond .eq 62, 3) := by decide +kernel
theorem dX12_aisle_50 : decode cX12_aisle 50 = .ok (.aload_n 0, 1) := by decide +kernel
theorem dX12_aisle_51 : decode cX12_aisle 51 = .ok (.iload_n 3, 1) := by decide +kernel
theorem dX12_aisle_52 : decode cX12_aisle 52 = .ok (.iload 4, 2) := by decide +kernel
theorem dX12_aisle_54 : decode cX12_aisle 54 = .ok (.invokevirtual 252, 3) := by decide +kernel
theorem dX12_aisle_57 : decode cX12_aisle 57 = .ok (.aload_n 0, 1) := by decide +kernel
theorem dX12_aisle_58 : decode cX12_aisle 58 = .ok (.iconst 0, 1) := by decide +kernel
theorem dX12_aisle_59 : decode cX12_aisle 59 = .ok (.aload_n 0, 1) := by decide +kernel
theorem dX12_aisle_60 : decode cX12_aisle 60 = .ok (.getfield 235, 3) := by decide +kernel
theorem dX12_aisle_63 : decode cX12_aisle 63 = .ok (.invokevirtual 263, 3) := by decide +kernel
theorem dX12_aisle_66 : decode cX12_aisle 66 = .ok (.invokestatic 189, 3) := by decide +kernel
theorem dX12_aisle_69 : decode cX12_aisle 69 = .ok (.istore 5, 2) := by decide +kernel
theorem dX12_aisle_71 : decode cX12_aisle 71 = .ok (.aload_n 0, 1) := by decide +kernel
theorem dX12_aisle_72 : decode cX12_aisle 72 = .ok (.iload_n 3, 1) := by decide +kernel
theorem dX12_aisle_73 : decode cX12_aisle 73 = .ok (.iload 4, 2) := by decide +kernel
theorem dX12_aisle_75 : decode cX12_aisle 75 = .ok (.invokevirtual 252, 3) := by decide +kernel
theorem dX12_aisle_78 : decode cX12_aisle 78 = .ok (.iload 5, 2) := by decide +kernel
theorem dX12_aisle_80 : decode cX12_aisle 80 = .ok (.iload_n 2, 1) := by decide +kernel
theorem dX12_aisle_81 : decode cX12_aisle 81 = .ok (.if_icmp .ge 13, 3) := by decide +kernel
theorem dX12_aisle_84 : decode cX12_aisle 84 = .ok (.bipush 10, 2) := by decide +kernel
theorem dX12_aisle_86 : decode cX12_aisle 86 = .ok (.iload_n 3, 1) := by decide +kernel
theorem dX12_aisle_87 : decode cX12_aisle 87 = .ok (.imul, 1) := by decide +kernel
theorem dX12_aisle_88 : decode cX12_aisle 88 = .ok (.iload 4, 2) := by decide +kernel
theorem dX12_aisle_90 : decode cX12_aisle 90 = .ok (.iadd, 1) := by decide +kernel
theorem dX12_aisle_91 : decode cX12_aisle 91 = .ok (.goto 4, 3) := by decide +kernel
theorem dX12_aisle_94 : decode cX12_aisle 94 = .ok (.iload_n 1, 1) := by decide +kernel
theorem dX12_aisle_95 : decode cX12_aisle 95 = .ok (.istore_n 1, 1) := by decide +kernel
theorem dX12_aisle_96 : decode cX12_aisle 96 = .ok (.iload 5, 2) := by decide +kernel
theorem dX12_aisle_98 : decode cX12_aisle 98 = .ok (.iload_n 2, 1) := by decide +kernel
theorem dX12_aisle_99 : decode cX12_aisle 99 = .ok (.if_icmp .ge 8, 3) := by decide +kernel
theorem dX12_aisle_102 : decode cX12_aisle 102 = .ok (.iload 5, 2) := by decide +kernel
theorem dX12_aisle_104 : decode cX12_aisle 104 = .ok (.goto 4, 3) := by decide +kernel
theorem dX12_aisle_107 : decode cX12_aisle 107 = .ok (.iload_n 2, 1) := by decide +kernel
theorem dX12_aisle_108 : decode cX12_aisle 108 = .ok (.istore_n 2, 1) := by decide +kernel
theorem dX12_aisle_109 : decode cX12_aisle 109 = .ok (.iinc 4 1, 3) := by decide +kernel
theorem dX12_aisle_112 : decode cX12_aisle 112 = .ok (.goto (-81), 3) := by decide +kernel
theorem dX12_aisle_115 : decode cX12_aisle 115 = .ok (.iinc 3 1, 3) := by decide +kernel
theorem dX12_aisle_118 : decode cX12_aisle 118 = .ok (.goto (-100), 3) := by decide +kernel
theorem dX12_aisle_121 : decode cX12_aisle 121 = .ok (.iload_n 1, 1) := by decide +kernel
theorem dX12_aisle_122 : decode cX12_aisle 122 = .ok (.bipush (-9), 2) := by decide +kernel
theorem dX12_aisle_124 : decode cX12_aisle 124 = .ok (.if_icmp .ne 8, 3) := by decide +kernel
theorem dX12_aisle_127 : decode cX12_aisle 127 = .ok (.bipush (-9), 2) := by decide +kernel
theorem dX12_aisle_129 : decode cX12_aisle 129 = .ok (.goto 9, 3) := by decide +kernel
theorem dX12_aisle_132 : decode cX12_aisle 132 = .ok (.aload_n 0, 1) := by decide +kernel
theorem dX12_aisle_133 : decode cX12_aisle 133 = .ok (.iload_n 2, 1) := by decide +kernel
theorem dX12_aisle_134 : decode cX12_aisle 134 = .ok (.iload_n 1, 1) := by decide +kernel
theorem dX12_aisle_135 : decode cX12_aisle 135 = .ok (.invokevirtual 135, 3) := by decide +kernel
theorem dX12_aisle_138 : decode cX12_aisle 138 = .ok (.ireturn, 1) := by decide +kernel
theorem dX12_layLeaving_0 : decode cX12_layLeaving 0 = .ok (.aload_n 0, 1) := by decide +kernel
theorem dX12_layLeaving_1 : decode cX12_layLeaving 1 = .ok (.invokevirtual 297, 3) := by decide +kernel
theorem dX12_layLeaving_4 : decode cX12_layLeaving 4 = .ok (.ifCond .ne 86, 3) := by decide +kernel
theorem dX12_layLeaving_7 : decode cX12_layLeaving 7 = .ok (.iload_n 1, 1) := by decide +kernel
theorem dX12_layLeaving_8 : decode cX12_layLeaving 8 = .ok (.ifCond .le 39, 3) := by decide +kernel
theorem dX12_layLeaving_11 : decode cX12_layLeaving 11 = .ok (.aload_n 0, 1) := by decide +kernel
theorem dX12_layLeaving_12 : decode cX12_layLeaving 12 = .ok (.dup, 1) := by decide +kernel
theorem dX12_layLeaving_13 : decode cX12_layLeaving 13 = .ok (.getfield 300, 3) := by decide +kernel
theorem dX12_layLeaving_16 : decode cX12_layLeaving 16 = .ok (.iconst 1, 1) := by decide +kernel
theorem dX12_layLeaving_17 : decode cX12_layLeaving 17 = .ok (.aload_n 0, 1) := by decide +kernel
theorem dX12_layLeaving_18 : decode cX12_layLeaving 18 = .ok (.getfield 81, 3) := by decide +kernel
theorem dX12_layLeaving_21 : decode cX12_layLeaving 21 = .ok (.iconst 0, 1) := by decide +kernel
theorem dX12_layLeaving_22 : decode cX12_layLeaving 22 = .ok (.iaload, 1) := by decide +kernel
theorem dX12_layLeaving_23 : decode cX12_layLeaving 23 = .ok (.ishl, 1) := by decide +kernel
theorem dX12_layLeaving_24 : decode cX12_layLeaving 24 = .ok (.ior, 1) := by decide +kernel
theorem dX12_layLeaving_25 : decode cX12_layLeaving 25 = .ok (.putfield 300, 3) := by decide +kernel
theorem dX12_layLeaving_28 : decode cX12_layLeaving 28 = .ok (.aload_n 0, 1) := by decide +kernel
theorem dX12_layLeaving_29 : decode cX12_layLeaving 29 = .ok (.dup, 1) := by decide +kernel
theorem dX12_layLeaving_30 : decode cX12_layLeaving 30 = .ok (.getfield 303, 3) := by decide +kernel
theorem dX12_layLeaving_33 : decode cX12_layLeaving 33 = .ok (.iconst 1, 1) := by decide +kernel
theorem dX12_layLeaving_34 : decode cX12_layLeaving 34 = .ok (.aload_n 0, 1) := by decide +kernel
theorem dX12_layLeaving_35 : decode cX12_layLeaving 35 = .ok (.getfield 81, 3) := by decide +kernel
theorem dX12_layLeaving_38 : decode cX12_layLeaving 38 = .ok (.iload_n 1, 1) := by decide +kernel
theorem dX12_layLeaving_39 : decode cX12_layLeaving 39 = .ok (.iconst 1, 1) := by decide +kernel
theorem dX12_layLeaving_40 : decode cX12_layLeaving 40 = .ok (.isub, 1) := by decide +kernel
theorem dX12_layLeaving_41 : decode cX12_layLeaving 41 = .ok (.iaload, 1) := by decide +kernel
theorem dX12_layLeaving_42 : decode cX12_layLeaving 42 = .ok (.ishl, 1) := by decide +kernel
theorem dX12_layLeaving_43 : decode cX12_layLeaving 43 = .ok (.ior, 1) := by decide +kernel
theorem dX12_layLeaving_44 : decode cX12_layLeaving 44 = .ok (.putfield 303, 3) := by decide +kernel
theorem dX12_layLeaving_47 : decode cX12_layLeaving 47 = .ok (.iconst 0, 1) := by decide +kernel
theorem dX12_layLeaving_48 : decode cX12_layLeaving 48 = .ok (.istore_n 2, 1) := by decide +kernel
theorem dX12_layLeaving_49 : decode cX12_layLeaving 49 = .ok (.iload_n 2, 1) := by decide +kernel
theorem dX12_layLeaving_50 : decode cX12_layLeaving 50 = .ok (.iload_n 1, 1) := by decide +kernel
theorem dX12_layLeaving_51 : decode cX12_layLeaving 51 = .ok (.if_icmp .ge 28, 3) := by decide +kernel
theorem dX12_layLeaving_54 : decode cX12_layLeaving 54 = .ok (.aload_n 0, 1) := by decide +kernel
theorem dX12_layLeaving_55 : decode cX12_layLeaving 55 = .ok (.getfield 306, 3) := by decide +kernel
theorem dX12_layLeaving_58 : decode cX12_layLeaving 58 = .ok (.ifCond .ne 21, 3) := by decide +kernel
theorem dX12_layLeaving_61 : decode cX12_layLeaving 61 = .ok (.aload_n 0, 1) := by decide +kernel
theorem dX12_layLeaving_62 : decode cX12_layLeaving 62 = .ok (.getfield 84, 3) := by decide +kernel
theorem dX12_layLeaving_65 : decode cX12_layLeaving 65 = .ok (.iload_n 2, 1) := by decide +kernel
theorem dX12_layLeaving_66 : decode cX12_layLeaving 66 = .ok (.aload_n 0, 1) := by decide +kernel
theorem dX12_layLeaving_67 : decode cX12_layLeaving 67 = .ok (.getfield 81, 3) := by decide +kernel
theorem dX12_layLeaving_70 : decode cX12_layLeaving 70 = .ok (.iload_n 2, 1) := by decide +kernel
theorem dX12_layLeaving_71 : decode cX12_layLeaving 71 = .ok (.iaload, 1) := by decide +kernel
theorem dX12_layLeaving_72 : decode cX12_layLeaving 72 = .ok (.iastore, 1) := by decide +kernel
theorem dX12_layLeaving_73 : decode cX12_layLeaving 73 = .ok (.iinc 2 1, 3) := by decide +kernel
theorem dX12_layLeaving_76 : decode cX12_layLeaving 76 = .ok (.goto (-27), 3) := by decide +kernel
theorem dX12_layLeaving_79 : decode cX12_layLeaving 79 = .ok (.aload_n 0, 1) := by decide +kernel
theorem dX12_layLeaving_80 : decode cX12_layLeaving 80 = .ok (.dup, 1) := by decide +kernel
theorem dX12_layLeaving_81 : decode cX12_layLeaving 81 = .ok (.getfield 306, 3) := by decide +kernel
theorem dX12_layLeaving_84 : decode cX12_layLeaving 84 = .ok (.iconst 1, 1) := by decide +kernel
theorem dX12_layLeaving_85 : decode cX12_layLeaving 85 = .ok (.iadd, 1) := by decide +kernel
theorem dX12_layLeaving_86 : decode cX12_layLeaving 86 = .ok (.putfield 306, 3) := by decide +kernel
theorem dX12_layLeaving_89 : decode cX12_layLeaving 89 = .ok (.return_, 1) := by decide +kernel
theorem dX12_layLeaving_90 : decode cX12_layLeaving 90 = .ok (.iconst 0, 1) := by decide +kernel
theorem dX12_layLeaving_91 : decode cX12_layLeaving 91 = .ok (.istore_n 2, 1) := by decide +kernel
theorem dX12_layLeaving_92 : decode cX12_layLeaving 92 = .ok (.iload_n 2, 1) := by decide +kernel
theorem dX12_layLeaving_93 : decode cX12_layLeaving 93 = .ok (.aload_n 0, 1) := by decide +kernel
theorem dX12_layLeaving_94 : decode cX12_layLeaving 94 = .ok (.getfield 180, 3) := by decide +kernel
theorem dX12_layLeaving_97 : decode cX12_layLeaving 97 = .ok (.if_icmp .ge 72, 3) := by decide +kernel
theorem dX12_layLeaving_100 : decode cX12_layLeaving 100 = .ok (.aload_n 0, 1) := by decide +kernel
theorem dX12_layLeaving_101 : decode cX12_layLeaving 101 = .ok (.getfield 41, 3) := by decide +kernel
theorem dX12_layLeaving_104 : decode cX12_layLeaving 104 = .ok (.iload_n 2, 1) := by decide +kernel
theorem dX12_layLeaving_105 : decode cX12_layLeaving 105 = .ok (.iaload, 1) := by decide +kernel
theorem dX12_layLeaving_106 : decode cX12_layLeaving 106 = .ok (.bipush (-9), 2) := by decide +kernel
theorem dX12_layLeaving_108 : decode cX12_layLeaving 108 = .ok (.if_icmp .eq 55, 3) := by decide +kernel
theorem dX12_layLeaving_111 : decode cX12_layLeaving 111 = .ok (.aload_n 0, 1) := by decide +kernel
theorem dX12_layLeaving_112 : decode cX12_layLeaving 112 = .ok (.getfield 41, 3) := by decide +kernel
theorem dX12_layLeaving_115 : decode cX12_layLeaving 115 = .ok (.iload_n 2, 1) := by decide +kernel
theorem dX12_layLeaving_116 : decode cX12_layLeaving 116 = .ok (.iaload, 1) := by decide +kernel
theorem dX12_layLeaving_117 : decode cX12_layLeaving 117 = .ok (.istore_n 3, 1) := by decide +kernel
theorem dX12_layLeaving_118 : decode cX12_layLeaving 118 = .ok (.aload_n 0, 1) := by decide +kernel
theorem dX12_layLeaving_119 : decode cX12_layLeaving 119 = .ok (.getfield 41, 3) := by decide +kernel
theorem dX12_layLeaving_122 : decode cX12_layLeaving 122 = .ok (.iload_n 2, 1) := by decide +kernel
theorem dX12_layLeaving_123 : decode cX12_layLeaving 123 = .ok (.bipush (-9), 2) := by decide +kernel
theorem dX12_layLeaving_125 : decode cX12_layLeaving 125 = .ok (.iastore, 1) := by decide +kernel
theorem dX12_layLeaving_126 : decode cX12_layLeaving 126 = .ok (.aload_n 0, 1) := by decide +kernel
theorem dX12_layLeaving_127 : decode cX12_layLeaving 127 = .ok (.getfield 81, 3) := by decide +kernel
theorem dX12_layLeaving_130 : decode cX12_layLeaving 130 = .ok (.iload_n 1, 1) := by decide +kernel
theorem dX12_layLeaving_131 : decode cX12_layLeaving 131 = .ok (.iload_n 2, 1) := by decide +kernel
theorem dX12_layLeaving_132 : decode cX12_layLeaving 132 = .ok (.iastore, 1) := by decide +kernel
theorem dX12_layLeaving_133 : decode cX12_layLeaving 133 = .ok (.aload_n 0, 1) := by decide +kernel
theorem dX12_layLeaving_134 : decode cX12_layLeaving 134 = .ok (.aload_n 0, 1) := by decide +kernel
theorem dX12_layLeaving_135 : decode cX12_layLeaving 135 = .ok (.iconst 0, 1) := by decide +kernel
theorem dX12_layLeaving_136 : decode cX12_layLeaving 136 = .ok (.aload_n 0, 1) := by decide +kernel
theorem dX12_layLeaving_137 : decode cX12_layLeaving 137 = .ok (.getfield 235, 3) := by decide +kernel
theorem dX12_layLeaving_140 : decode cX12_layLeaving 140 = .ok (.invokevirtual 263, 3) := by decide +kernel
theorem dX12_layLeaving_143 : decode cX12_layLeaving 143 = .ok (.invokevirtual 266, 3) := by decide +kernel
theorem dX12_layLeaving_146 : decode cX12_layLeaving 146 = .ok (.ifCond .eq 10, 3) := by decide +kernel
theorem dX12_layLeaving_149 : decode cX12_layLeaving 149 = .ok (.aload_n 0, 1) := by decide +kernel
theorem dX12_layLeaving_150 : decode cX12_layLeaving 150 = .ok (.iload_n 1, 1) := by decide +kernel
theorem dX12_layLeaving_151 : decode cX12_layLeaving 151 = .ok (.iconst 1, 1) := by decide +kernel
theorem dX12_layLeaving_152 : decode cX12_layLeaving 152 = .ok (.iadd, 1) := by decide +kernel
theorem dX12_layLeaving_153 : decode cX12_layLeaving 153 = .ok (.invokevirtual 309, 3) := by decide +kernel
theorem dX12_layLeaving_156 : decode cX12_layLeaving 156 = .ok (.aload_n 0, 1) := by decide +kernel
theorem dX12_layLeaving_157 : decode cX12_layLeaving 157 = .ok (.getfield 41, 3) := by decide +kernel
theorem dX12_layLeaving_160 : decode cX12_layLeaving 160 = .ok (.iload_n 2, 1) := by decide +kernel
theorem dX12_layLeaving_161 : decode cX12_layLeaving 161 = .ok (.iload_n 3, 1) := by decide +kernel
theorem dX12_layLeaving_162 : decode cX12_layLeaving 162 = .ok (.iastore, 1) := by decide +kernel
theorem dX12_layLeaving_163 : decode cX12_layLeaving 163 = .ok (.iinc 2 1, 3) := by decide +kernel
theorem dX12_layLeaving_166 : decode cX12_layLeaving 166 = .ok (.goto (-74), 3) := by decide +kernel
theorem dX12_layLeaving_169 : decode cX12_layLeaving 169 = .ok (.return_, 1) := by decide +kernel
theorem dX12_allLeave_0 : decode cX12_allLeave 0 = .ok (.aload_n 0, 1) := by decide +kernel
theorem dX12_allLeave_1 : decode cX12_allLeave 1 = .ok (.iconst 0, 1) := by decide +kernel
theorem dX12_allLeave_2 : decode cX12_allLeave 2 = .ok (.putfield 306, 3) := by decide +kernel
theorem dX12_allLeave_5 : decode cX12_allLeave 5 = .ok (.aload_n 0, 1) := by decide +kernel
theorem dX12_allLeave_6 : decode cX12_allLeave 6 = .ok (.iconst 0, 1) := by decide +kernel
theorem dX12_allLeave_7 : decode cX12_allLeave 7 = .ok (.putfield 300, 3) := by decide +kernel
theorem dX12_allLeave_10 : decode cX12_allLeave 10 = .ok (.aload_n 0, 1) := by decide +kernel
theorem dX12_allLeave_11 : decode cX12_allLeave 11 = .ok (.iconst 0, 1) := by decide +kernel
theorem dX12_allLeave_12 : decode cX12_allLeave 12 = .ok (.putfield 303, 3) := by decide +kernel
theorem dX12_allLeave_15 : decode cX12_allLeave 15 = .ok (.aload_n 0, 1) := by decide +kernel
theorem dX12_allLeave_16 : decode cX12_allLeave 16 = .ok (.iconst 0, 1) := by decide +kernel
theorem dX12_allLeave_17 : decode cX12_allLeave 17 = .ok (.invokevirtual 309, 3) := by decide +kernel
theorem dX12_allLeave_20 : decode cX12_allLeave 20 = .ok (.return_, 1) := by decide +kernel
theorem dX12_leave_0 : decode cX12_leave 0 = .ok (.iload_n 1, 1) := by decide +kernel
theorem dX12_leave_1 : decode cX12_leave 1 = .ok (.invokestatic 123, 3) := by decide +kernel
theorem dX12_leave_4 : decode cX12_leave 4 = .ok (.ifCond .ne 5, 3) := by decide +kernel
theorem dX12_leave_7 : decode cX12_leave 7 = .ok (.iconst (-1), 1) := by decide +kernel
theorem dX12_leave_8 : decode cX12_leave 8 = .ok (.ireturn, 1) := by decide +kernel
theorem dX12_leave_9 : decode cX12_leave 9 = .ok (.aload_n 0, 1) := by decide +kernel
theorem dX12_leave_10 : decode cX12_leave 10 = .ok (.invokevirtual 312, 3) := by decide +kernel
theorem dX12_leave_13 : decode cX12_leave 13 = .ok (.aload_n 0, 1) := by decide +kernel
theorem dX12_leave_14 : decode cX12_leave 14 = .ok (.getfield 306, 3) := by decide +kernel
theorem dX12_leave_17 : decode cX12_leave 17 = .ok (.ifCond .ne 6, 3) := by decide +kernel
theorem dX12_leave_20 : decode cX12_leave 20 = .ok (.bipush (-9), 2) := by decide +kernel
theorem dX12_leave_22 : decode cX12_leave 22 = .ok (.ireturn, 1) := by decide +kernel
theorem dX12_leave_23 : decode cX12_leave 23 = .ok (.aload_n 0, 1) := by decide +kernel
theorem dX12_leave_24 : decode cX12_leave 24 = .ok (.invokevirtual 259, 3) := by decide +kernel
theorem dX12_leave_27 : decode cX12_leave 27 = .ok (.istore_n 2, 1) := by decide +kernel
theorem dX12_leave_28 : decode cX12_leave 28 = .ok (.aload_n 0, 1) := by decide +kernel
theorem dX12_leave_29 : decode cX12_leave 29 = .ok (.getfield 13, 3) := by decide +kernel
theorem dX12_leave_32 : decode cX12_leave 32 = .ok (.iload_n 1, 1) := by decide +kernel
theorem dX12_leave_33 : decode cX12_leave 33 = .ok (.iload_n 2, 1) := by decide +kernel
theorem dX12_leave_34 : decode cX12_leave 34 = .ok (.iastore, 1) := by decide +kernel
theorem dX12_leave_35 : decode cX12_leave 35 = .ok (.iconst 0, 1) := by decide +kernel
theorem dX12_leave_36 : decode cX12_leave 36 = .ok (.istore_n 3, 1) := by decide +kernel
theorem dX12_leave_37 : decode cX12_leave 37 = .ok (.iload_n 3, 1) := by decide +kernel
theorem dX12_leave_38 : decode cX12_leave 38 = .ok (.bipush 60, 2) := by decide +kernel
theorem dX12_leave_40 : decode cX12_leave 40 = .ok (.if_icmp .ge 35, 3) := by decide +kernel
theorem dX12_leave_43 : decode cX12_leave 43 = .ok (.aload_n 0, 1) := by decide +kernel
theorem dX12_leave_44 : decode cX12_leave 44 = .ok (.getfield 16, 3) := by decide +kernel
theorem dX12_leave_47 : decode cX12_leave 47 = .ok (.bipush 60, 2) := by decide +kernel
theorem dX12_leave_49 : decode cX12_leave 49 = .ok (.iload_n 1, 1) := by decide +kernel
theorem dX12_leave_50 : decode cX12_leave 50 = .ok (.imul, 1) := by decide +kernel
theorem dX12_leave_51 : decode cX12_leave 51 = .ok (.iload_n 3, 1) := by decide +kernel
theorem dX12_leave_52 : decode cX12_leave 52 = .ok (.iadd, 1) := by decide +kernel
theorem dX12_leave_53 : decode cX12_leave 53 = .ok (.iload_n 3, 1) := by decide +kernel
theorem dX12_leave_54 : decode cX12_leave 54 = .ok (.iload_n 2, 1) := by decide +kernel
theorem dX12_leave_55 : decode cX12_leave 55 = .ok (.if_icmp .ge 12, 3) := by decide +kernel
theorem dX12_leave_58 : decode cX12_leave 58 = .ok (.aload_n 0, 1) := by decide +kernel
theorem dX12_leave_59 : decode cX12_leave 59 = .ok (.getfield 84, 3) := by decide +kernel
theorem dX12_leave_62 : decode cX12_leave 62 = .ok (.iload_n 3, 1) := by decide +kernel
theorem dX12_leave_63 : decode cX12_leave 63 = .ok (.iaload, 1) := by decide +kernel
theorem dX12_leave_64 : decode cX12_leave 64 = .ok (.goto 4, 3) := by decide +kernel
theorem dX12_leave_67 : decode cX12_leave 67 = .ok (.iconst 0, 1) := by decide +kernel
theorem dX12_leave_68 : decode cX12_leave 68 = .ok (.iastore, 1) := by decide +kernel
theorem dX12_leave_69 : decode cX12_leave 69 = .ok (.iinc 3 1, 3) := by decide +kernel
theorem dX12_leave_72 : decode cX12_leave 72 = .ok (.goto (-35), 3) := by decide +kernel
theorem dX12_leave_75 : decode cX12_leave 75 = .ok (.iload_n 2, 1) := by decide +kernel
theorem dX12_leave_76 : decode cX12_leave 76 = .ok (.ireturn, 1) := by decide +kernel
theorem dX12_leavers_0 : decode cX12_leavers 0 = .ok (.aload_n 0, 1) := by decide +kernel
theorem dX12_leavers_1 : decode cX12_leavers 1 = .ok (.invokevirtual 312, 3) := by decide +kernel
theorem dX12_leavers_4 : decode cX12_leavers 4 = .ok (.aload_n 0, 1) := by decide +kernel
theorem dX12_leavers_5 : decode cX12_leavers 5 = .ok (.aload_n 0, 1) := by decide +kernel
theorem dX12_leavers_6 : decode cX12_leavers 6 = .ok (.getfield 303, 3) := by decide +kernel
theorem dX12_leavers_9 : decode cX12_leavers 9 = .ok (.aload_n 0, 1) := by decide +kernel
theorem dX12_leavers_10 : decode cX12_leavers 10 = .ok (.getfield 300, 3) := by decide +kernel
theorem dX12_leavers_13 : decode cX12_leavers 13 = .ok (.invokevirtual 135, 3) := by decide +kernel
theorem dX12_leavers_16 : decode cX12_leavers 16 = .ok (.ireturn, 1) := by decide +kernel
theorem dX12_layInvited_0 : decode cX12_layInvited 0 = .ok (.iload_n 1, 1) := by decide +kernel
theorem dX12_layInvited_1 : decode cX12_layInvited 1 = .ok (.aload_n 0, 1) := by decide +kernel
theorem dX12_layInvited_2 : decode cX12_layInvited 2 = .ok (.getfield 315, 3) := by decide +kernel
theorem dX12_layInvited_5 : decode cX12_layInvited 5 = .ok (.if_icmp .ne 61, 3) := by decide +kernel
theorem dX12_layInvited_8 : decode cX12_layInvited 8 = .ok (.aload_n 0, 1) := by decide +kernel
theorem dX12_layInvited_9 : decode cX12_layInvited 9 = .ok (.iload_n 2, 1) := by decide +kernel
theorem dX12_layInvited_10 : decode cX12_layInvited 10 = .ok (.invokevirtual 266, 3) := by decide +kernel
theorem dX12_layInvited_13 : decode cX12_layInvited 13 = .ok (.ifCond .eq 52, 3) := by decide +kernel
theorem dX12_layInvited_16 : decode cX12_layInvited 16 = .ok (.aload_n 0, 1) := by decide +kernel
theorem dX12_layInvited_17 : decode cX12_layInvited 17 = .ok (.getfield 318, 3) := by decide +kernel
theorem dX12_layInvited_20 : decode cX12_layInvited 20 = .ok (.ifCond .lt 11, 3) := by decide +kernel
theorem dX12_layInvited_23 : decode cX12_layInvited 23 = .ok (.iload_n 3, 1) := by decide +kernel
theorem dX12_layInvited_24 : decode cX12_layInvited 24 = .ok (.aload_n 0, 1) := by decide +kernel
theorem dX12_layInvited_25 : decode cX12_layInvited 25 = .ok (.getfield 318, 3) := by decide +kernel
theorem dX12_layInvited_28 : decode cX12_layInvited 28 = .ok (.if_icmp .ge 37, 3) := by decide +kernel
theorem dX12_layInvited_31 : decode cX12_layInvited 31 = .ok (.aload_n 0, 1) := by decide +kernel
theorem dX12_layInvited_32 : decode cX12_layInvited 32 = .ok (.iload_n 3, 1) := by decide +kernel
theorem dX12_layInvited_33 : decode cX12_layInvited 33 = .ok (.putfield 318, 3) := by decide +kernel
theorem dX12_layInvited_36 : decode cX12_layInvited 36 = .ok (.iconst 0, 1) := by decide +kernel
theorem dX12_layInvited_37 : decode cX12_layInvited 37 = .ok (.istore 4, 2) := by decide +kernel
theorem dX12_layInvited_39 : decode cX12_layInvited 39 = .ok (.iload 4, 2) := by decide +kernel
theorem dX12_layInvited_41 : decode cX12_layInvited 41 = .ok (.iload_n 1, 1) := by decide +kernel
theorem dX12_layInvited_42 : decode cX12_layInvited 42 = .ok (.if_icmp .ge 23, 3) := by decide +kernel
theorem dX12_layInvited_45 : decode cX12_layInvited 45 = .ok (.aload_n 0, 1) := by decide +kernel
theorem dX12_layInvited_46 : decode cX12_layInvited 46 = .ok (.getfield 96, 3) := by decide +kernel
theorem dX12_layInvited_49 : decode cX12_layInvited 49 = .ok (.iload 4, 2) := by decide +kernel
theorem dX12_layInvited_51 : decode cX12_layInvited 51 = .ok (.aload_n 0, 1) := by decide +kernel
theorem dX12_layInvited_52 : decode cX12_layInvited 52 = .ok (.getfield 93, 3) := by decide +kernel
theorem dX12_layInvited_55 : decode cX12_layInvited 55 = .ok (.iload 4, 2) := by decide +kernel
theorem dX12_layInvited_57 : decode cX12_layInvited 57 = .ok (.iaload, 1) := by decide +kernel
theorem dX12_layInvited_58 : decode cX12_layInvited 58 = .ok (.iastore, 1) := by decide +kernel
theorem dX12_layInvited_59 : decode cX12_layInvited 59 = .ok (.iinc 4 1, 3) := by decide +kernel
theorem dX12_layInvited_62 : decode cX12_layInvited 62 = .ok (.goto (-23), 3) := by decide +kernel
theorem dX12_layInvited_65 : decode cX12_layInvited 65 = .ok (.return_, 1) := by decide +kernel
theorem dX12_layInvited_66 : decode cX12_layInvited 66 = .ok (.iconst 0, 1) := by decide +kernel
theorem dX12_layInvited_67 : decode cX12_layInvited 67 = .ok (.istore 4, 2) := by decide +kernel
theorem dX12_layInvited_69 : decode cX12_layInvited 69 = .ok (.iload 4, 2) := by decide +kernel
theorem dX12_layInvited_71 : decode cX12_layInvited 71 = .ok (.aload_n 0, 1) := by decide +kernel
theorem dX12_layInvited_72 : decode cX12_layInvited 72 = .ok (.getfield 177, 3) := by decide +kernel
theorem dX12_layInvited_75 : decode cX12_layInvited 75 = .ok (.if_icmp .ge 80, 3) := by decide +kernel
theorem dX12_layInvited_78 : decode cX12_layInvited 78 = .ok (.aload_n 0, 1) := by decide +kernel
theorem dX12_layInvited_79 : decode cX12_layInvited 79 = .ok (.getfield 99, 3) := by decide +kernel
theorem dX12_layInvited_82 : decode cX12_layInvited 82 = .ok (.iload 4, 2) := by decide +kernel
theorem dX12_layInvited_84 : decode cX12_layInvited 84 = .ok (.iaload, 1) := by decide +kernel
theorem dX12_layInvited_85 : decode cX12_layInvited 85 = .ok (.ifCond .le 64, 3) := by decide +kernel
theorem dX12_layInvited_88 : decode cX12_layInvited 88 = .ok (.aload_n 0, 1) := by decide +kernel
theorem dX12_layInvited_89 : decode cX12_layInvited 89 = .ok (.getfield 99, 3) := by decide +kernel
theorem dX12_layInvited_92 : decode cX12_layInvited 92 = .ok (.iload 4, 2) := by decide +kernel
theorem dX12_layInvited_94 : decode cX12_layInvited 94 = .ok (.dup2, 1) := by decide +kernel
theorem dX12_layInvited_95 : decode cX12_layInvited 95 = .ok (.iaload, 1) := by decide +kernel
theorem dX12_layInvited_96 : decode cX12_layInvited 96 = .ok (.iconst 1, 1) := by decide +kernel
theorem dX12_layInvited_97 : decode cX12_layInvited 97 = .ok (.isub, 1) := by decide +kernel
theorem dX12_layInvited_98 : decode cX12_layInvited 98 = .ok (.iastore, 1) := by decide +kernel
theorem dX12_layInvited_99 : decode cX12_layInvited 99 = .ok (.aload_n 0, 1) := by decide +kernel
theorem dX12_layInvited_100 : decode cX12_layInvited 100 = .ok (.getfield 93, 3) := by decide +kernel
theorem dX12_layInvited_103 : decode cX12_layInvited 103 = .ok (.iload_n 1, 1) := by decide +kernel
theorem dX12_layInvited_104 : decode cX12_layInvited 104 = .ok (.iload 4, 2) := by decide +kernel
theorem dX12_layInvited_106 : decode cX12_layInvited 106 = .ok (.iastore, 1) := by decide +kernel
theorem dX12_layInvited_107 : decode cX12_layInvited 107 = .ok (.aload_n 0, 1) := by decide +kernel
theorem dX12_layInvited_108 : decode cX12_layInvited 108 = .ok (.iload_n 1, 1) := by decide +kernel
theorem dX12_layInvited_109 : decode cX12_layInvited 109 = .ok (.iconst 1, 1) := by decide +kernel
theorem dX12_layInvited_110 : decode cX12_layInvited 110 = .ok (.iadd, 1) := by decide +kernel
theorem dX12_layInvited_111 : decode cX12_layInvited 111 = .ok (.iload_n 2, 1) := by decide +kernel
theorem dX12_layInvited_112 : decode cX12_layInvited 112 = .ok (.aload_n 0, 1) := by decide +kernel
theorem dX12_layInvited_113 : decode cX12_layInvited 113 = .ok (.getfield 29, 3) := by decide +kernel
theorem dX12_layInvited_116 : decode cX12_layInvited 116 = .ok (.iload 4, 2) := by decide +kernel
theorem dX12_layInvited_118 : decode cX12_layInvited 118 = .ok (.iaload, 1) := by decide +kernel
theorem dX12_layInvited_119 : decode cX12_layInvited 119 = .ok (.aload_n 0, 1) := by decide +kernel
theorem dX12_layInvited_120 : decode cX12_layInvited 120 = .ok (.getfield 87, 3) := by decide +kernel
theorem dX12_layInvited_123 : decode cX12_layInvited 123 = .ok (.iload_n 1, 1) := by decide +kernel
theorem dX12_layInvited_124 : decode cX12_layInvited 124 = .ok (.iaload, 1) := by decide +kernel
theorem dX12_layInvited_125 : decode cX12_layInvited 125 = .ok (.imul, 1) := by decide +kernel
theorem dX12_layInvited_126 : decode cX12_layInvited 126 = .ok (.iadd, 1) := by decide +kernel
theorem dX12_layInvited_127 : decode cX12_layInvited 127 = .ok (.iload_n 3, 1) := by decide +kernel
theorem dX12_layInvited_128 : decode cX12_layInvited 128 = .ok (.aload_n 0, 1) := by decide +kernel
theorem dX12_layInvited_129 : decode cX12_layInvited 129 = .ok (.getfield 90, 3) := by decide +kernel
theorem dX12_layInvited_132 : decode cX12_layInvited 132 = .ok (.iload_n 1, 1) := by decide +kernel
theorem dX12_layInvited_133 : decode cX12_layInvited 133 = .ok (.iaload, 1) := by decide +kernel
theorem dX12_layInvited_134 : decode cX12_layInvited 134 = .ok (.iadd, 1) := by decide +kernel
theorem dX12_layInvited_135 : decode cX12_layInvited 135 = .ok (.invokevirtual 321, 3) := by decide +kernel
theorem dX12_layInvited_138 : decode cX12_layInvited 138 = .ok (.aload_n 0, 1) := by decide +kernel
theorem dX12_layInvited_139 : decode cX12_layInvited 139 = .ok (.getfield 99, 3) := by decide +kernel
theorem dX12_layInvited_142 : decode cX12_layInvited 142 = .ok (.iload 4, 2) := by decide +kernel
theorem dX12_layInvited_144 : decode cX12_layInvited 144 = .ok (.dup2, 1) := by decide +kernel
theorem dX12_layInvited_145 : decode cX12_layInvited 145 = .ok (.iaload, 1) := by decide +kernel
theorem dX12_layInvited_146 : decode cX12_layInvited 146 = .ok (.iconst 1, 1) := by decide +kernel
theorem dX12_layInvited_147 : decode cX12_layInvited 147 = .ok (.iadd, 1) := by decide +kernel
theorem dX12_layInvited_148 : decode cX12_layInvited 148 = .ok (.iastore, 1) := by decide +kernel
theorem dX12_layInvited_149 : decode cX12_layInvited 149 = .ok (.iinc 4 1, 3) := by decide +kernel
theorem dX12_layInvited_152 : decode cX12_layInvited 152 = .ok (.goto (-83), 3) := by decide +kernel
theorem dX12_layInvited_155 : decode cX12_layInvited 155 = .ok (.aload_n 0, 1) := by decide +kernel
theorem dX12_layInvited_156 : decode cX12_layInvited 156 = .ok (.getfield 93, 3) := by decide +kernel
theorem dX12_layInvited_159 : decode cX12_layInvited 159 = .ok (.iload_n 1, 1) := by decide +kernel
theorem dX12_layInvited_160 : decode cX12_layInvited 160 = .ok (.bipush (-9), 2) := by decide +kernel
theorem dX12_layInvited_162 : decode cX12_layInvited 162 = .ok (.iastore, 1) := by decide +kernel
theorem dX12_layInvited_163 : decode cX12_layInvited 163 = .ok (.aload_n 0, 1) := by decide +kernel
theorem dX12_layInvited_164 : decode cX12_layInvited 164 = .ok (.iload_n 1, 1) := by decide +kernel
theorem dX12_layInvited_165 : decode cX12_layInvited 165 = .ok (.iconst 1, 1) := by decide +kernel
theorem dX12_layInvited_166 : decode cX12_layInvited 166 = .ok (.iadd, 1) := by decide +kernel
theorem dX12_layInvited_167 : decode cX12_layInvited 167 = .ok (.iload_n 2, 1) := by decide +kernel
theorem dX12_layInvited_168 : decode cX12_layInvited 168 = .ok (.iload_n 3, 1) := by decide +kernel
theorem dX12_layInvited_169 : decode cX12_layInvited 169 = .ok (.invokevirtual 321, 3) := by decide +kernel
theorem dX12_layInvited_172 : decode cX12_layInvited 172 = .ok (.return_, 1) := by decide +kernel
theorem dX12_needInvited_0 : decode cX12_needInvited 0 = .ok (.aload_n 0, 1) := by decide +kernel
theorem dX12_needInvited_1 : decode cX12_needInvited 1 = .ok (.getfield 13, 3) := by decide +kernel
theorem dX12_needInvited_4 : decode cX12_needInvited 4 = .ok (.iload_n 1, 1) := by decide +kernel
theorem dX12_needInvited_5 : decode cX12_needInvited 5 = .ok (.iaload, 1) := by decide +kernel
theorem dX12_needInvited_6 : decode cX12_needInvited 6 = .ok (.ifCond .lt 12, 3) := by decide +kernel
theorem dX12_needInvited_9 : decode cX12_needInvited 9 = .ok (.aload_n 0, 1) := by decide +kernel
theorem dX12_needInvited_10 : decode cX12_needInvited 10 = .ok (.getfield 13, 3) := by decide +kernel
theorem dX12_needInvited_13 : decode cX12_needInvited 13 = .ok (.iload_n 2, 1) := by decide +kernel
theorem dX12_needInvited_14 : decode cX12_needInvited 14 = .ok (.iaload, 1) := by decide +kernel
theorem dX12_needInvited_15 : decode cX12_needInvited 15 = .ok (.ifCond .ge 9, 3) := by decide +kernel
theorem dX12_needInvited_18 : decode cX12_needInvited 18 = .ok (.aload_n 0, 1) := by decide +kernel
theorem dX12_needInvited_19 : decode cX12_needInvited 19 = .ok (.iconst 1, 1) := by decide +kernel
theorem dX12_needInvited_20 : decode cX12_needInvited 20 = .ok (.invokevirtual 127, 3) := by decide +kernel
theorem dX12_needInvited_23 : decode cX12_needInvited 23 = .ok (.ireturn, 1) := by decide +kernel
theorem dX12_needInvited_24 : decode cX12_needInvited 24 = .ok (.aload_n 0, 1) := by decide +kernel
theorem dX12_needInvited_25 : decode cX12_needInvited 25 = .ok (.getfield 13, 3) := by decide +kernel
theorem dX12_needInvited_28 : decode cX12_needInvited 28 = .ok (.iload_n 1, 1) := by decide +kernel
theorem dX12_needInvited_29 : decode cX12_needInvited 29 = .ok (.iaload, 1) := by decide +kernel
theorem dX12_needInvited_30 : decode cX12_needInvited 30 = .ok (.iconst 4, 1) := by decide +kernel
theorem dX12_needInvited_31 : decode cX12_needInvited 31 = .ok (.if_icmp .gt 18, 3) := by decide +kernel
theorem dX12_needInvited_34 : decode cX12_needInvited 34 = .ok (.aload_n 0, 1) := by decide +kernel
theorem dX12_needInvited_35 : decode cX12_needInvited 35 = .ok (.getfield 13, 3) := by decide +kernel
theorem dX12_needInvited_38 : decode cX12_needInvited 38 = .ok (.iload_n 1, 1) := by decide +kernel
theorem dX12_needInvited_39 : decode cX12_needInvited 39 = .ok (.iaload, 1) := by decide +kernel
theorem dX12_needInvited_40 : decode cX12_needInvited 40 = .ok (.aload_n 0, 1) := by decide +kernel
theorem dX12_needInvited_41 : decode cX12_needInvited 41 = .ok (.getfield 13, 3) := by decide +kernel
theorem dX12_needInvited_44 : decode cX12_needInvited 44 = .ok (.iload_n 2, 1) := by decide +kernel
theorem dX12_needInvited_45 : decode cX12_needInvited 45 = .ok (.iaload, 1) := by decide +kernel
theorem dX12_needInvited_46 : decode cX12_needInvited 46 = .ok (.if_icmp .eq 9, 3) := by decide +kernel
theorem dX12_needInvited_49 : decode cX12_needInvited 49 = .ok (.aload_n 0, 1) := by decide +kernel
theorem dX12_needInvited_50 : decode cX12_needInvited 50 = .ok (.iconst 5, 1) := by decide +kernel
theorem dX12_needInvited_51 : decode cX12_needInvited 51 = .ok (.invokevirtual 127, 3) := by decide +kernel
theorem dX12_needInvited_54 : decode cX12_needInvited 54 = .ok (.ireturn, 1) := by decide +kernel
theorem dX12_needInvited_55 : decode cX12_needInvited 55 = .ok (.iconst 1, 1) := by decide +kernel
theorem dX12_needInvited_56 : decode cX12_needInvited 56 = .ok (.istore_n 3, 1) := by decide +kernel
theorem dX12_needInvited_57 : decode cX12_needInvited 57 = .ok (.iconst 0, 1) := by decide +kernel
theorem dX12_needInvited_58 : decode cX12_needInvited 58 = .ok (.istore 4, 2) := by decide +kernel
theorem dX12_needInvited_60 : decode cX12_needInvited 60 = .ok (.iload 4, 2) := by decide +kernel
theorem dX12_needInvited_62 : decode cX12_needInvited 62 = .ok (.aload_n 0, 1) := by decide +kernel
theorem dX12_needInvited_63 : decode cX12_needInvited 63 = .ok (.getfield 13, 3) := by decide +kernel
theorem dX12_needInvited_66 : decode cX12_needInvited 66 = .ok (.iload_n 1, 1) := by decide +kernel
theorem dX12_needInvited_67 : decode cX12_needInvited 67 = .ok (.iaload, 1) := by decide +kernel
theorem dX12_needInvited_68 : decode cX12_needInvited 68 = .ok (.if_icmp .ge 51, 3) := by decide +kernel
theorem dX12_needInvited_71 : decode cX12_needInvited 71 = .ok (.iload_n 3, 1) := by decide +kernel
theorem dX12_needInvited_72 : decode cX12_needInvited 72 = .ok (.ifCond .eq 39, 3) := by decide +kernel
theorem dX12_needInvited_75 : decode cX12_needInvited 75 = .ok (.aload_n 0, 1) := by decide +kernel
theorem dX12_needInvited_76 : decode cX12_needInvited 76 = .ok (.iload_n 1, 1) := by decide +kernel
theorem dX12_needInvited_77 : decode cX12_needInvited 77 = .ok (.iload 4, 2) := by decide +kernel
theorem dX12_needInvited_79 : decode cX12_needInvited 79 = .ok (.invokevirtual 131, 3) := by decide +kernel
theorem dX12_needInvited_82 : decode cX12_needInvited 82 = .ok (.iconst 1, 1) := by decide +kernel
theorem dX12_needInvited_83 : decode cX12_needInvited 83 = .ok (.bipush 9, 2) := by decide +kernel
theorem dX12_needInvited_85 : decode cX12_needInvited 85 = .ok (.invokestatic 113, 3) := by decide +kernel
theorem dX12_needInvited_88 : decode cX12_needInvited 88 = .ok (.ifCond .eq 23, 3) := by decide +kernel
theorem dX12_needInvited_91 : decode cX12_needInvited 91 = .ok (.aload_n 0, 1) := by decide +kernel
theorem dX12_needInvited_92 : decode cX12_needInvited 92 = .ok (.iload_n 2, 1) := by decide +kernel
theorem dX12_needInvited_93 : decode cX12_needInvited 93 = .ok (.iload 4, 2) := by decide +kernel
theorem dX12_needInvited_95 : decode cX12_needInvited 95 = .ok (.invokevirtual 131, 3) := by decide +kernel
theorem dX12_needInvited_98 : decode cX12_needInvited 98 = .ok (.iconst 0, 1) := by decide +kernel
theorem dX12_needInvited_99 : decode cX12_needInvited 99 = .ok (.bipush 99, 2) := by decide +kernel
theorem dX12_needInvited_101 : decode cX12_needInvited 101 = .ok (.invokestatic 113, 3) := by decide +kernel
theorem dX12_needInvited_104 : decode cX12_needInvited 104 = .ok (.ifCond .eq 7, 3) := by decide +kernel
theorem dX12_needInvited_107 : decode cX12_needInvited 107 = .ok (.iconst 1, 1) := by decide +kernel
theorem dX12_needInvited_108 : decode cX12_needInvited 108 = .ok (.goto 4, 3) := by decide +kernel
theorem dX12_needInvited_111 : decode cX12_needInvited 111 = .ok (.iconst 0, 1) := by decide +kernel
theorem dX12_needInvited_112 : decode cX12_needInvited 112 = .ok (.istore_n 3, 1) := by decide +kernel
theorem dX12_needInvited_113 : decode cX12_needInvited 113 = .ok (.iinc 4 1, 3) := by decide +kernel
theorem dX12_needInvited_116 : decode cX12_needInvited 116 = .ok (.goto (-56), 3) := by decide +kernel
theorem dX12_needInvited_119 : decode cX12_needInvited 119 = .ok (.iload_n 3, 1) := by decide +kernel
theorem dX12_needInvited_120 : decode cX12_needInvited 120 = .ok (.ifCond .ne 9, 3) := by decide +kernel
theorem dX12_needInvited_123 : decode cX12_needInvited 123 = .ok (.aload_n 0, 1) := by decide +kernel
theorem dX12_needInvited_124 : decode cX12_needInvited 124 = .ok (.iconst 3, 1) := by decide +kernel
theorem dX12_needInvited_125 : decode cX12_needInvited 125 = .ok (.invokevirtual 127, 3) := by decide +kernel
theorem dX12_needInvited_128 : decode cX12_needInvited 128 = .ok (.ireturn, 1) := by decide +kernel
theorem dX12_needInvited_129 : decode cX12_needInvited 129 = .ok (.aload_n 0, 1) := by decide +kernel
theorem dX12_needInvited_130 : decode cX12_needInvited 130 = .ok (.aload_n 0, 1) := by decide +kernel
theorem dX12_needInvited_131 : decode cX12_needInvited 131 = .ok (.getfield 13, 3) := by decide +kernel
theorem dX12_needInvited_134 : decode cX12_needInvited 134 = .ok (.iload_n 1, 1) := by decide +kernel
theorem dX12_needInvited_135 : decode cX12_needInvited 135 = .ok (.iaload, 1) := by decide +kernel
theorem dX12_needInvited_136 : decode cX12_needInvited 136 = .ok (.putfield 315, 3) := by decide +kernel
theorem dX12_needInvited_139 : decode cX12_needInvited 139 = .ok (.iconst 0, 1) := by decide +kernel
theorem dX12_needInvited_140 : decode cX12_needInvited 140 = .ok (.istore 4, 2) := by decide +kernel
theorem dX12_needInvited_142 : decode cX12_needInvited 142 = .ok (.iload 4, 2) := by decide +kernel
theorem dX12_needInvited_144 : decode cX12_needInvited 144 = .ok (.aload_n 0, 1) := by decide +kernel
theorem dX12_needInvited_145 : decode cX12_needInvited 145 = .ok (.getfield 315, 3) := by decide +kernel
theorem dX12_needInvited_148 : decode cX12_needInvited 148 = .ok (.if_icmp .ge 37, 3) := by decide +kernel
theorem dX12_needInvited_151 : decode cX12_needInvited 151 = .ok (.aload_n 0, 1) := by decide +kernel
theorem dX12_needInvited_152 : decode cX12_needInvited 152 = .ok (.getfield 87, 3) := by decide +kernel
theorem dX12_needInvited_155 : decode cX12_needInvited 155 = .ok (.iload 4, 2) := by decide +kernel
theorem dX12_needInvited_157 : decode cX12_needInvited 157 = .ok (.aload_n 0, 1) := by decide +kernel
theorem dX12_needInvited_158 : decode cX12_needInvited 158 = .ok (.iload_n 1, 1) := by decide +kernel
theorem dX12_needInvited_159 : decode cX12_needInvited 159 = .ok (.iload 4, 2) := by decide +kernel
theorem dX12_needInvited_161 : decode cX12_needInvited 161 = .ok (.invokevirtual 131, 3) := by decide +kernel
theorem dX12_needInvited_164 : decode cX12_needInvited 164 = .ok (.iastore, 1) := by decide +kernel
theorem dX12_needInvited_165 : decode cX12_needInvited 165 = .ok (.aload_n 0, 1) := by decide +kernel
theorem dX12_needInvited_166 : decode cX12_needInvited 166 = .ok (.getfield 90, 3) := by decide +kernel
theorem dX12_needInvited_169 : decode cX12_needInvited 169 = .ok (.iload 4, 2) := by decide +kernel
theorem dX12_needInvited_171 : decode cX12_needInvited 171 = .ok (.aload_n 0, 1) := by decide +kernel
theorem dX12_needInvited_172 : decode cX12_needInvited 172 = .ok (.iload_n 2, 1) := by decide +kernel
theorem dX12_needInvited_173 : decode cX12_needInvited 173 = .ok (.iload 4, 2) := by decide +kernel
theorem dX12_needInvited_175 : decode cX12_needInvited 175 = .ok (.invokevirtual 131, 3) := by decide +kernel
theorem dX12_needInvited_178 : decode cX12_needInvited 178 = .ok (.iastore, 1) := by decide +kernel
theorem dX12_needInvited_179 : decode cX12_needInvited 179 = .ok (.iinc 4 1, 3) := by decide +kernel
theorem dX12_needInvited_182 : decode cX12_needInvited 182 = .ok (.goto (-40), 3) := by decide +kernel
theorem dX12_needInvited_185 : decode cX12_needInvited 185 = .ok (.iconst 0, 1) := by decide +kernel
theorem dX12_needInvited_186 : decode cX12_needInvited 186 = .ok (.ireturn, 1) := by decide +kernel
theorem dX12_invite_0 : decode cX12_invite 0 = .ok (.iload_n 1, 1) := by decide +kernel
theorem dX12_invite_1 : decode cX12_invite 1 = .ok (.invokestatic 123, 3) := by decide +kernel
theorem dX12_invite_4 : decode cX12_invite 4 = .ok (.ifCond .eq 17, 3) := by decide +kernel
theorem dX12_invite_7 : decode cX12_invite 7 = .ok (.iload_n 2, 1) := by decide +kernel
theorem dX12_invite_8 : decode cX12_invite 8 = .ok (.invokestatic 123, 3) := by decide +kernel
theorem dX12_invite_11 : decode cX12_invite 11 = .ok (.ifCond .eq 10, 3) := by decide +kernel
theorem dX12_invite_14 : decode cX12_invite 14 = .ok (.iload_n 3, 1) := by decide +kernel
theorem dX12_invite_15 : decode cX12_invite 15 = .ok (.invokestatic 123, 3) := by decide +kernel
theorem dX12_invite_18 : decode cX12_invite 18 = .ok (.ifCond .ne 5, 3) := by decide +kernel
theorem dX12_invite_21 : decode cX12_invite 21 = .ok (.iconst (-1), 1) := by decide +kernel
theorem dX12_invite_22 : decode cX12_invite 22 = .ok (.ireturn, 1) := by decide +kernel
theorem dX12_invite_23 : decode cX12_invite 23 = .ok (.aload_n 0, 1) := by decide +kernel
theorem dX12_invite_24 : decode cX12_invite 24 = .ok (.getfield 177, 3) := by decide +kernel
theorem dX12_invite_27 : decode cX12_invite 27 = .ok (.ifCond .ne 6, 3) := by decide +kernel
theorem dX12_invite_30 : decode cX12_invite 30 = .ok (.bipush (-4), 2) := by decide +kernel
theorem dX12_invite_32 : decode cX12_invite 32 = .ok (.ireturn, 1) := by decide +kernel
theorem dX12_invite_33 : decode cX12_invite 33 = .ok (.aload_n 0, 1) := by decide +kernel
theorem dX12_invite_34 : decode cX12_invite 34 = .ok (.iload_n 1, 1) := by decide +kernel
theorem dX12_invite_35 : decode cX12_invite 35 = .ok (.iload_n 2, 1) := by decide +kernel
theorem dX12_invite_36 : decode cX12_invite 36 = .ok (.invokevirtual 325, 3) := by decide +kernel
theorem dX12_invite_39 : decode cX12_invite 39 = .ok (.istore 4, 2) := by decide +kernel
theorem dX12_invite_41 : decode cX12_invite 41 = .ok (.iload 4, 2) := by decide +kernel
theorem dX12_invite_43 : decode cX12_invite 43 = .ok (.ifCond .ge 6, 3) := by decide +kernel
theorem dX12_invite_46 : decode cX12_invite 46 = .ok (.iload 4, 2) := by decide +kernel
theorem dX12_invite_48 : decode cX12_invite 48 = .ok (.ireturn, 1) := by decide +kernel
theorem dX12_invite_49 : decode cX12_invite 49 = .ok (.iconst 0, 1) := by decide +kernel
theorem dX12_invite_50 : decode cX12_invite 50 = .ok (.istore 5, 2) := by decide +kernel
theorem dX12_invite_52 : decode cX12_invite 52 = .ok (.iload 5, 2) := by decide +kernel
theorem dX12_invite_54 : decode cX12_invite 54 = .ok (.aload_n 0, 1) := by decide +kernel
theorem dX12_invite_55 : decode cX12_invite 55 = .ok (.getfield 177, 3) := by decide +kernel
theorem dX12_invite_58 : decode cX12_invite 58 = .ok (.if_icmp .ge 24, 3) := by decide +kernel
theorem dX12_invite_61 : decode cX12_invite 61 = .ok (.aload_n 0, 1) := by decide +kernel
theorem dX12_invite_62 : decode cX12_invite 62 = .ok (.getfield 99, 3) := by decide +kernel
theorem dX12_invite_65 : decode cX12_invite 65 = .ok (.iload 5, 2) := by decide +kernel
theorem dX12_invite_67 : decode cX12_invite 67 = .ok (.iconst 2, 1) := by decide +kernel
theorem dX12_invite_68 : decode cX12_invite 68 = .ok (.aload_n 0, 1) := by decide +kernel
theorem dX12_invite_69 : decode cX12_invite 69 = .ok (.iload 5, 2) := by decide +kernel
theorem dX12_invite_71 : decode cX12_invite 71 = .ok (.invokevirtual 208, 3) := by decide +kernel
theorem dX12_invite_74 : decode cX12_invite 74 = .ok (.isub, 1) := by decide +kernel
theorem dX12_invite_75 : decode cX12_invite 75 = .ok (.iastore, 1) := by decide +kernel
theorem dX12_invite_76 : decode cX12_invite 76 = .ok (.iinc 5 1, 3) := by decide +kernel
theorem dX12_invite_79 : decode cX12_invite 79 = .ok (.goto (-27), 3) := by decide +kernel
theorem dX12_invite_82 : decode cX12_invite 82 = .ok (.aload_n 0, 1) := by decide +kernel
theorem dX12_invite_83 : decode cX12_invite 83 = .ok (.iconst (-1), 1) := by decide +kernel
theorem dX12_invite_84 : decode cX12_invite 84 = .ok (.putfield 318, 3) := by decide +kernel
theorem dX12_invite_87 : decode cX12_invite 87 = .ok (.aload_n 0, 1) := by decide +kernel
theorem dX12_invite_88 : decode cX12_invite 88 = .ok (.iconst 0, 1) := by decide +kernel
theorem dX12_invite_89 : decode cX12_invite 89 = .ok (.aload_n 0, 1) := by decide +kernel
theorem dX12_invite_90 : decode cX12_invite 90 = .ok (.iconst 0, 1) := by decide +kernel
theorem dX12_invite_91 : decode cX12_invite 91 = .ok (.aload_n 0, 1) := by decide +kernel
theorem dX12_invite_92 : decode cX12_invite 92 = .ok (.getfield 235, 3) := by decide +kernel
theorem dX12_invite_95 : decode cX12_invite 95 = .ok (.invokevirtual 263, 3) := by decide +kernel
theorem dX12_invite_98 : decode cX12_invite 98 = .ok (.iconst 0, 1) := by decide +kernel
theorem dX12_invite_99 : decode cX12_invite 99 = .ok (.invokevirtual 321, 3) := by decide +kernel
theorem dX12_invite_102 : decode cX12_invite 102 = .ok (.aload_n 0, 1) := by decide +kernel
theorem dX12_invite_103 : decode cX12_invite 103 = .ok (.getfield 318, 3) := by decide +kernel
theorem dX12_invite_106 : decode cX12_invite 106 = .ok (.ifCond .ge 6, 3) := by decide +kernel
theorem dX12_invite_109 : decode cX12_invite 109 = .ok (.bipush (-9), 2) := by decide +kernel
theorem dX12_invite_111 : decode cX12_invite 111 = .ok (.ireturn, 1) := by decide +kernel
theorem dX12_invite_112 : decode cX12_invite 112 = .ok (.aload_n 0, 1) := by decide +kernel
theorem dX12_invite_113 : decode cX12_invite 113 = .ok (.getfield 13, 3) := by decide +kernel
theorem dX12_invite_116 : decode cX12_invite 116 = .ok (.iload_n 3, 1) := by decide +kernel
theorem dX12_invite_117 : decode cX12_invite 117 = .ok (.aload_n 0, 1) := by decide +kernel
theorem dX12_invite_118 : decode cX12_invite 118 = .ok (.getfield 315, 3) := by decide +kernel
theorem dX12_invite_121 : decode cX12_invite 121 = .ok (.iastore, 1) := by decide +kernel
theorem dX12_invite_122 : decode cX12_invite 122 = .ok (.iconst 0, 1) := by decide +kernel
theorem dX12_invite_123 : decode cX12_invite 123 = .ok (.istore 5, 2) := by decide +kernel
theorem dX12_invite_125 : decode cX12_invite 125 = .ok (.iload 5, 2) := by decide +kernel
theorem dX12_invite_127 : decode cX12_invite 127 = .ok (.bipush 60, 2) := by decide +kernel
theorem dX12_invite_129 : decode cX12_invite 129 = .ok (.if_icmp .ge 41, 3) := by decide +kernel
theorem dX12_invite_132 : decode cX12_invite 132 = .ok (.aload_n 0, 1) := by decide +kernel
theorem dX12_invite_133 : decode cX12_invite 133 = .ok (.getfield 16, 3) := by decide +kernel
theorem dX12_invite_136 : decode cX12_invite 136 = .ok (.bipush 60, 2) := by decide +kernel
theorem dX12_invite_138 : decode cX12_invite 138 = .ok (.iload_n 3, 1) := by decide +kernel
theorem dX12_invite_139 : decode cX12_invite 139 = .ok (.imul, 1) := by decide +kernel
theorem dX12_invite_140 : decode cX12_invite 140 = .ok (.iload 5, 2) := by decide +kernel
theorem dX12_invite_142 : decode cX12_invite 142 = .ok (.iadd, 1) := by decide +kernel
theorem dX12_invite_143 : decode cX12_invite 143 = .ok (.iload 5, 2) := by decide +kernel
theorem dX12_invite_145 : decode cX12_invite 145 = .ok (.aload_n 0, 1) := by decide +kernel
theorem dX12_invite_146 : decode cX12_invite 146 = .ok (.getfield 315, 3) := by decide +kernel
theorem dX12_invite_149 : decode cX12_invite 149 = .ok (.if_icmp .ge 13, 3) := by decide +kernel
theorem dX12_invite_152 : decode cX12_invite 152 = .ok (.aload_n 0, 1) := by decide +kernel
theorem dX12_invite_153 : decode cX12_invite 153 = .ok (.getfield 96, 3) := by decide +kernel
theorem dX12_invite_156 : decode cX12_invite 156 = .ok (.iload 5, 2) := by decide +kernel
theorem dX12_invite_158 : decode cX12_invite 158 = .ok (.iaload, 1) := by decide +kernel
theorem dX12_invite_159 : decode cX12_invite 159 = .ok (.goto 4, 3) := by decide +kernel
theorem dX12_invite_162 : decode cX12_invite 162 = .ok (.iconst 0, 1) := by decide +kernel
theorem dX12_invite_163 : decode cX12_invite 163 = .ok (.iastore, 1) := by decide +kernel
theorem dX12_invite_164 : decode cX12_invite 164 = .ok (.iinc 5 1, 3) := by decide +kernel
theorem dX12_invite_167 : decode cX12_invite 167 = .ok (.goto (-42), 3) := by decide +kernel
theorem dX12_invite_170 : decode cX12_invite 170 = .ok (.aload_n 0, 1) := by decide +kernel
theorem dX12_invite_171 : decode cX12_invite 171 = .ok (.getfield 318, 3) := by decide +kernel
theorem dX12_invite_174 : decode cX12_invite 174 = .ok (.ireturn, 1) := by decide +kernel
theorem dX12_far_0 : decode cX12_far 0 = .ok (.aload_n 0, 1) := by decide +kernel
theorem dX12_far_1 : decode cX12_far 1 = .ok (.iload_n 1, 1) := by decide +kernel
theorem dX12_far_2 : decode cX12_far 2 = .ok (.invokevirtual 223, 3) := by decide +kernel
theorem dX12_far_5 : decode cX12_far 5 = .ok (.ifCond .eq 12, 3) := by decide +kernel
theorem dX12_far_8 : decode cX12_far 8 = .ok (.iload_n 2, 1) := by decide +kernel
theorem dX12_far_9 : decode cX12_far 9 = .ok (.iconst 0, 1) := by decide +kernel
theorem dX12_far_10 : decode cX12_far 10 = .ok (.iconst 2, 1) := by decide +kernel
theorem dX12_far_11 : decode cX12_far 11 = .ok (.invokestatic 113, 3) := by decide +kernel
theorem dX12_far_14 : decode cX12_far 14 = .ok (.ifCond .ne 5, 3) := by decide +kernel
theorem dX12_far_17 : decode cX12_far 17 = .ok (.iconst (-1), 1) := by decide +kernel
theorem dX12_far_18 : decode cX12_far 18 = .ok (.ireturn, 1) := by decide +kernel
theorem dX12_far_19 : decode cX12_far 19 = .ok (.aload_n 0, 1) := by decide +kernel
theorem dX12_far_20 : decode cX12_far 20 = .ok (.getfield 41, 3) := by decide +kernel
theorem dX12_far_23 : decode cX12_far 23 = .ok (.iload_n 1, 1) := by decide +kernel
theorem dX12_far_24 : decode cX12_far 24 = .ok (.iaload, 1) := by decide +kernel
theorem dX12_far_25 : decode cX12_far 25 = .ok (.istore_n 3, 1) := by decide +kernel
theorem dX12_far_26 : decode cX12_far 26 = .ok (.bipush (-9), 2) := by decide +kernel
theorem dX12_far_28 : decode cX12_far 28 = .ok (.istore 4, 2) := by decide +kernel
theorem dX12_far_30 : decode cX12_far 30 = .ok (.iconst (-1), 1) := by decide +kernel
theorem dX12_far_31 : decode cX12_far 31 = .ok (.istore 5, 2) := by decide +kernel
theorem dX12_far_33 : decode cX12_far 33 = .ok (.iconst 0, 1) := by decide +kernel
theorem dX12_far_34 : decode cX12_far 34 = .ok (.istore 6, 2) := by decide +kernel
theorem dX12_far_36 : decode cX12_far 36 = .ok (.iload 6, 2) := by decide +kernel
theorem dX12_far_38 : decode cX12_far 38 = .ok (.aload_n 0, 1) := by decide +kernel
theorem dX12_far_39 : decode cX12_far 39 = .ok (.getfield 177, 3) := by decide +kernel
theorem dX12_far_42 : decode cX12_far 42 = .ok (.if_icmp .ge 64, 3) := by decide +kernel
theorem dX12_far_45 : decode cX12_far 45 = .ok (.aload_n 0, 1) := by decide +kernel
theorem dX12_far_46 : decode cX12_far 46 = .ok (.getfield 41, 3) := by decide +kernel
theorem dX12_far_49 : decode cX12_far 49 = .ok (.iload_n 1, 1) := by decide +kernel
theorem dX12_far_50 : decode cX12_far 50 = .ok (.iload 6, 2) := by decide +kernel
theorem dX12_far_52 : decode cX12_far 52 = .ok (.iastore, 1) := by decide +kernel
theorem dX12_far_53 : decode cX12_far 53 = .ok (.aload_n 0, 1) := by decide +kernel
theorem dX12_far_54 : decode cX12_far 54 = .ok (.aload_n 0, 1) := by decide +kernel
theorem dX12_far_55 : decode cX12_far 55 = .ok (.iload_n 2, 1) := by decide +kernel
theorem dX12_far_56 : decode cX12_far 56 = .ok (.aload_n 0, 1) := by decide +kernel
theorem dX12_far_57 : decode cX12_far 57 = .ok (.getfield 235, 3) := by decide +kernel
theorem dX12_far_60 : decode cX12_far 60 = .ok (.invokevirtual 263, 3) := by decide +kernel
theorem dX12_far_63 : decode cX12_far 63 = .ok (.invokevirtual 266, 3) := by decide +kernel
theorem dX12_far_66 : decode cX12_far 66 = .ok (.ifCond .eq 34, 3) := by decide +kernel
theorem dX12_far_69 : decode cX12_far 69 = .ok (.aload_n 0, 1) := by decide +kernel
theorem dX12_far_70 : decode cX12_far 70 = .ok (.getfield 29, 3) := by decide +kernel
theorem dX12_far_73 : decode cX12_far 73 = .ok (.iload 6, 2) := by decide +kernel
theorem dX12_far_75 : decode cX12_far 75 = .ok (.iaload, 1) := by decide +kernel
theorem dX12_far_76 : decode cX12_far 76 = .ok (.invokestatic 189, 3) := by decide +kernel
theorem dX12_far_79 : decode cX12_far 79 = .ok (.iload 5, 2) := by decide +kernel
theorem dX12_far_81 : decode cX12_far 81 = .ok (.if_icmp .le 19, 3) := by decide +kernel
theorem dX12_far_84 : decode cX12_far 84 = .ok (.iload 6, 2) := by decide +kernel
theorem dX12_far_86 : decode cX12_far 86 = .ok (.istore 4, 2) := by decide +kernel
theorem dX12_far_88 : decode cX12_far 88 = .ok (.aload_n 0, 1) := by decide +kernel
theorem dX12_far_89 : decode cX12_far 89 = .ok (.getfield 29, 3) := by decide +kernel
theorem dX12_far_92 : decode cX12_far 92 = .ok (.iload 6, 2) := by decide +kernel
theorem dX12_far_94 : decode cX12_far 94 = .ok (.iaload, 1) := by decide +kernel
theorem dX12_far_95 : decode cX12_far 95 = .ok (.invokestatic 189, 3) := by decide +kernel
theorem dX12_far_98 : decode cX12_far 98 = .ok (.istore 5, 2) := by decide +kernel
theorem dX12_far_100 : decode cX12_far 100 = .ok (.iinc 6 1, 3) := by decide +kernel
theorem dX12_far_103 : decode cX12_far 103 = .ok (.goto (-67), 3) := by decide +kernel
theorem dX12_far_106 : decode cX12_far 106 = .ok (.aload_n 0, 1) := by decide +kernel
theorem dX12_far_107 : decode cX12_far 107 = .ok (.getfield 41, 3) := by decide +kernel
theorem dX12_far_110 : decode cX12_far 110 = .ok (.iload_n 1, 1) := by decide +kernel
theorem dX12_far_111 : decode cX12_far 111 = .ok (.iload_n 3, 1) := by decide +kernel
theorem dX12_far_112 : decode cX12_far 112 = .ok (.iastore, 1) := by decide +kernel
theorem dX12_far_113 : decode cX12_far 113 = .ok (.iload 4, 2) := by decide +kernel
theorem dX12_far_115 : decode cX12_far 115 = .ok (.bipush (-9), 2) := by decide +kernel
theorem dX12_far_117 : decode cX12_far 117 = .ok (.if_icmp .ne 8, 3) := by decide +kernel
theorem dX12_far_120 : decode cX12_far 120 = .ok (.bipush (-9), 2) := by decide +kernel
theorem dX12_far_122 : decode cX12_far 122 = .ok (.goto 11, 3) := by decide +kernel
theorem dX12_far_125 : decode cX12_far 125 = .ok (.aload_n 0, 1) := by decide +kernel
theorem dX12_far_126 : decode cX12_far 126 = .ok (.iload 4, 2) := by decide +kernel
theorem dX12_far_128 : decode cX12_far 128 = .ok (.iload 5, 2) := by decide +kernel
theorem dX12_far_130 : decode cX12_far 130 = .ok (.invokevirtual 135, 3) := by decide +kernel
theorem dX12_far_133 : decode cX12_far 133 = .ok (.ireturn, 1) := by decide +kernel
theorem dX12_crossed_0 : decode cX12_crossed 0 = .ok (.iconst 0, 1) := by decide +kernel
theorem dX12_crossed_1 : decode cX12_crossed 1 = .ok (.istore_n 1, 1) := by decide +kernel
theorem dX12_crossed_2 : decode cX12_crossed 2 = .ok (.iconst 0, 1) := by decide +kernel
theorem dX12_crossed_3 : decode cX12_crossed 3 = .ok (.istore_n 2, 1) := by decide +kernel
theorem dX12_crossed_4 : decode cX12_crossed 4 = .ok (.iconst 0, 1) := by decide +kernel
theorem dX12_crossed_5 : decode cX12_crossed 5 = .ok (.istore_n 3, 1) := by decide +kernel
theorem dX12_crossed_6 : decode cX12_crossed 6 = .ok (.iload_n 3, 1) := by decide +kernel
theorem dX12_crossed_7 : decode cX12_crossed 7 = .ok (.aload_n 0, 1) := by decide +kernel
theorem dX12_crossed_8 : decode cX12_crossed 8 = .ok (.getfield 183, 3) := by decide +kernel
theorem dX12_crossed_11 : decode cX12_crossed 11 = .ok (.if_icmp .ge 91, 3) := by decide +kernel
theorem dX12_crossed_14 : decode cX12_crossed 14 = .ok (.aload_n 0, 1) := by decide +kernel
theorem dX12_crossed_15 : decode cX12_crossed 15 = .ok (.getfield 41, 3) := by decide +kernel
theorem dX12_crossed_18 : decode cX12_crossed 18 = .ok (.aload_n 0, 1) := by decide +kernel
theorem dX12_crossed_19 : decode cX12_crossed 19 = .ok (.getfield 59, 3) := by decide +kernel
theorem dX12_crossed_22 : decode cX12_crossed 22 = .ok (.iload_n 3, 1) := by decide +kernel
theorem dX12_crossed_23 : decode cX12_crossed 23 = .ok (.iaload, 1) := by decide +kernel
theorem dX12_crossed_24 : decode cX12_crossed 24 = .ok (.iaload, 1) := by decide +kernel
theorem dX12_crossed_25 : decode cX12_crossed 25 = .ok (.istore 4, 2) := by decide +kernel
theorem dX12_crossed_27 : decode cX12_crossed 27 = .ok (.aload_n 0, 1) := by decide +kernel
theorem dX12_crossed_28 : decode cX12_crossed 28 = .ok (.getfield 41, 3) := by decide +kernel
theorem dX12_crossed_31 : decode cX12_crossed 31 = .ok (.aload_n 0, 1) := by decide +kernel
theorem dX12_crossed_32 : decode cX12_crossed 32 = .ok (.getfield 62, 3) := by decide +kernel
theorem dX12_crossed_35 : decode cX12_crossed 35 = .ok (.iload_n 3, 1) := by decide +kernel
theorem dX12_crossed_36 : decode cX12_crossed 36 = .ok (.iaload, 1) := by decide +kernel
theorem dX12_crossed_37 : decode cX12_crossed 37 = .ok (.iaload, 1) := by decide +kernel
theorem dX12_crossed_38 : decode cX12_crossed 38 = .ok (.istore 5, 2) := by decide +kernel
theorem dX12_crossed_40 : decode cX12_crossed 40 = .ok (.iload_n 1, 1) := by decide +kernel
theorem dX12_crossed_41 : decode cX12_crossed 41 = .ok (.iload 4, 2) := by decide +kernel
theorem dX12_crossed_43 : decode cX12_crossed 43 = .ok (.bipush (-9), 2) := by decide +kernel
theorem dX12_crossed_45 : decode cX12_crossed 45 = .ok (.if_icmp .eq 32, 3) := by decide +kernel
theorem dX12_crossed_48 : decode cX12_crossed 48 = .ok (.iload 5, 2) := by decide +kernel
theorem dX12_crossed_50 : decode cX12_crossed 50 = .ok (.bipush (-9), 2) := by decide +kernel
theorem dX12_crossed_52 : decode cX12_crossed 52 = .ok (.if_icmp .eq 25, 3) := by decide +kernel
theorem dX12_crossed_55 : decode cX12_crossed 55 = .ok (.aload_n 0, 1) := by decide +kernel
theorem dX12_crossed_56 : decode cX12_crossed 56 = .ok (.getfield 29, 3) := by decide +kernel
theorem dX12_crossed_59 : decode cX12_crossed 59 = .ok (.iload 4, 2) := by decide +kernel
theorem dX12_crossed_61 : decode cX12_crossed 61 = .ok (.iaload, 1) := by decide +kernel
theorem dX12_crossed_62 : decode cX12_crossed 62 = .ok (.aload_n 0, 1) := by decide +kernel
theorem dX12_crossed_63 : decode cX12_crossed 63 = .ok (.getfield 29, 3) := by decide +kernel
theorem dX12_crossed_66 : decode cX12_crossed 66 = .ok (.iload 5, 2) := by decide +kernel
theorem dX12_crossed_68 : decode cX12_crossed 68 = .ok (.iaload, 1) := by decide +kernel
theorem dX12_crossed_69 : decode cX12_crossed 69 = .ok (.imul, 1) := by decide +kernel
theorem dX12_crossed_70 : decode cX12_crossed 70 = .ok (.ifCond .ge 7, 3) := by decide +kernel
theorem dX12_crossed_73 : decode cX12_crossed 73 = .ok (.iconst 1, 1) := by decide +kernel
theorem dX12_crossed_74 : decode cX12_crossed 74 = .ok (.goto 4, 3) := by decide +kernel
theorem dX12_crossed_77 : decode cX12_crossed 77 = .ok (.iconst 0, 1) := by decide +kernel
theorem dX12_crossed_78 : decode cX12_crossed 78 = .ok (.iadd, 1) := by decide +kernel
theorem dX12_crossed_79 : decode cX12_crossed 79 = .ok (.istore_n 1, 1) := by decide +kernel
theorem dX12_crossed_80 : decode cX12_crossed 80 = .ok (.iload_n 2, 1) := by decide +kernel
theorem dX12_crossed_81 : decode cX12_crossed 81 = .ok (.aload_n 0, 1) := by decide +kernel
theorem dX12_crossed_82 : decode cX12_crossed 82 = .ok (.iload_n 3, 1) := by decide +kernel
theorem dX12_crossed_83 : decode cX12_crossed 83 = .ok (.invokevirtual 238, 3) := by decide +kernel
theorem dX12_crossed_86 : decode cX12_crossed 86 = .ok (.ifCond .eq 7, 3) := by decide +kernel
theorem dX12_crossed_89 : decode cX12_crossed 89 = .ok (.iconst 1, 1) := by decide +kernel
theorem dX12_crossed_90 : decode cX12_crossed 90 = .ok (.goto 4, 3) := by decide +kernel
theorem dX12_crossed_93 : decode cX12_crossed 93 = .ok (.iconst 0, 1) := by decide +kernel
theorem dX12_crossed_94 : decode cX12_crossed 94 = .ok (.iadd, 1) := by decide +kernel
theorem dX12_crossed_95 : decode cX12_crossed 95 = .ok (.istore_n 2, 1) := by decide +kernel
theorem dX12_crossed_96 : decode cX12_crossed 96 = .ok (.iinc 3 1, 3) := by decide +kernel
theorem dX12_crossed_99 : decode cX12_crossed 99 = .ok (.goto (-93), 3) := by decide +kernel
theorem dX12_crossed_102 : decode cX12_crossed 102 = .ok (.aload_n 0, 1) := by decide +kernel
theorem dX12_crossed_103 : decode cX12_crossed 103 = .ok (.iload_n 2, 1) := by decide +kernel
theorem dX12_crossed_104 : decode cX12_crossed 104 = .ok (.iload_n 1, 1) := by decide +kernel
theorem dX12_crossed_105 : decode cX12_crossed 105 = .ok (.invokevirtual 135, 3) := by decide +kernel
theorem dX12_crossed_108 : decode cX12_crossed 108 = .ok (.ireturn, 1) := by decide +kernel
theorem dX12_weightAll_0 : decode cX12_weightAll 0 = .ok (.iconst 0, 1) := by decide +kernel
theorem dX12_weightAll_1 : decode cX12_weightAll 1 = .ok (.istore_n 1, 1) := by decide +kernel
theorem dX12_weightAll_2 : decode cX12_weightAll 2 = .ok (.iconst 0, 1) := by decide +kernel
theorem dX12_weightAll_3 : decode cX12_weightAll 3 = .ok (.istore_n 2, 1) := by decide +kernel
theorem dX12_weightAll_4 : decode cX12_weightAll 4 = .ok (.iload_n 2, 1) := by decide +kernel
theorem dX12_weightAll_5 : decode cX12_weightAll 5 = .ok (.aload_n 0, 1) := by decide +kernel
theorem dX12_weightAll_6 : decode cX12_weightAll 6 = .ok (.getfield 180, 3) := by decide +kernel
theorem dX12_weightAll_9 : decode cX12_weightAll 9 = .ok (.if_icmp .ge 17, 3) := by decide +kernel
theorem dX12_weightAll_12 : decode cX12_weightAll 12 = .ok (.iload_n 1, 1) := by decide +kernel
theorem dX12_weightAll_13 : decode cX12_weightAll 13 = .ok (.aload_n 0, 1) := by decide +kernel
theorem dX12_weightAll_14 : decode cX12_weightAll 14 = .ok (.iload_n 2, 1) := by decide +kernel
theorem dX12_weightAll_15 : decode cX12_weightAll 15 = .ok (.invokevirtual 199, 3) := by decide +kernel
theorem dX12_weightAll_18 : decode cX12_weightAll 18 = .ok (.iadd, 1) := by decide +kernel
theorem dX12_weightAll_19 : decode cX12_weightAll 19 = .ok (.istore_n 1, 1) := by decide +kernel
theorem dX12_weightAll_20 : decode cX12_weightAll 20 = .ok (.iinc 2 1, 3) := by decide +kernel
theorem dX12_weightAll_23 : decode cX12_weightAll 23 = .ok (.goto (-19), 3) := by decide +kernel
theorem dX12_weightAll_26 : decode cX12_weightAll 26 = .ok (.iload_n 1, 1) := by decide +kernel
theorem dX12_weightAll_27 : decode cX12_weightAll 27 = .ok (.ireturn, 1) := by decide +kernel
theorem dX12_weightOf_0 : decode cX12_weightOf 0 = .ok (.iconst 0, 1) := by decide +kernel
theorem dX12_weightOf_1 : decode cX12_weightOf 1 = .ok (.istore_n 2, 1) := by decide +kernel
theorem dX12_weightOf_2 : decode cX12_weightOf 2 = .ok (.iconst 0, 1) := by decide +kernel
theorem dX12_weightOf_3 : decode cX12_weightOf 3 = .ok (.istore_n 3, 1) := by decide +kernel
theorem dX12_weightOf_4 : decode cX12_weightOf 4 = .ok (.iload_n 3, 1) := by decide +kernel
theorem dX12_weightOf_5 : decode cX12_weightOf 5 = .ok (.aload_n 0, 1) := by decide +kernel
theorem dX12_weightOf_6 : decode cX12_weightOf 6 = .ok (.getfield 180, 3) := by decide +kernel
theorem dX12_weightOf_9 : decode cX12_weightOf 9 = .ok (.if_icmp .ge 29, 3) := by decide +kernel
theorem dX12_weightOf_12 : decode cX12_weightOf 12 = .ok (.iload_n 2, 1) := by decide +kernel
theorem dX12_weightOf_13 : decode cX12_weightOf 13 = .ok (.iload_n 1, 1) := by decide +kernel
theorem dX12_weightOf_14 : decode cX12_weightOf 14 = .ok (.iload_n 3, 1) := by decide +kernel
theorem dX12_weightOf_15 : decode cX12_weightOf 15 = .ok (.invokestatic 328, 3) := by decide +kernel
theorem dX12_weightOf_18 : decode cX12_weightOf 18 = .ok (.ifCond .eq 11, 3) := by decide +kernel
theorem dX12_weightOf_21 : decode cX12_weightOf 21 = .ok (.aload_n 0, 1) := by decide +kernel
theorem dX12_weightOf_22 : decode cX12_weightOf 22 = .ok (.iload_n 3, 1) := by decide +kernel
theorem dX12_weightOf_23 : decode cX12_weightOf 23 = .ok (.invokevirtual 199, 3) := by decide +kernel
theorem dX12_weightOf_26 : decode cX12_weightOf 26 = .ok (.goto 4, 3) := by decide +kernel
theorem dX12_weightOf_29 : decode cX12_weightOf 29 = .ok (.iconst 0, 1) := by decide +kernel
theorem dX12_weightOf_30 : decode cX12_weightOf 30 = .ok (.iadd, 1) := by decide +kernel
theorem dX12_weightOf_31 : decode cX12_weightOf 31 = .ok (.istore_n 2, 1) := by decide +kernel
theorem dX12_weightOf_32 : decode cX12_weightOf 32 = .ok (.iinc 3 1, 3) := by decide +kernel
theorem dX12_weightOf_35 : decode cX12_weightOf 35 = .ok (.goto (-31), 3) := by decide +kernel
theorem dX12_weightOf_38 : decode cX12_weightOf 38 = .ok (.iload_n 2, 1) := by decide +kernel
theorem dX12_weightOf_39 : decode cX12_weightOf 39 = .ok (.ireturn, 1) := by decide +kernel
theorem dX12_divorce_0 : decode cX12_divorce 0 = .ok (.aload_n 0, 1) := by decide +kernel
theorem dX12_divorce_1 : decode cX12_divorce 1 = .ok (.invokevirtual 331, 3) := by decide +kernel
theorem dX12_divorce_4 : decode cX12_divorce 4 = .ok (.istore_n 1, 1) := by decide +kernel
theorem dX12_divorce_5 : decode cX12_divorce 5 = .ok (.iconst 0, 1) := by decide +kernel
theorem dX12_divorce_6 : decode cX12_divorce 6 = .ok (.istore_n 2, 1) := by decide +kernel
theorem dX12_divorce_7 : decode cX12_divorce 7 = .ok (.iconst (-1), 1) := by decide +kernel
theorem dX12_divorce_8 : decode cX12_divorce 8 = .ok (.istore_n 3, 1) := by decide +kernel
theorem dX12_divorce_9 : decode cX12_divorce 9 = .ok (.iconst 0, 1) := by decide +kernel
theorem dX12_divorce_10 : decode cX12_divorce 10 = .ok (.istore 4, 2) := by decide +kernel
theorem dX12_divorce_12 : decode cX12_divorce 12 = .ok (.iload 4, 2) := by decide +kernel
theorem dX12_divorce_14 : decode cX12_divorce 14 = .ok (.iconst 1, 1) := by decide +kernel
theorem dX12_divorce_15 : decode cX12_divorce 15 = .ok (.aload_n 0, 1) := by decide +kernel
theorem dX12_divorce_16 : decode cX12_divorce 16 = .ok (.getfield 180, 3) := by decide +kernel
theorem dX12_divorce_19 : decode cX12_divorce 19 = .ok (.ishl, 1) := by decide +kernel
theorem dX12_divorce_20 : decode cX12_divorce 20 = .ok (.if_icmp .ge 67, 3) := by decide +kernel
theorem dX12_divorce_23 : decode cX12_divorce 23 = .ok (.iconst 2, 1) := by decide +kernel
theorem dX12_divorce_24 : decode cX12_divorce 24 = .ok (.aload_n 0, 1) := by decide +kernel
theorem dX12_divorce_25 : decode cX12_divorce 25 = .ok (.iload 4, 2) := by decide +kernel
theorem dX12_divorce_27 : decode cX12_divorce 27 = .ok (.invokevirtual 334, 3) := by decide +kernel
theorem dX12_divorce_30 : decode cX12_divorce 30 = .ok (.imul, 1) := by decide +kernel
theorem dX12_divorce_31 : decode cX12_divorce 31 = .ok (.iload_n 1, 1) := by decide +kernel
theorem dX12_divorce_32 : decode cX12_divorce 32 = .ok (.isub, 1) := by decide +kernel
theorem dX12_divorce_33 : decode cX12_divorce 33 = .ok (.istore 5, 2) := by decide +kernel
theorem dX12_divorce_35 : decode cX12_divorce 35 = .ok (.iload 5, 2) := by decide +kernel
theorem dX12_divorce_37 : decode cX12_divorce 37 = .ok (.ifCond .lt 17, 3) := by decide +kernel
theorem dX12_divorce_40 : decode cX12_divorce 40 = .ok (.iload_n 3, 1) := by decide +kernel
theorem dX12_divorce_41 : decode cX12_divorce 41 = .ok (.ifCond .lt 9, 3) := by decide +kernel
theorem dX12_divorce_44 : decode cX12_divorce 44 = .ok (.iload 5, 2) := by decide +kernel
theorem dX12_divorce_46 : decode cX12_divorce 46 = .ok (.iload_n 3, 1) := by decide +kernel
theorem dX12_divorce_47 : decode cX12_divorce 47 = .ok (.if_icmp .ge 7, 3) := by decide +kernel
theorem dX12_divorce_50 : decode cX12_divorce 50 = .ok (.iconst 1, 1) := by decide +kernel
theorem dX12_divorce_51 : decode cX12_divorce 51 = .ok (.goto 4, 3) := by decide +kernel
theorem dX12_divorce_54 : decode cX12_divorce 54 = .ok (.iconst 0, 1) := by decide +kernel
theorem dX12_divorce_55 : decode cX12_divorce 55 = .ok (.istore 6, 2) := by decide +kernel
theorem dX12_divorce_57 : decode cX12_divorce 57 = .ok (.iload 6, 2) := by decide +kernel
theorem dX12_divorce_59 : decode cX12_divorce 59 = .ok (.ifCond .eq 8, 3) := by decide +kernel
theorem dX12_divorce_62 : decode cX12_divorce 62 = .ok (.iload 4, 2) := by decide +kernel
theorem dX12_divorce_64 : decode cX12_divorce 64 = .ok (.goto 4, 3) := by decide +kernel
theorem dX12_divorce_67 : decode cX12_divorce 67 = .ok (.iload_n 2, 1) := by decide +kernel
theorem dX12_divorce_68 : decode cX12_divorce 68 = .ok (.istore_n 2, 1) := by decide +kernel
theorem dX12_divorce_69 : decode cX12_divorce 69 = .ok (.iload 6, 2) := by decide +kernel
theorem dX12_divorce_71 : decode cX12_divorce 71 = .ok (.ifCond .eq 8, 3) := by decide +kernel
theorem dX12_divorce_74 : decode cX12_divorce 74 = .ok (.iload 5, 2) := by decide +kernel
theorem dX12_divorce_76 : decode cX12_divorce 76 = .ok (.goto 4, 3) := by decide +kernel
theorem dX12_divorce_79 : decode cX12_divorce 79 = .ok (.iload_n 3, 1) := by decide +kernel
theorem dX12_divorce_80 : decode cX12_divorce 80 = .ok (.istore_n 3, 1) := by decide +kernel
theorem dX12_divorce_81 : decode cX12_divorce 81 = .ok (.iinc 4 1, 3) := by decide +kernel
theorem dX12_divorce_84 : decode cX12_divorce 84 = .ok (.goto (-72), 3) := by decide +kernel
theorem dX12_divorce_87 : decode cX12_divorce 87 = .ok (.aload_n 0, 1) := by decide +kernel
theorem dX12_divorce_88 : decode cX12_divorce 88 = .ok (.iload_n 2, 1) := by decide +kernel
theorem dX12_divorce_89 : decode cX12_divorce 89 = .ok (.iload_n 3, 1) := by decide +kernel
theorem dX12_divorce_90 : decode cX12_divorce 90 = .ok (.invokevirtual 135, 3) := by decide +kernel
theorem dX12_divorce_93 : decode cX12_divorce 93 = .ok (.ireturn, 1) := by decide +kernel
theorem dX12_kin_0 : decode cX12_kin 0 = .ok (.iload_n 1, 1) := by decide +kernel
theorem dX12_kin_1 : decode cX12_kin 1 = .ok (.iconst 0, 1) := by decide +kernel
theorem dX12_kin_2 : decode cX12_kin 2 = .ok (.bipush 99, 2) := by decide +kernel
theorem dX12_kin_4 : decode cX12_kin 4 = .ok (.invokestatic 113, 3) := by decide +kernel
theorem dX12_kin_7 : decode cX12_kin 7 = .ok (.ifCond .ne 5, 3) := by decide +kernel
theorem dX12_kin_10 : decode cX12_kin 10 = .ok (.iconst (-1), 1) := by decide +kernel
theorem dX12_kin_11 : decode cX12_kin 11 = .ok (.ireturn, 1) := by decide +kernel
theorem dX12_kin_12 : decode cX12_kin 12 = .ok (.aload_n 0, 1) := by decide +kernel
theorem dX12_kin_13 : decode cX12_kin 13 = .ok (.invokevirtual 331, 3) := by decide +kernel
theorem dX12_kin_16 : decode cX12_kin 16 = .ok (.istore_n 2, 1) := by decide +kernel
theorem dX12_kin_17 : decode cX12_kin 17 = .ok (.iconst 0, 1) := by decide +kernel
theorem dX12_kin_18 : decode cX12_kin 18 = .ok (.istore_n 3, 1) := by decide +kernel
theorem dX12_kin_19 : decode cX12_kin 19 = .ok (.iconst 0, 1) := by decide +kernel
theorem dX12_kin_20 : decode cX12_kin 20 = .ok (.istore 4, 2) := by decide +kernel
theorem dX12_kin_22 : decode cX12_kin 22 = .ok (.iload 4, 2) := by decide +kernel
theorem dX12_kin_24 : decode cX12_kin 24 = .ok (.aload_n 0, 1) := by decide +kernel
theorem dX12_kin_25 : decode cX12_kin 25 = .ok (.getfield 180, 3) := by decide +kernel
theorem dX12_kin_28 : decode cX12_kin 28 = .ok (.if_icmp .ge 30, 3) := by decide +kernel
theorem dX12_kin_31 : decode cX12_kin 31 = .ok (.iload_n 3, 1) := by decide +kernel
theorem dX12_kin_32 : decode cX12_kin 32 = .ok (.aload_n 0, 1) := by decide +kernel
theorem dX12_kin_33 : decode cX12_kin 33 = .ok (.getfield 38, 3) := by decide +kernel
theorem dX12_kin_36 : decode cX12_kin 36 = .ok (.iload 4, 2) := by decide +kernel
theorem dX12_kin_38 : decode cX12_kin 38 = .ok (.iaload, 1) := by decide +kernel
theorem dX12_kin_39 : decode cX12_kin 39 = .ok (.ifCond .ne 10, 3) := by decide +kernel
theorem dX12_kin_42 : decode cX12_kin 42 = .ok (.iconst 1, 1) := by decide +kernel
theorem dX12_kin_43 : decode cX12_kin 43 = .ok (.iload 4, 2) := by decide +kernel
theorem dX12_kin_45 : decode cX12_kin 45 = .ok (.ishl, 1) := by decide +kernel
theorem dX12_kin_46 : decode cX12_kin 46 = .ok (.goto 4, 3) := by decide +kernel
theorem dX12_kin_49 : decode cX12_kin 49 = .ok (.iconst 0, 1) := by decide +kernel
theorem dX12_kin_50 : decode cX12_kin 50 = .ok (.ior, 1) := by decide +kernel
theorem dX12_kin_51 : decode cX12_kin 51 = .ok (.istore_n 3, 1) := by decide +kernel
theorem dX12_kin_52 : decode cX12_kin 52 = .ok (.iinc 4 1, 3) := by decide +kernel
theorem dX12_kin_55 : decode cX12_kin 55 = .ok (.goto (-33), 3) := by decide +kernel
theorem dX12_kin_58 : decode cX12_kin 58 = .ok (.bipush (-9), 2) := by decide +kernel
theorem dX12_kin_60 : decode cX12_kin 60 = .ok (.istore 4, 2) := by decide +kernel
theorem dX12_kin_62 : decode cX12_kin 62 = .ok (.iconst 0, 1) := by decide +kernel
theorem dX12_kin_63 : decode cX12_kin 63 = .ok (.istore 5, 2) := by decide +kernel
theorem dX12_kin_65 : decode cX12_kin 65 = .ok (.iload 5, 2) := by decide +kernel
theorem dX12_kin_67 : decode cX12_kin 67 = .ok (.iconst 1, 1) := by decide +kernel
theorem dX12_kin_68 : decode cX12_kin 68 = .ok (.aload_n 0, 1) := by decide +kernel
theorem dX12_kin_69 : decode cX12_kin 69 = .ok (.getfield 180, 3) := by decide +kernel
theorem dX12_kin_72 : decode cX12_kin 72 = .ok (.ishl, 1) := by decide +kernel
theorem dX12_kin_73 : decode cX12_kin 73 = .ok (.if_icmp .ge 61, 3) := by decide +kernel
theorem dX12_kin_76 : decode cX12_kin 76 = .ok (.iconst 2, 1) := by decide +kernel
theorem dX12_kin_77 : decode cX12_kin 77 = .ok (.aload_n 0, 1) := by decide +kernel
theorem dX12_kin_78 : decode cX12_kin 78 = .ok (.iload_n 3, 1) := by decide +kernel
theorem dX12_kin_79 : decode cX12_kin 79 = .ok (.iload 5, 2) := by decide +kernel
theorem dX12_kin_81 : decode cX12_kin 81 = .ok (.ixor, 1) := by decide +kernel
theorem dX12_kin_82 : decode cX12_kin 82 = .ok (.invokevirtual 334, 3) := by decide +kernel
theorem dX12_kin_85 : decode cX12_kin 85 = .ok (.imul, 1) := by decide +kernel
theorem dX12_kin_86 : decode cX12_kin 86 = .ok (.iload_n 2, 1) := by decide +kernel
theorem dX12_kin_87 : decode cX12_kin 87 = .ok (.isub, 1) := by decide +kernel
theorem dX12_kin_88 : decode cX12_kin 88 = .ok (.invokestatic 189, 3) := by decide +kernel
theorem dX12_kin_91 : decode cX12_kin 91 = .ok (.istore 6, 2) := by decide +kernel
theorem dX12_kin_93 : decode cX12_kin 93 = .ok (.iload 6, 2) := by decide +kernel
theorem dX12_kin_95 : decode cX12_kin 95 = .ok (.iload_n 1, 1) := by decide +kernel
theorem dX12_kin_96 : decode cX12_kin 96 = .ok (.if_icmp .gt 28, 3) := by decide +kernel
theorem dX12_kin_99 : decode cX12_kin 99 = .ok (.iload 4, 2) := by decide +kernel
theorem dX12_kin_101 : decode cX12_kin 101 = .ok (.bipush (-9), 2) := by decide +kernel
theorem dX12_kin_103 : decode cX12_kin 103 = .ok (.if_icmp .eq 16, 3) := by decide +kernel
theorem dX12_kin_106 : decode cX12_kin 106 = .ok (.iload 5, 2) := by decide +kernel
theorem dX12_kin_108 : decode cX12_kin 108 = .ok (.invokestatic 229, 3) := by decide +kernel
theorem dX12_kin_111 : decode cX12_kin 111 = .ok (.iload 4, 2) := by decide +kernel
theorem dX12_kin_113 : decode cX12_kin 113 = .ok (.invokestatic 229, 3) := by decide +kernel
theorem dX12_kin_116 : decode cX12_kin 116 = .ok (.if_icmp .ge 8, 3) := by decide +kernel
theorem dX12_kin_119 : decode cX12_kin 119 = .ok (.iload 5, 2) := by decide +kernel
theorem dX12_kin_121 : decode cX12_kin 121 = .ok (.goto 5, 3) := by decide +kernel
theorem dX12_kin_124 : decode cX12_kin 124 = .ok (.iload 4, 2) := by decide +kernel
theorem dX12_kin_126 : decode cX12_kin 126 = .ok (.istore 4, 2) := by decide +kernel
theorem dX12_kin_128 : decode cX12_kin 128 = .ok (.iinc 5 1, 3) := by decide +kernel
theorem dX12_kin_131 : decode cX12_kin 131 = .ok (.goto (-66), 3) := by decide +kernel
theorem dX12_kin_134 : decode cX12_kin 134 = .ok (.iload 4, 2) := by decide +kernel
theorem dX12_kin_136 : decode cX12_kin 136 = .ok (.bipush (-9), 2) := by decide +kernel
theorem dX12_kin_138 : decode cX12_kin 138 = .ok (.if_icmp .ne 8, 3) := by decide +kernel
theorem dX12_kin_141 : decode cX12_kin 141 = .ok (.bipush (-9), 2) := by decide +kernel
theorem dX12_kin_143 : decode cX12_kin 143 = .ok (.goto 14, 3) := by decide +kernel
theorem dX12_kin_146 : decode cX12_kin 146 = .ok (.aload_n 0, 1) := by decide +kernel
theorem dX12_kin_147 : decode cX12_kin 147 = .ok (.iload 4, 2) := by decide +kernel
theorem dX12_kin_149 : decode cX12_kin 149 = .ok (.iload 4, 2) := by decide +kernel
theorem dX12_kin_151 : decode cX12_kin 151 = .ok (.invokestatic 229, 3) := by decide +kernel
theorem dX12_kin_154 : decode cX12_kin 154 = .ok (.invokevirtual 135, 3) := by decide +kernel
theorem dX12_kin_157 : decode cX12_kin 157 = .ok (.ireturn, 1) := by decide +kernel
theorem dX12_odds_0 : decode cX12_odds 0 = .ok (.iload_n 1, 1) := by decide +kernel
theorem dX12_odds_1 : decode cX12_odds 1 = .ok (.iconst 0, 1) := by decide +kernel
theorem dX12_odds_2 : decode cX12_odds 2 = .ok (.iconst 2, 1) := by decide +kernel
theorem dX12_odds_3 : decode cX12_odds 3 = .ok (.invokestatic 113, 3) := by decide +kernel
theorem dX12_odds_6 : decode cX12_odds 6 = .ok (.ifCond .eq 14, 3) := by decide +kernel
theorem dX12_odds_9 : decode cX12_odds 9 = .ok (.iload_n 2, 1) := by decide +kernel
theorem dX12_odds_10 : decode cX12_odds 10 = .ok (.iconst 0, 1) := by decide +kernel
theorem dX12_odds_11 : decode cX12_odds 11 = .ok (.sipush 200, 3) := by decide +kernel
theorem dX12_odds_14 : decode cX12_odds 14 = .ok (.invokestatic 113, 3) := by decide +kernel
theorem dX12_odds_17 : decode cX12_odds 17 = .ok (.ifCond .ne 5, 3) := by decide +kernel
theorem dX12_odds_20 : decode cX12_odds 20 = .ok (.iconst (-1), 1) := by decide +kernel
theorem dX12_odds_21 : decode cX12_odds 21 = .ok (.ireturn, 1) := by decide +kernel
theorem dX12_odds_22 : decode cX12_odds 22 = .ok (.iconst 0, 1) := by decide +kernel
theorem dX12_odds_23 : decode cX12_odds 23 = .ok (.istore_n 3, 1) := by decide +kernel
theorem dX12_odds_24 : decode cX12_odds 24 = .ok (.iload_n 2, 1) := by decide +kernel
theorem dX12_odds_25 : decode cX12_odds 25 = .ok (.ineg, 1) := by decide +kernel
theorem dX12_odds_26 : decode cX12_odds 26 = .ok (.istore 4, 2) := by decide +kernel
theorem dX12_odds_28 : decode cX12_odds 28 = .ok (.iload 4, 2) := by decide +kernel
theorem dX12_odds_30 : decode cX12_odds 30 = .ok (.iload_n 2, 1) := by decide +kernel
theorem dX12_odds_31 : decode cX12_odds 31 = .ok (.if_icmp .gt 31, 3) := by decide +kernel
theorem dX12_odds_34 : decode cX12_odds 34 = .ok (.iload_n 3, 1) := by decide +kernel
theorem dX12_odds_35 : decode cX12_odds 35 = .ok (.aload_n 0, 1) := by decide +kernel
theorem dX12_odds_36 : decode cX12_odds 36 = .ok (.aload_n 0, 1) := by decide +kernel
theorem dX12_odds_37 : decode cX12_odds 37 = .ok (.iload_n 1, 1) := by decide +kernel
theorem dX12_odds_38 : decode cX12_odds 38 = .ok (.iload 4, 2) := by decide +kernel
theorem dX12_odds_40 : decode cX12_odds 40 = .ok (.invokevirtual 263, 3) := by decide +kernel
theorem dX12_odds_43 : decode cX12_odds 43 = .ok (.invokevirtual 266, 3) := by decide +kernel
theorem dX12_odds_46 : decode cX12_odds 46 = .ok (.ifCond .eq 7, 3) := by decide +kernel
theorem dX12_odds_49 : decode cX12_odds 49 = .ok (.iconst 1, 1) := by decide +kernel
theorem dX12_odds_50 : decode cX12_odds 50 = .ok (.goto 4, 3) := by decide +kernel
theorem dX12_odds_53 : decode cX12_odds 53 = .ok (.iconst 0, 1) := by decide +kernel
theorem dX12_odds_54 : decode cX12_odds 54 = .ok (.iadd, 1) := by decide +kernel
theorem dX12_odds_55 : decode cX12_odds 55 = .ok (.istore_n 3, 1) := by decide +kernel
theorem dX12_odds_56 : decode cX12_odds 56 = .ok (.iinc 4 1, 3) := by decide +kernel
theorem dX12_odds_59 : decode cX12_odds 59 = .ok (.goto (-31), 3) := by decide +kernel
theorem dX12_odds_62 : decode cX12_odds 62 = .ok (.aload_n 0, 1) := by decide +kernel
theorem dX12_odds_63 : decode cX12_odds 63 = .ok (.iload_n 3, 1) := by decide +kernel
theorem dX12_odds_64 : decode cX12_odds 64 = .ok (.iconst 2, 1) := by decide +kernel
theorem dX12_odds_65 : decode cX12_odds 65 = .ok (.iload_n 2, 1) := by decide +kernel
theorem dX12_odds_66 : decode cX12_odds 66 = .ok (.imul, 1) := by decide +kernel
theorem dX12_odds_67 : decode cX12_odds 67 = .ok (.iconst 1, 1) := by decide +kernel
theorem dX12_odds_68 : decode cX12_odds 68 = .ok (.iadd, 1) := by decide +kernel
theorem dX12_odds_69 : decode cX12_odds 69 = .ok (.iload_n 3, 1) := by decide +kernel
theorem dX12_odds_70 : decode cX12_odds 70 = .ok (.invokevirtual 269, 3) := by decide +kernel
theorem dX12_odds_73 : decode cX12_odds 73 = .ok (.ireturn, 1) := by decide +kernel
theorem dX12_storm_0 : decode cX12_storm 0 = .ok (.iload_n 1, 1) := by decide +kernel
theorem dX12_storm_1 : decode cX12_storm 1 = .ok (.iconst 1, 1) := by decide +kernel
theorem dX12_storm_2 : decode cX12_storm 2 = .ok (.ldc_w 337, 3) := by decide +kernel
theorem dX12_storm_5 : decode cX12_storm 5 = .ok (.invokestatic 113, 3) := by decide +kernel
theorem dX12_storm_8 : decode cX12_storm 8 = .ok (.ifCond .ne 5, 3) := by decide +kernel
theorem dX12_storm_11 : decode cX12_storm 11 = .ok (.iconst (-1), 1) := by decide +kernel
theorem dX12_storm_12 : decode cX12_storm 12 = .ok (.ireturn, 1) := by decide +kernel
theorem dX12_storm_13 : decode cX12_storm 13 = .ok (.iload_n 1, 1) := by decide +kernel
theorem dX12_storm_14 : decode cX12_storm 14 = .ok (.i2l, 1) := by decide +kernel
theorem dX12_storm_15 : decode cX12_storm 15 = .ok (.lstore_n 2, 1) := by decide +kernel
theorem dX12_storm_16 : decode cX12_storm 16 = .ok (.aload_n 0, 1) := by decide +kernel
theorem dX12_storm_17 : decode cX12_storm 17 = .ok (.getfield 235, 3) := by decide +kernel
theorem dX12_storm_20 : decode cX12_storm 20 = .ok (.istore 4, 2) := by decide +kernel
theorem dX12_storm_22 : decode cX12_storm 22 = .ok (.iconst 0, 1) := by decide +kernel
theorem dX12_storm_23 : decode cX12_storm 23 = .ok (.istore 5, 2) := by decide +kernel
theorem dX12_storm_25 : decode cX12_storm 25 = .ok (.iconst 0, 1) := by decide +kernel
theorem dX12_storm_26 : decode cX12_storm 26 = .ok (.istore 6, 2) := by decide +kernel
theorem dX12_storm_28 : decode cX12_storm 28 = .ok (.iload 6, 2) := by decide +kernel
theorem dX12_storm_30 : decode cX12_storm 30 = .ok (.aload_n 0, 1) := by decide +kernel
theorem dX12_storm_31 : decode cX12_storm 31 = .ok (.getfield 106, 3) := by decide +kernel
theorem dX12_storm_34 : decode cX12_storm 34 = .ok (.if_icmp .ge 94, 3) := by decide +kernel
theorem dX12_storm_37 : decode cX12_storm 37 = .ok (.ldc2_w 338, 3) := by decide +kernel
theorem dX12_storm_40 : decode cX12_storm 40 = .ok (.lload_n 2, 1) := by decide +kernel
theorem dX12_storm_41 : decode cX12_storm 41 = .ok (.lmul, 1) := by decide +kernel
theorem dX12_storm_42 : decode cX12_storm 42 = .ok (.ldc2_w 340, 3) := by decide +kernel
theorem dX12_storm_45 : decode cX12_storm 45 = .ok (.lrem, 1) := by decide +kernel
theorem dX12_storm_46 : decode cX12_storm 46 = .ok (.lstore_n 2, 1) := by decide +kernel
theorem dX12_storm_47 : decode cX12_storm 47 = .ok (.iload 4, 2) := by decide +kernel
theorem dX12_storm_49 : decode cX12_storm 49 = .ok (.lload_n 2, 1) := by decide +kernel
theorem dX12_storm_50 : decode cX12_storm 50 = .ok (.ldc2_w 342, 3) := by decide +kernel
theorem dX12_storm_53 : decode cX12_storm 53 = .ok (.lrem, 1) := by decide +kernel
theorem dX12_storm_54 : decode cX12_storm 54 = .ok (.l2i, 1) := by decide +kernel
theorem dX12_storm_55 : decode cX12_storm 55 = .ok (.iconst 3, 1) := by decide +kernel
theorem dX12_storm_56 : decode cX12_storm 56 = .ok (.isub, 1) := by decide +kernel
theorem dX12_storm_57 : decode cX12_storm 57 = .ok (.iadd, 1) := by decide +kernel
theorem dX12_storm_58 : decode cX12_storm 58 = .ok (.istore 4, 2) := by decide +kernel
theorem dX12_storm_60 : decode cX12_storm 60 = .ok (.iload 4, 2) := by decide +kernel
theorem dX12_storm_62 : decode cX12_storm 62 = .ok (.sipush 200, 3) := by decide +kernel
theorem dX12_storm_65 : decode cX12_storm 65 = .ok (.if_icmp .le 9, 3) := by decide +kernel
theorem dX12_storm_68 : decode cX12_storm 68 = .ok (.sipush 200, 3) := by decide +kernel
theorem dX12_storm_71 : decode cX12_storm 71 = .ok (.goto 19, 3) := by decide +kernel
theorem dX12_storm_74 : decode cX12_storm 74 = .ok (.iload 4, 2) := by decide +kernel
theorem dX12_storm_76 : decode cX12_storm 76 = .ok (.sipush (-200), 3) := by decide +kernel
theorem dX12_storm_79 : decode cX12_storm 79 = .ok (.if_icmp .ge 9, 3) := by decide +kernel
theorem dX12_storm_82 : decode cX12_storm 82 = .ok (.sipush (-200), 3) := by decide +kernel
theorem dX12_storm_85 : decode cX12_storm 85 = .ok (.goto 5, 3) := by decide +kernel
theorem dX12_storm_88 : decode cX12_storm 88 = .ok (.iload 4, 2) := by decide +kernel
theorem dX12_storm_90 : decode cX12_storm 90 = .ok (.istore 4, 2) := by decide +kernel
theorem dX12_storm_92 : decode cX12_storm 92 = .ok (.iload 5, 2) := by decide +kernel
theorem dX12_storm_94 : decode cX12_storm 94 = .ok (.aload_n 0, 1) := by decide +kernel
theorem dX12_storm_95 : decode cX12_storm 95 = .ok (.aload_n 0, 1) := by decide +kernel
theorem dX12_storm_96 : decode cX12_storm 96 = .ok (.aload_n 0, 1) := by decide +kernel
theorem dX12_storm_97 : decode cX12_storm 97 = .ok (.getfield 44, 3) := by decide +kernel
theorem dX12_storm_100 : decode cX12_storm 100 = .ok (.iload 6, 2) := by decide +kernel
theorem dX12_storm_102 : decode cX12_storm 102 = .ok (.iaload, 1) := by decide +kernel
theorem dX12_storm_103 : decode cX12_storm 103 = .ok (.iload 4, 2) := by decide +kernel
theorem dX12_storm_105 : decode cX12_storm 105 = .ok (.invokevirtual 263, 3) := by decide +kernel
theorem dX12_storm_108 : decode cX12_storm 108 = .ok (.invokevirtual 266, 3) := by decide +kernel
theorem dX12_storm_111 : decode cX12_storm 111 = .ok (.ifCond .eq 7, 3) := by decide +kernel
theorem dX12_storm_114 : decode cX12_storm 114 = .ok (.iconst 0, 1) := by decide +kernel
theorem dX12_storm_115 : decode cX12_storm 115 = .ok (.goto 4, 3) := by decide +kernel
theorem dX12_storm_118 : decode cX12_storm 118 = .ok (.iconst 1, 1) := by decide +kernel
theorem dX12_storm_119 : decode cX12_storm 119 = .ok (.iadd, 1) := by decide +kernel
theorem dX12_storm_120 : decode cX12_storm 120 = .ok (.istore 5, 2) := by decide +kernel
theorem dX12_storm_122 : decode cX12_storm 122 = .ok (.iinc 6 1, 3) := by decide +kernel
theorem dX12_storm_125 : decode cX12_storm 125 = .ok (.goto (-97), 3) := by decide +kernel
theorem dX12_storm_128 : decode cX12_storm 128 = .ok (.aload_n 0, 1) := by decide +kernel
theorem dX12_storm_129 : decode cX12_storm 129 = .ok (.iload 4, 2) := by decide +kernel
theorem dX12_storm_131 : decode cX12_storm 131 = .ok (.iload 5, 2) := by decide +kernel
theorem dX12_storm_133 : decode cX12_storm 133 = .ok (.invokevirtual 135, 3) := by decide +kernel
theorem dX12_storm_136 : decode cX12_storm 136 = .ok (.ireturn, 1) := by decide +kernel
theorem dX12_counted_0 : decode cX12_counted 0 = .ok (.iconst 0, 1) := by decide +kernel
theorem dX12_counted_1 : decode cX12_counted 1 = .ok (.istore_n 2, 1) := by decide +kernel
theorem dX12_counted_2 : decode cX12_counted 2 = .ok (.iconst 0, 1) := by decide +kernel
theorem dX12_counted_3 : decode cX12_counted 3 = .ok (.istore_n 3, 1) := by decide +kernel
theorem dX12_counted_4 : decode cX12_counted 4 = .ok (.iload_n 3, 1) := by decide +kernel
theorem dX12_counted_5 : decode cX12_counted 5 = .ok (.aload_n 0, 1) := by decide +kernel
theorem dX12_counted_6 : decode cX12_counted 6 = .ok (.getfield 180, 3) := by decide +kernel
theorem dX12_counted_9 : decode cX12_counted 9 = .ok (.if_icmp .ge 67, 3) := by decide +kernel
theorem dX12_counted_12 : decode cX12_counted 12 = .ok (.iload_n 2, 1) := by decide +kernel
theorem dX12_counted_13 : decode cX12_counted 13 = .ok (.iload_n 1, 1) := by decide +kernel
theorem dX12_counted_14 : decode cX12_counted 14 = .ok (.iconst 4, 1) := by decide +kernel
theorem dX12_counted_15 : decode cX12_counted 15 = .ok (.if_icmp .ne 23, 3) := by decide +kernel
theorem dX12_counted_18 : decode cX12_counted 18 = .ok (.aload_n 0, 1) := by decide +kernel
theorem dX12_counted_19 : decode cX12_counted 19 = .ok (.getfield 32, 3) := by decide +kernel
theorem dX12_counted_22 : decode cX12_counted 22 = .ok (.iload_n 3, 1) := by decide +kernel
theorem dX12_counted_23 : decode cX12_counted 23 = .ok (.iaload, 1) := by decide +kernel
theorem dX12_counted_24 : decode cX12_counted 24 = .ok (.iconst 1, 1) := by decide +kernel
theorem dX12_counted_25 : decode cX12_counted 25 = .ok (.if_icmp .eq 38, 3) := by decide +kernel
theorem dX12_counted_28 : decode cX12_counted 28 = .ok (.aload_n 0, 1) := by decide +kernel
theorem dX12_counted_29 : decode cX12_counted 29 = .ok (.getfield 32, 3) := by decide +kernel
theorem dX12_counted_32 : decode cX12_counted 32 = .ok (.iload_n 3, 1) := by decide +kernel
theorem dX12_counted_33 : decode cX12_counted 33 = .ok (.iaload, 1) := by decide +kernel
theorem dX12_counted_34 : decode cX12_counted 34 = .ok (.iconst 4, 1) := by decide +kernel
theorem dX12_counted_35 : decode cX12_counted 35 = .ok (.if_icmp .eq 28, 3) := by decide +kernel
theorem dX12_counted_38 : decode cX12_counted 38 = .ok (.iload_n 1, 1) := by decide +kernel
theorem dX12_counted_39 : decode cX12_counted 39 = .ok (.iconst 5, 1) := by decide +kernel
theorem dX12_counted_40 : decode cX12_counted 40 = .ok (.if_icmp .ne 27, 3) := by decide +kernel
theorem dX12_counted_43 : decode cX12_counted 43 = .ok (.aload_n 0, 1) := by decide +kernel
theorem dX12_counted_44 : decode cX12_counted 44 = .ok (.getfield 32, 3) := by decide +kernel
theorem dX12_counted_47 : decode cX12_counted 47 = .ok (.iload_n 3, 1) := by decide +kernel
theorem dX12_counted_48 : decode cX12_counted 48 = .ok (.iaload, 1) := by decide +kernel
theorem dX12_counted_49 : decode cX12_counted 49 = .ok (.iconst 2, 1) := by decide +kernel
theorem dX12_counted_50 : decode cX12_counted 50 = .ok (.if_icmp .eq 13, 3) := by decide +kernel
theorem dX12_counted_53 : decode cX12_counted 53 = .ok (.aload_n 0, 1) := by decide +kernel
theorem dX12_counted_54 : decode cX12_counted 54 = .ok (.getfield 32, 3) := by decide +kernel
theorem dX12_counted_57 : decode cX12_counted 57 = .ok (.iload_n 3, 1) := by decide +kernel
theorem dX12_counted_58 : decode cX12_counted 58 = .ok (.iaload, 1) := by decide +kernel
theorem dX12_counted_59 : decode cX12_counted 59 = .ok (.iconst 5, 1) := by decide +kernel
theorem dX12_counted_60 : decode cX12_counted 60 = .ok (.if_icmp .ne 7, 3) := by decide +kernel
theorem dX12_counted_63 : decode cX12_counted 63 = .ok (.iconst 1, 1) := by decide +kernel
theorem dX12_counted_64 : decode cX12_counted 64 = .ok (.goto 4, 3) := by decide +kernel
theorem dX12_counted_67 : decode cX12_counted 67 = .ok (.iconst 0, 1) := by decide +kernel
theorem dX12_counted_68 : decode cX12_counted 68 = .ok (.iadd, 1) := by decide +kernel
theorem dX12_counted_69 : decode cX12_counted 69 = .ok (.istore_n 2, 1) := by decide +kernel
theorem dX12_counted_70 : decode cX12_counted 70 = .ok (.iinc 3 1, 3) := by decide +kernel
theorem dX12_counted_73 : decode cX12_counted 73 = .ok (.goto (-69), 3) := by decide +kernel
theorem dX12_counted_76 : decode cX12_counted 76 = .ok (.iconst 0, 1) := by decide +kernel
theorem dX12_counted_77 : decode cX12_counted 77 = .ok (.istore_n 3, 1) := by decide +kernel
theorem dX12_counted_78 : decode cX12_counted 78 = .ok (.iload_n 3, 1) := by decide +kernel
theorem dX12_counted_79 : decode cX12_counted 79 = .ok (.bipush 6, 2) := by decide +kernel
theorem dX12_counted_81 : decode cX12_counted 81 = .ok (.if_icmp .ge 32, 3) := by decide +kernel
theorem dX12_counted_84 : decode cX12_counted 84 = .ok (.iload_n 2, 1) := by decide +kernel
theorem dX12_counted_85 : decode cX12_counted 85 = .ok (.iload_n 1, 1) := by decide +kernel
theorem dX12_counted_86 : decode cX12_counted 86 = .ok (.bipush 6, 2) := by decide +kernel
theorem dX12_counted_88 : decode cX12_counted 88 = .ok (.if_icmp .ne 16, 3) := by decide +kernel
theorem dX12_counted_91 : decode cX12_counted 91 = .ok (.aload_n 0, 1) := by decide +kernel
theorem dX12_counted_92 : decode cX12_counted 92 = .ok (.getfield 13, 3) := by decide +kernel
theorem dX12_counted_95 : decode cX12_counted 95 = .ok (.iload_n 3, 1) := by decide +kernel
theorem dX12_counted_96 : decode cX12_counted 96 = .ok (.iaload, 1) := by decide +kernel
theorem dX12_counted_97 : decode cX12_counted 97 = .ok (.ifCond .lt 7, 3) := by decide +kernel
theorem dX12_counted_100 : decode cX12_counted 100 = .ok (.iconst 1, 1) := by decide +kernel
theorem dX12_counted_101 : decode cX12_counted 101 = .ok (.goto 4, 3) := by decide +kernel
theorem dX12_counted_104 : decode cX12_counted 104 = .ok (.iconst 0, 1) := by decide +kernel
theorem dX12_counted_105 : decode cX12_counted 105 = .ok (.iadd, 1) := by decide +kernel
theorem dX12_counted_106 : decode cX12_counted 106 = .ok (.istore_n 2, 1) := by decide +kernel
theorem dX12_counted_107 : decode cX12_counted 107 = .ok (.iinc 3 1, 3) := by decide +kernel
theorem dX12_counted_110 : decode cX12_counted 110 = .ok (.goto (-32), 3) := by decide +kernel
theorem dX12_counted_113 : decode cX12_counted 113 = .ok (.iconst 0, 1) := by decide +kernel
theorem dX12_counted_114 : decode cX12_counted 114 = .ok (.istore_n 3, 1) := by decide +kernel
theorem dX12_counted_115 : decode cX12_counted 115 = .ok (.iload_n 3, 1) := by decide +kernel
theorem dX12_counted_116 : decode cX12_counted 116 = .ok (.iconst 4, 1) := by decide +kernel
theorem dX12_counted_117 : decode cX12_counted 117 = .ok (.if_icmp .ge 32, 3) := by decide +kernel
theorem dX12_counted_120 : decode cX12_counted 120 = .ok (.iload_n 2, 1) := by decide +kernel
theorem dX12_counted_121 : decode cX12_counted 121 = .ok (.iload_n 1, 1) := by decide +kernel
theorem dX12_counted_122 : decode cX12_counted 122 = .ok (.bipush 7, 2) := by decide +kernel
theorem dX12_counted_124 : decode cX12_counted 124 = .ok (.if_icmp .ne 16, 3) := by decide +kernel
theorem dX12_counted_127 : decode cX12_counted 127 = .ok (.aload_n 0, 1) := by decide +kernel
theorem dX12_counted_128 : decode cX12_counted 128 = .ok (.getfield 22, 3) := by decide +kernel
theorem dX12_counted_131 : decode cX12_counted 131 = .ok (.iload_n 3, 1) := by decide +kernel
theorem dX12_counted_132 : decode cX12_counted 132 = .ok (.iaload, 1) := by decide +kernel
theorem dX12_counted_133 : decode cX12_counted 133 = .ok (.ifCond .lt 7, 3) := by decide +kernel
theorem dX12_counted_136 : decode cX12_counted 136 = .ok (.iconst 1, 1) := by decide +kernel
theorem dX12_counted_137 : decode cX12_counted 137 = .ok (.goto 4, 3) := by decide +kernel
theorem dX12_counted_140 : decode cX12_counted 140 = .ok (.iconst 0, 1) := by decide +kernel
theorem dX12_counted_141 : decode cX12_counted 141 = .ok (.iadd, 1) := by decide +kernel
theorem dX12_counted_142 : decode cX12_counted 142 = .ok (.istore_n 2, 1) := by decide +kernel
theorem dX12_counted_143 : decode cX12_counted 143 = .ok (.iinc 3 1, 3) := by decide +kernel
theorem dX12_counted_146 : decode cX12_counted 146 = .ok (.goto (-31), 3) := by decide +kernel
theorem dX12_counted_149 : decode cX12_counted 149 = .ok (.iload_n 1, 1) := by decide +kernel
theorem dX12_counted_150 : decode cX12_counted 150 = .ok (.tableswitch 84 0 9 #[54, 59, 64, 69, 84, 84, 84, 84, 74, 79], 54) := by decide +kernel
theorem dX12_counted_204 : decode cX12_counted 204 = .ok (.aload_n 0, 1) := by decide +kernel
theorem dX12_counted_205 : decode cX12_counted 205 = .ok (.getfield 177, 3) := by decide +kernel
theorem dX12_counted_208 : decode cX12_counted 208 = .ok (.ireturn, 1) := by decide +kernel
theorem dX12_counted_209 : decode cX12_counted 209 = .ok (.aload_n 0, 1) := by decide +kernel
theorem dX12_counted_210 : decode cX12_counted 210 = .ok (.getfield 180, 3) := by decide +kernel
theorem dX12_counted_213 : decode cX12_counted 213 = .ok (.ireturn, 1) := by decide +kernel
theorem dX12_counted_214 : decode cX12_counted 214 = .ok (.aload_n 0, 1) := by decide +kernel
theorem dX12_counted_215 : decode cX12_counted 215 = .ok (.invokevirtual 259, 3) := by decide +kernel
theorem dX12_counted_218 : decode cX12_counted 218 = .ok (.ireturn, 1) := by decide +kernel
theorem dX12_counted_219 : decode cX12_counted 219 = .ok (.aload_n 0, 1) := by decide +kernel
theorem dX12_counted_220 : decode cX12_counted 220 = .ok (.getfield 106, 3) := by decide +kernel
theorem dX12_counted_223 : decode cX12_counted 223 = .ok (.ireturn, 1) := by decide +kernel
theorem dX12_counted_224 : decode cX12_counted 224 = .ok (.aload_n 0, 1) := by decide +kernel
theorem dX12_counted_225 : decode cX12_counted 225 = .ok (.getfield 183, 3) := by decide +kernel
theorem dX12_counted_228 : decode cX12_counted 228 = .ok (.ireturn, 1) := by decide +kernel
theorem dX12_counted_229 : decode cX12_counted 229 = .ok (.aload_n 0, 1) := by decide +kernel
theorem dX12_counted_230 : decode cX12_counted 230 = .ok (.getfield 186, 3) := by decide +kernel
theorem dX12_counted_233 : decode cX12_counted 233 = .ok (.ireturn, 1) := by decide +kernel
theorem dX12_counted_234 : decode cX12_counted 234 = .ok (.iload_n 2, 1) := by decide +kernel
theorem dX12_counted_235 : decode cX12_counted 235 = .ok (.ireturn, 1) := by decide +kernel
theorem dX12_count_0 : decode cX12_count 0 = .ok (.iload_n 1, 1) := by decide +kernel
theorem dX12_count_1 : decode cX12_count 1 = .ok (.iconst 0, 1) := by decide +kernel
theorem dX12_count_2 : decode cX12_count 2 = .ok (.bipush 9, 2) := by decide +kernel
theorem dX12_count_4 : decode cX12_count 4 = .ok (.invokestatic 113, 3) := by decide +kernel
theorem dX12_count_7 : decode cX12_count 7 = .ok (.ifCond .eq 11, 3) := by decide +kernel
theorem dX12_count_10 : decode cX12_count 10 = .ok (.aload_n 0, 1) := by decide +kernel
theorem dX12_count_11 : decode cX12_count 11 = .ok (.iload_n 1, 1) := by decide +kernel
theorem dX12_count_12 : decode cX12_count 12 = .ok (.invokevirtual 344, 3) := by decide +kernel
theorem dX12_count_15 : decode cX12_count 15 = .ok (.goto 4, 3) := by decide +kernel
theorem dX12_count_18 : decode cX12_count 18 = .ok (.iconst (-1), 1) := by decide +kernel
theorem dX12_count_19 : decode cX12_count 19 = .ok (.ireturn, 1) := by decide +kernel
theorem dX12_mix_0 : decode cX12_mix 0 = .ok (.aload_n 0, 1) := by decide +kernel
theorem dX12_mix_1 : decode cX12_mix 1 = .ok (.ldc2_w 347, 3) := by decide +kernel
theorem dX12_mix_4 : decode cX12_mix 4 = .ok (.aload_n 0, 1) := by decide +kernel
theorem dX12_mix_5 : decode cX12_mix 5 = .ok (.getfield 349, 3) := by decide +kernel
theorem dX12_mix_8 : decode cX12_mix 8 = .ok (.lmul, 1) := by decide +kernel
theorem dX12_mix_9 : decode cX12_mix 9 = .ok (.lload_n 1, 1) := by decide +kernel
theorem dX12_mix_10 : decode cX12_mix 10 = .ok (.ladd, 1) := by decide +kernel
theorem dX12_mix_11 : decode cX12_mix 11 = .ok (.putfield 349, 3) := by decide +kernel
theorem dX12_mix_14 : decode cX12_mix 14 = .ok (.return_, 1) := by decide +kernel
theorem dX12_mixBarge_0 : decode cX12_mixBarge 0 = .ok (.aload_n 0, 1) := by decide +kernel
theorem dX12_mixBarge_1 : decode cX12_mixBarge 1 = .ok (.aload_n 0, 1) := by decide +kernel
theorem dX12_mixBarge_2 : decode cX12_mixBarge 2 = .ok (.getfield 205, 3) := by decide +kernel
theorem dX12_mixBarge_5 : decode cX12_mixBarge 5 = .ok (.i2l, 1) := by decide +kernel
theorem dX12_mixBarge_6 : decode cX12_mixBarge 6 = .ok (.invokevirtual 352, 3) := by decide +kernel
theorem dX12_mixBarge_9 : decode cX12_mixBarge 9 = .ok (.aload_n 0, 1) := by decide +kernel
theorem dX12_mixBarge_10 : decode cX12_mixBarge 10 = .ok (.aload_n 0, 1) := by decide +kernel
theorem dX12_mixBarge_11 : decode cX12_mixBarge 11 = .ok (.getfield 235, 3) := by decide +kernel
theorem dX12_mixBarge_14 : decode cX12_mixBarge 14 = .ok (.i2l, 1) := by decide +kernel
theorem dX12_mixBarge_15 : decode cX12_mixBarge 15 = .ok (.invokevirtual 352, 3) := by decide +kernel
theorem dX12_mixBarge_18 : decode cX12_mixBarge 18 = .ok (.iconst 0, 1) := by decide +kernel
theorem dX12_mixBarge_19 : decode cX12_mixBarge 19 = .ok (.istore_n 1, 1) := by decide +kernel
theorem dX12_mixBarge_20 : decode cX12_mixBarge 20 = .ok (.iload_n 1, 1) := by decide +kernel
theorem dX12_mixBarge_21 : decode cX12_mixBarge 21 = .ok (.aload_n 0, 1) := by decide +kernel
theorem dX12_mixBarge_22 : decode cX12_mixBarge 22 = .ok (.getfield 177, 3) := by decide +kernel
theorem dX12_mixBarge_25 : decode cX12_mixBarge 25 = .ok (.if_icmp .ge 33, 3) := by decide +kernel
theorem dX12_mixBarge_28 : decode cX12_mixBarge 28 = .ok (.iconst 0, 1) := by decide +kernel
theorem dX12_mixBarge_29 : decode cX12_mixBarge 29 = .ok (.istore_n 2, 1) := by decide +kernel
theorem dX12_mixBarge_30 : decode cX12_mixBarge 30 = .ok (.iload_n 2, 1) := by decide +kernel
theorem dX12_mixBarge_31 : decode cX12_mixBarge 31 = .ok (.iconst 4, 1) := by decide +kernel
theorem dX12_mixBarge_32 : decode cX12_mixBarge 32 = .ok (.if_icmp .ge 20, 3) := by decide +kernel
theorem dX12_mixBarge_35 : decode cX12_mixBarge 35 = .ok (.aload_n 0, 1) := by decide +kernel
theorem dX12_mixBarge_36 : decode cX12_mixBarge 36 = .ok (.aload_n 0, 1) := by decide +kernel
theorem dX12_mixBarge_37 : decode cX12_mixBarge 37 = .ok (.iload_n 1, 1) := by decide +kernel
theorem dX12_mixBarge_38 : decode cX12_mixBarge 38 = .ok (.iload_n 2, 1) := by decide +kernel
theorem dX12_mixBarge_39 : decode cX12_mixBarge 39 = .ok (.invokevirtual 220, 3) := by decide +kernel
theorem dX12_mixBarge_42 : decode cX12_mixBarge 42 = .ok (.i2l, 1) := by decide +kernel
theorem dX12_mixBarge_43 : decode cX12_mixBarge 43 = .ok (.invokevirtual 352, 3) := by decide +kernel
theorem dX12_mixBarge_46 : decode cX12_mixBarge 46 = .ok (.iinc 2 1, 3) := by decide +kernel
theorem dX12_mixBarge_49 : decode cX12_mixBarge 49 = .ok (.goto (-19), 3) := by decide +kernel
theorem dX12_mixBarge_52 : decode cX12_mixBarge 52 = .ok (.iinc 1 1, 3) := by decide +kernel
theorem dX12_mixBarge_55 : decode cX12_mixBarge 55 = .ok (.goto (-35), 3) := by decide +kernel
theorem dX12_mixBarge_58 : decode cX12_mixBarge 58 = .ok (.iconst 0, 1) := by decide +kernel
theorem dX12_mixBarge_59 : decode cX12_mixBarge 59 = .ok (.istore_n 1, 1) := by decide +kernel
theorem dX12_mixBarge_60 : decode cX12_mixBarge 60 = .ok (.iload_n 1, 1) := by decide +kernel
theorem dX12_mixBarge_61 : decode cX12_mixBarge 61 = .ok (.aload_n 0, 1) := by decide +kernel
theorem dX12_mixBarge_62 : decode cX12_mixBarge 62 = .ok (.getfield 180, 3) := by decide +kernel
theorem dX12_mixBarge_65 : decode cX12_mixBarge 65 = .ok (.if_icmp .ge 33, 3) := by decide +kernel
theorem dX12_mixBarge_68 : decode cX12_mixBarge 68 = .ok (.iconst 0, 1) := by decide +kernel
theorem dX12_mixBarge_69 : decode cX12_mixBarge 69 = .ok (.istore_n 2, 1) := by decide +kernel
theorem dX12_mixBarge_70 : decode cX12_mixBarge 70 = .ok (.iload_n 2, 1) := by decide +kernel
theorem dX12_mixBarge_71 : decode cX12_mixBarge 71 = .ok (.iconst 5, 1) := by decide +kernel
theorem dX12_mixBarge_72 : decode cX12_mixBarge 72 = .ok (.if_icmp .ge 20, 3) := by decide +kernel
theorem dX12_mixBarge_75 : decode cX12_mixBarge 75 = .ok (.aload_n 0, 1) := by decide +kernel
theorem dX12_mixBarge_76 : decode cX12_mixBarge 76 = .ok (.aload_n 0, 1) := by decide +kernel
theorem dX12_mixBarge_77 : decode cX12_mixBarge 77 = .ok (.iload_n 1, 1) := by decide +kernel
theorem dX12_mixBarge_78 : decode cX12_mixBarge 78 = .ok (.iload_n 2, 1) := by decide +kernel
theorem dX12_mixBarge_79 : decode cX12_mixBarge 79 = .ok (.invokevirtual 226, 3) := by decide +kernel
theorem dX12_mixBarge_82 : decode cX12_mixBarge 82 = .ok (.i2l, 1) := by decide +kernel
theorem dX12_mixBarge_83 : decode cX12_mixBarge 83 = .ok (.invokevirtual 352, 3) := by decide +kernel
theorem dX12_mixBarge_86 : decode cX12_mixBarge 86 = .ok (.iinc 2 1, 3) := by decide +kernel
theorem dX12_mixBarge_89 : decode cX12_mixBarge 89 = .ok (.goto (-19), 3) := by decide +kernel
theorem dX12_mixBarge_92 : decode cX12_mixBarge 92 = .ok (.iinc 1 1, 3) := by decide +kernel
theorem dX12_mixBarge_95 : decode cX12_mixBarge 95 = .ok (.goto (-35), 3) := by decide +kernel
theorem dX12_mixBarge_98 : decode cX12_mixBarge 98 = .ok (.iconst 0, 1) := by decide +kernel
theorem dX12_mixBarge_99 : decode cX12_mixBarge 99 = .ok (.istore_n 1, 1) := by decide +kernel
theorem dX12_mixBarge_100 : decode cX12_mixBarge 100 = .ok (.iload_n 1, 1) := by decide +kernel
theorem dX12_mixBarge_101 : decode cX12_mixBarge 101 = .ok (.aload_n 0, 1) := by decide +kernel
theorem dX12_mixBarge_102 : decode cX12_mixBarge 102 = .ok (.getfield 106, 3) := by decide +kernel
theorem dX12_mixBarge_105 : decode cX12_mixBarge 105 = .ok (.if_icmp .ge 20, 3) := by decide +kernel
theorem dX12_mixBarge_108 : decode cX12_mixBarge 108 = .ok (.aload_n 0, 1) := by decide +kernel
theorem dX12_mixBarge_109 : decode cX12_mixBarge 109 = .ok (.aload_n 0, 1) := by decide +kernel
theorem dX12_mixBarge_110 : decode cX12_mixBarge 110 = .ok (.getfield 44, 3) := by decide +kernel
theorem dX12_mixBarge_113 : decode cX12_mixBarge 113 = .ok (.iload_n 1, 1) := by decide +kernel
theorem dX12_mixBarge_114 : decode cX12_mixBarge 114 = .ok (.iaload, 1) := by decide +kernel
theorem dX12_mixBarge_115 : decode cX12_mixBarge 115 = .ok (.i2l, 1) := by decide +kernel
theorem dX12_mixBarge_116 : decode cX12_mixBarge 116 = .ok (.invokevirtual 352, 3) := by decide +kernel
theorem dX12_mixBarge_119 : decode cX12_mixBarge 119 = .ok (.iinc 1 1, 3) := by decide +kernel
theorem dX12_mixBarge_122 : decode cX12_mixBarge 122 = .ok (.goto (-22), 3) := by decide +kernel
theorem dX12_mixBarge_125 : decode cX12_mixBarge 125 = .ok (.iconst 0, 1) := by decide +kernel
theorem dX12_mixBarge_126 : decode cX12_mixBarge 126 = .ok (.istore_n 1, 1) := by decide +kernel
theorem dX12_mixBarge_127 : decode cX12_mixBarge 127 = .ok (.iload_n 1, 1) := by decide +kernel
theorem dX12_mixBarge_128 : decode cX12_mixBarge 128 = .ok (.aload_n 0, 1) := by decide +kernel
theorem dX12_mixBarge_129 : decode cX12_mixBarge 129 = .ok (.getfield 183, 3) := by decide +kernel
theorem dX12_mixBarge_132 : decode cX12_mixBarge 132 = .ok (.if_icmp .ge 31, 3) := by decide +kernel
theorem dX12_mixBarge_135 : decode cX12_mixBarge 135 = .ok (.aload_n 0, 1) := by decide +kernel
theorem dX12_mixBarge_136 : decode cX12_mixBarge 136 = .ok (.aload_n 0, 1) := by decide +kernel
theorem dX12_mixBarge_137 : decode cX12_mixBarge 137 = .ok (.getfield 59, 3) := by decide +kernel
theorem dX12_mixBarge_140 : decode cX12_mixBarge 140 = .ok (.iload_n 1, 1) := by decide +kernel
theorem dX12_mixBarge_141 : decode cX12_mixBarge 141 = .ok (.iaload, 1) := by decide +kernel
theorem dX12_mixBarge_142 : decode cX12_mixBarge 142 = .ok (.i2l, 1) := by decide +kernel
theorem dX12_mixBarge_143 : decode cX12_mixBarge 143 = .ok (.invokevirtual 352, 3) := by decide +kernel
theorem dX12_mixBarge_146 : decode cX12_mixBarge 146 = .ok (.aload_n 0, 1) := by decide +kernel
theorem dX12_mixBarge_147 : decode cX12_mixBarge 147 = .ok (.aload_n 0, 1) := by decide +kernel
theorem dX12_mixBarge_148 : decode cX12_mixBarge 148 = .ok (.getfield 62, 3) := by decide +kernel
theorem dX12_mixBarge_151 : decode cX12_mixBarge 151 = .ok (.iload_n 1, 1) := by decide +kernel
theorem dX12_mixBarge_152 : decode cX12_mixBarge 152 = .ok (.iaload, 1) := by decide +kernel
theorem dX12_mixBarge_153 : decode cX12_mixBarge 153 = .ok (.i2l, 1) := by decide +kernel
theorem dX12_mixBarge_154 : decode cX12_mixBarge 154 = .ok (.invokevirtual 352, 3) := by decide +kernel
theorem dX12_mixBarge_157 : decode cX12_mixBarge 157 = .ok (.iinc 1 1, 3) := by decide +kernel
theorem dX12_mixBarge_160 : decode cX12_mixBarge 160 = .ok (.goto (-33), 3) := by decide +kernel
theorem dX12_mixBarge_163 : decode cX12_mixBarge 163 = .ok (.iconst 0, 1) := by decide +kernel
theorem dX12_mixBarge_164 : decode cX12_mixBarge 164 = .ok (.istore_n 1, 1) := by decide +kernel
theorem dX12_mixBarge_165 : decode cX12_mixBarge 165 = .ok (.iload_n 1, 1) := by decide +kernel
theorem dX12_mixBarge_166 : decode cX12_mixBarge 166 = .ok (.iconst 3, 1) := by decide +kernel
theorem dX12_mixBarge_167 : decode cX12_mixBarge 167 = .ok (.if_icmp .ge 66, 3) := by decide +kernel
theorem dX12_mixBarge_170 : decode cX12_mixBarge 170 = .ok (.aload_n 0, 1) := by decide +kernel
theorem dX12_mixBarge_171 : decode cX12_mixBarge 171 = .ok (.getfield 68, 3) := by decide +kernel
theorem dX12_mixBarge_174 : decode cX12_mixBarge 174 = .ok (.iload_n 1, 1) := by decide +kernel
theorem dX12_mixBarge_175 : decode cX12_mixBarge 175 = .ok (.baload, 1) := by decide +kernel
theorem dX12_mixBarge_176 : decode cX12_mixBarge 176 = .ok (.ifCond .ne 10, 3) := by decide +kernel
theorem dX12_mixBarge_179 : decode cX12_mixBarge 179 = .ok (.aload_n 0, 1) := by decide +kernel
theorem dX12_mixBarge_180 : decode cX12_mixBarge 180 = .ok (.ldc2_w 356, 3) := by decide +kernel
theorem dX12_mixBarge_183 : decode cX12_mixBarge 183 = .ok (.invokevirtual 352, 3) := by decide +kernel
theorem dX12_mixBarge_186 : decode cX12_mixBarge 186 = .ok (.iconst 0, 1) := by decide +kernel
theorem dX12_mixBarge_187 : decode cX12_mixBarge 187 = .ok (.istore_n 2, 1) := by decide +kernel
theorem dX12_mixBarge_188 : decode cX12_mixBarge 188 = .ok (.iload_n 2, 1) := by decide +kernel
theorem dX12_mixBarge_189 : decode cX12_mixBarge 189 = .ok (.aload_n 0, 1) := by decide +kernel
theorem dX12_mixBarge_190 : decode cX12_mixBarge 190 = .ok (.getfield 180, 3) := by decide +kernel
theorem dX12_mixBarge_193 : decode cX12_mixBarge 193 = .ok (.if_icmp .ge 34, 3) := by decide +kernel
theorem dX12_mixBarge_196 : decode cX12_mixBarge 196 = .ok (.aload_n 0, 1) := by decide +kernel
theorem dX12_mixBarge_197 : decode cX12_mixBarge 197 = .ok (.getfield 68, 3) := by decide +kernel
theorem dX12_mixBarge_200 : decode cX12_mixBarge 200 = .ok (.iload_n 1, 1) := by decide +kernel
theorem dX12_mixBarge_201 : decode cX12_mixBarge 201 = .ok (.baload, 1) := by decide +kernel
theorem dX12_mixBarge_202 : decode cX12_mixBarge 202 = .ok (.ifCond .eq 25, 3) := by decide +kernel
theorem dX12_mixBarge_205 : decode cX12_mixBarge 205 = .ok (.aload_n 0, 1) := by decide +kernel
theorem dX12_mixBarge_206 : decode cX12_mixBarge 206 = .ok (.aload_n 0, 1) := by decide +kernel
theorem dX12_mixBarge_207 : decode cX12_mixBarge 207 = .ok (.getfield 72, 3) := by decide +kernel
theorem dX12_mixBarge_210 : decode cX12_mixBarge 210 = .ok (.bipush 7, 2) := by decide +kernel
theorem dX12_mixBarge_212 : decode cX12_mixBarge 212 = .ok (.iload_n 1, 1) := by decide +kernel
theorem dX12_mixBarge_213 : decode cX12_mixBarge 213 = .ok (.imul, 1) := by decide +kernel
theorem dX12_mixBarge_214 : decode cX12_mixBarge 214 = .ok (.iload_n 2, 1) := by decide +kernel
theorem dX12_mixBarge_215 : decode cX12_mixBarge 215 = .ok (.iadd, 1) := by decide +kernel
theorem dX12_mixBarge_216 : decode cX12_mixBarge 216 = .ok (.iaload, 1) := by decide +kernel
theorem dX12_mixBarge_217 : decode cX12_mixBarge 217 = .ok (.i2l, 1) := by decide +kernel
theorem dX12_mixBarge_218 : decode cX12_mixBarge 218 = .ok (.invokevirtual 352, 3) := by decide +kernel
theorem dX12_mixBarge_221 : decode cX12_mixBarge 221 = .ok (.iinc 2 1, 3) := by decide +kernel
theorem dX12_mixBarge_224 : decode cX12_mixBarge 224 = .ok (.goto (-36), 3) := by decide +kernel
theorem dX12_mixBarge_227 : decode cX12_mixBarge 227 = .ok (.iinc 1 1, 3) := by decide +kernel
theorem dX12_mixBarge_230 : decode cX12_mixBarge 230 = .ok (.goto (-65), 3) := by decide +kernel
theorem dX12_mixBarge_233 : decode cX12_mixBarge 233 = .ok (.return_, 1) := by decide +kernel
theorem dX12_digest_0 : decode cX12_digest 0 = .ok (.aload_n 0, 1) := by decide +kernel
theorem dX12_digest_1 : decode cX12_digest 1 = .ok (.ldc2_w 358, 3) := by decide +kernel
theorem dX12_digest_4 : decode cX12_digest 4 = .ok (.putfield 349, 3) := by decide +kernel
theorem dX12_digest_7 : decode cX12_digest 7 = .ok (.iconst 0, 1) := by decide +kernel
theorem dX12_digest_8 : decode cX12_digest 8 = .ok (.istore_n 1, 1) := by decide +kernel
theorem dX12_digest_9 : decode cX12_digest 9 = .ok (.iload_n 1, 1) := by decide +kernel
theorem dX12_digest_10 : decode cX12_digest 10 = .ok (.bipush 10, 2) := by decide +kernel
theorem dX12_digest_12 : decode cX12_digest 12 = .ok (.if_icmp .ge 19, 3) := by decide +kernel
theorem dX12_digest_15 : decode cX12_digest 15 = .ok (.aload_n 0, 1) := by decide +kernel
theorem dX12_digest_16 : decode cX12_digest 16 = .ok (.aload_n 0, 1) := by decide +kernel
theorem dX12_digest_17 : decode cX12_digest 17 = .ok (.iload_n 1, 1) := by decide +kernel
theorem dX12_digest_18 : decode cX12_digest 18 = .ok (.invokevirtual 344, 3) := by decide +kernel
theorem dX12_digest_21 : decode cX12_digest 21 = .ok (.i2l, 1) := by decide +kernel
theorem dX12_digest_22 : decode cX12_digest 22 = .ok (.invokevirtual 352, 3) := by decide +kernel
theorem dX12_digest_25 : decode cX12_digest 25 = .ok (.iinc 1 1, 3) := by decide +kernel
theorem dX12_digest_28 : decode cX12_digest 28 = .ok (.goto (-19), 3) := by decide +kernel
theorem dX12_digest_31 : decode cX12_digest 31 = .ok (.aload_n 0, 1) := by decide +kernel
theorem dX12_digest_32 : decode cX12_digest 32 = .ok (.invokevirtual 360, 3) := by decide +kernel
theorem dX12_digest_35 : decode cX12_digest 35 = .ok (.iconst 0, 1) := by decide +kernel
theorem dX12_digest_36 : decode cX12_digest 36 = .ok (.istore_n 1, 1) := by decide +kernel
theorem dX12_digest_37 : decode cX12_digest 37 = .ok (.iload_n 1, 1) := by decide +kernel
theorem dX12_digest_38 : decode cX12_digest 38 = .ok (.bipush 6, 2) := by decide +kernel
theorem dX12_digest_40 : decode cX12_digest 40 = .ok (.if_icmp .ge 49, 3) := by decide +kernel
theorem dX12_digest_43 : decode cX12_digest 43 = .ok (.aload_n 0, 1) := by decide +kernel
theorem dX12_digest_44 : decode cX12_digest 44 = .ok (.aload_n 0, 1) := by decide +kernel
theorem dX12_digest_45 : decode cX12_digest 45 = .ok (.getfield 13, 3) := by decide +kernel
theorem dX12_digest_48 : decode cX12_digest 48 = .ok (.iload_n 1, 1) := by decide +kernel
theorem dX12_digest_49 : decode cX12_digest 49 = .ok (.iaload, 1) := by decide +kernel
theorem dX12_digest_50 : decode cX12_digest 50 = .ok (.i2l, 1) := by decide +kernel
theorem dX12_digest_51 : decode cX12_digest 51 = .ok (.invokevirtual 352, 3) := by decide +kernel
theorem dX12_digest_54 : decode cX12_digest 54 = .ok (.iconst 0, 1) := by decide +kernel
theorem dX12_digest_55 : decode cX12_digest 55 = .ok (.istore_n 2, 1) := by decide +kernel
theorem dX12_digest_56 : decode cX12_digest 56 = .ok (.iload_n 2, 1) := by decide +kernel
theorem dX12_digest_57 : decode cX12_digest 57 = .ok (.aload_n 0, 1) := by decide +kernel
theorem dX12_digest_58 : decode cX12_digest 58 = .ok (.getfield 13, 3) := by decide +kernel
theorem dX12_digest_61 : decode cX12_digest 61 = .ok (.iload_n 1, 1) := by decide +kernel
theorem dX12_digest_62 : decode cX12_digest 62 = .ok (.iaload, 1) := by decide +kernel
theorem dX12_digest_63 : decode cX12_digest 63 = .ok (.if_icmp .ge 20, 3) := by decide +kernel
theorem dX12_digest_66 : decode cX12_digest 66 = .ok (.aload_n 0, 1) := by decide +kernel
theorem dX12_digest_67 : decode cX12_digest 67 = .ok (.aload_n 0, 1) := by decide +kernel
theorem dX12_digest_68 : decode cX12_digest 68 = .ok (.iload_n 1, 1) := by decide +kernel
theorem dX12_digest_69 : decode cX12_digest 69 = .ok (.iload_n 2, 1) := by decide +kernel
theorem dX12_digest_70 : decode cX12_digest 70 = .ok (.invokevirtual 131, 3) := by decide +kernel
theorem dX12_digest_73 : decode cX12_digest 73 = .ok (.i2l, 1) := by decide +kernel
theorem dX12_digest_74 : decode cX12_digest 74 = .ok (.invokevirtual 352, 3) := by decide +kernel
theorem dX12_digest_77 : decode cX12_digest 77 = .ok (.iinc 2 1, 3) := by decide +kernel
theorem dX12_digest_80 : decode cX12_digest 80 = .ok (.goto (-24), 3) := by decide +kernel
theorem dX12_digest_83 : decode cX12_digest 83 = .ok (.iinc 1 1, 3) := by decide +kernel
theorem dX12_digest_86 : decode cX12_digest 86 = .ok (.goto (-49), 3) := by decide +kernel
theorem dX12_digest_89 : decode cX12_digest 89 = .ok (.iconst 0, 1) := by decide +kernel
theorem dX12_digest_90 : decode cX12_digest 90 = .ok (.istore_n 1, 1) := by decide +kernel
theorem dX12_digest_91 : decode cX12_digest 91 = .ok (.iload_n 1, 1) := by decide +kernel
theorem dX12_digest_92 : decode cX12_digest 92 = .ok (.iconst 4, 1) := by decide +kernel
theorem dX12_digest_93 : decode cX12_digest 93 = .ok (.if_icmp .ge 49, 3) := by decide +kernel
theorem dX12_digest_96 : decode cX12_digest 96 = .ok (.aload_n 0, 1) := by decide +kernel
theorem dX12_digest_97 : decode cX12_digest 97 = .ok (.aload_n 0, 1) := by decide +kernel
theorem dX12_digest_98 : decode cX12_digest 98 = .ok (.getfield 22, 3) := by decide +kernel
theorem dX12_digest_101 : decode cX12_digest 101 = .ok (.iload_n 1, 1) := by decide +kernel
theorem dX12_digest_102 : decode cX12_digest 102 = .ok (.iaload, 1) := by decide +kernel
theorem dX12_digest_103 : decode cX12_digest 103 = .ok (.i2l, 1) := by decide +kernel
theorem dX12_digest_104 : decode cX12_digest 104 = .ok (.invokevirtual 352, 3) := by decide +kernel
theorem dX12_digest_107 : decode cX12_digest 107 = .ok (.iconst 0, 1) := by decide +kernel
theorem dX12_digest_108 : decode cX12_digest 108 = .ok (.istore_n 2, 1) := by decide +kernel
theorem dX12_digest_109 : decode cX12_digest 109 = .ok (.iload_n 2, 1) := by decide +kernel
theorem dX12_digest_110 : decode cX12_digest 110 = .ok (.aload_n 0, 1) := by decide +kernel
theorem dX12_digest_111 : decode cX12_digest 111 = .ok (.getfield 22, 3) := by decide +kernel
theorem dX12_digest_114 : decode cX12_digest 114 = .ok (.iload_n 1, 1) := by decide +kernel
theorem dX12_digest_115 : decode cX12_digest 115 = .ok (.iaload, 1) := by decide +kernel
theorem dX12_digest_116 : decode cX12_digest 116 = .ok (.if_icmp .ge 20, 3) := by decide +kernel
theorem dX12_digest_119 : decode cX12_digest 119 = .ok (.aload_n 0, 1) := by decide +kernel
theorem dX12_digest_120 : decode cX12_digest 120 = .ok (.aload_n 0, 1) := by decide +kernel
theorem dX12_digest_121 : decode cX12_digest 121 = .ok (.iload_n 1, 1) := by decide +kernel
theorem dX12_digest_122 : decode cX12_digest 122 = .ok (.iload_n 2, 1) := by decide +kernel
theorem dX12_digest_123 : decode cX12_digest 123 = .ok (.invokevirtual 144, 3) := by decide +kernel
theorem dX12_digest_126 : decode cX12_digest 126 = .ok (.i2l, 1) := by decide +kernel
theorem dX12_digest_127 : decode cX12_digest 127 = .ok (.invokevirtual 352, 3) := by decide +kernel
theorem dX12_digest_130 : decode cX12_digest 130 = .ok (.iinc 2 1, 3) := by decide +kernel
theorem dX12_digest_133 : decode cX12_digest 133 = .ok (.goto (-24), 3) := by decide +kernel
theorem dX12_digest_136 : decode cX12_digest 136 = .ok (.iinc 1 1, 3) := by decide +kernel
theorem dX12_digest_139 : decode cX12_digest 139 = .ok (.goto (-48), 3) := by decide +kernel
theorem dX12_digest_142 : decode cX12_digest 142 = .ok (.aload_n 0, 1) := by decide +kernel
theorem dX12_digest_143 : decode cX12_digest 143 = .ok (.getfield 349, 3) := by decide +kernel
theorem dX12_digest_146 : decode cX12_digest 146 = .ok (.lreturn, 1) := by decide +kernel
