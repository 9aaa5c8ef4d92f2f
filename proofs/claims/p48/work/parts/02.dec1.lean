theorem dX5_mostWorth_25 : decode cX5_mostWorth 25 = .ok (.iload 4, 2) := by decide +kernel
theorem dX5_mostWorth_27 : decode cX5_mostWorth 27 = .ok (.iaload, 1) := by decide +kernel
theorem dX5_mostWorth_28 : decode cX5_mostWorth 28 = .ok (.iadd, 1) := by decide +kernel
theorem dX5_mostWorth_29 : decode cX5_mostWorth 29 = .ok (.istore_n 3, 1) := by decide +kernel
theorem dX5_mostWorth_30 : decode cX5_mostWorth 30 = .ok (.iinc 4 1, 3) := by decide +kernel
theorem dX5_mostWorth_33 : decode cX5_mostWorth 33 = .ok (.goto (-28), 3) := by decide +kernel
theorem dX5_mostWorth_36 : decode cX5_mostWorth 36 = .ok (.iload_n 3, 1) := by decide +kernel
theorem dX5_mostWorth_37 : decode cX5_mostWorth 37 = .ok (.aload_n 0, 1) := by decide +kernel
theorem dX5_mostWorth_38 : decode cX5_mostWorth 38 = .ok (.iconst 0, 1) := by decide +kernel
theorem dX5_mostWorth_39 : decode cX5_mostWorth 39 = .ok (.aload_n 1, 1) := by decide +kernel
theorem dX5_mostWorth_40 : decode cX5_mostWorth 40 = .ok (.iload_n 2, 1) := by decide +kernel
theorem dX5_mostWorth_41 : decode cX5_mostWorth 41 = .ok (.invokevirtual 41, 3) := by decide +kernel
theorem dX5_mostWorth_44 : decode cX5_mostWorth 44 = .ok (.isub, 1) := by decide +kernel
theorem dX5_mostWorth_45 : decode cX5_mostWorth 45 = .ok (.ireturn, 1) := by decide +kernel
theorem dX5_fewestLate_0 : decode cX5_fewestLate 0 = .ok (.aload_n 0, 1) := by decide +kernel
theorem dX5_fewestLate_1 : decode cX5_fewestLate 1 = .ok (.iconst 1, 1) := by decide +kernel
theorem dX5_fewestLate_2 : decode cX5_fewestLate 2 = .ok (.aload_n 1, 1) := by decide +kernel
theorem dX5_fewestLate_3 : decode cX5_fewestLate 3 = .ok (.bipush (-9), 2) := by decide +kernel
theorem dX5_fewestLate_5 : decode cX5_fewestLate 5 = .ok (.invokevirtual 41, 3) := by decide +kernel
theorem dX5_fewestLate_8 : decode cX5_fewestLate 8 = .ok (.ireturn, 1) := by decide +kernel
theorem dX5_soonestEnd_0 : decode cX5_soonestEnd 0 = .ok (.aload_n 0, 1) := by decide +kernel
theorem dX5_soonestEnd_1 : decode cX5_soonestEnd 1 = .ok (.iconst 2, 1) := by decide +kernel
theorem dX5_soonestEnd_2 : decode cX5_soonestEnd 2 = .ok (.aload_n 1, 1) := by decide +kernel
theorem dX5_soonestEnd_3 : decode cX5_soonestEnd 3 = .ok (.bipush (-9), 2) := by decide +kernel
theorem dX5_soonestEnd_5 : decode cX5_soonestEnd 5 = .ok (.invokevirtual 41, 3) := by decide +kernel
theorem dX5_soonestEnd_8 : decode cX5_soonestEnd 8 = .ok (.ireturn, 1) := by decide +kernel
theorem dX5_leastLost_0 : decode cX5_leastLost 0 = .ok (.aload_n 0, 1) := by decide +kernel
theorem dX5_leastLost_1 : decode cX5_leastLost 1 = .ok (.iload_n 1, 1) := by decide +kernel
theorem dX5_leastLost_2 : decode cX5_leastLost 2 = .ok (.putfield 18, 3) := by decide +kernel
theorem dX5_leastLost_5 : decode cX5_leastLost 5 = .ok (.aload_n 0, 1) := by decide +kernel
theorem dX5_leastLost_6 : decode cX5_leastLost 6 = .ok (.ldc 25, 2) := by decide +kernel
theorem dX5_leastLost_8 : decode cX5_leastLost 8 = .ok (.putfield 26, 3) := by decide +kernel
theorem dX5_leastLost_11 : decode cX5_leastLost 11 = .ok (.aload_n 2, 1) := by decide +kernel
theorem dX5_leastLost_12 : decode cX5_leastLost 12 = .ok (.iload_n 3, 1) := by decide +kernel
theorem dX5_leastLost_13 : decode cX5_leastLost 13 = .ok (.invokevirtual 45, 3) := by decide +kernel
theorem dX5_leastLost_16 : decode cX5_leastLost 16 = .ok (.istore 4, 2) := by decide +kernel
theorem dX5_leastLost_18 : decode cX5_leastLost 18 = .ok (.aload_n 0, 1) := by decide +kernel
theorem dX5_leastLost_19 : decode cX5_leastLost 19 = .ok (.iload 4, 2) := by decide +kernel
theorem dX5_leastLost_21 : decode cX5_leastLost 21 = .ok (.ifCond .eq 12, 3) := by decide +kernel
theorem dX5_leastLost_24 : decode cX5_leastLost 24 = .ok (.aload_n 2, 1) := by decide +kernel
theorem dX5_leastLost_25 : decode cX5_leastLost 25 = .ok (.getfield 33, 3) := by decide +kernel
theorem dX5_leastLost_28 : decode cX5_leastLost 28 = .ok (.iconst 1, 1) := by decide +kernel
theorem dX5_leastLost_29 : decode cX5_leastLost 29 = .ok (.isub, 1) := by decide +kernel
theorem dX5_leastLost_30 : decode cX5_leastLost 30 = .ok (.goto 7, 3) := by decide +kernel
theorem dX5_leastLost_33 : decode cX5_leastLost 33 = .ok (.aload_n 2, 1) := by decide +kernel
theorem dX5_leastLost_34 : decode cX5_leastLost 34 = .ok (.getfield 33, 3) := by decide +kernel
theorem dX5_leastLost_37 : decode cX5_leastLost 37 = .ok (.putfield 22, 3) := by decide +kernel
theorem dX5_leastLost_40 : decode cX5_leastLost 40 = .ok (.aload_n 0, 1) := by decide +kernel
theorem dX5_leastLost_41 : decode cX5_leastLost 41 = .ok (.aload_n 2, 1) := by decide +kernel
theorem dX5_leastLost_42 : decode cX5_leastLost 42 = .ok (.iconst 0, 1) := by decide +kernel
theorem dX5_leastLost_43 : decode cX5_leastLost 43 = .ok (.iconst 0, 1) := by decide +kernel
theorem dX5_leastLost_44 : decode cX5_leastLost 44 = .ok (.iconst 0, 1) := by decide +kernel
theorem dX5_leastLost_45 : decode cX5_leastLost 45 = .ok (.iload 4, 2) := by decide +kernel
theorem dX5_leastLost_47 : decode cX5_leastLost 47 = .ok (.ifCond .eq 9, 3) := by decide +kernel
theorem dX5_leastLost_50 : decode cX5_leastLost 50 = .ok (.iconst 1, 1) := by decide +kernel
theorem dX5_leastLost_51 : decode cX5_leastLost 51 = .ok (.iload_n 3, 1) := by decide +kernel
theorem dX5_leastLost_52 : decode cX5_leastLost 52 = .ok (.ishl, 1) := by decide +kernel
theorem dX5_leastLost_53 : decode cX5_leastLost 53 = .ok (.goto 4, 3) := by decide +kernel
theorem dX5_leastLost_56 : decode cX5_leastLost 56 = .ok (.iconst 0, 1) := by decide +kernel
theorem dX5_leastLost_57 : decode cX5_leastLost 57 = .ok (.iconst 0, 1) := by decide +kernel
theorem dX5_leastLost_58 : decode cX5_leastLost 58 = .ok (.invokevirtual 49, 3) := by decide +kernel
theorem dX5_leastLost_61 : decode cX5_leastLost 61 = .ok (.aload_n 0, 1) := by decide +kernel
theorem dX5_leastLost_62 : decode cX5_leastLost 62 = .ok (.getfield 26, 3) := by decide +kernel
theorem dX5_leastLost_65 : decode cX5_leastLost 65 = .ok (.ireturn, 1) := by decide +kernel
theorem dX5_walk_0 : decode cX5_walk 0 = .ok (.iload 6, 2) := by decide +kernel
theorem dX5_walk_2 : decode cX5_walk 2 = .ok (.aload_n 0, 1) := by decide +kernel
theorem dX5_walk_3 : decode cX5_walk 3 = .ok (.getfield 26, 3) := by decide +kernel
theorem dX5_walk_6 : decode cX5_walk 6 = .ok (.if_icmp .lt 4, 3) := by decide +kernel
theorem dX5_walk_9 : decode cX5_walk 9 = .ok (.return_, 1) := by decide +kernel
theorem dX5_walk_10 : decode cX5_walk 10 = .ok (.iload_n 2, 1) := by decide +kernel
theorem dX5_walk_11 : decode cX5_walk 11 = .ok (.aload_n 0, 1) := by decide +kernel
theorem dX5_walk_12 : decode cX5_walk 12 = .ok (.getfield 22, 3) := by decide +kernel
theorem dX5_walk_15 : decode cX5_walk 15 = .ok (.if_icmp .lt 25, 3) := by decide +kernel
theorem dX5_walk_18 : decode cX5_walk 18 = .ok (.aload_n 0, 1) := by decide +kernel
theorem dX5_walk_19 : decode cX5_walk 19 = .ok (.iload 6, 2) := by decide +kernel
theorem dX5_walk_21 : decode cX5_walk 21 = .ok (.putfield 26, 3) := by decide +kernel
theorem dX5_walk_24 : decode cX5_walk 24 = .ok (.aload_n 0, 1) := by decide +kernel
theorem dX5_walk_25 : decode cX5_walk 25 = .ok (.getfield 9, 3) := by decide +kernel
theorem dX5_walk_28 : decode cX5_walk 28 = .ok (.iconst 0, 1) := by decide +kernel
theorem dX5_walk_29 : decode cX5_walk 29 = .ok (.aload_n 0, 1) := by decide +kernel
theorem dX5_walk_30 : decode cX5_walk 30 = .ok (.getfield 15, 3) := by decide +kernel
theorem dX5_walk_33 : decode cX5_walk 33 = .ok (.iconst 0, 1) := by decide +kernel
theorem dX5_walk_34 : decode cX5_walk 34 = .ok (.bipush 6, 2) := by decide +kernel
theorem dX5_walk_36 : decode cX5_walk 36 = .ok (.invokestatic 53, 3) := by decide +kernel
theorem dX5_walk_39 : decode cX5_walk 39 = .ok (.return_, 1) := by decide +kernel
theorem dX5_walk_40 : decode cX5_walk 40 = .ok (.iconst 0, 1) := by decide +kernel
theorem dX5_walk_41 : decode cX5_walk 41 = .ok (.istore 7, 2) := by decide +kernel
theorem dX5_walk_43 : decode cX5_walk 43 = .ok (.iload 7, 2) := by decide +kernel
theorem dX5_walk_45 : decode cX5_walk 45 = .ok (.aload_n 1, 1) := by decide +kernel
theorem dX5_walk_46 : decode cX5_walk 46 = .ok (.getfield 33, 3) := by decide +kernel
theorem dX5_walk_49 : decode cX5_walk 49 = .ok (.if_icmp .ge 92, 3) := by decide +kernel
theorem dX5_walk_52 : decode cX5_walk 52 = .ok (.iload 5, 2) := by decide +kernel
theorem dX5_walk_54 : decode cX5_walk 54 = .ok (.iload 7, 2) := by decide +kernel
theorem dX5_walk_56 : decode cX5_walk 56 = .ok (.ishr, 1) := by decide +kernel
theorem dX5_walk_57 : decode cX5_walk 57 = .ok (.iconst 1, 1) := by decide +kernel
theorem dX5_walk_58 : decode cX5_walk 58 = .ok (.iand, 1) := by decide +kernel
theorem dX5_walk_59 : decode cX5_walk 59 = .ok (.ifCond .eq 6, 3) := by decide +kernel
theorem dX5_walk_62 : decode cX5_walk 62 = .ok (.goto 73, 3) := by decide +kernel
theorem dX5_walk_65 : decode cX5_walk 65 = .ok (.aload_n 0, 1) := by decide +kernel
theorem dX5_walk_66 : decode cX5_walk 66 = .ok (.getfield 29, 3) := by decide +kernel
theorem dX5_walk_69 : decode cX5_walk 69 = .ok (.iload_n 3, 1) := by decide +kernel
theorem dX5_walk_70 : decode cX5_walk 70 = .ok (.iload 4, 2) := by decide +kernel
theorem dX5_walk_72 : decode cX5_walk 72 = .ok (.aload_n 1, 1) := by decide +kernel
theorem dX5_walk_73 : decode cX5_walk 73 = .ok (.iload 7, 2) := by decide +kernel
theorem dX5_walk_75 : decode cX5_walk 75 = .ok (.invokevirtual 59, 3) := by decide +kernel
theorem dX5_walk_78 : decode cX5_walk 78 = .ok (.istore 8, 2) := by decide +kernel
theorem dX5_walk_80 : decode cX5_walk 80 = .ok (.aload_n 0, 1) := by decide +kernel
theorem dX5_walk_81 : decode cX5_walk 81 = .ok (.getfield 9, 3) := by decide +kernel
theorem dX5_walk_84 : decode cX5_walk 84 = .ok (.iload_n 2, 1) := by decide +kernel
theorem dX5_walk_85 : decode cX5_walk 85 = .ok (.iload 7, 2) := by decide +kernel
theorem dX5_walk_87 : decode cX5_walk 87 = .ok (.iastore, 1) := by decide +kernel
theorem dX5_walk_88 : decode cX5_walk 88 = .ok (.aload_n 0, 1) := by decide +kernel
theorem dX5_walk_89 : decode cX5_walk 89 = .ok (.aload_n 1, 1) := by decide +kernel
theorem dX5_walk_90 : decode cX5_walk 90 = .ok (.iload 7, 2) := by decide +kernel
theorem dX5_walk_92 : decode cX5_walk 92 = .ok (.aload_n 0, 1) := by decide +kernel
theorem dX5_walk_93 : decode cX5_walk 93 = .ok (.getfield 29, 3) := by decide +kernel
theorem dX5_walk_96 : decode cX5_walk 96 = .ok (.iload 8, 2) := by decide +kernel
theorem dX5_walk_98 : decode cX5_walk 98 = .ok (.invokevirtual 65, 3) := by decide +kernel
theorem dX5_walk_101 : decode cX5_walk 101 = .ok (.invokevirtual 69, 3) := by decide +kernel
theorem dX5_walk_104 : decode cX5_walk 104 = .ok (.istore 9, 2) := by decide +kernel
theorem dX5_walk_106 : decode cX5_walk 106 = .ok (.aload_n 0, 1) := by decide +kernel
theorem dX5_walk_107 : decode cX5_walk 107 = .ok (.aload_n 1, 1) := by decide +kernel
theorem dX5_walk_108 : decode cX5_walk 108 = .ok (.iload_n 2, 1) := by decide +kernel
theorem dX5_walk_109 : decode cX5_walk 109 = .ok (.iconst 1, 1) := by decide +kernel
theorem dX5_walk_110 : decode cX5_walk 110 = .ok (.iadd, 1) := by decide +kernel
theorem dX5_walk_111 : decode cX5_walk 111 = .ok (.iload 8, 2) := by decide +kernel
theorem dX5_walk_113 : decode cX5_walk 113 = .ok (.aload_n 1, 1) := by decide +kernel
theorem dX5_walk_114 : decode cX5_walk 114 = .ok (.getfield 73, 3) := by decide +kernel
theorem dX5_walk_117 : decode cX5_walk 117 = .ok (.iload 7, 2) := by decide +kernel
theorem dX5_walk_119 : decode cX5_walk 119 = .ok (.iaload, 1) := by decide +kernel
theorem dX5_walk_120 : decode cX5_walk 120 = .ok (.iload 5, 2) := by decide +kernel
theorem dX5_walk_122 : decode cX5_walk 122 = .ok (.iconst 1, 1) := by decide +kernel
theorem dX5_walk_123 : decode cX5_walk 123 = .ok (.iload 7, 2) := by decide +kernel
theorem dX5_walk_125 : decode cX5_walk 125 = .ok (.ishl, 1) := by decide +kernel
theorem dX5_walk_126 : decode cX5_walk 126 = .ok (.ior, 1) := by decide +kernel
theorem dX5_walk_127 : decode cX5_walk 127 = .ok (.iload 6, 2) := by decide +kernel
theorem dX5_walk_129 : decode cX5_walk 129 = .ok (.iload 9, 2) := by decide +kernel
theorem dX5_walk_131 : decode cX5_walk 131 = .ok (.iadd, 1) := by decide +kernel
theorem dX5_walk_132 : decode cX5_walk 132 = .ok (.invokevirtual 49, 3) := by decide +kernel
theorem dX5_walk_135 : decode cX5_walk 135 = .ok (.iinc 7 1, 3) := by decide +kernel
theorem dX5_walk_138 : decode cX5_walk 138 = .ok (.goto (-95), 3) := by decide +kernel
theorem dX5_walk_141 : decode cX5_walk 141 = .ok (.return_, 1) := by decide +kernel
theorem dX5_lossOf_0 : decode cX5_lossOf 0 = .ok (.iload_n 3, 1) := by decide +kernel
theorem dX5_lossOf_1 : decode cX5_lossOf 1 = .ok (.aload_n 1, 1) := by decide +kernel
theorem dX5_lossOf_2 : decode cX5_lossOf 2 = .ok (.getfield 76, 3) := by decide +kernel
theorem dX5_lossOf_5 : decode cX5_lossOf 5 = .ok (.iload_n 2, 1) := by decide +kernel
theorem dX5_lossOf_6 : decode cX5_lossOf 6 = .ok (.iaload, 1) := by decide +kernel
theorem dX5_lossOf_7 : decode cX5_lossOf 7 = .ok (.if_icmp .le 7, 3) := by decide +kernel
theorem dX5_lossOf_10 : decode cX5_lossOf 10 = .ok (.iconst 1, 1) := by decide +kernel
theorem dX5_lossOf_11 : decode cX5_lossOf 11 = .ok (.goto 4, 3) := by decide +kernel
theorem dX5_lossOf_14 : decode cX5_lossOf 14 = .ok (.iconst 0, 1) := by decide +kernel
theorem dX5_lossOf_15 : decode cX5_lossOf 15 = .ok (.istore 4, 2) := by decide +kernel
theorem dX5_lossOf_17 : decode cX5_lossOf 17 = .ok (.aload_n 0, 1) := by decide +kernel
theorem dX5_lossOf_18 : decode cX5_lossOf 18 = .ok (.getfield 18, 3) := by decide +kernel
theorem dX5_lossOf_21 : decode cX5_lossOf 21 = .ok (.lookupswitch 59 #[(0, 27), (1, 48)], 27) := by decide +kernel
theorem dX5_lossOf_48 : decode cX5_lossOf 48 = .ok (.aload_n 1, 1) := by decide +kernel
theorem dX5_lossOf_49 : decode cX5_lossOf 49 = .ok (.getfield 38, 3) := by decide +kernel
theorem dX5_lossOf_52 : decode cX5_lossOf 52 = .ok (.iload_n 2, 1) := by decide +kernel
theorem dX5_lossOf_53 : decode cX5_lossOf 53 = .ok (.iaload, 1) := by decide +kernel
theorem dX5_lossOf_54 : decode cX5_lossOf 54 = .ok (.aload_n 1, 1) := by decide +kernel
theorem dX5_lossOf_55 : decode cX5_lossOf 55 = .ok (.iload_n 2, 1) := by decide +kernel
theorem dX5_lossOf_56 : decode cX5_lossOf 56 = .ok (.iload_n 3, 1) := by decide +kernel
theorem dX5_lossOf_57 : decode cX5_lossOf 57 = .ok (.aload_n 0, 1) := by decide +kernel
theorem dX5_lossOf_58 : decode cX5_lossOf 58 = .ok (.getfield 29, 3) := by decide +kernel
theorem dX5_lossOf_61 : decode cX5_lossOf 61 = .ok (.getfield 79, 3) := by decide +kernel
theorem dX5_lossOf_64 : decode cX5_lossOf 64 = .ok (.invokevirtual 82, 3) := by decide +kernel
theorem dX5_lossOf_67 : decode cX5_lossOf 67 = .ok (.isub, 1) := by decide +kernel
theorem dX5_lossOf_68 : decode cX5_lossOf 68 = .ok (.ireturn, 1) := by decide +kernel
theorem dX5_lossOf_69 : decode cX5_lossOf 69 = .ok (.iload 4, 2) := by decide +kernel
theorem dX5_lossOf_71 : decode cX5_lossOf 71 = .ok (.ifCond .eq 7, 3) := by decide +kernel
theorem dX5_lossOf_74 : decode cX5_lossOf 74 = .ok (.iconst 1, 1) := by decide +kernel
theorem dX5_lossOf_75 : decode cX5_lossOf 75 = .ok (.goto 4, 3) := by decide +kernel
theorem dX5_lossOf_78 : decode cX5_lossOf 78 = .ok (.iconst 0, 1) := by decide +kernel
theorem dX5_lossOf_79 : decode cX5_lossOf 79 = .ok (.ireturn, 1) := by decide +kernel
theorem dX5_lossOf_80 : decode cX5_lossOf 80 = .ok (.iload_n 2, 1) := by decide +kernel
theorem dX5_lossOf_81 : decode cX5_lossOf 81 = .ok (.aload_n 1, 1) := by decide +kernel
theorem dX5_lossOf_82 : decode cX5_lossOf 82 = .ok (.getfield 33, 3) := by decide +kernel
theorem dX5_lossOf_85 : decode cX5_lossOf 85 = .ok (.iconst 1, 1) := by decide +kernel
theorem dX5_lossOf_86 : decode cX5_lossOf 86 = .ok (.isub, 1) := by decide +kernel
theorem dX5_lossOf_87 : decode cX5_lossOf 87 = .ok (.if_icmp .ne 5, 3) := by decide +kernel
theorem dX5_lossOf_90 : decode cX5_lossOf 90 = .ok (.iload_n 3, 1) := by decide +kernel
theorem dX5_lossOf_91 : decode cX5_lossOf 91 = .ok (.ireturn, 1) := by decide +kernel
theorem dX5_lossOf_92 : decode cX5_lossOf 92 = .ok (.iload 4, 2) := by decide +kernel
theorem dX5_lossOf_94 : decode cX5_lossOf 94 = .ok (.ifCond .eq 8, 3) := by decide +kernel
theorem dX5_lossOf_97 : decode cX5_lossOf 97 = .ok (.ldc 25, 2) := by decide +kernel
theorem dX5_lossOf_99 : decode cX5_lossOf 99 = .ok (.goto 4, 3) := by decide +kernel
theorem dX5_lossOf_102 : decode cX5_lossOf 102 = .ok (.iconst 0, 1) := by decide +kernel
theorem dX5_lossOf_103 : decode cX5_lossOf 103 = .ok (.ireturn, 1) := by decide +kernel
theorem dX6_init_0 : decode cX6_init 0 = .ok (.aload_n 0, 1) := by decide +kernel
theorem dX6_init_1 : decode cX6_init 1 = .ok (.invokespecial 3, 3) := by decide +kernel
theorem dX6_init_4 : decode cX6_init 4 = .ok (.aload_n 0, 1) := by decide +kernel
theorem dX6_init_5 : decode cX6_init 5 = .ok (.bipush 18, 2) := by decide +kernel
theorem dX6_init_7 : decode cX6_init 7 = .ok (.newarray .int, 2) := by decide +kernel
theorem dX6_init_9 : decode cX6_init 9 = .ok (.putfield 11, 3) := by decide +kernel
theorem dX6_init_12 : decode cX6_init 12 = .ok (.aload_n 0, 1) := by decide +kernel
theorem dX6_init_13 : decode cX6_init 13 = .ok (.iconst 0, 1) := by decide +kernel
theorem dX6_init_14 : decode cX6_init 14 = .ok (.putfield 15, 3) := by decide +kernel
theorem dX6_init_17 : decode cX6_init 17 = .ok (.aload_n 0, 1) := by decide +kernel
theorem dX6_init_18 : decode cX6_init 18 = .ok (.aload_n 1, 1) := by decide +kernel
theorem dX6_init_19 : decode cX6_init 19 = .ok (.putfield 19, 3) := by decide +kernel
theorem dX6_init_22 : decode cX6_init 22 = .ok (.return_, 1) := by decide +kernel
theorem dX6_has_0 : decode cX6_has 0 = .ok (.iload_n 1, 1) := by decide +kernel
theorem dX6_has_1 : decode cX6_has 1 = .ok (.iconst 0, 1) := by decide +kernel
theorem dX6_has_2 : decode cX6_has 2 = .ok (.aload_n 0, 1) := by decide +kernel
theorem dX6_has_3 : decode cX6_has 3 = .ok (.getfield 15, 3) := by decide +kernel
theorem dX6_has_6 : decode cX6_has 6 = .ok (.iconst 1, 1) := by decide +kernel
theorem dX6_has_7 : decode cX6_has 7 = .ok (.isub, 1) := by decide +kernel
theorem dX6_has_8 : decode cX6_has 8 = .ok (.invokestatic 23, 3) := by decide +kernel
theorem dX6_has_11 : decode cX6_has 11 = .ok (.ifCond .eq 16, 3) := by decide +kernel
theorem dX6_has_14 : decode cX6_has 14 = .ok (.iload_n 2, 1) := by decide +kernel
theorem dX6_has_15 : decode cX6_has 15 = .ok (.iconst 0, 1) := by decide +kernel
theorem dX6_has_16 : decode cX6_has 16 = .ok (.iconst 2, 1) := by decide +kernel
theorem dX6_has_17 : decode cX6_has 17 = .ok (.invokestatic 23, 3) := by decide +kernel
theorem dX6_has_20 : decode cX6_has 20 = .ok (.ifCond .eq 7, 3) := by decide +kernel
theorem dX6_has_23 : decode cX6_has 23 = .ok (.iconst 1, 1) := by decide +kernel
theorem dX6_has_24 : decode cX6_has 24 = .ok (.goto 4, 3) := by decide +kernel
theorem dX6_has_27 : decode cX6_has 27 = .ok (.iconst 0, 1) := by decide +kernel
theorem dX6_has_28 : decode cX6_has 28 = .ok (.ireturn, 1) := by decide +kernel
theorem dX6_fill_0 : decode cX6_fill 0 = .ok (.aload_n 0, 1) := by decide +kernel
theorem dX6_fill_1 : decode cX6_fill 1 = .ok (.getfield 19, 3) := by decide +kernel
theorem dX6_fill_4 : decode cX6_fill 4 = .ok (.aload_n 1, 1) := by decide +kernel
theorem dX6_fill_5 : decode cX6_fill 5 = .ok (.aload_n 2, 1) := by decide +kernel
theorem dX6_fill_6 : decode cX6_fill 6 = .ok (.invokevirtual 27, 3) := by decide +kernel
theorem dX6_fill_9 : decode cX6_fill 9 = .ok (.aload_n 0, 1) := by decide +kernel
theorem dX6_fill_10 : decode cX6_fill 10 = .ok (.aload_n 1, 1) := by decide +kernel
theorem dX6_fill_11 : decode cX6_fill 11 = .ok (.getfield 33, 3) := by decide +kernel
theorem dX6_fill_14 : decode cX6_fill 14 = .ok (.putfield 15, 3) := by decide +kernel
theorem dX6_fill_17 : decode cX6_fill 17 = .ok (.iconst 0, 1) := by decide +kernel
theorem dX6_fill_18 : decode cX6_fill 18 = .ok (.istore_n 3, 1) := by decide +kernel
theorem dX6_fill_19 : decode cX6_fill 19 = .ok (.iload_n 3, 1) := by decide +kernel
theorem dX6_fill_20 : decode cX6_fill 20 = .ok (.aload_n 1, 1) := by decide +kernel
theorem dX6_fill_21 : decode cX6_fill 21 = .ok (.getfield 33, 3) := by decide +kernel
theorem dX6_fill_24 : decode cX6_fill 24 = .ok (.if_icmp .ge 77, 3) := by decide +kernel
theorem dX6_fill_27 : decode cX6_fill 27 = .ok (.aload_n 2, 1) := by decide +kernel
theorem dX6_fill_28 : decode cX6_fill 28 = .ok (.iload_n 3, 1) := by decide +kernel
theorem dX6_fill_29 : decode cX6_fill 29 = .ok (.iaload, 1) := by decide +kernel
theorem dX6_fill_30 : decode cX6_fill 30 = .ok (.istore 4, 2) := by decide +kernel
theorem dX6_fill_32 : decode cX6_fill 32 = .ok (.aload_n 0, 1) := by decide +kernel
theorem dX6_fill_33 : decode cX6_fill 33 = .ok (.getfield 11, 3) := by decide +kernel
theorem dX6_fill_36 : decode cX6_fill 36 = .ok (.iload_n 3, 1) := by decide +kernel
theorem dX6_fill_37 : decode cX6_fill 37 = .ok (.iconst 3, 1) := by decide +kernel
theorem dX6_fill_38 : decode cX6_fill 38 = .ok (.imul, 1) := by decide +kernel
theorem dX6_fill_39 : decode cX6_fill 39 = .ok (.iload 4, 2) := by decide +kernel
theorem dX6_fill_41 : decode cX6_fill 41 = .ok (.iastore, 1) := by decide +kernel
theorem dX6_fill_42 : decode cX6_fill 42 = .ok (.aload_n 0, 1) := by decide +kernel
theorem dX6_fill_43 : decode cX6_fill 43 = .ok (.getfield 11, 3) := by decide +kernel
theorem dX6_fill_46 : decode cX6_fill 46 = .ok (.iload_n 3, 1) := by decide +kernel
theorem dX6_fill_47 : decode cX6_fill 47 = .ok (.iconst 3, 1) := by decide +kernel
theorem dX6_fill_48 : decode cX6_fill 48 = .ok (.imul, 1) := by decide +kernel
theorem dX6_fill_49 : decode cX6_fill 49 = .ok (.iconst 1, 1) := by decide +kernel
theorem dX6_fill_50 : decode cX6_fill 50 = .ok (.iadd, 1) := by decide +kernel
theorem dX6_fill_51 : decode cX6_fill 51 = .ok (.aload_n 0, 1) := by decide +kernel
theorem dX6_fill_52 : decode cX6_fill 52 = .ok (.getfield 19, 3) := by decide +kernel
theorem dX6_fill_55 : decode cX6_fill 55 = .ok (.getfield 36, 3) := by decide +kernel
theorem dX6_fill_58 : decode cX6_fill 58 = .ok (.iload 4, 2) := by decide +kernel
theorem dX6_fill_60 : decode cX6_fill 60 = .ok (.iaload, 1) := by decide +kernel
theorem dX6_fill_61 : decode cX6_fill 61 = .ok (.iastore, 1) := by decide +kernel
theorem dX6_fill_62 : decode cX6_fill 62 = .ok (.aload_n 0, 1) := by decide +kernel
theorem dX6_fill_63 : decode cX6_fill 63 = .ok (.getfield 11, 3) := by decide +kernel
theorem dX6_fill_66 : decode cX6_fill 66 = .ok (.iload_n 3, 1) := by decide +kernel
theorem dX6_fill_67 : decode cX6_fill 67 = .ok (.iconst 3, 1) := by decide +kernel
theorem dX6_fill_68 : decode cX6_fill 68 = .ok (.imul, 1) := by decide +kernel
theorem dX6_fill_69 : decode cX6_fill 69 = .ok (.iconst 2, 1) := by decide +kernel
theorem dX6_fill_70 : decode cX6_fill 70 = .ok (.iadd, 1) := by decide +kernel
theorem dX6_fill_71 : decode cX6_fill 71 = .ok (.aload_n 1, 1) := by decide +kernel
theorem dX6_fill_72 : decode cX6_fill 72 = .ok (.iload 4, 2) := by decide +kernel
theorem dX6_fill_74 : decode cX6_fill 74 = .ok (.aload_n 0, 1) := by decide +kernel
theorem dX6_fill_75 : decode cX6_fill 75 = .ok (.getfield 19, 3) := by decide +kernel
theorem dX6_fill_78 : decode cX6_fill 78 = .ok (.getfield 36, 3) := by decide +kernel
theorem dX6_fill_81 : decode cX6_fill 81 = .ok (.iload 4, 2) := by decide +kernel
theorem dX6_fill_83 : decode cX6_fill 83 = .ok (.iaload, 1) := by decide +kernel
theorem dX6_fill_84 : decode cX6_fill 84 = .ok (.aload_n 0, 1) := by decide +kernel
theorem dX6_fill_85 : decode cX6_fill 85 = .ok (.getfield 19, 3) := by decide +kernel
theorem dX6_fill_88 : decode cX6_fill 88 = .ok (.getfield 39, 3) := by decide +kernel
theorem dX6_fill_91 : decode cX6_fill 91 = .ok (.invokevirtual 42, 3) := by decide +kernel
theorem dX6_fill_94 : decode cX6_fill 94 = .ok (.iastore, 1) := by decide +kernel
theorem dX6_fill_95 : decode cX6_fill 95 = .ok (.iinc 3 1, 3) := by decide +kernel
theorem dX6_fill_98 : decode cX6_fill 98 = .ok (.goto (-79), 3) := by decide +kernel
theorem dX6_fill_101 : decode cX6_fill 101 = .ok (.return_, 1) := by decide +kernel
theorem dX6_firstWrong_0 : decode cX6_firstWrong 0 = .ok (.iconst 0, 1) := by decide +kernel
theorem dX6_firstWrong_1 : decode cX6_firstWrong 1 = .ok (.istore_n 2, 1) := by decide +kernel
theorem dX6_firstWrong_2 : decode cX6_firstWrong 2 = .ok (.iconst 0, 1) := by decide +kernel
theorem dX6_firstWrong_3 : decode cX6_firstWrong 3 = .ok (.istore_n 3, 1) := by decide +kernel
theorem dX6_firstWrong_4 : decode cX6_firstWrong 4 = .ok (.iconst 0, 1) := by decide +kernel
theorem dX6_firstWrong_5 : decode cX6_firstWrong 5 = .ok (.istore 4, 2) := by decide +kernel
theorem dX6_firstWrong_7 : decode cX6_firstWrong 7 = .ok (.iconst 0, 1) := by decide +kernel
theorem dX6_firstWrong_8 : decode cX6_firstWrong 8 = .ok (.istore 5, 2) := by decide +kernel
theorem dX6_firstWrong_10 : decode cX6_firstWrong 10 = .ok (.iload 5, 2) := by decide +kernel
theorem dX6_firstWrong_12 : decode cX6_firstWrong 12 = .ok (.aload_n 0, 1) := by decide +kernel
theorem dX6_firstWrong_13 : decode cX6_firstWrong 13 = .ok (.getfield 15, 3) := by decide +kernel
theorem dX6_firstWrong_16 : decode cX6_firstWrong 16 = .ok (.if_icmp .ge 139, 3) := by decide +kernel
theorem dX6_firstWrong_19 : decode cX6_firstWrong 19 = .ok (.aload_n 0, 1) := by decide +kernel
theorem dX6_firstWrong_20 : decode cX6_firstWrong 20 = .ok (.getfield 11, 3) := by decide +kernel
theorem dX6_firstWrong_23 : decode cX6_firstWrong 23 = .ok (.iload 5, 2) := by decide +kernel
theorem dX6_firstWrong_25 : decode cX6_firstWrong 25 = .ok (.iconst 3, 1) := by decide +kernel
theorem dX6_firstWrong_26 : decode cX6_firstWrong 26 = .ok (.imul, 1) := by decide +kernel
theorem dX6_firstWrong_27 : decode cX6_firstWrong 27 = .ok (.iaload, 1) := by decide +kernel
theorem dX6_firstWrong_28 : decode cX6_firstWrong 28 = .ok (.istore 6, 2) := by decide +kernel
theorem dX6_firstWrong_30 : decode cX6_firstWrong 30 = .ok (.aload_n 1, 1) := by decide +kernel
theorem dX6_firstWrong_31 : decode cX6_firstWrong 31 = .ok (.iload 6, 2) := by decide +kernel
theorem dX6_firstWrong_33 : decode cX6_firstWrong 33 = .ok (.invokevirtual 46, 3) := by decide +kernel
theorem dX6_firstWrong_36 : decode cX6_firstWrong 36 = .ok (.ifCond .eq 13, 3) := by decide +kernel
theorem dX6_firstWrong_39 : decode cX6_firstWrong 39 = .ok (.iload 4, 2) := by decide +kernel
theorem dX6_firstWrong_41 : decode cX6_firstWrong 41 = .ok (.iload 6, 2) := by decide +kernel
theorem dX6_firstWrong_43 : decode cX6_firstWrong 43 = .ok (.ishr, 1) := by decide +kernel
theorem dX6_firstWrong_44 : decode cX6_firstWrong 44 = .ok (.iconst 1, 1) := by decide +kernel
theorem dX6_firstWrong_45 : decode cX6_firstWrong 45 = .ok (.iand, 1) := by decide +kernel
theorem dX6_firstWrong_46 : decode cX6_firstWrong 46 = .ok (.ifCond .eq 8, 3) := by decide +kernel
theorem dX6_firstWrong_49 : decode cX6_firstWrong 49 = .ok (.iload 5, 2) := by decide +kernel
theorem dX6_firstWrong_51 : decode cX6_firstWrong 51 = .ok (.iconst 1, 1) := by decide +kernel
theorem dX6_firstWrong_52 : decode cX6_firstWrong 52 = .ok (.iadd, 1) := by decide +kernel
theorem dX6_firstWrong_53 : decode cX6_firstWrong 53 = .ok (.ireturn, 1) := by decide +kernel
theorem dX6_firstWrong_54 : decode cX6_firstWrong 54 = .ok (.iload 4, 2) := by decide +kernel
theorem dX6_firstWrong_56 : decode cX6_firstWrong 56 = .ok (.iconst 1, 1) := by decide +kernel
theorem dX6_firstWrong_57 : decode cX6_firstWrong 57 = .ok (.iload 6, 2) := by decide +kernel
theorem dX6_firstWrong_59 : decode cX6_firstWrong 59 = .ok (.ishl, 1) := by decide +kernel
theorem dX6_firstWrong_60 : decode cX6_firstWrong 60 = .ok (.ior, 1) := by decide +kernel
theorem dX6_firstWrong_61 : decode cX6_firstWrong 61 = .ok (.istore 4, 2) := by decide +kernel
theorem dX6_firstWrong_63 : decode cX6_firstWrong 63 = .ok (.aload_n 0, 1) := by decide +kernel
theorem dX6_firstWrong_64 : decode cX6_firstWrong 64 = .ok (.getfield 19, 3) := by decide +kernel
theorem dX6_firstWrong_67 : decode cX6_firstWrong 67 = .ok (.iload_n 2, 1) := by decide +kernel
theorem dX6_firstWrong_68 : decode cX6_firstWrong 68 = .ok (.iload_n 3, 1) := by decide +kernel
theorem dX6_firstWrong_69 : decode cX6_firstWrong 69 = .ok (.aload_n 1, 1) := by decide +kernel
theorem dX6_firstWrong_70 : decode cX6_firstWrong 70 = .ok (.iload 6, 2) := by decide +kernel
theorem dX6_firstWrong_72 : decode cX6_firstWrong 72 = .ok (.invokevirtual 50, 3) := by decide +kernel
theorem dX6_firstWrong_75 : decode cX6_firstWrong 75 = .ok (.istore_n 2, 1) := by decide +kernel
theorem dX6_firstWrong_76 : decode cX6_firstWrong 76 = .ok (.aload_n 1, 1) := by decide +kernel
theorem dX6_firstWrong_77 : decode cX6_firstWrong 77 = .ok (.getfield 54, 3) := by decide +kernel
theorem dX6_firstWrong_80 : decode cX6_firstWrong 80 = .ok (.iload 6, 2) := by decide +kernel
theorem dX6_firstWrong_82 : decode cX6_firstWrong 82 = .ok (.iaload, 1) := by decide +kernel
theorem dX6_firstWrong_83 : decode cX6_firstWrong 83 = .ok (.istore_n 3, 1) := by decide +kernel
theorem dX6_firstWrong_84 : decode cX6_firstWrong 84 = .ok (.aload_n 0, 1) := by decide +kernel
theorem dX6_firstWrong_85 : decode cX6_firstWrong 85 = .ok (.getfield 19, 3) := by decide +kernel
theorem dX6_firstWrong_88 : decode cX6_firstWrong 88 = .ok (.iload_n 2, 1) := by decide +kernel
theorem dX6_firstWrong_89 : decode cX6_firstWrong 89 = .ok (.invokevirtual 57, 3) := by decide +kernel
theorem dX6_firstWrong_92 : decode cX6_firstWrong 92 = .ok (.istore 7, 2) := by decide +kernel
theorem dX6_firstWrong_94 : decode cX6_firstWrong 94 = .ok (.aload_n 0, 1) := by decide +kernel
theorem dX6_firstWrong_95 : decode cX6_firstWrong 95 = .ok (.getfield 11, 3) := by decide +kernel
theorem dX6_firstWrong_98 : decode cX6_firstWrong 98 = .ok (.iload 5, 2) := by decide +kernel
theorem dX6_firstWrong_100 : decode cX6_firstWrong 100 = .ok (.iconst 3, 1) := by decide +kernel
theorem dX6_firstWrong_101 : decode cX6_firstWrong 101 = .ok (.imul, 1) := by decide +kernel
theorem dX6_firstWrong_102 : decode cX6_firstWrong 102 = .ok (.iconst 1, 1) := by decide +kernel
theorem dX6_firstWrong_103 : decode cX6_firstWrong 103 = .ok (.iadd, 1) := by decide +kernel
theorem dX6_firstWrong_104 : decode cX6_firstWrong 104 = .ok (.iaload, 1) := by decide +kernel
theorem dX6_firstWrong_105 : decode cX6_firstWrong 105 = .ok (.iload 7, 2) := by decide +kernel
theorem dX6_firstWrong_107 : decode cX6_firstWrong 107 = .ok (.if_icmp .eq 8, 3) := by decide +kernel
theorem dX6_firstWrong_110 : decode cX6_firstWrong 110 = .ok (.iload 5, 2) := by decide +kernel
theorem dX6_firstWrong_112 : decode cX6_firstWrong 112 = .ok (.iconst 1, 1) := by decide +kernel
theorem dX6_firstWrong_113 : decode cX6_firstWrong 113 = .ok (.iadd, 1) := by decide +kernel
theorem dX6_firstWrong_114 : decode cX6_firstWrong 114 = .ok (.ireturn, 1) := by decide +kernel
theorem dX6_firstWrong_115 : decode cX6_firstWrong 115 = .ok (.aload_n 0, 1) := by decide +kernel
theorem dX6_firstWrong_116 : decode cX6_firstWrong 116 = .ok (.getfield 11, 3) := by decide +kernel
theorem dX6_firstWrong_119 : decode cX6_firstWrong 119 = .ok (.iload 5, 2) := by decide +kernel
theorem dX6_firstWrong_121 : decode cX6_firstWrong 121 = .ok (.iconst 3, 1) := by decide +kernel
theorem dX6_firstWrong_122 : decode cX6_firstWrong 122 = .ok (.imul, 1) := by decide +kernel
theorem dX6_firstWrong_123 : decode cX6_firstWrong 123 = .ok (.iconst 2, 1) := by decide +kernel
theorem dX6_firstWrong_124 : decode cX6_firstWrong 124 = .ok (.iadd, 1) := by decide +kernel
theorem dX6_firstWrong_125 : decode cX6_firstWrong 125 = .ok (.iaload, 1) := by decide +kernel
theorem dX6_firstWrong_126 : decode cX6_firstWrong 126 = .ok (.aload_n 1, 1) := by decide +kernel
theorem dX6_firstWrong_127 : decode cX6_firstWrong 127 = .ok (.iload 6, 2) := by decide +kernel
theorem dX6_firstWrong_129 : decode cX6_firstWrong 129 = .ok (.iload 7, 2) := by decide +kernel
theorem dX6_firstWrong_131 : decode cX6_firstWrong 131 = .ok (.aload_n 0, 1) := by decide +kernel
theorem dX6_firstWrong_132 : decode cX6_firstWrong 132 = .ok (.getfield 19, 3) := by decide +kernel
theorem dX6_firstWrong_135 : decode cX6_firstWrong 135 = .ok (.getfield 39, 3) := by decide +kernel
theorem dX6_firstWrong_138 : decode cX6_firstWrong 138 = .ok (.invokevirtual 42, 3) := by decide +kernel
theorem dX6_firstWrong_141 : decode cX6_firstWrong 141 = .ok (.if_icmp .eq 8, 3) := by decide +kernel
theorem dX6_firstWrong_144 : decode cX6_firstWrong 144 = .ok (.iload 5, 2) := by decide +kernel
theorem dX6_firstWrong_146 : decode cX6_firstWrong 146 = .ok (.iconst 1, 1) := by decide +kernel
theorem dX6_firstWrong_147 : decode cX6_firstWrong 147 = .ok (.iadd, 1) := by decide +kernel
theorem dX6_firstWrong_148 : decode cX6_firstWrong 148 = .ok (.ireturn, 1) := by decide +kernel
theorem dX6_firstWrong_149 : decode cX6_firstWrong 149 = .ok (.iinc 5 1, 3) := by decide +kernel
theorem dX6_firstWrong_152 : decode cX6_firstWrong 152 = .ok (.goto (-142), 3) := by decide +kernel
theorem dX6_firstWrong_155 : decode cX6_firstWrong 155 = .ok (.aload_n 0, 1) := by decide +kernel
theorem dX6_firstWrong_156 : decode cX6_firstWrong 156 = .ok (.getfield 15, 3) := by decide +kernel
theorem dX6_firstWrong_159 : decode cX6_firstWrong 159 = .ok (.aload_n 1, 1) := by decide +kernel
theorem dX6_firstWrong_160 : decode cX6_firstWrong 160 = .ok (.getfield 33, 3) := by decide +kernel
theorem dX6_firstWrong_163 : decode cX6_firstWrong 163 = .ok (.if_icmp .ge 9, 3) := by decide +kernel
theorem dX6_firstWrong_166 : decode cX6_firstWrong 166 = .ok (.sipush 222, 3) := by decide +kernel
theorem dX6_firstWrong_169 : decode cX6_firstWrong 169 = .ok (.goto 4, 3) := by decide +kernel
theorem dX6_firstWrong_172 : decode cX6_firstWrong 172 = .ok (.iconst 0, 1) := by decide +kernel
theorem dX6_firstWrong_173 : decode cX6_firstWrong 173 = .ok (.ireturn, 1) := by decide +kernel
theorem dX7_init_0 : decode cX7_init 0 = .ok (.aload_n 0, 1) := by decide +kernel
theorem dX7_init_1 : decode cX7_init 1 = .ok (.invokespecial 3, 3) := by decide +kernel
theorem dX7_init_4 : decode cX7_init 4 = .ok (.aload_n 0, 1) := by decide +kernel
theorem dX7_init_5 : decode cX7_init 5 = .ok (.iconst 4, 1) := by decide +kernel
theorem dX7_init_6 : decode cX7_init 6 = .ok (.newarray .int, 2) := by decide +kernel
theorem dX7_init_8 : decode cX7_init 8 = .ok (.dup, 1) := by decide +kernel
theorem dX7_init_9 : decode cX7_init 9 = .ok (.iconst 0, 1) := by decide +kernel
theorem dX7_init_10 : decode cX7_init 10 = .ok (.iconst (-1), 1) := by decide +kernel
theorem dX7_init_11 : decode cX7_init 11 = .ok (.iastore, 1) := by decide +kernel
theorem dX7_init_12 : decode cX7_init 12 = .ok (.dup, 1) := by decide +kernel
theorem dX7_init_13 : decode cX7_init 13 = .ok (.iconst 1, 1) := by decide +kernel
theorem dX7_init_14 : decode cX7_init 14 = .ok (.iconst (-1), 1) := by decide +kernel
theorem dX7_init_15 : decode cX7_init 15 = .ok (.iastore, 1) := by decide +kernel
theorem dX7_init_16 : decode cX7_init 16 = .ok (.dup, 1) := by decide +kernel
theorem dX7_init_17 : decode cX7_init 17 = .ok (.iconst 2, 1) := by decide +kernel
theorem dX7_init_18 : decode cX7_init 18 = .ok (.iconst (-1), 1) := by decide +kernel
theorem dX7_init_19 : decode cX7_init 19 = .ok (.iastore, 1) := by decide +kernel
theorem dX7_init_20 : decode cX7_init 20 = .ok (.dup, 1) := by decide +kernel
theorem dX7_init_21 : decode cX7_init 21 = .ok (.iconst 3, 1) := by decide +kernel
theorem dX7_init_22 : decode cX7_init 22 = .ok (.iconst (-1), 1) := by decide +kernel
theorem dX7_init_23 : decode cX7_init 23 = .ok (.iastore, 1) := by decide +kernel
theorem dX7_init_24 : decode cX7_init 24 = .ok (.putfield 11, 3) := by decide +kernel
theorem dX7_init_27 : decode cX7_init 27 = .ok (.aload_n 0, 1) := by decide +kernel
theorem dX7_init_28 : decode cX7_init 28 = .ok (.iconst 4, 1) := by decide +kernel
theorem dX7_init_29 : decode cX7_init 29 = .ok (.newarray .int, 2) := by decide +kernel
theorem dX7_init_31 : decode cX7_init 31 = .ok (.putfield 15, 3) := by decide +kernel
theorem dX7_init_34 : decode cX7_init 34 = .ok (.aload_n 0, 1) := by decide +kernel
theorem dX7_init_35 : decode cX7_init 35 = .ok (.sipush 160, 3) := by decide +kernel
theorem dX7_init_38 : decode cX7_init 38 = .ok (.newarray .int, 2) := by decide +kernel
theorem dX7_init_40 : decode cX7_init 40 = .ok (.putfield 18, 3) := by decide +kernel
theorem dX7_init_43 : decode cX7_init 43 = .ok (.aload_n 0, 1) := by decide +kernel
theorem dX7_init_44 : decode cX7_init 44 = .ok (.iconst 4, 1) := by decide +kernel
theorem dX7_init_45 : decode cX7_init 45 = .ok (.newarray .int, 2) := by decide +kernel
theorem dX7_init_47 : decode cX7_init 47 = .ok (.putfield 21, 3) := by decide +kernel
theorem dX7_init_50 : decode cX7_init 50 = .ok (.aload_n 0, 1) := by decide +kernel
theorem dX7_init_51 : decode cX7_init 51 = .ok (.iconst 4, 1) := by decide +kernel
theorem dX7_init_52 : decode cX7_init 52 = .ok (.newarray .int, 2) := by decide +kernel
theorem dX7_init_54 : decode cX7_init 54 = .ok (.putfield 24, 3) := by decide +kernel
theorem dX7_init_57 : decode cX7_init 57 = .ok (.aload_n 0, 1) := by decide +kernel
theorem dX7_init_58 : decode cX7_init 58 = .ok (.iconst 4, 1) := by decide +kernel
theorem dX7_init_59 : decode cX7_init 59 = .ok (.newarray .int, 2) := by decide +kernel
theorem dX7_init_61 : decode cX7_init 61 = .ok (.putfield 27, 3) := by decide +kernel
theorem dX7_init_64 : decode cX7_init 64 = .ok (.return_, 1) := by decide +kernel
theorem dX8_init_0 : decode cX8_init 0 = .ok (.aload_n 0, 1) := by decide +kernel
theorem dX8_init_1 : decode cX8_init 1 = .ok (.invokespecial 3, 3) := by decide +kernel
theorem dX8_init_4 : decode cX8_init 4 = .ok (.aload_n 0, 1) := by decide +kernel
theorem dX8_init_5 : decode cX8_init 5 = .ok (.sipush 200, 3) := by decide +kernel
theorem dX8_init_8 : decode cX8_init 8 = .ok (.newarray .byte, 2) := by decide +kernel
theorem dX8_init_10 : decode cX8_init 10 = .ok (.putfield 11, 3) := by decide +kernel
theorem dX8_init_13 : decode cX8_init 13 = .ok (.aload_n 0, 1) := by decide +kernel
theorem dX8_init_14 : decode cX8_init 14 = .ok (.iconst 0, 1) := by decide +kernel
theorem dX8_init_15 : decode cX8_init 15 = .ok (.putfield 15, 3) := by decide +kernel
theorem dX8_init_18 : decode cX8_init 18 = .ok (.aload_n 0, 1) := by decide +kernel
theorem dX8_init_19 : decode cX8_init 19 = .ok (.new 19, 3) := by decide +kernel
theorem dX8_init_22 : decode cX8_init 22 = .ok (.dup, 1) := by decide +kernel
theorem dX8_init_23 : decode cX8_init 23 = .ok (.invokespecial 21, 3) := by decide +kernel
theorem dX8_init_26 : decode cX8_init 26 = .ok (.putfield 22, 3) := by decide +kernel
theorem dX8_init_29 : decode cX8_init 29 = .ok (.aload_n 0, 1) := by decide +kernel
theorem dX8_init_30 : decode cX8_init 30 = .ok (.iconst 4, 1) := by decide +kernel
theorem dX8_init_31 : decode cX8_init 31 = .ok (.newarray .int, 2) := by decide +kernel
theorem dX8_init_33 : decode cX8_init 33 = .ok (.dup, 1) := by decide +kernel
theorem dX8_init_34 : decode cX8_init 34 = .ok (.iconst 0, 1) := by decide +kernel
theorem dX8_init_35 : decode cX8_init 35 = .ok (.iconst (-1), 1) := by decide +kernel
theorem dX8_init_36 : decode cX8_init 36 = .ok (.iastore, 1) := by decide +kernel
theorem dX8_init_37 : decode cX8_init 37 = .ok (.dup, 1) := by decide +kernel
theorem dX8_init_38 : decode cX8_init 38 = .ok (.iconst 1, 1) := by decide +kernel
theorem dX8_init_39 : decode cX8_init 39 = .ok (.iconst (-1), 1) := by decide +kernel
theorem dX8_init_40 : decode cX8_init 40 = .ok (.iastore, 1) := by decide +kernel
theorem dX8_init_41 : decode cX8_init 41 = .ok (.dup, 1) := by decide +kernel
theorem dX8_init_42 : decode cX8_init 42 = .ok (.iconst 2, 1) := by decide +kernel
theorem dX8_init_43 : decode cX8_init 43 = .ok (.iconst (-1), 1) := by decide +kernel
theorem dX8_init_44 : decode cX8_init 44 = .ok (.iastore, 1) := by decide +kernel
theorem dX8_init_45 : decode cX8_init 45 = .ok (.dup, 1) := by decide +kernel
theorem dX8_init_46 : decode cX8_init 46 = .ok (.iconst 3, 1) := by decide +kernel
theorem dX8_init_47 : decode cX8_init 47 = .ok (.iconst (-1), 1) := by decide +kernel
theorem dX8_init_48 : decode cX8_init 48 = .ok (.iastore, 1) := by decide +kernel
theorem dX8_init_49 : decode cX8_init 49 = .ok (.putfield 26, 3) := by decide +kernel
theorem dX8_init_52 : decode cX8_init 52 = .ok (.aload_n 0, 1) := by decide +kernel
theorem dX8_init_53 : decode cX8_init 53 = .ok (.iconst 0, 1) := by decide +kernel
theorem dX8_init_54 : decode cX8_init 54 = .ok (.putfield 30, 3) := by decide +kernel
theorem dX8_init_57 : decode cX8_init 57 = .ok (.aload_n 0, 1) := by decide +kernel
theorem dX8_init_58 : decode cX8_init 58 = .ok (.iconst 0, 1) := by decide +kernel
theorem dX8_init_59 : decode cX8_init 59 = .ok (.putfield 33, 3) := by decide +kernel
theorem dX8_init_62 : decode cX8_init 62 = .ok (.aload_n 0, 1) := by decide +kernel
theorem dX8_init_63 : decode cX8_init 63 = .ok (.iconst 0, 1) := by decide +kernel
theorem dX8_init_64 : decode cX8_init 64 = .ok (.putfield 36, 3) := by decide +kernel
theorem dX8_init_67 : decode cX8_init 67 = .ok (.aload_n 0, 1) := by decide +kernel
theorem dX8_init_68 : decode cX8_init 68 = .ok (.iconst 0, 1) := by decide +kernel
theorem dX8_init_69 : decode cX8_init 69 = .ok (.putfield 39, 3) := by decide +kernel
theorem dX8_init_72 : decode cX8_init 72 = .ok (.return_, 1) := by decide +kernel
theorem dX9_init_0 : decode cX9_init 0 = .ok (.aload_n 0, 1) := by decide +kernel
theorem dX9_init_1 : decode cX9_init 1 = .ok (.invokespecial 3, 3) := by decide +kernel
theorem dX9_init_4 : decode cX9_init 4 = .ok (.aload_n 0, 1) := by decide +kernel
theorem dX9_init_5 : decode cX9_init 5 = .ok (.iconst 0, 1) := by decide +kernel
theorem dX9_init_6 : decode cX9_init 6 = .ok (.putfield 9, 3) := by decide +kernel
theorem dX9_init_9 : decode cX9_init 9 = .ok (.aload_n 0, 1) := by decide +kernel
theorem dX9_init_10 : decode cX9_init 10 = .ok (.iconst 0, 1) := by decide +kernel
theorem dX9_init_11 : decode cX9_init 11 = .ok (.putfield 15, 3) := by decide +kernel
theorem dX9_init_14 : decode cX9_init 14 = .ok (.aload_n 0, 1) := by decide +kernel
theorem dX9_init_15 : decode cX9_init 15 = .ok (.iconst 0, 1) := by decide +kernel
theorem dX9_init_16 : decode cX9_init 16 = .ok (.putfield 18, 3) := by decide +kernel
theorem dX9_init_19 : decode cX9_init 19 = .ok (.aload_n 0, 1) := by decide +kernel
theorem dX9_init_20 : decode cX9_init 20 = .ok (.iconst 0, 1) := by decide +kernel
theorem dX9_init_21 : decode cX9_init 21 = .ok (.putfield 21, 3) := by decide +kernel
theorem dX9_init_24 : decode cX9_init 24 = .ok (.aload_n 0, 1) := by decide +kernel
theorem dX9_init_25 : decode cX9_init 25 = .ok (.bipush 30, 2) := by decide +kernel
theorem dX9_init_27 : decode cX9_init 27 = .ok (.newarray .int, 2) := by decide +kernel
theorem dX9_init_29 : decode cX9_init 29 = .ok (.putfield 25, 3) := by decide +kernel
theorem dX9_init_32 : decode cX9_init 32 = .ok (.aload_n 0, 1) := by decide +kernel
theorem dX9_init_33 : decode cX9_init 33 = .ok (.iconst 0, 1) := by decide +kernel
theorem dX9_init_34 : decode cX9_init 34 = .ok (.putfield 29, 3) := by decide +kernel
theorem dX9_init_37 : decode cX9_init 37 = .ok (.return_, 1) := by decide +kernel
theorem dX10_init_0 : decode cX10_init 0 = .ok (.aload_n 0, 1) := by decide +kernel
theorem dX10_init_1 : decode cX10_init 1 = .ok (.invokespecial 3, 3) := by decide +kernel
theorem dX10_init_4 : decode cX10_init 4 = .ok (.aload_n 0, 1) := by decide +kernel
theorem dX10_init_5 : decode cX10_init 5 = .ok (.iconst 0, 1) := by decide +kernel
theorem dX10_init_6 : decode cX10_init 6 = .ok (.putfield 9, 3) := by decide +kernel
theorem dX10_init_9 : decode cX10_init 9 = .ok (.aload_n 0, 1) := by decide +kernel
theorem dX10_init_10 : decode cX10_init 10 = .ok (.iconst 1, 1) := by decide +kernel
theorem dX10_init_11 : decode cX10_init 11 = .ok (.putfield 15, 3) := by decide +kernel
theorem dX10_init_14 : decode cX10_init 14 = .ok (.aload_n 0, 1) := by decide +kernel
theorem dX10_init_15 : decode cX10_init 15 = .ok (.iconst 3, 1) := by decide +kernel
theorem dX10_init_16 : decode cX10_init 16 = .ok (.newarray .int, 2) := by decide +kernel
theorem dX10_init_18 : decode cX10_init 18 = .ok (.putfield 18, 3) := by decide +kernel
theorem dX10_init_21 : decode cX10_init 21 = .ok (.aload_n 0, 1) := by decide +kernel
theorem dX10_init_22 : decode cX10_init 22 = .ok (.iconst 3, 1) := by decide +kernel
theorem dX10_init_23 : decode cX10_init 23 = .ok (.newarray .int, 2) := by decide +kernel
theorem dX10_init_25 : decode cX10_init 25 = .ok (.putfield 22, 3) := by decide +kernel
theorem dX10_init_28 : decode cX10_init 28 = .ok (.aload_n 0, 1) := by decide +kernel
theorem dX10_init_29 : decode cX10_init 29 = .ok (.iconst 3, 1) := by decide +kernel
theorem dX10_init_30 : decode cX10_init 30 = .ok (.newarray .int, 2) := by decide +kernel
theorem dX10_init_32 : decode cX10_init 32 = .ok (.putfield 25, 3) := by decide +kernel
theorem dX10_init_35 : decode cX10_init 35 = .ok (.aload_n 0, 1) := by decide +kernel
theorem dX10_init_36 : decode cX10_init 36 = .ok (.iconst 3, 1) := by decide +kernel
theorem dX10_init_37 : decode cX10_init 37 = .ok (.newarray .int, 2) := by decide +kernel
theorem dX10_init_39 : decode cX10_init 39 = .ok (.putfield 28, 3) := by decide +kernel
theorem dX10_init_42 : decode cX10_init 42 = .ok (.aload_n 0, 1) := by decide +kernel
theorem dX10_init_43 : decode cX10_init 43 = .ok (.iconst 3, 1) := by decide +kernel
theorem dX10_init_44 : decode cX10_init 44 = .ok (.newarray .int, 2) := by decide +kernel
theorem dX10_init_46 : decode cX10_init 46 = .ok (.putfield 31, 3) := by decide +kernel
theorem dX10_init_49 : decode cX10_init 49 = .ok (.aload_n 0, 1) := by decide +kernel
theorem dX10_init_50 : decode cX10_init 50 = .ok (.iconst 3, 1) := by decide +kernel
theorem dX10_init_51 : decode cX10_init 51 = .ok (.newarray .int, 2) := by decide +kernel
theorem dX10_init_53 : decode cX10_init 53 = .ok (.putfield 34, 3) := by decide +kernel
theorem dX10_init_56 : decode cX10_init 56 = .ok (.return_, 1) := by decide +kernel
theorem dX10_copy_0 : decode cX10_copy 0 = .ok (.aload_n 0, 1) := by decide +kernel
theorem dX10_copy_1 : decode cX10_copy 1 = .ok (.aload_n 1, 1) := by decide +kernel
theorem dX10_copy_2 : decode cX10_copy 2 = .ok (.getfield 9, 3) := by decide +kernel
theorem dX10_copy_5 : decode cX10_copy 5 = .ok (.putfield 9, 3) := by decide +kernel
theorem dX10_copy_8 : decode cX10_copy 8 = .ok (.aload_n 0, 1) := by decide +kernel
theorem dX10_copy_9 : decode cX10_copy 9 = .ok (.aload_n 1, 1) := by decide +kernel
theorem dX10_copy_10 : decode cX10_copy 10 = .ok (.getfield 15, 3) := by decide +kernel
theorem dX10_copy_13 : decode cX10_copy 13 = .ok (.putfield 15, 3) := by decide +kernel
theorem dX10_copy_16 : decode cX10_copy 16 = .ok (.iconst 0, 1) := by decide +kernel
theorem dX10_copy_17 : decode cX10_copy 17 = .ok (.istore_n 2, 1) := by decide +kernel
theorem dX10_copy_18 : decode cX10_copy 18 = .ok (.iload_n 2, 1) := by decide +kernel
theorem dX10_copy_19 : decode cX10_copy 19 = .ok (.aload_n 1, 1) := by decide +kernel
theorem dX10_copy_20 : decode cX10_copy 20 = .ok (.getfield 9, 3) := by decide +kernel
theorem dX10_copy_23 : decode cX10_copy 23 = .ok (.if_icmp .ge 81, 3) := by decide +kernel
theorem dX10_copy_26 : decode cX10_copy 26 = .ok (.aload_n 0, 1) := by decide +kernel
theorem dX10_copy_27 : decode cX10_copy 27 = .ok (.getfield 18, 3) := by decide +kernel
theorem dX10_copy_30 : decode cX10_copy 30 = .ok (.iload_n 2, 1) := by decide +kernel
theorem dX10_copy_31 : decode cX10_copy 31 = .ok (.aload_n 1, 1) := by decide +kernel
theorem dX10_copy_32 : decode cX10_copy 32 = .ok (.getfield 18, 3) := by decide +kernel
theorem dX10_copy_35 : decode cX10_copy 35 = .ok (.iload_n 2, 1) := by decide +kernel
theorem dX10_copy_36 : decode cX10_copy 36 = .ok (.iaload, 1) := by decide +kernel
theorem dX10_copy_37 : decode cX10_copy 37 = .ok (.iastore, 1) := by decide +kernel
theorem dX10_copy_38 : decode cX10_copy 38 = .ok (.aload_n 0, 1) := by decide +kernel
theorem dX10_copy_39 : decode cX10_copy 39 = .ok (.getfield 22, 3) := by decide +kernel
theorem dX10_copy_42 : decode cX10_copy 42 = .ok (.iload_n 2, 1) := by decide +kernel
theorem dX10_copy_43 : decode cX10_copy 43 = .ok (.aload_n 1, 1) := by decide +kernel
theorem dX10_copy_44 : decode cX10_copy 44 = .ok (.getfield 22, 3) := by decide +kernel
theorem dX10_copy_47 : decode cX10_copy 47 = .ok (.iload_n 2, 1) := by decide +kernel
theorem dX10_copy_48 : decode cX10_copy 48 = .ok (.iaload, 1) := by decide +kernel
theorem dX10_copy_49 : decode cX10_copy 49 = .ok (.iastore, 1) := by decide +kernel
theorem dX10_copy_50 : decode cX10_copy 50 = .ok (.aload_n 0, 1) := by decide +kernel
theorem dX10_copy_51 : decode cX10_copy 51 = .ok (.getfield 25, 3) := by decide +kernel
theorem dX10_copy_54 : decode cX10_copy 54 = .ok (.iload_n 2, 1) := by decide +kernel
theorem dX10_copy_55 : decode cX10_copy 55 = .ok (.aload_n 1, 1) := by decide +kernel
theorem dX10_copy_56 : decode cX10_copy 56 = .ok (.getfield 25, 3) := by decide +kernel
theorem dX10_copy_59 : decode cX10_copy 59 = .ok (.iload_n 2, 1) := by decide +kernel
theorem dX10_copy_60 : decode cX10_copy 60 = .ok (.iaload, 1) := by decide +kernel
theorem dX10_copy_61 : decode cX10_copy 61 = .ok (.iastore, 1) := by decide +kernel
theorem dX10_copy_62 : decode cX10_copy 62 = .ok (.aload_n 0, 1) := by decide +kernel
theorem dX10_copy_63 : decode cX10_copy 63 = .ok (.getfield 28, 3) := by decide +kernel
theorem dX10_copy_66 : decode cX10_copy 66 = .ok (.iload_n 2, 1) := by decide +kernel
theorem dX10_copy_67 : decode cX10_copy 67 = .ok (.aload_n 1, 1) := by decide +kernel
theorem dX10_copy_68 : decode cX10_copy 68 = .ok (.getfield 28, 3) := by decide +kernel
theorem dX10_copy_71 : decode cX10_copy 71 = .ok (.iload_n 2, 1) := by decide +kernel
theorem dX10_copy_72 : decode cX10_copy 72 = .ok (.iaload, 1) := by decide +kernel
theorem dX10_copy_73 : decode cX10_copy 73 = .ok (.iastore, 1) := by decide +kernel
theorem dX10_copy_74 : decode cX10_copy 74 = .ok (.aload_n 0, 1) := by decide +kernel
theorem dX10_copy_75 : decode cX10_copy 75 = .ok (.getfield 31, 3) := by decide +kernel
theorem dX10_copy_78 : decode cX10_copy 78 = .ok (.iload_n 2, 1) := by decide +kernel
theorem dX10_copy_79 : decode cX10_copy 79 = .ok (.aload_n 1, 1) := by decide +kernel
theorem dX10_copy_80 : decode cX10_copy 80 = .ok (.getfield 31, 3) := by decide +kernel
theorem dX10_copy_83 : decode cX10_copy 83 = .ok (.iload_n 2, 1) := by decide +kernel
theorem dX10_copy_84 : decode cX10_copy 84 = .ok (.iaload, 1) := by decide +kernel
theorem dX10_copy_85 : decode cX10_copy 85 = .ok (.iastore, 1) := by decide +kernel
theorem dX10_copy_86 : decode cX10_copy 86 = .ok (.aload_n 0, 1) := by decide +kernel
theorem dX10_copy_87 : decode cX10_copy 87 = .ok (.getfield 34, 3) := by decide +kernel
theorem dX10_copy_90 : decode cX10_copy 90 = .ok (.iload_n 2, 1) := by decide +kernel
theorem dX10_copy_91 : decode cX10_copy 91 = .ok (.aload_n 1, 1) := by decide +kernel
theorem dX10_copy_92 : decode cX10_copy 92 = .ok (.getfield 34, 3) := by decide +kernel
theorem dX10_copy_95 : decode cX10_copy 95 = .ok (.iload_n 2, 1) := by decide +kernel
theorem dX10_copy_96 : decode cX10_copy 96 = .ok (.iaload, 1) := by decide +kernel
theorem dX10_copy_97 : decode cX10_copy 97 = .ok (.iastore, 1) := by decide +kernel
theorem dX10_copy_98 : decode cX10_copy 98 = .ok (.iinc 2 1, 3) := by decide +kernel
theorem dX10_copy_101 : decode cX10_copy 101 = .ok (.goto (-83), 3) := by decide +kernel
theorem dX10_copy_104 : decode cX10_copy 104 = .ok (.return_, 1) := by decide +kernel
theorem dX11_init_0 : decode cX11_init 0 = .ok (.aload_n 0, 1) := by decide +kernel
theorem dX11_init_1 : decode cX11_init 1 = .ok (.invokespecial 1, 3) := by decide +kernel
theorem dX11_init_4 : decode cX11_init 4 = .ok (.aload_n 0, 1) := by decide +kernel
theorem dX11_init_5 : decode cX11_init 5 = .ok (.new 7, 3) := by decide +kernel
theorem dX11_init_8 : decode cX11_init 8 = .ok (.dup, 1) := by decide +kernel
theorem dX11_init_9 : decode cX11_init 9 = .ok (.invokespecial 9, 3) := by decide +kernel
theorem dX11_init_12 : decode cX11_init 12 = .ok (.putfield 10, 3) := by decide +kernel
theorem dX11_init_15 : decode cX11_init 15 = .ok (.aload_n 0, 1) := by decide +kernel
theorem dX11_init_16 : decode cX11_init 16 = .ok (.new 7, 3) := by decide +kernel
theorem dX11_init_19 : decode cX11_init 19 = .ok (.dup, 1) := by decide +kernel
theorem dX11_init_20 : decode cX11_init 20 = .ok (.invokespecial 9, 3) := by decide +kernel
theorem dX11_init_23 : decode cX11_init 23 = .ok (.putfield 16, 3) := by decide +kernel
theorem dX11_init_26 : decode cX11_init 26 = .ok (.aload_n 0, 1) := by decide +kernel
theorem dX11_init_27 : decode cX11_init 27 = .ok (.new 19, 3) := by decide +kernel
theorem dX11_init_30 : decode cX11_init 30 = .ok (.dup, 1) := by decide +kernel
theorem dX11_init_31 : decode cX11_init 31 = .ok (.invokespecial 21, 3) := by decide +kernel
theorem dX11_init_34 : decode cX11_init 34 = .ok (.putfield 22, 3) := by decide +kernel
theorem dX11_init_37 : decode cX11_init 37 = .ok (.aload_n 0, 1) := by decide +kernel
theorem dX11_init_38 : decode cX11_init 38 = .ok (.new 19, 3) := by decide +kernel
theorem dX11_init_41 : decode cX11_init 41 = .ok (.dup, 1) := by decide +kernel
theorem dX11_init_42 : decode cX11_init 42 = .ok (.invokespecial 21, 3) := by decide +kernel
theorem dX11_init_45 : decode cX11_init 45 = .ok (.putfield 26, 3) := by decide +kernel
theorem dX11_init_48 : decode cX11_init 48 = .ok (.aload_n 0, 1) := by decide +kernel
theorem dX11_init_49 : decode cX11_init 49 = .ok (.iconst 0, 1) := by decide +kernel
theorem dX11_init_50 : decode cX11_init 50 = .ok (.putfield 29, 3) := by decide +kernel
theorem dX11_init_53 : decode cX11_init 53 = .ok (.aload_n 0, 1) := by decide +kernel
theorem dX11_init_54 : decode cX11_init 54 = .ok (.new 33, 3) := by decide +kernel
theorem dX11_init_57 : decode cX11_init 57 = .ok (.dup, 1) := by decide +kernel
theorem dX11_init_58 : decode cX11_init 58 = .ok (.invokespecial 35, 3) := by decide +kernel
theorem dX11_init_61 : decode cX11_init 61 = .ok (.putfield 36, 3) := by decide +kernel
theorem dX11_init_64 : decode cX11_init 64 = .ok (.aload_n 0, 1) := by decide +kernel
theorem dX11_init_65 : decode cX11_init 65 = .ok (.new 40, 3) := by decide +kernel
theorem dX11_init_68 : decode cX11_init 68 = .ok (.dup, 1) := by decide +kernel
theorem dX11_init_69 : decode cX11_init 69 = .ok (.invokespecial 42, 3) := by decide +kernel
theorem dX11_init_72 : decode cX11_init 72 = .ok (.putfield 43, 3) := by decide +kernel
theorem dX11_init_75 : decode cX11_init 75 = .ok (.aload_n 0, 1) := by decide +kernel
theorem dX11_init_76 : decode cX11_init 76 = .ok (.new 47, 3) := by decide +kernel
theorem dX11_init_79 : decode cX11_init 79 = .ok (.dup, 1) := by decide +kernel
theorem dX11_init_80 : decode cX11_init 80 = .ok (.aload_n 0, 1) := by decide +kernel
theorem dX11_init_81 : decode cX11_init 81 = .ok (.getfield 43, 3) := by decide +kernel
theorem dX11_init_84 : decode cX11_init 84 = .ok (.invokespecial 49, 3) := by decide +kernel
theorem dX11_init_87 : decode cX11_init 87 = .ok (.putfield 52, 3) := by decide +kernel
theorem dX11_init_90 : decode cX11_init 90 = .ok (.aload_n 0, 1) := by decide +kernel
theorem dX11_init_91 : decode cX11_init 91 = .ok (.new 56, 3) := by decide +kernel
theorem dX11_init_94 : decode cX11_init 94 = .ok (.dup, 1) := by decide +kernel
theorem dX11_init_95 : decode cX11_init 95 = .ok (.aload_n 0, 1) := by decide +kernel
theorem dX11_init_96 : decode cX11_init 96 = .ok (.getfield 43, 3) := by decide +kernel
theorem dX11_init_99 : decode cX11_init 99 = .ok (.invokespecial 58, 3) := by decide +kernel
theorem dX11_init_102 : decode cX11_init 102 = .ok (.putfield 59, 3) := by decide +kernel
theorem dX11_init_105 : decode cX11_init 105 = .ok (.aload_n 0, 1) := by decide +kernel
theorem dX11_init_106 : decode cX11_init 106 = .ok (.new 63, 3) := by decide +kernel
theorem dX11_init_109 : decode cX11_init 109 = .ok (.dup, 1) := by decide +kernel
theorem dX11_init_110 : decode cX11_init 110 = .ok (.aload_n 0, 1) := by decide +kernel
theorem dX11_init_111 : decode cX11_init 111 = .ok (.getfield 52, 3) := by decide +kernel
theorem dX11_init_114 : decode cX11_init 114 = .ok (.invokespecial 65, 3) := by decide +kernel
theorem dX11_init_117 : decode cX11_init 117 = .ok (.putfield 68, 3) := by decide +kernel
theorem dX11_init_120 : decode cX11_init 120 = .ok (.aload_n 0, 1) := by decide +kernel
theorem dX11_init_121 : decode cX11_init 121 = .ok (.new 72, 3) := by decide +kernel
theorem dX11_init_124 : decode cX11_init 124 = .ok (.dup, 1) := by decide +kernel
theorem dX11_init_125 : decode cX11_init 125 = .ok (.aload_n 0, 1) := by decide +kernel
theorem dX11_init_126 : decode cX11_init 126 = .ok (.getfield 43, 3) := by decide +kernel
theorem dX11_init_129 : decode cX11_init 129 = .ok (.invokespecial 74, 3) := by decide +kernel
theorem dX11_init_132 : decode cX11_init 132 = .ok (.putfield 75, 3) := by decide +kernel
theorem dX11_init_135 : decode cX11_init 135 = .ok (.aload_n 0, 1) := by decide +kernel
theorem dX11_init_136 : decode cX11_init 136 = .ok (.new 79, 3) := by decide +kernel
theorem dX11_init_139 : decode cX11_init 139 = .ok (.dup, 1) := by decide +kernel
theorem dX11_init_140 : decode cX11_init 140 = .ok (.invokespecial 81, 3) := by decide +kernel
theorem dX11_init_143 : decode cX11_init 143 = .ok (.putfield 82, 3) := by decide +kernel
theorem dX11_init_146 : decode cX11_init 146 = .ok (.aload_n 0, 1) := by decide +kernel
theorem dX11_init_147 : decode cX11_init 147 = .ok (.new 86, 3) := by decide +kernel
theorem dX11_init_150 : decode cX11_init 150 = .ok (.dup, 1) := by decide +kernel
theorem dX11_init_151 : decode cX11_init 151 = .ok (.invokespecial 88, 3) := by decide +kernel
theorem dX11_init_154 : decode cX11_init 154 = .ok (.putfield 89, 3) := by decide +kernel
theorem dX11_init_157 : decode cX11_init 157 = .ok (.aload_n 0, 1) := by decide +kernel
theorem dX11_init_158 : decode cX11_init 158 = .ok (.new 93, 3) := by decide +kernel
theorem dX11_init_161 : decode cX11_init 161 = .ok (.dup, 1) := by decide +kernel
theorem dX11_init_162 : decode cX11_init 162 = .ok (.invokespecial 95, 3) := by decide +kernel
theorem dX11_init_165 : decode cX11_init 165 = .ok (.putfield 96, 3) := by decide +kernel
theorem dX11_init_168 : decode cX11_init 168 = .ok (.return_, 1) := by decide +kernel
theorem dX11_job_0 : decode cX11_job 0 = .ok (.iload_n 1, 1) := by decide +kernel
theorem dX11_job_1 : decode cX11_job 1 = .ok (.iload_n 2, 1) := by decide +kernel
theorem dX11_job_2 : decode cX11_job 2 = .ok (.iload_n 3, 1) := by decide +kernel
theorem dX11_job_3 : decode cX11_job 3 = .ok (.iload 4, 2) := by decide +kernel
theorem dX11_job_5 : decode cX11_job 5 = .ok (.iload 5, 2) := by decide +kernel
theorem dX11_job_7 : decode cX11_job 7 = .ok (.invokestatic 132, 3) := by decide +kernel
theorem dX11_job_10 : decode cX11_job 10 = .ok (.ifCond .ne 5, 3) := by decide +kernel
theorem dX11_job_13 : decode cX11_job 13 = .ok (.iconst (-1), 1) := by decide +kernel
theorem dX11_job_14 : decode cX11_job 14 = .ok (.ireturn, 1) := by decide +kernel
theorem dX11_job_15 : decode cX11_job 15 = .ok (.aload_n 0, 1) := by decide +kernel
theorem dX11_job_16 : decode cX11_job 16 = .ok (.getfield 10, 3) := by decide +kernel
theorem dX11_job_19 : decode cX11_job 19 = .ok (.iload_n 1, 1) := by decide +kernel
theorem dX11_job_20 : decode cX11_job 20 = .ok (.iload_n 2, 1) := by decide +kernel
theorem dX11_job_21 : decode cX11_job 21 = .ok (.iload_n 3, 1) := by decide +kernel
theorem dX11_job_22 : decode cX11_job 22 = .ok (.iload 4, 2) := by decide +kernel
theorem dX11_job_24 : decode cX11_job 24 = .ok (.iload 5, 2) := by decide +kernel
theorem dX11_job_26 : decode cX11_job 26 = .ok (.invokevirtual 136, 3) := by decide +kernel
theorem dX11_job_29 : decode cX11_job 29 = .ok (.ireturn, 1) := by decide +kernel
theorem dX11_drop_0 : decode cX11_drop 0 = .ok (.aload_n 0, 1) := by decide +kernel
theorem dX11_drop_1 : decode cX11_drop 1 = .ok (.getfield 10, 3) := by decide +kernel
theorem dX11_drop_4 : decode cX11_drop 4 = .ok (.getfield 130, 3) := by decide +kernel
theorem dX11_drop_7 : decode cX11_drop 7 = .ok (.iload_n 1, 1) := by decide +kernel
theorem dX11_drop_8 : decode cX11_drop 8 = .ok (.invokevirtual 140, 3) := by decide +kernel
theorem dX11_drop_11 : decode cX11_drop 11 = .ok (.ifCond .ne 5, 3) := by decide +kernel
theorem dX11_drop_14 : decode cX11_drop 14 = .ok (.iconst (-1), 1) := by decide +kernel
theorem dX11_drop_15 : decode cX11_drop 15 = .ok (.ireturn, 1) := by decide +kernel
theorem dX11_drop_16 : decode cX11_drop 16 = .ok (.aload_n 0, 1) := by decide +kernel
theorem dX11_drop_17 : decode cX11_drop 17 = .ok (.getfield 10, 3) := by decide +kernel
theorem dX11_drop_20 : decode cX11_drop 20 = .ok (.iload_n 1, 1) := by decide +kernel
theorem dX11_drop_21 : decode cX11_drop 21 = .ok (.invokevirtual 159, 3) := by decide +kernel
theorem dX11_drop_24 : decode cX11_drop 24 = .ok (.aload_n 0, 1) := by decide +kernel
theorem dX11_drop_25 : decode cX11_drop 25 = .ok (.getfield 10, 3) := by decide +kernel
theorem dX11_drop_28 : decode cX11_drop 28 = .ok (.getfield 130, 3) := by decide +kernel
theorem dX11_drop_31 : decode cX11_drop 31 = .ok (.getfield 131, 3) := by decide +kernel
theorem dX11_drop_34 : decode cX11_drop 34 = .ok (.ireturn, 1) := by decide +kernel
theorem dX11_set_0 : decode cX11_set 0 = .ok (.iload_n 1, 1) := by decide +kernel
theorem dX11_set_1 : decode cX11_set 1 = .ok (.iconst 0, 1) := by decide +kernel
theorem dX11_set_2 : decode cX11_set 2 = .ok (.iconst 3, 1) := by decide +kernel
theorem dX11_set_3 : decode cX11_set 3 = .ok (.invokestatic 100, 3) := by decide +kernel
theorem dX11_set_6 : decode cX11_set 6 = .ok (.ifCond .eq 20, 3) := by decide +kernel
theorem dX11_set_9 : decode cX11_set 9 = .ok (.iload_n 2, 1) := by decide +kernel
theorem dX11_set_10 : decode cX11_set 10 = .ok (.getstatic 163, 3) := by decide +kernel
theorem dX11_set_13 : decode cX11_set 13 = .ok (.iload_n 1, 1) := by decide +kernel
theorem dX11_set_14 : decode cX11_set 14 = .ok (.iaload, 1) := by decide +kernel
theorem dX11_set_15 : decode cX11_set 15 = .ok (.getstatic 166, 3) := by decide +kernel
theorem dX11_set_18 : decode cX11_set 18 = .ok (.iload_n 1, 1) := by decide +kernel
theorem dX11_set_19 : decode cX11_set 19 = .ok (.iaload, 1) := by decide +kernel
theorem dX11_set_20 : decode cX11_set 20 = .ok (.invokestatic 100, 3) := by decide +kernel
theorem dX11_set_23 : decode cX11_set 23 = .ok (.ifCond .ne 5, 3) := by decide +kernel
theorem dX11_set_26 : decode cX11_set 26 = .ok (.iconst (-1), 1) := by decide +kernel
theorem dX11_set_27 : decode cX11_set 27 = .ok (.ireturn, 1) := by decide +kernel
theorem dX11_set_28 : decode cX11_set 28 = .ok (.aload_n 0, 1) := by decide +kernel
theorem dX11_set_29 : decode cX11_set 29 = .ok (.getfield 10, 3) := by decide +kernel
theorem dX11_set_32 : decode cX11_set 32 = .ok (.getfield 169, 3) := by decide +kernel
theorem dX11_set_35 : decode cX11_set 35 = .ok (.iload_n 1, 1) := by decide +kernel
theorem dX11_set_36 : decode cX11_set 36 = .ok (.iaload, 1) := by decide +kernel
theorem dX11_set_37 : decode cX11_set 37 = .ok (.istore_n 3, 1) := by decide +kernel
theorem dX11_set_38 : decode cX11_set 38 = .ok (.aload_n 0, 1) := by decide +kernel
theorem dX11_set_39 : decode cX11_set 39 = .ok (.getfield 10, 3) := by decide +kernel
theorem dX11_set_42 : decode cX11_set 42 = .ok (.getfield 169, 3) := by decide +kernel
theorem dX11_set_45 : decode cX11_set 45 = .ok (.iload_n 1, 1) := by decide +kernel
theorem dX11_set_46 : decode cX11_set 46 = .ok (.iload_n 2, 1) := by decide +kernel
theorem dX11_set_47 : decode cX11_set 47 = .ok (.iastore, 1) := by decide +kernel
theorem dX11_set_48 : decode cX11_set 48 = .ok (.iload_n 3, 1) := by decide +kernel
theorem dX11_set_49 : decode cX11_set 49 = .ok (.ireturn, 1) := by decide +kernel
theorem dX11_lose_0 : decode cX11_lose 0 = .ok (.iload_n 1, 1) := by decide +kernel
theorem dX11_lose_1 : decode cX11_lose 1 = .ok (.iconst 0, 1) := by decide +kernel
theorem dX11_lose_2 : decode cX11_lose 2 = .ok (.bipush 60, 2) := by decide +kernel
theorem dX11_lose_4 : decode cX11_lose 4 = .ok (.invokestatic 100, 3) := by decide +kernel
theorem dX11_lose_7 : decode cX11_lose 7 = .ok (.ifCond .eq 13, 3) := by decide +kernel
theorem dX11_lose_10 : decode cX11_lose 10 = .ok (.iload_n 2, 1) := by decide +kernel
theorem dX11_lose_11 : decode cX11_lose 11 = .ok (.iconst 0, 1) := by decide +kernel
theorem dX11_lose_12 : decode cX11_lose 12 = .ok (.bipush 9, 2) := by decide +kernel
theorem dX11_lose_14 : decode cX11_lose 14 = .ok (.invokestatic 100, 3) := by decide +kernel
theorem dX11_lose_17 : decode cX11_lose 17 = .ok (.ifCond .ne 5, 3) := by decide +kernel
theorem dX11_lose_20 : decode cX11_lose 20 = .ok (.iconst (-1), 1) := by decide +kernel
theorem dX11_lose_21 : decode cX11_lose 21 = .ok (.ireturn, 1) := by decide +kernel
theorem dX11_lose_22 : decode cX11_lose 22 = .ok (.aload_n 0, 1) := by decide +kernel
theorem dX11_lose_23 : decode cX11_lose 23 = .ok (.getfield 10, 3) := by decide +kernel
theorem dX11_lose_26 : decode cX11_lose 26 = .ok (.getfield 170, 3) := by decide +kernel
theorem dX11_lose_29 : decode cX11_lose 29 = .ok (.iload_n 1, 1) := by decide +kernel
theorem dX11_lose_30 : decode cX11_lose 30 = .ok (.iaload, 1) := by decide +kernel
theorem dX11_lose_31 : decode cX11_lose 31 = .ok (.istore_n 3, 1) := by decide +kernel
theorem dX11_lose_32 : decode cX11_lose 32 = .ok (.aload_n 0, 1) := by decide +kernel
theorem dX11_lose_33 : decode cX11_lose 33 = .ok (.getfield 10, 3) := by decide +kernel
theorem dX11_lose_36 : decode cX11_lose 36 = .ok (.getfield 170, 3) := by decide +kernel
theorem dX11_lose_39 : decode cX11_lose 39 = .ok (.iload_n 1, 1) := by decide +kernel
theorem dX11_lose_40 : decode cX11_lose 40 = .ok (.iload_n 2, 1) := by decide +kernel
theorem dX11_lose_41 : decode cX11_lose 41 = .ok (.iastore, 1) := by decide +kernel
theorem dX11_lose_42 : decode cX11_lose 42 = .ok (.iload_n 3, 1) := by decide +kernel
theorem dX11_lose_43 : decode cX11_lose 43 = .ok (.ireturn, 1) := by decide +kernel
theorem dX11_night_0 : decode cX11_night 0 = .ok (.iload_n 1, 1) := by decide +kernel
theorem dX11_night_1 : decode cX11_night 1 = .ok (.iconst 0, 1) := by decide +kernel
theorem dX11_night_2 : decode cX11_night 2 = .ok (.bipush 60, 2) := by decide +kernel
theorem dX11_night_4 : decode cX11_night 4 = .ok (.invokestatic 100, 3) := by decide +kernel
theorem dX11_night_7 : decode cX11_night 7 = .ok (.ifCond .eq 13, 3) := by decide +kernel
theorem dX11_night_10 : decode cX11_night 10 = .ok (.iload_n 2, 1) := by decide +kernel
theorem dX11_night_11 : decode cX11_night 11 = .ok (.iconst 0, 1) := by decide +kernel
theorem dX11_night_12 : decode cX11_night 12 = .ok (.bipush 9, 2) := by decide +kernel
theorem dX11_night_14 : decode cX11_night 14 = .ok (.invokestatic 100, 3) := by decide +kernel
theorem dX11_night_17 : decode cX11_night 17 = .ok (.ifCond .ne 5, 3) := by decide +kernel
theorem dX11_night_20 : decode cX11_night 20 = .ok (.iconst (-1), 1) := by decide +kernel
theorem dX11_night_21 : decode cX11_night 21 = .ok (.ireturn, 1) := by decide +kernel
theorem dX11_night_22 : decode cX11_night 22 = .ok (.aload_n 0, 1) := by decide +kernel
theorem dX11_night_23 : decode cX11_night 23 = .ok (.getfield 10, 3) := by decide +kernel
theorem dX11_night_26 : decode cX11_night 26 = .ok (.getfield 173, 3) := by decide +kernel
theorem dX11_night_29 : decode cX11_night 29 = .ok (.iload_n 1, 1) := by decide +kernel
theorem dX11_night_30 : decode cX11_night 30 = .ok (.iaload, 1) := by decide +kernel
theorem dX11_night_31 : decode cX11_night 31 = .ok (.istore_n 3, 1) := by decide +kernel
theorem dX11_night_32 : decode cX11_night 32 = .ok (.aload_n 0, 1) := by decide +kernel
theorem dX11_night_33 : decode cX11_night 33 = .ok (.getfield 10, 3) := by decide +kernel
theorem dX11_night_36 : decode cX11_night 36 = .ok (.getfield 173, 3) := by decide +kernel
theorem dX11_night_39 : decode cX11_night 39 = .ok (.iload_n 1, 1) := by decide +kernel
theorem dX11_night_40 : decode cX11_night 40 = .ok (.iload_n 2, 1) := by decide +kernel
theorem dX11_night_41 : decode cX11_night 41 = .ok (.iastore, 1) := by decide +kernel
theorem dX11_night_42 : decode cX11_night 42 = .ok (.iload_n 3, 1) := by decide +kernel
theorem dX11_night_43 : decode cX11_night 43 = .ok (.ireturn, 1) := by decide +kernel
theorem dX11_plan_0 : decode cX11_plan 0 = .ok (.aload_n 0, 1) := by decide +kernel
theorem dX11_plan_1 : decode cX11_plan 1 = .ok (.getfield 10, 3) := by decide +kernel
theorem dX11_plan_4 : decode cX11_plan 4 = .ok (.iload_n 1, 1) := by decide +kernel
theorem dX11_plan_5 : decode cX11_plan 5 = .ok (.invokevirtual 180, 3) := by decide +kernel
theorem dX11_plan_8 : decode cX11_plan 8 = .ok (.ifCond .eq 7, 3) := by decide +kernel
theorem dX11_plan_11 : decode cX11_plan 11 = .ok (.iconst 1, 1) := by decide +kernel
theorem dX11_plan_12 : decode cX11_plan 12 = .ok (.goto 4, 3) := by decide +kernel
theorem dX11_plan_15 : decode cX11_plan 15 = .ok (.iconst (-1), 1) := by decide +kernel
theorem dX11_plan_16 : decode cX11_plan 16 = .ok (.ireturn, 1) := by decide +kernel
theorem dX11_press_0 : decode cX11_press 0 = .ok (.iload_n 1, 1) := by decide +kernel
theorem dX11_press_1 : decode cX11_press 1 = .ok (.tableswitch 51 0 2 #[27, 35, 43], 27) := by decide +kernel
theorem dX11_press_28 : decode cX11_press 28 = .ok (.aload_n 0, 1) := by decide +kernel
theorem dX11_press_29 : decode cX11_press 29 = .ok (.getfield 10, 3) := by decide +kernel
theorem dX11_press_32 : decode cX11_press 32 = .ok (.getfield 186, 3) := by decide +kernel
theorem dX11_press_35 : decode cX11_press 35 = .ok (.ireturn, 1) := by decide +kernel
theorem dX11_press_36 : decode cX11_press 36 = .ok (.aload_n 0, 1) := by decide +kernel
theorem dX11_press_37 : decode cX11_press 37 = .ok (.getfield 10, 3) := by decide +kernel
theorem dX11_press_40 : decode cX11_press 40 = .ok (.getfield 189, 3) := by decide +kernel
theorem dX11_press_43 : decode cX11_press 43 = .ok (.ireturn, 1) := by decide +kernel
theorem dX11_press_44 : decode cX11_press 44 = .ok (.aload_n 0, 1) := by decide +kernel
theorem dX11_press_45 : decode cX11_press 45 = .ok (.getfield 10, 3) := by decide +kernel
theorem dX11_press_48 : decode cX11_press 48 = .ok (.getfield 191, 3) := by decide +kernel
theorem dX11_press_51 : decode cX11_press 51 = .ok (.ireturn, 1) := by decide +kernel
theorem dX11_press_52 : decode cX11_press 52 = .ok (.iconst (-1), 1) := by decide +kernel
theorem dX11_press_53 : decode cX11_press 53 = .ok (.ireturn, 1) := by decide +kernel
theorem dX11_ends_0 : decode cX11_ends 0 = .ok (.aload_n 0, 1) := by decide +kernel
theorem dX11_ends_1 : decode cX11_ends 1 = .ok (.getfield 10, 3) := by decide +kernel
theorem dX11_ends_4 : decode cX11_ends 4 = .ok (.getfield 130, 3) := by decide +kernel
theorem dX11_ends_7 : decode cX11_ends 7 = .ok (.iload_n 1, 1) := by decide +kernel
theorem dX11_ends_8 : decode cX11_ends 8 = .ok (.invokevirtual 140, 3) := by decide +kernel
theorem dX11_ends_11 : decode cX11_ends 11 = .ok (.ifCond .ne 5, 3) := by decide +kernel
theorem dX11_ends_14 : decode cX11_ends 14 = .ok (.iconst (-1), 1) := by decide +kernel
theorem dX11_ends_15 : decode cX11_ends 15 = .ok (.ireturn, 1) := by decide +kernel
theorem dX11_ends_16 : decode cX11_ends 16 = .ok (.aload_n 0, 1) := by decide +kernel
theorem dX11_ends_17 : decode cX11_ends 17 = .ok (.invokevirtual 194, 3) := by decide +kernel
theorem dX11_ends_20 : decode cX11_ends 20 = .ok (.aload_n 0, 1) := by decide +kernel
theorem dX11_ends_21 : decode cX11_ends 21 = .ok (.getfield 43, 3) := by decide +kernel
theorem dX11_ends_24 : decode cX11_ends 24 = .ok (.getfield 197, 3) := by decide +kernel
theorem dX11_ends_27 : decode cX11_ends 27 = .ok (.iload_n 1, 1) := by decide +kernel
theorem dX11_ends_28 : decode cX11_ends 28 = .ok (.iaload, 1) := by decide +kernel
theorem dX11_ends_29 : decode cX11_ends 29 = .ok (.ireturn, 1) := by decide +kernel
theorem dX11_late_0 : decode cX11_late 0 = .ok (.aload_n 0, 1) := by decide +kernel
theorem dX11_late_1 : decode cX11_late 1 = .ok (.invokevirtual 194, 3) := by decide +kernel
theorem dX11_late_4 : decode cX11_late 4 = .ok (.iconst 0, 1) := by decide +kernel
theorem dX11_late_5 : decode cX11_late 5 = .ok (.istore_n 1, 1) := by decide +kernel
theorem dX11_late_6 : decode cX11_late 6 = .ok (.iconst 0, 1) := by decide +kernel
theorem dX11_late_7 : decode cX11_late 7 = .ok (.istore_n 2, 1) := by decide +kernel
theorem dX11_late_8 : decode cX11_late 8 = .ok (.iload_n 2, 1) := by decide +kernel
theorem dX11_late_9 : decode cX11_late 9 = .ok (.aload_n 0, 1) := by decide +kernel
theorem dX11_late_10 : decode cX11_late 10 = .ok (.getfield 10, 3) := by decide +kernel
theorem dX11_late_13 : decode cX11_late 13 = .ok (.getfield 130, 3) := by decide +kernel
theorem dX11_late_16 : decode cX11_late 16 = .ok (.getfield 131, 3) := by decide +kernel
theorem dX11_late_19 : decode cX11_late 19 = .ok (.if_icmp .ge 39, 3) := by decide +kernel
theorem dX11_late_22 : decode cX11_late 22 = .ok (.aload_n 0, 1) := by decide +kernel
theorem dX11_late_23 : decode cX11_late 23 = .ok (.getfield 43, 3) := by decide +kernel
theorem dX11_late_26 : decode cX11_late 26 = .ok (.getfield 197, 3) := by decide +kernel
theorem dX11_late_29 : decode cX11_late 29 = .ok (.iload_n 2, 1) := by decide +kernel
theorem dX11_late_30 : decode cX11_late 30 = .ok (.iaload, 1) := by decide +kernel
theorem dX11_late_31 : decode cX11_late 31 = .ok (.aload_n 0, 1) := by decide +kernel
theorem dX11_late_32 : decode cX11_late 32 = .ok (.getfield 10, 3) := by decide +kernel
theorem dX11_late_35 : decode cX11_late 35 = .ok (.getfield 130, 3) := by decide +kernel
theorem dX11_late_38 : decode cX11_late 38 = .ok (.getfield 153, 3) := by decide +kernel
theorem dX11_late_41 : decode cX11_late 41 = .ok (.iload_n 2, 1) := by decide +kernel
theorem dX11_late_42 : decode cX11_late 42 = .ok (.iaload, 1) := by decide +kernel
theorem dX11_late_43 : decode cX11_late 43 = .ok (.if_icmp .le 9, 3) := by decide +kernel
theorem dX11_late_46 : decode cX11_late 46 = .ok (.iload_n 1, 1) := by decide +kernel
theorem dX11_late_47 : decode cX11_late 47 = .ok (.iconst 1, 1) := by decide +kernel
theorem dX11_late_48 : decode cX11_late 48 = .ok (.iload_n 2, 1) := by decide +kernel
theorem dX11_late_49 : decode cX11_late 49 = .ok (.ishl, 1) := by decide +kernel
theorem dX11_late_50 : decode cX11_late 50 = .ok (.ior, 1) := by decide +kernel
theorem dX11_late_51 : decode cX11_late 51 = .ok (.istore_n 1, 1) := by decide +kernel
theorem dX11_late_52 : decode cX11_late 52 = .ok (.iinc 2 1, 3) := by decide +kernel
theorem dX11_late_55 : decode cX11_late 55 = .ok (.goto (-47), 3) := by decide +kernel
theorem dX11_late_58 : decode cX11_late 58 = .ok (.iload_n 1, 1) := by decide +kernel
theorem dX11_late_59 : decode cX11_late 59 = .ok (.ireturn, 1) := by decide +kernel
theorem dX11_worth_0 : decode cX11_worth 0 = .ok (.aload_n 0, 1) := by decide +kernel
theorem dX11_worth_1 : decode cX11_worth 1 = .ok (.invokevirtual 194, 3) := by decide +kernel
theorem dX11_worth_4 : decode cX11_worth 4 = .ok (.iconst 0, 1) := by decide +kernel
theorem dX11_worth_5 : decode cX11_worth 5 = .ok (.istore_n 1, 1) := by decide +kernel
theorem dX11_worth_6 : decode cX11_worth 6 = .ok (.iconst 0, 1) := by decide +kernel
theorem dX11_worth_7 : decode cX11_worth 7 = .ok (.istore_n 2, 1) := by decide +kernel
theorem dX11_worth_8 : decode cX11_worth 8 = .ok (.iload_n 2, 1) := by decide +kernel
theorem dX11_worth_9 : decode cX11_worth 9 = .ok (.aload_n 0, 1) := by decide +kernel
theorem dX11_worth_10 : decode cX11_worth 10 = .ok (.getfield 10, 3) := by decide +kernel
theorem dX11_worth_13 : decode cX11_worth 13 = .ok (.getfield 130, 3) := by decide +kernel
theorem dX11_worth_16 : decode cX11_worth 16 = .ok (.getfield 131, 3) := by decide +kernel
theorem dX11_worth_19 : decode cX11_worth 19 = .ok (.if_icmp .ge 39, 3) := by decide +kernel
theorem dX11_worth_22 : decode cX11_worth 22 = .ok (.iload_n 1, 1) := by decide +kernel
theorem dX11_worth_23 : decode cX11_worth 23 = .ok (.aload_n 0, 1) := by decide +kernel
theorem dX11_worth_24 : decode cX11_worth 24 = .ok (.getfield 10, 3) := by decide +kernel
theorem dX11_worth_27 : decode cX11_worth 27 = .ok (.getfield 130, 3) := by decide +kernel
theorem dX11_worth_30 : decode cX11_worth 30 = .ok (.iload_n 2, 1) := by decide +kernel
theorem dX11_worth_31 : decode cX11_worth 31 = .ok (.aload_n 0, 1) := by decide +kernel
theorem dX11_worth_32 : decode cX11_worth 32 = .ok (.getfield 43, 3) := by decide +kernel
theorem dX11_worth_35 : decode cX11_worth 35 = .ok (.getfield 197, 3) := by decide +kernel
theorem dX11_worth_38 : decode cX11_worth 38 = .ok (.iload_n 2, 1) := by decide +kernel
theorem dX11_worth_39 : decode cX11_worth 39 = .ok (.iaload, 1) := by decide +kernel
theorem dX11_worth_40 : decode cX11_worth 40 = .ok (.aload_n 0, 1) := by decide +kernel
theorem dX11_worth_41 : decode cX11_worth 41 = .ok (.getfield 43, 3) := by decide +kernel
theorem dX11_worth_44 : decode cX11_worth 44 = .ok (.getfield 200, 3) := by decide +kernel
theorem dX11_worth_47 : decode cX11_worth 47 = .ok (.invokevirtual 203, 3) := by decide +kernel
theorem dX11_worth_50 : decode cX11_worth 50 = .ok (.iadd, 1) := by decide +kernel
theorem dX11_worth_51 : decode cX11_worth 51 = .ok (.istore_n 1, 1) := by decide +kernel
theorem dX11_worth_52 : decode cX11_worth 52 = .ok (.iinc 2 1, 3) := by decide +kernel
theorem dX11_worth_55 : decode cX11_worth 55 = .ok (.goto (-47), 3) := by decide +kernel
theorem dX11_worth_58 : decode cX11_worth 58 = .ok (.iload_n 1, 1) := by decide +kernel
theorem dX11_worth_59 : decode cX11_worth 59 = .ok (.ireturn, 1) := by decide +kernel
theorem dX11_best_0 : decode cX11_best 0 = .ok (.iload_n 1, 1) := by decide +kernel
theorem dX11_best_1 : decode cX11_best 1 = .ok (.iconst 0, 1) := by decide +kernel
theorem dX11_best_2 : decode cX11_best 2 = .ok (.iconst 1, 1) := by decide +kernel
theorem dX11_best_3 : decode cX11_best 3 = .ok (.invokestatic 100, 3) := by decide +kernel
theorem dX11_best_6 : decode cX11_best 6 = .ok (.ifCond .ne 6, 3) := by decide +kernel
theorem dX11_best_9 : decode cX11_best 9 = .ok (.ldc 207, 2) := by decide +kernel
theorem dX11_best_11 : decode cX11_best 11 = .ok (.ireturn, 1) := by decide +kernel
theorem dX11_best_12 : decode cX11_best 12 = .ok (.aload_n 0, 1) := by decide +kernel
theorem dX11_best_13 : decode cX11_best 13 = .ok (.getfield 43, 3) := by decide +kernel
theorem dX11_best_16 : decode cX11_best 16 = .ok (.aload_n 0, 1) := by decide +kernel
theorem dX11_best_17 : decode cX11_best 17 = .ok (.getfield 10, 3) := by decide +kernel
theorem dX11_best_20 : decode cX11_best 20 = .ok (.iconst 0, 1) := by decide +kernel
theorem dX11_best_21 : decode cX11_best 21 = .ok (.invokevirtual 208, 3) := by decide +kernel
theorem dX11_best_24 : decode cX11_best 24 = .ok (.aload_n 0, 1) := by decide +kernel
theorem dX11_best_25 : decode cX11_best 25 = .ok (.getfield 52, 3) := by decide +kernel
theorem dX11_best_28 : decode cX11_best 28 = .ok (.aload_n 0, 1) := by decide +kernel
theorem dX11_best_29 : decode cX11_best 29 = .ok (.getfield 10, 3) := by decide +kernel
theorem dX11_best_32 : decode cX11_best 32 = .ok (.getfield 130, 3) := by decide +kernel
theorem dX11_best_35 : decode cX11_best 35 = .ok (.bipush (-9), 2) := by decide +kernel
theorem dX11_best_37 : decode cX11_best 37 = .ok (.invokevirtual 212, 3) := by decide +kernel
theorem dX11_best_40 : decode cX11_best 40 = .ok (.istore_n 2, 1) := by decide +kernel
theorem dX11_best_41 : decode cX11_best 41 = .ok (.iload_n 1, 1) := by decide +kernel
theorem dX11_best_42 : decode cX11_best 42 = .ok (.ifCond .ne 7, 3) := by decide +kernel
theorem dX11_best_45 : decode cX11_best 45 = .ok (.iload_n 2, 1) := by decide +kernel
theorem dX11_best_46 : decode cX11_best 46 = .ok (.goto 23, 3) := by decide +kernel
theorem dX11_best_49 : decode cX11_best 49 = .ok (.aload_n 0, 1) := by decide +kernel
theorem dX11_best_50 : decode cX11_best 50 = .ok (.getfield 52, 3) := by decide +kernel
theorem dX11_best_53 : decode cX11_best 53 = .ok (.getfield 216, 3) := by decide +kernel
theorem dX11_best_56 : decode cX11_best 56 = .ok (.aload_n 0, 1) := by decide +kernel
theorem dX11_best_57 : decode cX11_best 57 = .ok (.getfield 10, 3) := by decide +kernel
theorem dX11_best_60 : decode cX11_best 60 = .ok (.getfield 130, 3) := by decide +kernel
theorem dX11_best_63 : decode cX11_best 63 = .ok (.getfield 131, 3) := by decide +kernel
theorem dX11_best_66 : decode cX11_best 66 = .ok (.invokestatic 219, 3) := by decide +kernel
theorem dX11_best_69 : decode cX11_best 69 = .ok (.ireturn, 1) := by decide +kernel
theorem dX11_fewest_0 : decode cX11_fewest 0 = .ok (.aload_n 0, 1) := by decide +kernel
theorem dX11_fewest_1 : decode cX11_fewest 1 = .ok (.getfield 43, 3) := by decide +kernel
theorem dX11_fewest_4 : decode cX11_fewest 4 = .ok (.aload_n 0, 1) := by decide +kernel
theorem dX11_fewest_5 : decode cX11_fewest 5 = .ok (.getfield 10, 3) := by decide +kernel
theorem dX11_fewest_8 : decode cX11_fewest 8 = .ok (.iconst 0, 1) := by decide +kernel
theorem dX11_fewest_9 : decode cX11_fewest 9 = .ok (.invokevirtual 208, 3) := by decide +kernel
theorem dX11_fewest_12 : decode cX11_fewest 12 = .ok (.aload_n 0, 1) := by decide +kernel
theorem dX11_fewest_13 : decode cX11_fewest 13 = .ok (.getfield 52, 3) := by decide +kernel
theorem dX11_fewest_16 : decode cX11_fewest 16 = .ok (.aload_n 0, 1) := by decide +kernel
theorem dX11_fewest_17 : decode cX11_fewest 17 = .ok (.getfield 10, 3) := by decide +kernel
theorem dX11_fewest_20 : decode cX11_fewest 20 = .ok (.getfield 130, 3) := by decide +kernel
theorem dX11_fewest_23 : decode cX11_fewest 23 = .ok (.invokevirtual 223, 3) := by decide +kernel
theorem dX11_fewest_26 : decode cX11_fewest 26 = .ok (.ireturn, 1) := by decide +kernel
theorem dX11_soonest_0 : decode cX11_soonest 0 = .ok (.iload_n 1, 1) := by decide +kernel
theorem dX11_soonest_1 : decode cX11_soonest 1 = .ok (.iload_n 2, 1) := by decide +kernel
theorem dX11_soonest_2 : decode cX11_soonest 2 = .ok (.iload_n 3, 1) := by decide +kernel
theorem dX11_soonest_3 : decode cX11_soonest 3 = .ok (.iconst 0, 1) := by decide +kernel
theorem dX11_soonest_4 : decode cX11_soonest 4 = .ok (.iconst 0, 1) := by decide +kernel
theorem dX11_soonest_5 : decode cX11_soonest 5 = .ok (.invokestatic 132, 3) := by decide +kernel
theorem dX11_soonest_8 : decode cX11_soonest 8 = .ok (.ifCond .ne 5, 3) := by decide +kernel
theorem dX11_soonest_11 : decode cX11_soonest 11 = .ok (.iconst (-1), 1) := by decide +kernel
theorem dX11_soonest_12 : decode cX11_soonest 12 = .ok (.ireturn, 1) := by decide +kernel
theorem dX11_soonest_13 : decode cX11_soonest 13 = .ok (.aload_n 0, 1) := by decide +kernel
theorem dX11_soonest_14 : decode cX11_soonest 14 = .ok (.getfield 10, 3) := by decide +kernel
theorem dX11_soonest_17 : decode cX11_soonest 17 = .ok (.getfield 130, 3) := by decide +kernel
theorem dX11_soonest_20 : decode cX11_soonest 20 = .ok (.getfield 131, 3) := by decide +kernel
theorem dX11_soonest_23 : decode cX11_soonest 23 = .ok (.bipush 6, 2) := by decide +kernel
theorem dX11_soonest_25 : decode cX11_soonest 25 = .ok (.if_icmp .lt 6, 3) := by decide +kernel
theorem dX11_soonest_28 : decode cX11_soonest 28 = .ok (.bipush (-2), 2) := by decide +kernel
theorem dX11_soonest_30 : decode cX11_soonest 30 = .ok (.ireturn, 1) := by decide +kernel
theorem dX11_soonest_31 : decode cX11_soonest 31 = .ok (.aload_n 0, 1) := by decide +kernel
theorem dX11_soonest_32 : decode cX11_soonest 32 = .ok (.getfield 43, 3) := by decide +kernel
theorem dX11_soonest_35 : decode cX11_soonest 35 = .ok (.aload_n 0, 1) := by decide +kernel
theorem dX11_soonest_36 : decode cX11_soonest 36 = .ok (.getfield 10, 3) := by decide +kernel
theorem dX11_soonest_39 : decode cX11_soonest 39 = .ok (.iconst 0, 1) := by decide +kernel
theorem dX11_soonest_40 : decode cX11_soonest 40 = .ok (.invokevirtual 208, 3) := by decide +kernel
theorem dX11_soonest_43 : decode cX11_soonest 43 = .ok (.aload_n 0, 1) := by decide +kernel
theorem dX11_soonest_44 : decode cX11_soonest 44 = .ok (.getfield 82, 3) := by decide +kernel
theorem dX11_soonest_47 : decode cX11_soonest 47 = .ok (.aload_n 0, 1) := by decide +kernel
theorem dX11_soonest_48 : decode cX11_soonest 48 = .ok (.getfield 10, 3) := by decide +kernel
theorem dX11_soonest_51 : decode cX11_soonest 51 = .ok (.getfield 130, 3) := by decide +kernel
theorem dX11_soonest_54 : decode cX11_soonest 54 = .ok (.invokevirtual 227, 3) := by decide +kernel
theorem dX11_soonest_57 : decode cX11_soonest 57 = .ok (.aload_n 0, 1) := by decide +kernel
theorem dX11_soonest_58 : decode cX11_soonest 58 = .ok (.getfield 82, 3) := by decide +kernel
theorem dX11_soonest_61 : decode cX11_soonest 61 = .ok (.iload_n 1, 1) := by decide +kernel
theorem dX11_soonest_62 : decode cX11_soonest 62 = .ok (.iload_n 2, 1) := by decide +kernel
theorem dX11_soonest_63 : decode cX11_soonest 63 = .ok (.iload_n 3, 1) := by decide +kernel
theorem dX11_soonest_64 : decode cX11_soonest 64 = .ok (.bipush 60, 2) := by decide +kernel
theorem dX11_soonest_66 : decode cX11_soonest 66 = .ok (.iconst 0, 1) := by decide +kernel
theorem dX11_soonest_67 : decode cX11_soonest 67 = .ok (.invokevirtual 231, 3) := by decide +kernel
theorem dX11_soonest_70 : decode cX11_soonest 70 = .ok (.aload_n 0, 1) := by decide +kernel
theorem dX11_soonest_71 : decode cX11_soonest 71 = .ok (.getfield 52, 3) := by decide +kernel
theorem dX11_soonest_74 : decode cX11_soonest 74 = .ok (.aload_n 0, 1) := by decide +kernel
theorem dX11_soonest_75 : decode cX11_soonest 75 = .ok (.getfield 82, 3) := by decide +kernel
theorem dX11_soonest_78 : decode cX11_soonest 78 = .ok (.invokevirtual 235, 3) := by decide +kernel
theorem dX11_soonest_81 : decode cX11_soonest 81 = .ok (.istore 4, 2) := by decide +kernel
theorem dX11_soonest_83 : decode cX11_soonest 83 = .ok (.iload 4, 2) := by decide +kernel
theorem dX11_soonest_85 : decode cX11_soonest 85 = .ok (.bipush 60, 2) := by decide +kernel
theorem dX11_soonest_87 : decode cX11_soonest 87 = .ok (.if_icmp .gt 8, 3) := by decide +kernel
theorem dX11_soonest_90 : decode cX11_soonest 90 = .ok (.iload 4, 2) := by decide +kernel
theorem dX11_soonest_92 : decode cX11_soonest 92 = .ok (.goto 5, 3) := by decide +kernel
theorem dX11_soonest_95 : decode cX11_soonest 95 = .ok (.bipush (-3), 2) := by decide +kernel
theorem dX11_soonest_97 : decode cX11_soonest 97 = .ok (.ireturn, 1) := by decide +kernel
theorem dX11_gain_0 : decode cX11_gain 0 = .ok (.iload_n 1, 1) := by decide +kernel
theorem dX11_gain_1 : decode cX11_gain 1 = .ok (.iload_n 2, 1) := by decide +kernel
theorem dX11_gain_2 : decode cX11_gain 2 = .ok (.iload_n 3, 1) := by decide +kernel
theorem dX11_gain_3 : decode cX11_gain 3 = .ok (.iload 4, 2) := by decide +kernel
theorem dX11_gain_5 : decode cX11_gain 5 = .ok (.iload 5, 2) := by decide +kernel
theorem dX11_gain_7 : decode cX11_gain 7 = .ok (.invokestatic 132, 3) := by decide +kernel
theorem dX11_gain_10 : decode cX11_gain 10 = .ok (.ifCond .eq 18, 3) := by decide +kernel
theorem dX11_gain_13 : decode cX11_gain 13 = .ok (.aload_n 0, 1) := by decide +kernel
theorem dX11_gain_14 : decode cX11_gain 14 = .ok (.getfield 10, 3) := by decide +kernel
theorem dX11_gain_17 : decode cX11_gain 17 = .ok (.getfield 130, 3) := by decide +kernel
theorem dX11_gain_20 : decode cX11_gain 20 = .ok (.getfield 131, 3) := by decide +kernel
theorem dX11_gain_23 : decode cX11_gain 23 = .ok (.bipush 6, 2) := by decide +kernel
theorem dX11_gain_25 : decode cX11_gain 25 = .ok (.if_icmp .lt 6, 3) := by decide +kernel
theorem dX11_gain_28 : decode cX11_gain 28 = .ok (.ldc 207, 2) := by decide +kernel
theorem dX11_gain_30 : decode cX11_gain 30 = .ok (.ireturn, 1) := by decide +kernel
theorem dX11_gain_31 : decode cX11_gain 31 = .ok (.aload_n 0, 1) := by decide +kernel
theorem dX11_gain_32 : decode cX11_gain 32 = .ok (.getfield 43, 3) := by decide +kernel
theorem dX11_gain_35 : decode cX11_gain 35 = .ok (.aload_n 0, 1) := by decide +kernel
theorem dX11_gain_36 : decode cX11_gain 36 = .ok (.getfield 10, 3) := by decide +kernel
theorem dX11_gain_39 : decode cX11_gain 39 = .ok (.iconst 0, 1) := by decide +kernel
theorem dX11_gain_40 : decode cX11_gain 40 = .ok (.invokevirtual 208, 3) := by decide +kernel
theorem dX11_gain_43 : decode cX11_gain 43 = .ok (.aload_n 0, 1) := by decide +kernel
theorem dX11_gain_44 : decode cX11_gain 44 = .ok (.getfield 52, 3) := by decide +kernel
theorem dX11_gain_47 : decode cX11_gain 47 = .ok (.aload_n 0, 1) := by decide +kernel
theorem dX11_gain_48 : decode cX11_gain 48 = .ok (.getfield 10, 3) := by decide +kernel
theorem dX11_gain_51 : decode cX11_gain 51 = .ok (.getfield 130, 3) := by decide +kernel
theorem dX11_gain_54 : decode cX11_gain 54 = .ok (.bipush (-9), 2) := by decide +kernel
theorem dX11_gain_56 : decode cX11_gain 56 = .ok (.invokevirtual 212, 3) := by decide +kernel
theorem dX11_gain_59 : decode cX11_gain 59 = .ok (.istore 6, 2) := by decide +kernel
theorem dX11_gain_61 : decode cX11_gain 61 = .ok (.aload_n 0, 1) := by decide +kernel
theorem dX11_gain_62 : decode cX11_gain 62 = .ok (.getfield 82, 3) := by decide +kernel
theorem dX11_gain_65 : decode cX11_gain 65 = .ok (.aload_n 0, 1) := by decide +kernel
theorem dX11_gain_66 : decode cX11_gain 66 = .ok (.getfield 10, 3) := by decide +kernel
theorem dX11_gain_69 : decode cX11_gain 69 = .ok (.getfield 130, 3) := by decide +kernel
theorem dX11_gain_72 : decode cX11_gain 72 = .ok (.invokevirtual 227, 3) := by decide +kernel
theorem dX11_gain_75 : decode cX11_gain 75 = .ok (.aload_n 0, 1) := by decide +kernel
theorem dX11_gain_76 : decode cX11_gain 76 = .ok (.getfield 82, 3) := by decide +kernel
theorem dX11_gain_79 : decode cX11_gain 79 = .ok (.iload_n 1, 1) := by decide +kernel
theorem dX11_gain_80 : decode cX11_gain 80 = .ok (.iload_n 2, 1) := by decide +kernel
theorem dX11_gain_81 : decode cX11_gain 81 = .ok (.iload_n 3, 1) := by decide +kernel
theorem dX11_gain_82 : decode cX11_gain 82 = .ok (.iload 4, 2) := by decide +kernel
theorem dX11_gain_84 : decode cX11_gain 84 = .ok (.iload 5, 2) := by decide +kernel
theorem dX11_gain_86 : decode cX11_gain 86 = .ok (.invokevirtual 231, 3) := by decide +kernel
theorem dX11_gain_89 : decode cX11_gain 89 = .ok (.aload_n 0, 1) := by decide +kernel
theorem dX11_gain_90 : decode cX11_gain 90 = .ok (.getfield 52, 3) := by decide +kernel
theorem dX11_gain_93 : decode cX11_gain 93 = .ok (.aload_n 0, 1) := by decide +kernel
theorem dX11_gain_94 : decode cX11_gain 94 = .ok (.getfield 82, 3) := by decide +kernel
theorem dX11_gain_97 : decode cX11_gain 97 = .ok (.bipush (-9), 2) := by decide +kernel
theorem dX11_gain_99 : decode cX11_gain 99 = .ok (.invokevirtual 212, 3) := by decide +kernel
theorem dX11_gain_102 : decode cX11_gain 102 = .ok (.iload 6, 2) := by decide +kernel
theorem dX11_gain_104 : decode cX11_gain 104 = .ok (.isub, 1) := by decide +kernel
theorem dX11_gain_105 : decode cX11_gain 105 = .ok (.ireturn, 1) := by decide +kernel
theorem dX11_across_0 : decode cX11_across 0 = .ok (.iload_n 1, 1) := by decide +kernel
theorem dX11_across_1 : decode cX11_across 1 = .ok (.iconst 0, 1) := by decide +kernel
theorem dX11_across_2 : decode cX11_across 2 = .ok (.iconst 1, 1) := by decide +kernel
theorem dX11_across_3 : decode cX11_across 3 = .ok (.invokestatic 100, 3) := by decide +kernel
theorem dX11_across_6 : decode cX11_across 6 = .ok (.ifCond .ne 6, 3) := by decide +kernel
theorem dX11_across_9 : decode cX11_across 9 = .ok (.ldc 207, 2) := by decide +kernel
theorem dX11_across_11 : decode cX11_across 11 = .ok (.ireturn, 1) := by decide +kernel
theorem dX11_across_12 : decode cX11_across 12 = .ok (.aload_n 0, 1) := by decide +kernel
theorem dX11_across_13 : decode cX11_across 13 = .ok (.getfield 43, 3) := by decide +kernel
theorem dX11_across_16 : decode cX11_across 16 = .ok (.aload_n 0, 1) := by decide +kernel
theorem dX11_across_17 : decode cX11_across 17 = .ok (.getfield 10, 3) := by decide +kernel
theorem dX11_across_20 : decode cX11_across 20 = .ok (.iconst 0, 1) := by decide +kernel
theorem dX11_across_21 : decode cX11_across 21 = .ok (.invokevirtual 208, 3) := by decide +kernel
theorem dX11_across_24 : decode cX11_across 24 = .ok (.bipush (-9), 2) := by decide +kernel
theorem dX11_across_26 : decode cX11_across 26 = .ok (.istore_n 2, 1) := by decide +kernel
theorem dX11_across_27 : decode cX11_across 27 = .ok (.aload_n 0, 1) := by decide +kernel
theorem dX11_across_28 : decode cX11_across 28 = .ok (.getfield 52, 3) := by decide +kernel
theorem dX11_across_31 : decode cX11_across 31 = .ok (.aload_n 0, 1) := by decide +kernel
theorem dX11_across_32 : decode cX11_across 32 = .ok (.getfield 10, 3) := by decide +kernel
theorem dX11_across_35 : decode cX11_across 35 = .ok (.getfield 130, 3) := by decide +kernel
theorem dX11_across_38 : decode cX11_across 38 = .ok (.bipush (-9), 2) := by decide +kernel
theorem dX11_across_40 : decode cX11_across 40 = .ok (.invokevirtual 212, 3) := by decide +kernel
theorem dX11_across_43 : decode cX11_across 43 = .ok (.istore_n 3, 1) := by decide +kernel
theorem dX11_across_44 : decode cX11_across 44 = .ok (.iconst 0, 1) := by decide +kernel
theorem dX11_across_45 : decode cX11_across 45 = .ok (.istore 4, 2) := by decide +kernel
theorem dX11_across_47 : decode cX11_across 47 = .ok (.iload 4, 2) := by decide +kernel
theorem dX11_across_49 : decode cX11_across 49 = .ok (.aload_n 0, 1) := by decide +kernel
theorem dX11_across_50 : decode cX11_across 50 = .ok (.getfield 10, 3) := by decide +kernel
theorem dX11_across_53 : decode cX11_across 53 = .ok (.getfield 130, 3) := by decide +kernel
theorem dX11_across_56 : decode cX11_across 56 = .ok (.getfield 131, 3) := by decide +kernel
theorem dX11_across_59 : decode cX11_across 59 = .ok (.if_icmp .ge 55, 3) := by decide +kernel
theorem dX11_across_62 : decode cX11_across 62 = .ok (.aload_n 0, 1) := by decide +kernel
theorem dX11_across_63 : decode cX11_across 63 = .ok (.getfield 52, 3) := by decide +kernel
theorem dX11_across_66 : decode cX11_across 66 = .ok (.aload_n 0, 1) := by decide +kernel
theorem dX11_across_67 : decode cX11_across 67 = .ok (.getfield 10, 3) := by decide +kernel
theorem dX11_across_70 : decode cX11_across 70 = .ok (.getfield 130, 3) := by decide +kernel
theorem dX11_across_73 : decode cX11_across 73 = .ok (.iload 4, 2) := by decide +kernel
theorem dX11_across_75 : decode cX11_across 75 = .ok (.invokevirtual 212, 3) := by decide +kernel
theorem dX11_across_78 : decode cX11_across 78 = .ok (.aload_n 0, 1) := by decide +kernel
theorem dX11_across_79 : decode cX11_across 79 = .ok (.getfield 10, 3) := by decide +kernel
theorem dX11_across_82 : decode cX11_across 82 = .ok (.getfield 130, 3) := by decide +kernel
theorem dX11_across_85 : decode cX11_across 85 = .ok (.getfield 156, 3) := by decide +kernel
theorem dX11_across_88 : decode cX11_across 88 = .ok (.iload 4, 2) := by decide +kernel
theorem dX11_across_90 : decode cX11_across 90 = .ok (.iaload, 1) := by decide +kernel
theorem dX11_across_91 : decode cX11_across 91 = .ok (.iconst 2, 1) := by decide +kernel
theorem dX11_across_92 : decode cX11_across 92 = .ok (.idiv, 1) := by decide +kernel
theorem dX11_across_93 : decode cX11_across 93 = .ok (.iadd, 1) := by decide +kernel
theorem dX11_across_94 : decode cX11_across 94 = .ok (.istore 5, 2) := by decide +kernel
theorem dX11_across_96 : decode cX11_across 96 = .ok (.iload 5, 2) := by decide +kernel
theorem dX11_across_98 : decode cX11_across 98 = .ok (.iload_n 3, 1) := by decide +kernel
theorem dX11_across_99 : decode cX11_across 99 = .ok (.if_icmp .le 9, 3) := by decide +kernel
theorem dX11_across_102 : decode cX11_across 102 = .ok (.iload 5, 2) := by decide +kernel
theorem dX11_across_104 : decode cX11_across 104 = .ok (.istore_n 3, 1) := by decide +kernel
theorem dX11_across_105 : decode cX11_across 105 = .ok (.iload 4, 2) := by decide +kernel
theorem dX11_across_107 : decode cX11_across 107 = .ok (.istore_n 2, 1) := by decide +kernel
theorem dX11_across_108 : decode cX11_across 108 = .ok (.iinc 4 1, 3) := by decide +kernel
theorem dX11_across_111 : decode cX11_across 111 = .ok (.goto (-64), 3) := by decide +kernel
theorem dX11_across_114 : decode cX11_across 114 = .ok (.iload_n 1, 1) := by decide +kernel
theorem dX11_across_115 : decode cX11_across 115 = .ok (.ifCond .ne 7, 3) := by decide +kernel
theorem dX11_across_118 : decode cX11_across 118 = .ok (.iload_n 2, 1) := by decide +kernel
theorem dX11_across_119 : decode cX11_across 119 = .ok (.goto 4, 3) := by decide +kernel
theorem dX11_across_122 : decode cX11_across 122 = .ok (.iload_n 3, 1) := by decide +kernel
theorem dX11_across_123 : decode cX11_across 123 = .ok (.ireturn, 1) := by decide +kernel
theorem dX11_nights_0 : decode cX11_nights 0 = .ok (.iconst 0, 1) := by decide +kernel
theorem dX11_nights_1 : decode cX11_nights 1 = .ok (.istore_n 1, 1) := by decide +kernel
theorem dX11_nights_2 : decode cX11_nights 2 = .ok (.iload_n 1, 1) := by decide +kernel
theorem dX11_nights_3 : decode cX11_nights 3 = .ok (.bipush 9, 2) := by decide +kernel
theorem dX11_nights_5 : decode cX11_nights 5 = .ok (.if_icmp .gt 40, 3) := by decide +kernel
theorem dX11_nights_8 : decode cX11_nights 8 = .ok (.aload_n 0, 1) := by decide +kernel
theorem dX11_nights_9 : decode cX11_nights 9 = .ok (.getfield 43, 3) := by decide +kernel
theorem dX11_nights_12 : decode cX11_nights 12 = .ok (.aload_n 0, 1) := by decide +kernel
theorem dX11_nights_13 : decode cX11_nights 13 = .ok (.getfield 10, 3) := by decide +kernel
theorem dX11_nights_16 : decode cX11_nights 16 = .ok (.iload_n 1, 1) := by decide +kernel
theorem dX11_nights_17 : decode cX11_nights 17 = .ok (.invokevirtual 208, 3) := by decide +kernel
theorem dX11_nights_20 : decode cX11_nights 20 = .ok (.aload_n 0, 1) := by decide +kernel
theorem dX11_nights_21 : decode cX11_nights 21 = .ok (.getfield 52, 3) := by decide +kernel
theorem dX11_nights_24 : decode cX11_nights 24 = .ok (.aload_n 0, 1) := by decide +kernel
theorem dX11_nights_25 : decode cX11_nights 25 = .ok (.getfield 10, 3) := by decide +kernel
theorem dX11_nights_28 : decode cX11_nights 28 = .ok (.getfield 130, 3) := by decide +kernel
theorem dX11_nights_31 : decode cX11_nights 31 = .ok (.invokevirtual 223, 3) := by decide +kernel
theorem dX11_nights_34 : decode cX11_nights 34 = .ok (.ifCond .ne 5, 3) := by decide +kernel
theorem dX11_nights_37 : decode cX11_nights 37 = .ok (.iload_n 1, 1) := by decide +kernel
theorem dX11_nights_38 : decode cX11_nights 38 = .ok (.ireturn, 1) := by decide +kernel
theorem dX11_nights_39 : decode cX11_nights 39 = .ok (.iinc 1 1, 3) := by decide +kernel
theorem dX11_nights_42 : decode cX11_nights 42 = .ok (.goto (-40), 3) := by decide +kernel
theorem dX11_nights_45 : decode cX11_nights 45 = .ok (.bipush (-3), 2) := by decide +kernel
theorem dX11_nights_47 : decode cX11_nights 47 = .ok (.ireturn, 1) := by decide +kernel
theorem dX11_sure_0 : decode cX11_sure 0 = .ok (.iload_n 1, 1) := by decide +kernel
theorem dX11_sure_1 : decode cX11_sure 1 = .ok (.iconst 0, 1) := by decide +kernel
theorem dX11_sure_2 : decode cX11_sure 2 = .ok (.iconst 1, 1) := by decide +kernel
theorem dX11_sure_3 : decode cX11_sure 3 = .ok (.invokestatic 100, 3) := by decide +kernel
theorem dX11_sure_6 : decode cX11_sure 6 = .ok (.ifCond .ne 5, 3) := by decide +kernel
theorem dX11_sure_9 : decode cX11_sure 9 = .ok (.iconst (-1), 1) := by decide +kernel
theorem dX11_sure_10 : decode cX11_sure 10 = .ok (.ireturn, 1) := by decide +kernel
theorem dX11_sure_11 : decode cX11_sure 11 = .ok (.aload_n 0, 1) := by decide +kernel
theorem dX11_sure_12 : decode cX11_sure 12 = .ok (.getfield 43, 3) := by decide +kernel
theorem dX11_sure_15 : decode cX11_sure 15 = .ok (.aload_n 0, 1) := by decide +kernel
theorem dX11_sure_16 : decode cX11_sure 16 = .ok (.getfield 10, 3) := by decide +kernel
theorem dX11_sure_19 : decode cX11_sure 19 = .ok (.iconst 0, 1) := by decide +kernel
theorem dX11_sure_20 : decode cX11_sure 20 = .ok (.invokevirtual 208, 3) := by decide +kernel
theorem dX11_sure_23 : decode cX11_sure 23 = .ok (.aload_n 0, 1) := by decide +kernel
theorem dX11_sure_24 : decode cX11_sure 24 = .ok (.getfield 59, 3) := by decide +kernel
theorem dX11_sure_27 : decode cX11_sure 27 = .ok (.aload_n 0, 1) := by decide +kernel
theorem dX11_sure_28 : decode cX11_sure 28 = .ok (.getfield 10, 3) := by decide +kernel
theorem dX11_sure_31 : decode cX11_sure 31 = .ok (.getfield 130, 3) := by decide +kernel
theorem dX11_sure_34 : decode cX11_sure 34 = .ok (.aload_n 0, 1) := by decide +kernel
theorem dX11_sure_35 : decode cX11_sure 35 = .ok (.getfield 10, 3) := by decide +kernel
theorem dX11_sure_38 : decode cX11_sure 38 = .ok (.getfield 183, 3) := by decide +kernel
theorem dX11_sure_41 : decode cX11_sure 41 = .ok (.invokevirtual 238, 3) := by decide +kernel
theorem dX11_sure_44 : decode cX11_sure 44 = .ok (.iconst 2, 1) := by decide +kernel
theorem dX11_sure_45 : decode cX11_sure 45 = .ok (.aload_n 0, 1) := by decide +kernel
theorem dX11_sure_46 : decode cX11_sure 46 = .ok (.getfield 10, 3) := by decide +kernel
theorem dX11_sure_49 : decode cX11_sure 49 = .ok (.getfield 130, 3) := by decide +kernel
theorem dX11_sure_52 : decode cX11_sure 52 = .ok (.getfield 131, 3) := by decide +kernel
theorem dX11_sure_55 : decode cX11_sure 55 = .ok (.imul, 1) := by decide +kernel
theorem dX11_sure_56 : decode cX11_sure 56 = .ok (.iload_n 1, 1) := by decide +kernel
theorem dX11_sure_57 : decode cX11_sure 57 = .ok (.invokestatic 242, 3) := by decide +kernel
theorem dX11_sure_60 : decode cX11_sure 60 = .ok (.ireturn, 1) := by decide +kernel
theorem dX11_safest_0 : decode cX11_safest 0 = .ok (.iload_n 1, 1) := by decide +kernel
theorem dX11_safest_1 : decode cX11_safest 1 = .ok (.iconst 0, 1) := by decide +kernel
theorem dX11_safest_2 : decode cX11_safest 2 = .ok (.iconst 2, 1) := by decide +kernel
theorem dX11_safest_3 : decode cX11_safest 3 = .ok (.invokestatic 100, 3) := by decide +kernel
theorem dX11_safest_6 : decode cX11_safest 6 = .ok (.ifCond .ne 5, 3) := by decide +kernel
theorem dX11_safest_9 : decode cX11_safest 9 = .ok (.iconst (-1), 1) := by decide +kernel
theorem dX11_safest_10 : decode cX11_safest 10 = .ok (.ireturn, 1) := by decide +kernel
theorem dX11_safest_11 : decode cX11_safest 11 = .ok (.aload_n 0, 1) := by decide +kernel
theorem dX11_safest_12 : decode cX11_safest 12 = .ok (.getfield 43, 3) := by decide +kernel
theorem dX11_safest_15 : decode cX11_safest 15 = .ok (.aload_n 0, 1) := by decide +kernel
theorem dX11_safest_16 : decode cX11_safest 16 = .ok (.getfield 10, 3) := by decide +kernel
theorem dX11_safest_19 : decode cX11_safest 19 = .ok (.iconst 0, 1) := by decide +kernel
theorem dX11_safest_20 : decode cX11_safest 20 = .ok (.invokevirtual 208, 3) := by decide +kernel
theorem dX11_safest_23 : decode cX11_safest 23 = .ok (.aload_n 0, 1) := by decide +kernel
theorem dX11_safest_24 : decode cX11_safest 24 = .ok (.getfield 59, 3) := by decide +kernel
theorem dX11_safest_27 : decode cX11_safest 27 = .ok (.aload_n 0, 1) := by decide +kernel
theorem dX11_safest_28 : decode cX11_safest 28 = .ok (.getfield 10, 3) := by decide +kernel
theorem dX11_safest_31 : decode cX11_safest 31 = .ok (.getfield 130, 3) := by decide +kernel
theorem dX11_safest_34 : decode cX11_safest 34 = .ok (.invokevirtual 245, 3) := by decide +kernel
theorem dX11_safest_37 : decode cX11_safest 37 = .ok (.istore_n 2, 1) := by decide +kernel
theorem dX11_safest_38 : decode cX11_safest 38 = .ok (.iload_n 1, 1) := by decide +kernel
theorem dX11_safest_39 : decode cX11_safest 39 = .ok (.ifCond .ne 24, 3) := by decide +kernel
theorem dX11_safest_42 : decode cX11_safest 42 = .ok (.aload_n 0, 1) := by decide +kernel
theorem dX11_safest_43 : decode cX11_safest 43 = .ok (.getfield 59, 3) := by decide +kernel
theorem dX11_safest_46 : decode cX11_safest 46 = .ok (.getfield 248, 3) := by decide +kernel
theorem dX11_safest_49 : decode cX11_safest 49 = .ok (.aload_n 0, 1) := by decide +kernel
theorem dX11_safest_50 : decode cX11_safest 50 = .ok (.getfield 10, 3) := by decide +kernel
theorem dX11_safest_53 : decode cX11_safest 53 = .ok (.getfield 130, 3) := by decide +kernel
theorem dX11_safest_56 : decode cX11_safest 56 = .ok (.getfield 131, 3) := by decide +kernel
theorem dX11_safest_59 : decode cX11_safest 59 = .ok (.invokestatic 219, 3) := by decide +kernel
theorem dX11_safest_62 : decode cX11_safest 62 = .ok (.ireturn, 1) := by decide +kernel
theorem dX11_safest_63 : decode cX11_safest 63 = .ok (.iload_n 2, 1) := by decide +kernel
theorem dX11_safest_64 : decode cX11_safest 64 = .ok (.iconst 2, 1) := by decide +kernel
theorem dX11_safest_65 : decode cX11_safest 65 = .ok (.aload_n 0, 1) := by decide +kernel
theorem dX11_safest_66 : decode cX11_safest 66 = .ok (.getfield 10, 3) := by decide +kernel
theorem dX11_safest_69 : decode cX11_safest 69 = .ok (.getfield 130, 3) := by decide +kernel
theorem dX11_safest_72 : decode cX11_safest 72 = .ok (.getfield 131, 3) := by decide +kernel
theorem dX11_safest_75 : decode cX11_safest 75 = .ok (.imul, 1) := by decide +kernel
theorem dX11_safest_76 : decode cX11_safest 76 = .ok (.iload_n 1, 1) := by decide +kernel
theorem dX11_safest_77 : decode cX11_safest 77 = .ok (.iconst 1, 1) := by decide +kernel
theorem dX11_safest_78 : decode cX11_safest 78 = .ok (.isub, 1) := by decide +kernel
theorem dX11_safest_79 : decode cX11_safest 79 = .ok (.invokestatic 242, 3) := by decide +kernel
theorem dX11_safest_82 : decode cX11_safest 82 = .ok (.ireturn, 1) := by decide +kernel
theorem dX11_mean_0 : decode cX11_mean 0 = .ok (.iload_n 1, 1) := by decide +kernel
theorem dX11_mean_1 : decode cX11_mean 1 = .ok (.iconst 0, 1) := by decide +kernel
theorem dX11_mean_2 : decode cX11_mean 2 = .ok (.iconst 1, 1) := by decide +kernel
theorem dX11_mean_3 : decode cX11_mean 3 = .ok (.invokestatic 100, 3) := by decide +kernel
