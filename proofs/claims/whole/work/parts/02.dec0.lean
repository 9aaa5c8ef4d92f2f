theorem dX0_init_0 : decode cX0_init 0 = .ok (.aload_n 0, 1) := by decide +kernel
theorem dX0_init_1 : decode cX0_init 1 = .ok (.invokespecial 3, 3) := by decide +kernel
theorem dX0_init_4 : decode cX0_init 4 = .ok (.aload_n 0, 1) := by decide +kernel
theorem dX0_init_5 : decode cX0_init 5 = .ok (.aload_n 1, 1) := by decide +kernel
theorem dX0_init_6 : decode cX0_init 6 = .ok (.putfield 9, 3) := by decide +kernel
theorem dX0_init_9 : decode cX0_init 9 = .ok (.return_, 1) := by decide +kernel
theorem dX0_mostOf_0 : decode cX0_mostOf 0 = .ok (.iload 4, 2) := by decide +kernel
theorem dX0_mostOf_2 : decode cX0_mostOf 2 = .ok (.ifCond .gt 14, 3) := by decide +kernel
theorem dX0_mostOf_5 : decode cX0_mostOf 5 = .ok (.aload_n 0, 1) := by decide +kernel
theorem dX0_mostOf_6 : decode cX0_mostOf 6 = .ok (.getfield 9, 3) := by decide +kernel
theorem dX0_mostOf_9 : decode cX0_mostOf 9 = .ok (.aload_n 2, 1) := by decide +kernel
theorem dX0_mostOf_10 : decode cX0_mostOf 10 = .ok (.bipush (-9), 2) := by decide +kernel
theorem dX0_mostOf_12 : decode cX0_mostOf 12 = .ok (.invokevirtual 15, 3) := by decide +kernel
theorem dX0_mostOf_15 : decode cX0_mostOf 15 = .ok (.ireturn, 1) := by decide +kernel
theorem dX0_mostOf_16 : decode cX0_mostOf 16 = .ok (.aload_n 0, 1) := by decide +kernel
theorem dX0_mostOf_17 : decode cX0_mostOf 17 = .ok (.aload_n 1, 1) := by decide +kernel
theorem dX0_mostOf_18 : decode cX0_mostOf 18 = .ok (.aload_n 2, 1) := by decide +kernel
theorem dX0_mostOf_19 : decode cX0_mostOf 19 = .ok (.iload_n 3, 1) := by decide +kernel
theorem dX0_mostOf_20 : decode cX0_mostOf 20 = .ok (.iload 4, 2) := by decide +kernel
theorem dX0_mostOf_22 : decode cX0_mostOf 22 = .ok (.iconst 1, 1) := by decide +kernel
theorem dX0_mostOf_23 : decode cX0_mostOf 23 = .ok (.isub, 1) := by decide +kernel
theorem dX0_mostOf_24 : decode cX0_mostOf 24 = .ok (.invokevirtual 21, 3) := by decide +kernel
theorem dX0_mostOf_27 : decode cX0_mostOf 27 = .ok (.istore 5, 2) := by decide +kernel
theorem dX0_mostOf_29 : decode cX0_mostOf 29 = .ok (.iload 5, 2) := by decide +kernel
theorem dX0_mostOf_31 : decode cX0_mostOf 31 = .ok (.iconst 4, 1) := by decide +kernel
theorem dX0_mostOf_32 : decode cX0_mostOf 32 = .ok (.aload_n 1, 1) := by decide +kernel
theorem dX0_mostOf_33 : decode cX0_mostOf 33 = .ok (.invokevirtual 25, 3) := by decide +kernel
theorem dX0_mostOf_36 : decode cX0_mostOf 36 = .ok (.isub, 1) := by decide +kernel
theorem dX0_mostOf_37 : decode cX0_mostOf 37 = .ok (.imul, 1) := by decide +kernel
theorem dX0_mostOf_38 : decode cX0_mostOf 38 = .ok (.istore 6, 2) := by decide +kernel
theorem dX0_mostOf_40 : decode cX0_mostOf 40 = .ok (.iconst 0, 1) := by decide +kernel
theorem dX0_mostOf_41 : decode cX0_mostOf 41 = .ok (.istore 7, 2) := by decide +kernel
theorem dX0_mostOf_43 : decode cX0_mostOf 43 = .ok (.iload 7, 2) := by decide +kernel
theorem dX0_mostOf_45 : decode cX0_mostOf 45 = .ok (.aload_n 1, 1) := by decide +kernel
theorem dX0_mostOf_46 : decode cX0_mostOf 46 = .ok (.getfield 31, 3) := by decide +kernel
theorem dX0_mostOf_49 : decode cX0_mostOf 49 = .ok (.if_icmp .ge 93, 3) := by decide +kernel
theorem dX0_mostOf_52 : decode cX0_mostOf 52 = .ok (.aload_n 2, 1) := by decide +kernel
theorem dX0_mostOf_53 : decode cX0_mostOf 53 = .ok (.aload_n 1, 1) := by decide +kernel
theorem dX0_mostOf_54 : decode cX0_mostOf 54 = .ok (.getfield 35, 3) := by decide +kernel
theorem dX0_mostOf_57 : decode cX0_mostOf 57 = .ok (.iload 7, 2) := by decide +kernel
theorem dX0_mostOf_59 : decode cX0_mostOf 59 = .ok (.iaload, 1) := by decide +kernel
theorem dX0_mostOf_60 : decode cX0_mostOf 60 = .ok (.aload_n 1, 1) := by decide +kernel
theorem dX0_mostOf_61 : decode cX0_mostOf 61 = .ok (.getfield 39, 3) := by decide +kernel
theorem dX0_mostOf_64 : decode cX0_mostOf 64 = .ok (.iload 7, 2) := by decide +kernel
theorem dX0_mostOf_66 : decode cX0_mostOf 66 = .ok (.iaload, 1) := by decide +kernel
theorem dX0_mostOf_67 : decode cX0_mostOf 67 = .ok (.aload_n 1, 1) := by decide +kernel
theorem dX0_mostOf_68 : decode cX0_mostOf 68 = .ok (.getfield 42, 3) := by decide +kernel
theorem dX0_mostOf_71 : decode cX0_mostOf 71 = .ok (.iload 7, 2) := by decide +kernel
theorem dX0_mostOf_73 : decode cX0_mostOf 73 = .ok (.iaload, 1) := by decide +kernel
theorem dX0_mostOf_74 : decode cX0_mostOf 74 = .ok (.iload_n 3, 1) := by decide +kernel
theorem dX0_mostOf_75 : decode cX0_mostOf 75 = .ok (.aload_n 1, 1) := by decide +kernel
theorem dX0_mostOf_76 : decode cX0_mostOf 76 = .ok (.getfield 45, 3) := by decide +kernel
theorem dX0_mostOf_79 : decode cX0_mostOf 79 = .ok (.iload 7, 2) := by decide +kernel
theorem dX0_mostOf_81 : decode cX0_mostOf 81 = .ok (.iaload, 1) := by decide +kernel
theorem dX0_mostOf_82 : decode cX0_mostOf 82 = .ok (.iadd, 1) := by decide +kernel
theorem dX0_mostOf_83 : decode cX0_mostOf 83 = .ok (.aload_n 1, 1) := by decide +kernel
theorem dX0_mostOf_84 : decode cX0_mostOf 84 = .ok (.getfield 48, 3) := by decide +kernel
theorem dX0_mostOf_87 : decode cX0_mostOf 87 = .ok (.iload 7, 2) := by decide +kernel
theorem dX0_mostOf_89 : decode cX0_mostOf 89 = .ok (.iaload, 1) := by decide +kernel
theorem dX0_mostOf_90 : decode cX0_mostOf 90 = .ok (.invokevirtual 51, 3) := by decide +kernel
theorem dX0_mostOf_93 : decode cX0_mostOf 93 = .ok (.aload_n 0, 1) := by decide +kernel
theorem dX0_mostOf_94 : decode cX0_mostOf 94 = .ok (.aload_n 1, 1) := by decide +kernel
theorem dX0_mostOf_95 : decode cX0_mostOf 95 = .ok (.aload_n 2, 1) := by decide +kernel
theorem dX0_mostOf_96 : decode cX0_mostOf 96 = .ok (.iload_n 3, 1) := by decide +kernel
theorem dX0_mostOf_97 : decode cX0_mostOf 97 = .ok (.iload 4, 2) := by decide +kernel
theorem dX0_mostOf_99 : decode cX0_mostOf 99 = .ok (.iconst 1, 1) := by decide +kernel
theorem dX0_mostOf_100 : decode cX0_mostOf 100 = .ok (.isub, 1) := by decide +kernel
theorem dX0_mostOf_101 : decode cX0_mostOf 101 = .ok (.invokevirtual 21, 3) := by decide +kernel
theorem dX0_mostOf_104 : decode cX0_mostOf 104 = .ok (.istore 8, 2) := by decide +kernel
theorem dX0_mostOf_106 : decode cX0_mostOf 106 = .ok (.aload_n 2, 1) := by decide +kernel
theorem dX0_mostOf_107 : decode cX0_mostOf 107 = .ok (.aload_n 2, 1) := by decide +kernel
theorem dX0_mostOf_108 : decode cX0_mostOf 108 = .ok (.getfield 57, 3) := by decide +kernel
theorem dX0_mostOf_111 : decode cX0_mostOf 111 = .ok (.iconst 1, 1) := by decide +kernel
theorem dX0_mostOf_112 : decode cX0_mostOf 112 = .ok (.isub, 1) := by decide +kernel
theorem dX0_mostOf_113 : decode cX0_mostOf 113 = .ok (.invokevirtual 58, 3) := by decide +kernel
theorem dX0_mostOf_116 : decode cX0_mostOf 116 = .ok (.iload 6, 2) := by decide +kernel
theorem dX0_mostOf_118 : decode cX0_mostOf 118 = .ok (.aload_n 1, 1) := by decide +kernel
theorem dX0_mostOf_119 : decode cX0_mostOf 119 = .ok (.getfield 62, 3) := by decide +kernel
theorem dX0_mostOf_122 : decode cX0_mostOf 122 = .ok (.iload 7, 2) := by decide +kernel
theorem dX0_mostOf_124 : decode cX0_mostOf 124 = .ok (.iaload, 1) := by decide +kernel
theorem dX0_mostOf_125 : decode cX0_mostOf 125 = .ok (.iload 8, 2) := by decide +kernel
theorem dX0_mostOf_127 : decode cX0_mostOf 127 = .ok (.iload 5, 2) := by decide +kernel
theorem dX0_mostOf_129 : decode cX0_mostOf 129 = .ok (.invokestatic 65, 3) := by decide +kernel
theorem dX0_mostOf_132 : decode cX0_mostOf 132 = .ok (.imul, 1) := by decide +kernel
theorem dX0_mostOf_133 : decode cX0_mostOf 133 = .ok (.iadd, 1) := by decide +kernel
theorem dX0_mostOf_134 : decode cX0_mostOf 134 = .ok (.istore 6, 2) := by decide +kernel
theorem dX0_mostOf_136 : decode cX0_mostOf 136 = .ok (.iinc 7 1, 3) := by decide +kernel
theorem dX0_mostOf_139 : decode cX0_mostOf 139 = .ok (.goto (-96), 3) := by decide +kernel
theorem dX0_mostOf_142 : decode cX0_mostOf 142 = .ok (.iload 6, 2) := by decide +kernel
theorem dX0_mostOf_144 : decode cX0_mostOf 144 = .ok (.ireturn, 1) := by decide +kernel
theorem dX1_init_0 : decode cX1_init 0 = .ok (.aload_n 0, 1) := by decide +kernel
theorem dX1_init_1 : decode cX1_init 1 = .ok (.invokespecial 3, 3) := by decide +kernel
theorem dX1_init_4 : decode cX1_init 4 = .ok (.aload_n 0, 1) := by decide +kernel
theorem dX1_init_5 : decode cX1_init 5 = .ok (.new 9, 3) := by decide +kernel
theorem dX1_init_8 : decode cX1_init 8 = .ok (.dup, 1) := by decide +kernel
theorem dX1_init_9 : decode cX1_init 9 = .ok (.invokespecial 11, 3) := by decide +kernel
theorem dX1_init_12 : decode cX1_init 12 = .ok (.putfield 12, 3) := by decide +kernel
theorem dX1_init_15 : decode cX1_init 15 = .ok (.aload_n 0, 1) := by decide +kernel
theorem dX1_init_16 : decode cX1_init 16 = .ok (.iconst 4, 1) := by decide +kernel
theorem dX1_init_17 : decode cX1_init 17 = .ok (.newarray .int, 2) := by decide +kernel
theorem dX1_init_19 : decode cX1_init 19 = .ok (.dup, 1) := by decide +kernel
theorem dX1_init_20 : decode cX1_init 20 = .ok (.iconst 0, 1) := by decide +kernel
theorem dX1_init_21 : decode cX1_init 21 = .ok (.iconst 2, 1) := by decide +kernel
theorem dX1_init_22 : decode cX1_init 22 = .ok (.iastore, 1) := by decide +kernel
theorem dX1_init_23 : decode cX1_init 23 = .ok (.dup, 1) := by decide +kernel
theorem dX1_init_24 : decode cX1_init 24 = .ok (.iconst 1, 1) := by decide +kernel
theorem dX1_init_25 : decode cX1_init 25 = .ok (.iconst 1, 1) := by decide +kernel
theorem dX1_init_26 : decode cX1_init 26 = .ok (.iastore, 1) := by decide +kernel
theorem dX1_init_27 : decode cX1_init 27 = .ok (.dup, 1) := by decide +kernel
theorem dX1_init_28 : decode cX1_init 28 = .ok (.iconst 2, 1) := by decide +kernel
theorem dX1_init_29 : decode cX1_init 29 = .ok (.iconst 5, 1) := by decide +kernel
theorem dX1_init_30 : decode cX1_init 30 = .ok (.iastore, 1) := by decide +kernel
theorem dX1_init_31 : decode cX1_init 31 = .ok (.dup, 1) := by decide +kernel
theorem dX1_init_32 : decode cX1_init 32 = .ok (.iconst 3, 1) := by decide +kernel
theorem dX1_init_33 : decode cX1_init 33 = .ok (.iconst 1, 1) := by decide +kernel
theorem dX1_init_34 : decode cX1_init 34 = .ok (.iastore, 1) := by decide +kernel
theorem dX1_init_35 : decode cX1_init 35 = .ok (.putfield 18, 3) := by decide +kernel
theorem dX1_init_38 : decode cX1_init 38 = .ok (.aload_n 0, 1) := by decide +kernel
theorem dX1_init_39 : decode cX1_init 39 = .ok (.bipush 61, 2) := by decide +kernel
theorem dX1_init_41 : decode cX1_init 41 = .ok (.newarray .int, 2) := by decide +kernel
theorem dX1_init_43 : decode cX1_init 43 = .ok (.putfield 22, 3) := by decide +kernel
theorem dX1_init_46 : decode cX1_init 46 = .ok (.aload_n 0, 1) := by decide +kernel
theorem dX1_init_47 : decode cX1_init 47 = .ok (.bipush 61, 2) := by decide +kernel
theorem dX1_init_49 : decode cX1_init 49 = .ok (.newarray .int, 2) := by decide +kernel
theorem dX1_init_51 : decode cX1_init 51 = .ok (.putfield 25, 3) := by decide +kernel
theorem dX1_init_54 : decode cX1_init 54 = .ok (.aload_n 0, 1) := by decide +kernel
theorem dX1_init_55 : decode cX1_init 55 = .ok (.bipush 6, 2) := by decide +kernel
theorem dX1_init_57 : decode cX1_init 57 = .ok (.newarray .int, 2) := by decide +kernel
theorem dX1_init_59 : decode cX1_init 59 = .ok (.putfield 28, 3) := by decide +kernel
theorem dX1_init_62 : decode cX1_init 62 = .ok (.aload_n 0, 1) := by decide +kernel
theorem dX1_init_63 : decode cX1_init 63 = .ok (.iconst 0, 1) := by decide +kernel
theorem dX1_init_64 : decode cX1_init 64 = .ok (.putfield 31, 3) := by decide +kernel
theorem dX1_init_67 : decode cX1_init 67 = .ok (.aload_n 0, 1) := by decide +kernel
theorem dX1_init_68 : decode cX1_init 68 = .ok (.iconst 0, 1) := by decide +kernel
theorem dX1_init_69 : decode cX1_init 69 = .ok (.putfield 35, 3) := by decide +kernel
theorem dX1_init_72 : decode cX1_init 72 = .ok (.aload_n 0, 1) := by decide +kernel
theorem dX1_init_73 : decode cX1_init 73 = .ok (.iconst 0, 1) := by decide +kernel
theorem dX1_init_74 : decode cX1_init 74 = .ok (.putfield 38, 3) := by decide +kernel
theorem dX1_init_77 : decode cX1_init 77 = .ok (.aload_n 0, 1) := by decide +kernel
theorem dX1_init_78 : decode cX1_init 78 = .ok (.iconst 0, 1) := by decide +kernel
theorem dX1_init_79 : decode cX1_init 79 = .ok (.putfield 41, 3) := by decide +kernel
theorem dX1_init_82 : decode cX1_init 82 = .ok (.return_, 1) := by decide +kernel
theorem dX1_slotsOn_0 : decode cX1_slotsOn 0 = .ok (.iload_n 1, 1) := by decide +kernel
theorem dX1_slotsOn_1 : decode cX1_slotsOn 1 = .ok (.ifCond .lt 9, 3) := by decide +kernel
theorem dX1_slotsOn_4 : decode cX1_slotsOn 4 = .ok (.iload_n 1, 1) := by decide +kernel
theorem dX1_slotsOn_5 : decode cX1_slotsOn 5 = .ok (.bipush 60, 2) := by decide +kernel
theorem dX1_slotsOn_7 : decode cX1_slotsOn 7 = .ok (.if_icmp .le 10, 3) := by decide +kernel
theorem dX1_slotsOn_10 : decode cX1_slotsOn 10 = .ok (.aload_n 0, 1) := by decide +kernel
theorem dX1_slotsOn_11 : decode cX1_slotsOn 11 = .ok (.getfield 18, 3) := by decide +kernel
theorem dX1_slotsOn_14 : decode cX1_slotsOn 14 = .ok (.iconst 0, 1) := by decide +kernel
theorem dX1_slotsOn_15 : decode cX1_slotsOn 15 = .ok (.iaload, 1) := by decide +kernel
theorem dX1_slotsOn_16 : decode cX1_slotsOn 16 = .ok (.ireturn, 1) := by decide +kernel
theorem dX1_slotsOn_17 : decode cX1_slotsOn 17 = .ok (.iconst 0, 1) := by decide +kernel
theorem dX1_slotsOn_18 : decode cX1_slotsOn 18 = .ok (.aload_n 0, 1) := by decide +kernel
theorem dX1_slotsOn_19 : decode cX1_slotsOn 19 = .ok (.getfield 18, 3) := by decide +kernel
theorem dX1_slotsOn_22 : decode cX1_slotsOn 22 = .ok (.iconst 0, 1) := by decide +kernel
theorem dX1_slotsOn_23 : decode cX1_slotsOn 23 = .ok (.iaload, 1) := by decide +kernel
theorem dX1_slotsOn_24 : decode cX1_slotsOn 24 = .ok (.aload_n 0, 1) := by decide +kernel
theorem dX1_slotsOn_25 : decode cX1_slotsOn 25 = .ok (.getfield 22, 3) := by decide +kernel
theorem dX1_slotsOn_28 : decode cX1_slotsOn 28 = .ok (.iload_n 1, 1) := by decide +kernel
theorem dX1_slotsOn_29 : decode cX1_slotsOn 29 = .ok (.iaload, 1) := by decide +kernel
theorem dX1_slotsOn_30 : decode cX1_slotsOn 30 = .ok (.isub, 1) := by decide +kernel
theorem dX1_slotsOn_31 : decode cX1_slotsOn 31 = .ok (.invokestatic 44, 3) := by decide +kernel
theorem dX1_slotsOn_34 : decode cX1_slotsOn 34 = .ok (.aload_n 0, 1) := by decide +kernel
theorem dX1_slotsOn_35 : decode cX1_slotsOn 35 = .ok (.getfield 25, 3) := by decide +kernel
theorem dX1_slotsOn_38 : decode cX1_slotsOn 38 = .ok (.iload_n 1, 1) := by decide +kernel
theorem dX1_slotsOn_39 : decode cX1_slotsOn 39 = .ok (.iaload, 1) := by decide +kernel
theorem dX1_slotsOn_40 : decode cX1_slotsOn 40 = .ok (.iadd, 1) := by decide +kernel
theorem dX1_slotsOn_41 : decode cX1_slotsOn 41 = .ok (.ireturn, 1) := by decide +kernel
theorem dX1_begin_0 : decode cX1_begin 0 = .ok (.aload_n 0, 1) := by decide +kernel
theorem dX1_begin_1 : decode cX1_begin 1 = .ok (.getfield 12, 3) := by decide +kernel
theorem dX1_begin_4 : decode cX1_begin 4 = .ok (.aload_n 1, 1) := by decide +kernel
theorem dX1_begin_5 : decode cX1_begin 5 = .ok (.invokevirtual 50, 3) := by decide +kernel
theorem dX1_begin_8 : decode cX1_begin 8 = .ok (.iconst 0, 1) := by decide +kernel
theorem dX1_begin_9 : decode cX1_begin 9 = .ok (.istore_n 3, 1) := by decide +kernel
theorem dX1_begin_10 : decode cX1_begin 10 = .ok (.iload_n 3, 1) := by decide +kernel
theorem dX1_begin_11 : decode cX1_begin 11 = .ok (.bipush 6, 2) := by decide +kernel
theorem dX1_begin_13 : decode cX1_begin 13 = .ok (.if_icmp .ge 16, 3) := by decide +kernel
theorem dX1_begin_16 : decode cX1_begin 16 = .ok (.aload_n 0, 1) := by decide +kernel
theorem dX1_begin_17 : decode cX1_begin 17 = .ok (.getfield 28, 3) := by decide +kernel
theorem dX1_begin_20 : decode cX1_begin 20 = .ok (.iload_n 3, 1) := by decide +kernel
theorem dX1_begin_21 : decode cX1_begin 21 = .ok (.iload_n 3, 1) := by decide +kernel
theorem dX1_begin_22 : decode cX1_begin 22 = .ok (.iastore, 1) := by decide +kernel
theorem dX1_begin_23 : decode cX1_begin 23 = .ok (.iinc 3 1, 3) := by decide +kernel
theorem dX1_begin_26 : decode cX1_begin 26 = .ok (.goto (-16), 3) := by decide +kernel
theorem dX1_begin_29 : decode cX1_begin 29 = .ok (.iconst 0, 1) := by decide +kernel
theorem dX1_begin_30 : decode cX1_begin 30 = .ok (.istore_n 3, 1) := by decide +kernel
theorem dX1_begin_31 : decode cX1_begin 31 = .ok (.iload_n 3, 1) := by decide +kernel
theorem dX1_begin_32 : decode cX1_begin 32 = .ok (.iconst 4, 1) := by decide +kernel
theorem dX1_begin_33 : decode cX1_begin 33 = .ok (.if_icmp .ge 30, 3) := by decide +kernel
theorem dX1_begin_36 : decode cX1_begin 36 = .ok (.iload_n 3, 1) := by decide +kernel
theorem dX1_begin_37 : decode cX1_begin 37 = .ok (.aload_n 2, 1) := by decide +kernel
theorem dX1_begin_38 : decode cX1_begin 38 = .ok (.arraylength, 1) := by decide +kernel
theorem dX1_begin_39 : decode cX1_begin 39 = .ok (.if_icmp .ge 24, 3) := by decide +kernel
theorem dX1_begin_42 : decode cX1_begin 42 = .ok (.aload_n 2, 1) := by decide +kernel
theorem dX1_begin_43 : decode cX1_begin 43 = .ok (.iload_n 3, 1) := by decide +kernel
theorem dX1_begin_44 : decode cX1_begin 44 = .ok (.iaload, 1) := by decide +kernel
theorem dX1_begin_45 : decode cX1_begin 45 = .ok (.ifCond .lt 12, 3) := by decide +kernel
theorem dX1_begin_48 : decode cX1_begin 48 = .ok (.aload_n 0, 1) := by decide +kernel
theorem dX1_begin_49 : decode cX1_begin 49 = .ok (.getfield 18, 3) := by decide +kernel
theorem dX1_begin_52 : decode cX1_begin 52 = .ok (.iload_n 3, 1) := by decide +kernel
theorem dX1_begin_53 : decode cX1_begin 53 = .ok (.aload_n 2, 1) := by decide +kernel
theorem dX1_begin_54 : decode cX1_begin 54 = .ok (.iload_n 3, 1) := by decide +kernel
theorem dX1_begin_55 : decode cX1_begin 55 = .ok (.iaload, 1) := by decide +kernel
theorem dX1_begin_56 : decode cX1_begin 56 = .ok (.iastore, 1) := by decide +kernel
theorem dX1_begin_57 : decode cX1_begin 57 = .ok (.iinc 3 1, 3) := by decide +kernel
theorem dX1_begin_60 : decode cX1_begin 60 = .ok (.goto (-29), 3) := by decide +kernel
theorem dX1_begin_63 : decode cX1_begin 63 = .ok (.iconst 0, 1) := by decide +kernel
theorem dX1_begin_64 : decode cX1_begin 64 = .ok (.istore_n 3, 1) := by decide +kernel
theorem dX1_begin_65 : decode cX1_begin 65 = .ok (.iload_n 3, 1) := by decide +kernel
theorem dX1_begin_66 : decode cX1_begin 66 = .ok (.bipush 60, 2) := by decide +kernel
theorem dX1_begin_68 : decode cX1_begin 68 = .ok (.if_icmp .gt 23, 3) := by decide +kernel
theorem dX1_begin_71 : decode cX1_begin 71 = .ok (.aload_n 0, 1) := by decide +kernel
theorem dX1_begin_72 : decode cX1_begin 72 = .ok (.getfield 22, 3) := by decide +kernel
theorem dX1_begin_75 : decode cX1_begin 75 = .ok (.iload_n 3, 1) := by decide +kernel
theorem dX1_begin_76 : decode cX1_begin 76 = .ok (.iconst 0, 1) := by decide +kernel
theorem dX1_begin_77 : decode cX1_begin 77 = .ok (.iastore, 1) := by decide +kernel
theorem dX1_begin_78 : decode cX1_begin 78 = .ok (.aload_n 0, 1) := by decide +kernel
theorem dX1_begin_79 : decode cX1_begin 79 = .ok (.getfield 25, 3) := by decide +kernel
theorem dX1_begin_82 : decode cX1_begin 82 = .ok (.iload_n 3, 1) := by decide +kernel
theorem dX1_begin_83 : decode cX1_begin 83 = .ok (.iconst 0, 1) := by decide +kernel
theorem dX1_begin_84 : decode cX1_begin 84 = .ok (.iastore, 1) := by decide +kernel
theorem dX1_begin_85 : decode cX1_begin 85 = .ok (.iinc 3 1, 3) := by decide +kernel
theorem dX1_begin_88 : decode cX1_begin 88 = .ok (.goto (-23), 3) := by decide +kernel
theorem dX1_begin_91 : decode cX1_begin 91 = .ok (.aload_n 0, 1) := by decide +kernel
theorem dX1_begin_92 : decode cX1_begin 92 = .ok (.iconst 0, 1) := by decide +kernel
theorem dX1_begin_93 : decode cX1_begin 93 = .ok (.putfield 31, 3) := by decide +kernel
theorem dX1_begin_96 : decode cX1_begin 96 = .ok (.aload_n 0, 1) := by decide +kernel
theorem dX1_begin_97 : decode cX1_begin 97 = .ok (.iconst 0, 1) := by decide +kernel
theorem dX1_begin_98 : decode cX1_begin 98 = .ok (.putfield 35, 3) := by decide +kernel
theorem dX1_begin_101 : decode cX1_begin 101 = .ok (.aload_n 0, 1) := by decide +kernel
theorem dX1_begin_102 : decode cX1_begin 102 = .ok (.iconst 0, 1) := by decide +kernel
theorem dX1_begin_103 : decode cX1_begin 103 = .ok (.putfield 38, 3) := by decide +kernel
theorem dX1_begin_106 : decode cX1_begin 106 = .ok (.aload_n 0, 1) := by decide +kernel
theorem dX1_begin_107 : decode cX1_begin 107 = .ok (.iconst 0, 1) := by decide +kernel
theorem dX1_begin_108 : decode cX1_begin 108 = .ok (.putfield 41, 3) := by decide +kernel
theorem dX1_begin_111 : decode cX1_begin 111 = .ok (.return_, 1) := by decide +kernel
theorem dX1_come_0 : decode cX1_come 0 = .ok (.aload_n 0, 1) := by decide +kernel
theorem dX1_come_1 : decode cX1_come 1 = .ok (.getfield 12, 3) := by decide +kernel
theorem dX1_come_4 : decode cX1_come 4 = .ok (.getfield 54, 3) := by decide +kernel
theorem dX1_come_7 : decode cX1_come 7 = .ok (.bipush 6, 2) := by decide +kernel
theorem dX1_come_9 : decode cX1_come 9 = .ok (.if_icmp .lt 6, 3) := by decide +kernel
theorem dX1_come_12 : decode cX1_come 12 = .ok (.bipush (-2), 2) := by decide +kernel
theorem dX1_come_14 : decode cX1_come 14 = .ok (.ireturn, 1) := by decide +kernel
theorem dX1_come_15 : decode cX1_come 15 = .ok (.aload_n 0, 1) := by decide +kernel
theorem dX1_come_16 : decode cX1_come 16 = .ok (.getfield 28, 3) := by decide +kernel
theorem dX1_come_19 : decode cX1_come 19 = .ok (.aload_n 0, 1) := by decide +kernel
theorem dX1_come_20 : decode cX1_come 20 = .ok (.getfield 12, 3) := by decide +kernel
theorem dX1_come_23 : decode cX1_come 23 = .ok (.getfield 54, 3) := by decide +kernel
theorem dX1_come_26 : decode cX1_come 26 = .ok (.aload_n 0, 1) := by decide +kernel
theorem dX1_come_27 : decode cX1_come 27 = .ok (.getfield 12, 3) := by decide +kernel
theorem dX1_come_30 : decode cX1_come 30 = .ok (.getfield 54, 3) := by decide +kernel
theorem dX1_come_33 : decode cX1_come 33 = .ok (.iastore, 1) := by decide +kernel
theorem dX1_come_34 : decode cX1_come 34 = .ok (.aload_n 0, 1) := by decide +kernel
theorem dX1_come_35 : decode cX1_come 35 = .ok (.getfield 12, 3) := by decide +kernel
theorem dX1_come_38 : decode cX1_come 38 = .ok (.iload_n 1, 1) := by decide +kernel
theorem dX1_come_39 : decode cX1_come 39 = .ok (.iload_n 2, 1) := by decide +kernel
theorem dX1_come_40 : decode cX1_come 40 = .ok (.iload_n 3, 1) := by decide +kernel
theorem dX1_come_41 : decode cX1_come 41 = .ok (.iload 4, 2) := by decide +kernel
theorem dX1_come_43 : decode cX1_come 43 = .ok (.iload 5, 2) := by decide +kernel
theorem dX1_come_45 : decode cX1_come 45 = .ok (.invokevirtual 57, 3) := by decide +kernel
theorem dX1_come_48 : decode cX1_come 48 = .ok (.aload_n 0, 1) := by decide +kernel
theorem dX1_come_49 : decode cX1_come 49 = .ok (.getfield 12, 3) := by decide +kernel
theorem dX1_come_52 : decode cX1_come 52 = .ok (.getfield 54, 3) := by decide +kernel
theorem dX1_come_55 : decode cX1_come 55 = .ok (.iconst 1, 1) := by decide +kernel
theorem dX1_come_56 : decode cX1_come 56 = .ok (.isub, 1) := by decide +kernel
theorem dX1_come_57 : decode cX1_come 57 = .ok (.ireturn, 1) := by decide +kernel
theorem dX1_leave_0 : decode cX1_leave 0 = .ok (.iconst 0, 1) := by decide +kernel
theorem dX1_leave_1 : decode cX1_leave 1 = .ok (.istore_n 2, 1) := by decide +kernel
theorem dX1_leave_2 : decode cX1_leave 2 = .ok (.iconst 0, 1) := by decide +kernel
theorem dX1_leave_3 : decode cX1_leave 3 = .ok (.istore_n 3, 1) := by decide +kernel
theorem dX1_leave_4 : decode cX1_leave 4 = .ok (.iload_n 3, 1) := by decide +kernel
theorem dX1_leave_5 : decode cX1_leave 5 = .ok (.aload_n 0, 1) := by decide +kernel
theorem dX1_leave_6 : decode cX1_leave 6 = .ok (.getfield 12, 3) := by decide +kernel
theorem dX1_leave_9 : decode cX1_leave 9 = .ok (.getfield 54, 3) := by decide +kernel
theorem dX1_leave_12 : decode cX1_leave 12 = .ok (.if_icmp .ge 50, 3) := by decide +kernel
theorem dX1_leave_15 : decode cX1_leave 15 = .ok (.aload_n 0, 1) := by decide +kernel
theorem dX1_leave_16 : decode cX1_leave 16 = .ok (.getfield 28, 3) := by decide +kernel
theorem dX1_leave_19 : decode cX1_leave 19 = .ok (.iload_n 3, 1) := by decide +kernel
theorem dX1_leave_20 : decode cX1_leave 20 = .ok (.iaload, 1) := by decide +kernel
theorem dX1_leave_21 : decode cX1_leave 21 = .ok (.istore 4, 2) := by decide +kernel
theorem dX1_leave_23 : decode cX1_leave 23 = .ok (.iload 4, 2) := by decide +kernel
theorem dX1_leave_25 : decode cX1_leave 25 = .ok (.iload_n 1, 1) := by decide +kernel
theorem dX1_leave_26 : decode cX1_leave 26 = .ok (.if_icmp .ne 6, 3) := by decide +kernel
theorem dX1_leave_29 : decode cX1_leave 29 = .ok (.goto 27, 3) := by decide +kernel
theorem dX1_leave_32 : decode cX1_leave 32 = .ok (.aload_n 0, 1) := by decide +kernel
theorem dX1_leave_33 : decode cX1_leave 33 = .ok (.getfield 28, 3) := by decide +kernel
theorem dX1_leave_36 : decode cX1_leave 36 = .ok (.iload_n 2, 1) := by decide +kernel
theorem dX1_leave_37 : decode cX1_leave 37 = .ok (.iload 4, 2) := by decide +kernel
theorem dX1_leave_39 : decode cX1_leave 39 = .ok (.iload_n 1, 1) := by decide +kernel
theorem dX1_leave_40 : decode cX1_leave 40 = .ok (.if_icmp .le 10, 3) := by decide +kernel
theorem dX1_leave_43 : decode cX1_leave 43 = .ok (.iload 4, 2) := by decide +kernel
theorem dX1_leave_45 : decode cX1_leave 45 = .ok (.iconst 1, 1) := by decide +kernel
theorem dX1_leave_46 : decode cX1_leave 46 = .ok (.isub, 1) := by decide +kernel
theorem dX1_leave_47 : decode cX1_leave 47 = .ok (.goto 5, 3) := by decide +kernel
theorem dX1_leave_50 : decode cX1_leave 50 = .ok (.iload 4, 2) := by decide +kernel
theorem dX1_leave_52 : decode cX1_leave 52 = .ok (.iastore, 1) := by decide +kernel
theorem dX1_leave_53 : decode cX1_leave 53 = .ok (.iinc 2 1, 3) := by decide +kernel
theorem dX1_leave_56 : decode cX1_leave 56 = .ok (.iinc 3 1, 3) := by decide +kernel
theorem dX1_leave_59 : decode cX1_leave 59 = .ok (.goto (-55), 3) := by decide +kernel
theorem dX1_leave_62 : decode cX1_leave 62 = .ok (.aload_n 0, 1) := by decide +kernel
theorem dX1_leave_63 : decode cX1_leave 63 = .ok (.getfield 12, 3) := by decide +kernel
theorem dX1_leave_66 : decode cX1_leave 66 = .ok (.iload_n 1, 1) := by decide +kernel
theorem dX1_leave_67 : decode cX1_leave 67 = .ok (.invokevirtual 61, 3) := by decide +kernel
theorem dX1_leave_70 : decode cX1_leave 70 = .ok (.return_, 1) := by decide +kernel
theorem dX1_arrange_0 : decode cX1_arrange 0 = .ok (.iload_n 1, 1) := by decide +kernel
theorem dX1_arrange_1 : decode cX1_arrange 1 = .ok (.ifCond .lt 17, 3) := by decide +kernel
theorem dX1_arrange_4 : decode cX1_arrange 4 = .ok (.iload_n 1, 1) := by decide +kernel
theorem dX1_arrange_5 : decode cX1_arrange 5 = .ok (.iconst 3, 1) := by decide +kernel
theorem dX1_arrange_6 : decode cX1_arrange 6 = .ok (.aload_n 0, 1) := by decide +kernel
theorem dX1_arrange_7 : decode cX1_arrange 7 = .ok (.getfield 12, 3) := by decide +kernel
theorem dX1_arrange_10 : decode cX1_arrange 10 = .ok (.getfield 54, 3) := by decide +kernel
theorem dX1_arrange_13 : decode cX1_arrange 13 = .ok (.imul, 1) := by decide +kernel
theorem dX1_arrange_14 : decode cX1_arrange 14 = .ok (.ishr, 1) := by decide +kernel
theorem dX1_arrange_15 : decode cX1_arrange 15 = .ok (.ifCond .eq 5, 3) := by decide +kernel
theorem dX1_arrange_18 : decode cX1_arrange 18 = .ok (.iconst 0, 1) := by decide +kernel
theorem dX1_arrange_19 : decode cX1_arrange 19 = .ok (.ireturn, 1) := by decide +kernel
theorem dX1_arrange_20 : decode cX1_arrange 20 = .ok (.iconst 0, 1) := by decide +kernel
theorem dX1_arrange_21 : decode cX1_arrange 21 = .ok (.istore_n 2, 1) := by decide +kernel
theorem dX1_arrange_22 : decode cX1_arrange 22 = .ok (.iconst 0, 1) := by decide +kernel
theorem dX1_arrange_23 : decode cX1_arrange 23 = .ok (.istore_n 3, 1) := by decide +kernel
theorem dX1_arrange_24 : decode cX1_arrange 24 = .ok (.iload_n 3, 1) := by decide +kernel
theorem dX1_arrange_25 : decode cX1_arrange 25 = .ok (.aload_n 0, 1) := by decide +kernel
theorem dX1_arrange_26 : decode cX1_arrange 26 = .ok (.getfield 12, 3) := by decide +kernel
theorem dX1_arrange_29 : decode cX1_arrange 29 = .ok (.getfield 54, 3) := by decide +kernel
theorem dX1_arrange_32 : decode cX1_arrange 32 = .ok (.if_icmp .ge 22, 3) := by decide +kernel
theorem dX1_arrange_35 : decode cX1_arrange 35 = .ok (.iload_n 2, 1) := by decide +kernel
theorem dX1_arrange_36 : decode cX1_arrange 36 = .ok (.iconst 1, 1) := by decide +kernel
theorem dX1_arrange_37 : decode cX1_arrange 37 = .ok (.iload_n 1, 1) := by decide +kernel
theorem dX1_arrange_38 : decode cX1_arrange 38 = .ok (.iconst 3, 1) := by decide +kernel
theorem dX1_arrange_39 : decode cX1_arrange 39 = .ok (.iload_n 3, 1) := by decide +kernel
theorem dX1_arrange_40 : decode cX1_arrange 40 = .ok (.imul, 1) := by decide +kernel
theorem dX1_arrange_41 : decode cX1_arrange 41 = .ok (.ishr, 1) := by decide +kernel
theorem dX1_arrange_42 : decode cX1_arrange 42 = .ok (.bipush 7, 2) := by decide +kernel
theorem dX1_arrange_44 : decode cX1_arrange 44 = .ok (.iand, 1) := by decide +kernel
theorem dX1_arrange_45 : decode cX1_arrange 45 = .ok (.ishl, 1) := by decide +kernel
theorem dX1_arrange_46 : decode cX1_arrange 46 = .ok (.ior, 1) := by decide +kernel
theorem dX1_arrange_47 : decode cX1_arrange 47 = .ok (.istore_n 2, 1) := by decide +kernel
theorem dX1_arrange_48 : decode cX1_arrange 48 = .ok (.iinc 3 1, 3) := by decide +kernel
theorem dX1_arrange_51 : decode cX1_arrange 51 = .ok (.goto (-27), 3) := by decide +kernel
theorem dX1_arrange_54 : decode cX1_arrange 54 = .ok (.iload_n 2, 1) := by decide +kernel
theorem dX1_arrange_55 : decode cX1_arrange 55 = .ok (.iconst 1, 1) := by decide +kernel
theorem dX1_arrange_56 : decode cX1_arrange 56 = .ok (.aload_n 0, 1) := by decide +kernel
theorem dX1_arrange_57 : decode cX1_arrange 57 = .ok (.getfield 12, 3) := by decide +kernel
theorem dX1_arrange_60 : decode cX1_arrange 60 = .ok (.getfield 54, 3) := by decide +kernel
theorem dX1_arrange_63 : decode cX1_arrange 63 = .ok (.ishl, 1) := by decide +kernel
theorem dX1_arrange_64 : decode cX1_arrange 64 = .ok (.iconst 1, 1) := by decide +kernel
theorem dX1_arrange_65 : decode cX1_arrange 65 = .ok (.isub, 1) := by decide +kernel
theorem dX1_arrange_66 : decode cX1_arrange 66 = .ok (.if_icmp .eq 5, 3) := by decide +kernel
theorem dX1_arrange_69 : decode cX1_arrange 69 = .ok (.iconst 0, 1) := by decide +kernel
theorem dX1_arrange_70 : decode cX1_arrange 70 = .ok (.ireturn, 1) := by decide +kernel
theorem dX1_arrange_71 : decode cX1_arrange 71 = .ok (.iconst 0, 1) := by decide +kernel
theorem dX1_arrange_72 : decode cX1_arrange 72 = .ok (.istore_n 3, 1) := by decide +kernel
theorem dX1_arrange_73 : decode cX1_arrange 73 = .ok (.iload_n 3, 1) := by decide +kernel
theorem dX1_arrange_74 : decode cX1_arrange 74 = .ok (.aload_n 0, 1) := by decide +kernel
theorem dX1_arrange_75 : decode cX1_arrange 75 = .ok (.getfield 12, 3) := by decide +kernel
theorem dX1_arrange_78 : decode cX1_arrange 78 = .ok (.getfield 54, 3) := by decide +kernel
theorem dX1_arrange_81 : decode cX1_arrange 81 = .ok (.if_icmp .ge 23, 3) := by decide +kernel
theorem dX1_arrange_84 : decode cX1_arrange 84 = .ok (.aload_n 0, 1) := by decide +kernel
theorem dX1_arrange_85 : decode cX1_arrange 85 = .ok (.getfield 28, 3) := by decide +kernel
theorem dX1_arrange_88 : decode cX1_arrange 88 = .ok (.iload_n 3, 1) := by decide +kernel
theorem dX1_arrange_89 : decode cX1_arrange 89 = .ok (.iload_n 1, 1) := by decide +kernel
theorem dX1_arrange_90 : decode cX1_arrange 90 = .ok (.iconst 3, 1) := by decide +kernel
theorem dX1_arrange_91 : decode cX1_arrange 91 = .ok (.iload_n 3, 1) := by decide +kernel
theorem dX1_arrange_92 : decode cX1_arrange 92 = .ok (.imul, 1) := by decide +kernel
theorem dX1_arrange_93 : decode cX1_arrange 93 = .ok (.ishr, 1) := by decide +kernel
theorem dX1_arrange_94 : decode cX1_arrange 94 = .ok (.bipush 7, 2) := by decide +kernel
theorem dX1_arrange_96 : decode cX1_arrange 96 = .ok (.iand, 1) := by decide +kernel
theorem dX1_arrange_97 : decode cX1_arrange 97 = .ok (.iastore, 1) := by decide +kernel
theorem dX1_arrange_98 : decode cX1_arrange 98 = .ok (.iinc 3 1, 3) := by decide +kernel
theorem dX1_arrange_101 : decode cX1_arrange 101 = .ok (.goto (-28), 3) := by decide +kernel
theorem dX1_arrange_104 : decode cX1_arrange 104 = .ok (.iconst 1, 1) := by decide +kernel
theorem dX1_arrange_105 : decode cX1_arrange 105 = .ok (.ireturn, 1) := by decide +kernel
theorem dX1_workDay_0 : decode cX1_workDay 0 = .ok (.iconst 0, 1) := by decide +kernel
theorem dX1_workDay_1 : decode cX1_workDay 1 = .ok (.istore_n 1, 1) := by decide +kernel
theorem dX1_workDay_2 : decode cX1_workDay 2 = .ok (.aload_n 0, 1) := by decide +kernel
theorem dX1_workDay_3 : decode cX1_workDay 3 = .ok (.aload_n 0, 1) := by decide +kernel
theorem dX1_workDay_4 : decode cX1_workDay 4 = .ok (.getfield 31, 3) := by decide +kernel
theorem dX1_workDay_7 : decode cX1_workDay 7 = .ok (.invokevirtual 65, 3) := by decide +kernel
theorem dX1_workDay_10 : decode cX1_workDay 10 = .ok (.istore_n 2, 1) := by decide +kernel
theorem dX1_workDay_11 : decode cX1_workDay 11 = .ok (.iconst 0, 1) := by decide +kernel
theorem dX1_workDay_12 : decode cX1_workDay 12 = .ok (.istore_n 3, 1) := by decide +kernel
theorem dX1_workDay_13 : decode cX1_workDay 13 = .ok (.iload_n 3, 1) := by decide +kernel
theorem dX1_workDay_14 : decode cX1_workDay 14 = .ok (.iload_n 2, 1) := by decide +kernel
theorem dX1_workDay_15 : decode cX1_workDay 15 = .ok (.if_icmp .ge 35, 3) := by decide +kernel
theorem dX1_workDay_18 : decode cX1_workDay 18 = .ok (.aload_n 0, 1) := by decide +kernel
theorem dX1_workDay_19 : decode cX1_workDay 19 = .ok (.getfield 12, 3) := by decide +kernel
theorem dX1_workDay_22 : decode cX1_workDay 22 = .ok (.getfield 54, 3) := by decide +kernel
theorem dX1_workDay_25 : decode cX1_workDay 25 = .ok (.ifCond .le 25, 3) := by decide +kernel
theorem dX1_workDay_28 : decode cX1_workDay 28 = .ok (.aload_n 0, 1) := by decide +kernel
theorem dX1_workDay_29 : decode cX1_workDay 29 = .ok (.aload_n 0, 1) := by decide +kernel
theorem dX1_workDay_30 : decode cX1_workDay 30 = .ok (.getfield 28, 3) := by decide +kernel
theorem dX1_workDay_33 : decode cX1_workDay 33 = .ok (.iconst 0, 1) := by decide +kernel
theorem dX1_workDay_34 : decode cX1_workDay 34 = .ok (.iaload, 1) := by decide +kernel
theorem dX1_workDay_35 : decode cX1_workDay 35 = .ok (.invokevirtual 69, 3) := by decide +kernel
theorem dX1_workDay_38 : decode cX1_workDay 38 = .ok (.ifCond .eq 6, 3) := by decide +kernel
theorem dX1_workDay_41 : decode cX1_workDay 41 = .ok (.iinc 1 1, 3) := by decide +kernel
theorem dX1_workDay_44 : decode cX1_workDay 44 = .ok (.iinc 3 1, 3) := by decide +kernel
theorem dX1_workDay_47 : decode cX1_workDay 47 = .ok (.goto (-34), 3) := by decide +kernel
theorem dX1_workDay_50 : decode cX1_workDay 50 = .ok (.aload_n 0, 1) := by decide +kernel
theorem dX1_workDay_51 : decode cX1_workDay 51 = .ok (.dup, 1) := by decide +kernel
theorem dX1_workDay_52 : decode cX1_workDay 52 = .ok (.getfield 31, 3) := by decide +kernel
theorem dX1_workDay_55 : decode cX1_workDay 55 = .ok (.iconst 1, 1) := by decide +kernel
theorem dX1_workDay_56 : decode cX1_workDay 56 = .ok (.iadd, 1) := by decide +kernel
theorem dX1_workDay_57 : decode cX1_workDay 57 = .ok (.putfield 31, 3) := by decide +kernel
theorem dX1_workDay_60 : decode cX1_workDay 60 = .ok (.iload_n 1, 1) := by decide +kernel
theorem dX1_workDay_61 : decode cX1_workDay 61 = .ok (.ireturn, 1) := by decide +kernel
theorem dX1_workSlot_0 : decode cX1_workSlot 0 = .ok (.aload_n 0, 1) := by decide +kernel
theorem dX1_workSlot_1 : decode cX1_workSlot 1 = .ok (.getfield 12, 3) := by decide +kernel
theorem dX1_workSlot_4 : decode cX1_workSlot 4 = .ok (.iload_n 1, 1) := by decide +kernel
theorem dX1_workSlot_5 : decode cX1_workSlot 5 = .ok (.invokevirtual 73, 3) := by decide +kernel
theorem dX1_workSlot_8 : decode cX1_workSlot 8 = .ok (.ifCond .ne 5, 3) := by decide +kernel
theorem dX1_workSlot_11 : decode cX1_workSlot 11 = .ok (.iconst 0, 1) := by decide +kernel
theorem dX1_workSlot_12 : decode cX1_workSlot 12 = .ok (.ireturn, 1) := by decide +kernel
theorem dX1_workSlot_13 : decode cX1_workSlot 13 = .ok (.aload_n 0, 1) := by decide +kernel
theorem dX1_workSlot_14 : decode cX1_workSlot 14 = .ok (.getfield 12, 3) := by decide +kernel
theorem dX1_workSlot_17 : decode cX1_workSlot 17 = .ok (.getfield 76, 3) := by decide +kernel
theorem dX1_workSlot_20 : decode cX1_workSlot 20 = .ok (.iload_n 1, 1) := by decide +kernel
theorem dX1_workSlot_21 : decode cX1_workSlot 21 = .ok (.iaload, 1) := by decide +kernel
theorem dX1_workSlot_22 : decode cX1_workSlot 22 = .ok (.aload_n 0, 1) := by decide +kernel
theorem dX1_workSlot_23 : decode cX1_workSlot 23 = .ok (.getfield 35, 3) := by decide +kernel
theorem dX1_workSlot_26 : decode cX1_workSlot 26 = .ok (.if_icmp .eq 26, 3) := by decide +kernel
theorem dX1_workSlot_29 : decode cX1_workSlot 29 = .ok (.aload_n 0, 1) := by decide +kernel
theorem dX1_workSlot_30 : decode cX1_workSlot 30 = .ok (.aload_n 0, 1) := by decide +kernel
theorem dX1_workSlot_31 : decode cX1_workSlot 31 = .ok (.getfield 12, 3) := by decide +kernel
theorem dX1_workSlot_34 : decode cX1_workSlot 34 = .ok (.getfield 76, 3) := by decide +kernel
theorem dX1_workSlot_37 : decode cX1_workSlot 37 = .ok (.iload_n 1, 1) := by decide +kernel
theorem dX1_workSlot_38 : decode cX1_workSlot 38 = .ok (.iaload, 1) := by decide +kernel
theorem dX1_workSlot_39 : decode cX1_workSlot 39 = .ok (.putfield 35, 3) := by decide +kernel
theorem dX1_workSlot_42 : decode cX1_workSlot 42 = .ok (.aload_n 0, 1) := by decide +kernel
theorem dX1_workSlot_43 : decode cX1_workSlot 43 = .ok (.aload_n 0, 1) := by decide +kernel
theorem dX1_workSlot_44 : decode cX1_workSlot 44 = .ok (.getfield 18, 3) := by decide +kernel
theorem dX1_workSlot_47 : decode cX1_workSlot 47 = .ok (.iconst 1, 1) := by decide +kernel
theorem dX1_workSlot_48 : decode cX1_workSlot 48 = .ok (.iaload, 1) := by decide +kernel
theorem dX1_workSlot_49 : decode cX1_workSlot 49 = .ok (.putfield 38, 3) := by decide +kernel
theorem dX1_workSlot_52 : decode cX1_workSlot 52 = .ok (.aload_n 0, 1) := by decide +kernel
theorem dX1_workSlot_53 : decode cX1_workSlot 53 = .ok (.getfield 38, 3) := by decide +kernel
theorem dX1_workSlot_56 : decode cX1_workSlot 56 = .ok (.ifCond .le 15, 3) := by decide +kernel
theorem dX1_workSlot_59 : decode cX1_workSlot 59 = .ok (.aload_n 0, 1) := by decide +kernel
theorem dX1_workSlot_60 : decode cX1_workSlot 60 = .ok (.dup, 1) := by decide +kernel
theorem dX1_workSlot_61 : decode cX1_workSlot 61 = .ok (.getfield 38, 3) := by decide +kernel
theorem dX1_workSlot_64 : decode cX1_workSlot 64 = .ok (.iconst 1, 1) := by decide +kernel
theorem dX1_workSlot_65 : decode cX1_workSlot 65 = .ok (.isub, 1) := by decide +kernel
theorem dX1_workSlot_66 : decode cX1_workSlot 66 = .ok (.putfield 38, 3) := by decide +kernel
theorem dX1_workSlot_69 : decode cX1_workSlot 69 = .ok (.iconst 0, 1) := by decide +kernel
theorem dX1_workSlot_70 : decode cX1_workSlot 70 = .ok (.ireturn, 1) := by decide +kernel
theorem dX1_workSlot_71 : decode cX1_workSlot 71 = .ok (.aload_n 0, 1) := by decide +kernel
theorem dX1_workSlot_72 : decode cX1_workSlot 72 = .ok (.getfield 12, 3) := by decide +kernel
theorem dX1_workSlot_75 : decode cX1_workSlot 75 = .ok (.getfield 78, 3) := by decide +kernel
theorem dX1_workSlot_78 : decode cX1_workSlot 78 = .ok (.iload_n 1, 1) := by decide +kernel
theorem dX1_workSlot_79 : decode cX1_workSlot 79 = .ok (.dup2, 1) := by decide +kernel
theorem dX1_workSlot_80 : decode cX1_workSlot 80 = .ok (.iaload, 1) := by decide +kernel
theorem dX1_workSlot_81 : decode cX1_workSlot 81 = .ok (.iconst 1, 1) := by decide +kernel
theorem dX1_workSlot_82 : decode cX1_workSlot 82 = .ok (.isub, 1) := by decide +kernel
theorem dX1_workSlot_83 : decode cX1_workSlot 83 = .ok (.iastore, 1) := by decide +kernel
theorem dX1_workSlot_84 : decode cX1_workSlot 84 = .ok (.aload_n 0, 1) := by decide +kernel
theorem dX1_workSlot_85 : decode cX1_workSlot 85 = .ok (.getfield 12, 3) := by decide +kernel
theorem dX1_workSlot_88 : decode cX1_workSlot 88 = .ok (.getfield 78, 3) := by decide +kernel
theorem dX1_workSlot_91 : decode cX1_workSlot 91 = .ok (.iload_n 1, 1) := by decide +kernel
theorem dX1_workSlot_92 : decode cX1_workSlot 92 = .ok (.iaload, 1) := by decide +kernel
theorem dX1_workSlot_93 : decode cX1_workSlot 93 = .ok (.ifCond .le 5, 3) := by decide +kernel
theorem dX1_workSlot_96 : decode cX1_workSlot 96 = .ok (.iconst 0, 1) := by decide +kernel
theorem dX1_workSlot_97 : decode cX1_workSlot 97 = .ok (.ireturn, 1) := by decide +kernel
theorem dX1_workSlot_98 : decode cX1_workSlot 98 = .ok (.aload_n 0, 1) := by decide +kernel
theorem dX1_workSlot_99 : decode cX1_workSlot 99 = .ok (.dup, 1) := by decide +kernel
theorem dX1_workSlot_100 : decode cX1_workSlot 100 = .ok (.getfield 41, 3) := by decide +kernel
theorem dX1_workSlot_103 : decode cX1_workSlot 103 = .ok (.aload_n 0, 1) := by decide +kernel
theorem dX1_workSlot_104 : decode cX1_workSlot 104 = .ok (.getfield 12, 3) := by decide +kernel
theorem dX1_workSlot_107 : decode cX1_workSlot 107 = .ok (.iload_n 1, 1) := by decide +kernel
theorem dX1_workSlot_108 : decode cX1_workSlot 108 = .ok (.aload_n 0, 1) := by decide +kernel
theorem dX1_workSlot_109 : decode cX1_workSlot 109 = .ok (.getfield 31, 3) := by decide +kernel
theorem dX1_workSlot_112 : decode cX1_workSlot 112 = .ok (.aload_n 0, 1) := by decide +kernel
theorem dX1_workSlot_113 : decode cX1_workSlot 113 = .ok (.getfield 18, 3) := by decide +kernel
theorem dX1_workSlot_116 : decode cX1_workSlot 116 = .ok (.iconst 2, 1) := by decide +kernel
theorem dX1_workSlot_117 : decode cX1_workSlot 117 = .ok (.iaload, 1) := by decide +kernel
theorem dX1_workSlot_118 : decode cX1_workSlot 118 = .ok (.invokevirtual 81, 3) := by decide +kernel
theorem dX1_workSlot_121 : decode cX1_workSlot 121 = .ok (.iadd, 1) := by decide +kernel
theorem dX1_workSlot_122 : decode cX1_workSlot 122 = .ok (.putfield 41, 3) := by decide +kernel
theorem dX1_workSlot_125 : decode cX1_workSlot 125 = .ok (.aload_n 0, 1) := by decide +kernel
theorem dX1_workSlot_126 : decode cX1_workSlot 126 = .ok (.iload_n 1, 1) := by decide +kernel
theorem dX1_workSlot_127 : decode cX1_workSlot 127 = .ok (.invokevirtual 85, 3) := by decide +kernel
theorem dX1_workSlot_130 : decode cX1_workSlot 130 = .ok (.iconst 1, 1) := by decide +kernel
theorem dX1_workSlot_131 : decode cX1_workSlot 131 = .ok (.ireturn, 1) := by decide +kernel
theorem dX1_copy_0 : decode cX1_copy 0 = .ok (.aload_n 0, 1) := by decide +kernel
theorem dX1_copy_1 : decode cX1_copy 1 = .ok (.getfield 12, 3) := by decide +kernel
theorem dX1_copy_4 : decode cX1_copy 4 = .ok (.aload_n 1, 1) := by decide +kernel
theorem dX1_copy_5 : decode cX1_copy 5 = .ok (.getfield 12, 3) := by decide +kernel
theorem dX1_copy_8 : decode cX1_copy 8 = .ok (.invokevirtual 50, 3) := by decide +kernel
theorem dX1_copy_11 : decode cX1_copy 11 = .ok (.aload_n 1, 1) := by decide +kernel
theorem dX1_copy_12 : decode cX1_copy 12 = .ok (.getfield 18, 3) := by decide +kernel
theorem dX1_copy_15 : decode cX1_copy 15 = .ok (.iconst 0, 1) := by decide +kernel
theorem dX1_copy_16 : decode cX1_copy 16 = .ok (.aload_n 0, 1) := by decide +kernel
theorem dX1_copy_17 : decode cX1_copy 17 = .ok (.getfield 18, 3) := by decide +kernel
theorem dX1_copy_20 : decode cX1_copy 20 = .ok (.iconst 0, 1) := by decide +kernel
theorem dX1_copy_21 : decode cX1_copy 21 = .ok (.iconst 4, 1) := by decide +kernel
theorem dX1_copy_22 : decode cX1_copy 22 = .ok (.invokestatic 88, 3) := by decide +kernel
theorem dX1_copy_25 : decode cX1_copy 25 = .ok (.aload_n 1, 1) := by decide +kernel
theorem dX1_copy_26 : decode cX1_copy 26 = .ok (.getfield 22, 3) := by decide +kernel
theorem dX1_copy_29 : decode cX1_copy 29 = .ok (.iconst 0, 1) := by decide +kernel
theorem dX1_copy_30 : decode cX1_copy 30 = .ok (.aload_n 0, 1) := by decide +kernel
theorem dX1_copy_31 : decode cX1_copy 31 = .ok (.getfield 22, 3) := by decide +kernel
theorem dX1_copy_34 : decode cX1_copy 34 = .ok (.iconst 0, 1) := by decide +kernel
theorem dX1_copy_35 : decode cX1_copy 35 = .ok (.bipush 61, 2) := by decide +kernel
theorem dX1_copy_37 : decode cX1_copy 37 = .ok (.invokestatic 88, 3) := by decide +kernel
theorem dX1_copy_40 : decode cX1_copy 40 = .ok (.aload_n 1, 1) := by decide +kernel
theorem dX1_copy_41 : decode cX1_copy 41 = .ok (.getfield 25, 3) := by decide +kernel
theorem dX1_copy_44 : decode cX1_copy 44 = .ok (.iconst 0, 1) := by decide +kernel
theorem dX1_copy_45 : decode cX1_copy 45 = .ok (.aload_n 0, 1) := by decide +kernel
theorem dX1_copy_46 : decode cX1_copy 46 = .ok (.getfield 25, 3) := by decide +kernel
theorem dX1_copy_49 : decode cX1_copy 49 = .ok (.iconst 0, 1) := by decide +kernel
theorem dX1_copy_50 : decode cX1_copy 50 = .ok (.bipush 61, 2) := by decide +kernel
theorem dX1_copy_52 : decode cX1_copy 52 = .ok (.invokestatic 88, 3) := by decide +kernel
theorem dX1_copy_55 : decode cX1_copy 55 = .ok (.aload_n 1, 1) := by decide +kernel
theorem dX1_copy_56 : decode cX1_copy 56 = .ok (.getfield 28, 3) := by decide +kernel
theorem dX1_copy_59 : decode cX1_copy 59 = .ok (.iconst 0, 1) := by decide +kernel
theorem dX1_copy_60 : decode cX1_copy 60 = .ok (.aload_n 0, 1) := by decide +kernel
theorem dX1_copy_61 : decode cX1_copy 61 = .ok (.getfield 28, 3) := by decide +kernel
theorem dX1_copy_64 : decode cX1_copy 64 = .ok (.iconst 0, 1) := by decide +kernel
theorem dX1_copy_65 : decode cX1_copy 65 = .ok (.bipush 6, 2) := by decide +kernel
theorem dX1_copy_67 : decode cX1_copy 67 = .ok (.invokestatic 88, 3) := by decide +kernel
theorem dX1_copy_70 : decode cX1_copy 70 = .ok (.aload_n 0, 1) := by decide +kernel
theorem dX1_copy_71 : decode cX1_copy 71 = .ok (.aload_n 1, 1) := by decide +kernel
theorem dX1_copy_72 : decode cX1_copy 72 = .ok (.getfield 31, 3) := by decide +kernel
theorem dX1_copy_75 : decode cX1_copy 75 = .ok (.putfield 31, 3) := by decide +kernel
theorem dX1_copy_78 : decode cX1_copy 78 = .ok (.aload_n 0, 1) := by decide +kernel
theorem dX1_copy_79 : decode cX1_copy 79 = .ok (.aload_n 1, 1) := by decide +kernel
theorem dX1_copy_80 : decode cX1_copy 80 = .ok (.getfield 35, 3) := by decide +kernel
theorem dX1_copy_83 : decode cX1_copy 83 = .ok (.putfield 35, 3) := by decide +kernel
theorem dX1_copy_86 : decode cX1_copy 86 = .ok (.aload_n 0, 1) := by decide +kernel
theorem dX1_copy_87 : decode cX1_copy 87 = .ok (.aload_n 1, 1) := by decide +kernel
theorem dX1_copy_88 : decode cX1_copy 88 = .ok (.getfield 38, 3) := by decide +kernel
theorem dX1_copy_91 : decode cX1_copy 91 = .ok (.putfield 38, 3) := by decide +kernel
theorem dX1_copy_94 : decode cX1_copy 94 = .ok (.aload_n 0, 1) := by decide +kernel
theorem dX1_copy_95 : decode cX1_copy 95 = .ok (.aload_n 1, 1) := by decide +kernel
theorem dX1_copy_96 : decode cX1_copy 96 = .ok (.getfield 41, 3) := by decide +kernel
theorem dX1_copy_99 : decode cX1_copy 99 = .ok (.putfield 41, 3) := by decide +kernel
theorem dX1_copy_102 : decode cX1_copy 102 = .ok (.return_, 1) := by decide +kernel
theorem dX2_init_0 : decode cX2_init 0 = .ok (.aload_n 0, 1) := by decide +kernel
theorem dX2_init_1 : decode cX2_init 1 = .ok (.invokespecial 3, 3) := by decide +kernel
theorem dX2_init_4 : decode cX2_init 4 = .ok (.aload_n 0, 1) := by decide +kernel
theorem dX2_init_5 : decode cX2_init 5 = .ok (.sipush 128, 3) := by decide +kernel
theorem dX2_init_8 : decode cX2_init 8 = .ok (.newarray .int, 2) := by decide +kernel
theorem dX2_init_10 : decode cX2_init 10 = .ok (.putfield 11, 3) := by decide +kernel
theorem dX2_init_13 : decode cX2_init 13 = .ok (.aload_n 0, 1) := by decide +kernel
theorem dX2_init_14 : decode cX2_init 14 = .ok (.sipush 128, 3) := by decide +kernel
theorem dX2_init_17 : decode cX2_init 17 = .ok (.newarray .int, 2) := by decide +kernel
theorem dX2_init_19 : decode cX2_init 19 = .ok (.putfield 15, 3) := by decide +kernel
theorem dX2_init_22 : decode cX2_init 22 = .ok (.aload_n 0, 1) := by decide +kernel
theorem dX2_init_23 : decode cX2_init 23 = .ok (.bipush 7, 2) := by decide +kernel
theorem dX2_init_25 : decode cX2_init 25 = .ok (.newarray .int, 2) := by decide +kernel
theorem dX2_init_27 : decode cX2_init 27 = .ok (.putfield 18, 3) := by decide +kernel
theorem dX2_init_30 : decode cX2_init 30 = .ok (.aload_n 0, 1) := by decide +kernel
theorem dX2_init_31 : decode cX2_init 31 = .ok (.bipush 6, 2) := by decide +kernel
theorem dX2_init_33 : decode cX2_init 33 = .ok (.newarray .int, 2) := by decide +kernel
theorem dX2_init_35 : decode cX2_init 35 = .ok (.putfield 21, 3) := by decide +kernel
theorem dX2_init_38 : decode cX2_init 38 = .ok (.aload_n 0, 1) := by decide +kernel
theorem dX2_init_39 : decode cX2_init 39 = .ok (.bipush 6, 2) := by decide +kernel
theorem dX2_init_41 : decode cX2_init 41 = .ok (.newarray .int, 2) := by decide +kernel
theorem dX2_init_43 : decode cX2_init 43 = .ok (.putfield 24, 3) := by decide +kernel
theorem dX2_init_46 : decode cX2_init 46 = .ok (.aload_n 0, 1) := by decide +kernel
theorem dX2_init_47 : decode cX2_init 47 = .ok (.iconst 0, 1) := by decide +kernel
theorem dX2_init_48 : decode cX2_init 48 = .ok (.putfield 27, 3) := by decide +kernel
theorem dX2_init_51 : decode cX2_init 51 = .ok (.aload_n 0, 1) := by decide +kernel
theorem dX2_init_52 : decode cX2_init 52 = .ok (.iconst 0, 1) := by decide +kernel
theorem dX2_init_53 : decode cX2_init 53 = .ok (.putfield 31, 3) := by decide +kernel
theorem dX2_init_56 : decode cX2_init 56 = .ok (.aload_n 0, 1) := by decide +kernel
theorem dX2_init_57 : decode cX2_init 57 = .ok (.iconst 0, 1) := by decide +kernel
theorem dX2_init_58 : decode cX2_init 58 = .ok (.putfield 35, 3) := by decide +kernel
theorem dX2_init_61 : decode cX2_init 61 = .ok (.aload_n 0, 1) := by decide +kernel
theorem dX2_init_62 : decode cX2_init 62 = .ok (.aload_n 1, 1) := by decide +kernel
theorem dX2_init_63 : decode cX2_init 63 = .ok (.putfield 38, 3) := by decide +kernel
theorem dX2_init_66 : decode cX2_init 66 = .ok (.return_, 1) := by decide +kernel
theorem dX2_sureOf_0 : decode cX2_sureOf 0 = .ok (.aload_n 0, 1) := by decide +kernel
theorem dX2_sureOf_1 : decode cX2_sureOf 1 = .ok (.iconst 0, 1) := by decide +kernel
theorem dX2_sureOf_2 : decode cX2_sureOf 2 = .ok (.invokevirtual 42, 3) := by decide +kernel
theorem dX2_sureOf_5 : decode cX2_sureOf 5 = .ok (.iconst 1, 1) := by decide +kernel
theorem dX2_sureOf_6 : decode cX2_sureOf 6 = .ok (.istore_n 3, 1) := by decide +kernel
theorem dX2_sureOf_7 : decode cX2_sureOf 7 = .ok (.iconst 0, 1) := by decide +kernel
theorem dX2_sureOf_8 : decode cX2_sureOf 8 = .ok (.istore 4, 2) := by decide +kernel
theorem dX2_sureOf_10 : decode cX2_sureOf 10 = .ok (.iload 4, 2) := by decide +kernel
theorem dX2_sureOf_12 : decode cX2_sureOf 12 = .ok (.aload_n 1, 1) := by decide +kernel
theorem dX2_sureOf_13 : decode cX2_sureOf 13 = .ok (.getfield 46, 3) := by decide +kernel
theorem dX2_sureOf_16 : decode cX2_sureOf 16 = .ok (.if_icmp .ge 41, 3) := by decide +kernel
theorem dX2_sureOf_19 : decode cX2_sureOf 19 = .ok (.aload_n 0, 1) := by decide +kernel
theorem dX2_sureOf_20 : decode cX2_sureOf 20 = .ok (.aload_n 1, 1) := by decide +kernel
theorem dX2_sureOf_21 : decode cX2_sureOf 21 = .ok (.iload 4, 2) := by decide +kernel
theorem dX2_sureOf_23 : decode cX2_sureOf 23 = .ok (.iload 4, 2) := by decide +kernel
theorem dX2_sureOf_25 : decode cX2_sureOf 25 = .ok (.ifCond .ne 7, 3) := by decide +kernel
theorem dX2_sureOf_28 : decode cX2_sureOf 28 = .ok (.iconst 0, 1) := by decide +kernel
theorem dX2_sureOf_29 : decode cX2_sureOf 29 = .ok (.goto 14, 3) := by decide +kernel
theorem dX2_sureOf_32 : decode cX2_sureOf 32 = .ok (.aload_n 1, 1) := by decide +kernel
theorem dX2_sureOf_33 : decode cX2_sureOf 33 = .ok (.getfield 51, 3) := by decide +kernel
theorem dX2_sureOf_36 : decode cX2_sureOf 36 = .ok (.aload_n 2, 1) := by decide +kernel
theorem dX2_sureOf_37 : decode cX2_sureOf 37 = .ok (.iload 4, 2) := by decide +kernel
theorem dX2_sureOf_39 : decode cX2_sureOf 39 = .ok (.iconst 1, 1) := by decide +kernel
theorem dX2_sureOf_40 : decode cX2_sureOf 40 = .ok (.isub, 1) := by decide +kernel
theorem dX2_sureOf_41 : decode cX2_sureOf 41 = .ok (.iaload, 1) := by decide +kernel
theorem dX2_sureOf_42 : decode cX2_sureOf 42 = .ok (.iaload, 1) := by decide +kernel
theorem dX2_sureOf_43 : decode cX2_sureOf 43 = .ok (.aload_n 2, 1) := by decide +kernel
theorem dX2_sureOf_44 : decode cX2_sureOf 44 = .ok (.iload 4, 2) := by decide +kernel
theorem dX2_sureOf_46 : decode cX2_sureOf 46 = .ok (.iaload, 1) := by decide +kernel
theorem dX2_sureOf_47 : decode cX2_sureOf 47 = .ok (.invokevirtual 54, 3) := by decide +kernel
theorem dX2_sureOf_50 : decode cX2_sureOf 50 = .ok (.istore_n 3, 1) := by decide +kernel
theorem dX2_sureOf_51 : decode cX2_sureOf 51 = .ok (.iinc 4 1, 3) := by decide +kernel
theorem dX2_sureOf_54 : decode cX2_sureOf 54 = .ok (.goto (-44), 3) := by decide +kernel
theorem dX2_sureOf_57 : decode cX2_sureOf 57 = .ok (.iload_n 3, 1) := by decide +kernel
theorem dX2_sureOf_58 : decode cX2_sureOf 58 = .ok (.ireturn, 1) := by decide +kernel
theorem dX2_meanOf_0 : decode cX2_meanOf 0 = .ok (.aload_n 0, 1) := by decide +kernel
theorem dX2_meanOf_1 : decode cX2_meanOf 1 = .ok (.iconst 1, 1) := by decide +kernel
theorem dX2_meanOf_2 : decode cX2_meanOf 2 = .ok (.invokevirtual 42, 3) := by decide +kernel
theorem dX2_meanOf_5 : decode cX2_meanOf 5 = .ok (.iconst 0, 1) := by decide +kernel
theorem dX2_meanOf_6 : decode cX2_meanOf 6 = .ok (.istore_n 3, 1) := by decide +kernel
theorem dX2_meanOf_7 : decode cX2_meanOf 7 = .ok (.iconst 0, 1) := by decide +kernel
theorem dX2_meanOf_8 : decode cX2_meanOf 8 = .ok (.istore 4, 2) := by decide +kernel
theorem dX2_meanOf_10 : decode cX2_meanOf 10 = .ok (.iload 4, 2) := by decide +kernel
theorem dX2_meanOf_12 : decode cX2_meanOf 12 = .ok (.aload_n 1, 1) := by decide +kernel
theorem dX2_meanOf_13 : decode cX2_meanOf 13 = .ok (.getfield 46, 3) := by decide +kernel
theorem dX2_meanOf_16 : decode cX2_meanOf 16 = .ok (.if_icmp .ge 50, 3) := by decide +kernel
theorem dX2_meanOf_19 : decode cX2_meanOf 19 = .ok (.aload_n 0, 1) := by decide +kernel
theorem dX2_meanOf_20 : decode cX2_meanOf 20 = .ok (.aload_n 1, 1) := by decide +kernel
theorem dX2_meanOf_21 : decode cX2_meanOf 21 = .ok (.iload 4, 2) := by decide +kernel
theorem dX2_meanOf_23 : decode cX2_meanOf 23 = .ok (.iload 4, 2) := by decide +kernel
theorem dX2_meanOf_25 : decode cX2_meanOf 25 = .ok (.ifCond .ne 7, 3) := by decide +kernel
theorem dX2_meanOf_28 : decode cX2_meanOf 28 = .ok (.iconst 0, 1) := by decide +kernel
theorem dX2_meanOf_29 : decode cX2_meanOf 29 = .ok (.goto 14, 3) := by decide +kernel
theorem dX2_meanOf_32 : decode cX2_meanOf 32 = .ok (.aload_n 1, 1) := by decide +kernel
theorem dX2_meanOf_33 : decode cX2_meanOf 33 = .ok (.getfield 51, 3) := by decide +kernel
theorem dX2_meanOf_36 : decode cX2_meanOf 36 = .ok (.aload_n 2, 1) := by decide +kernel
theorem dX2_meanOf_37 : decode cX2_meanOf 37 = .ok (.iload 4, 2) := by decide +kernel
theorem dX2_meanOf_39 : decode cX2_meanOf 39 = .ok (.iconst 1, 1) := by decide +kernel
theorem dX2_meanOf_40 : decode cX2_meanOf 40 = .ok (.isub, 1) := by decide +kernel
theorem dX2_meanOf_41 : decode cX2_meanOf 41 = .ok (.iaload, 1) := by decide +kernel
theorem dX2_meanOf_42 : decode cX2_meanOf 42 = .ok (.iaload, 1) := by decide +kernel
theorem dX2_meanOf_43 : decode cX2_meanOf 43 = .ok (.aload_n 2, 1) := by decide +kernel
theorem dX2_meanOf_44 : decode cX2_meanOf 44 = .ok (.iload 4, 2) := by decide +kernel
theorem dX2_meanOf_46 : decode cX2_meanOf 46 = .ok (.iaload, 1) := by decide +kernel
theorem dX2_meanOf_47 : decode cX2_meanOf 47 = .ok (.invokevirtual 54, 3) := by decide +kernel
theorem dX2_meanOf_50 : decode cX2_meanOf 50 = .ok (.pop, 1) := by decide +kernel
theorem dX2_meanOf_51 : decode cX2_meanOf 51 = .ok (.iload_n 3, 1) := by decide +kernel
theorem dX2_meanOf_52 : decode cX2_meanOf 52 = .ok (.iconst 4, 1) := by decide +kernel
theorem dX2_meanOf_53 : decode cX2_meanOf 53 = .ok (.imul, 1) := by decide +kernel
theorem dX2_meanOf_54 : decode cX2_meanOf 54 = .ok (.aload_n 0, 1) := by decide +kernel
theorem dX2_meanOf_55 : decode cX2_meanOf 55 = .ok (.getfield 31, 3) := by decide +kernel
theorem dX2_meanOf_58 : decode cX2_meanOf 58 = .ok (.iadd, 1) := by decide +kernel
theorem dX2_meanOf_59 : decode cX2_meanOf 59 = .ok (.istore_n 3, 1) := by decide +kernel
theorem dX2_meanOf_60 : decode cX2_meanOf 60 = .ok (.iinc 4 1, 3) := by decide +kernel
theorem dX2_meanOf_63 : decode cX2_meanOf 63 = .ok (.goto (-53), 3) := by decide +kernel
theorem dX2_meanOf_66 : decode cX2_meanOf 66 = .ok (.iload_n 3, 1) := by decide +kernel
theorem dX2_meanOf_67 : decode cX2_meanOf 67 = .ok (.ireturn, 1) := by decide +kernel
theorem dX2_surest_0 : decode cX2_surest 0 = .ok (.aload_n 0, 1) := by decide +kernel
theorem dX2_surest_1 : decode cX2_surest 1 = .ok (.iconst 0, 1) := by decide +kernel
theorem dX2_surest_2 : decode cX2_surest 2 = .ok (.invokevirtual 42, 3) := by decide +kernel
theorem dX2_surest_5 : decode cX2_surest 5 = .ok (.aload_n 0, 1) := by decide +kernel
theorem dX2_surest_6 : decode cX2_surest 6 = .ok (.iconst (-1), 1) := by decide +kernel
theorem dX2_surest_7 : decode cX2_surest 7 = .ok (.putfield 35, 3) := by decide +kernel
theorem dX2_surest_10 : decode cX2_surest 10 = .ok (.aload_n 0, 1) := by decide +kernel
theorem dX2_surest_11 : decode cX2_surest 11 = .ok (.aload_n 1, 1) := by decide +kernel
theorem dX2_surest_12 : decode cX2_surest 12 = .ok (.iconst 0, 1) := by decide +kernel
theorem dX2_surest_13 : decode cX2_surest 13 = .ok (.iconst 0, 1) := by decide +kernel
theorem dX2_surest_14 : decode cX2_surest 14 = .ok (.iconst 0, 1) := by decide +kernel
theorem dX2_surest_15 : decode cX2_surest 15 = .ok (.iconst 1, 1) := by decide +kernel
theorem dX2_surest_16 : decode cX2_surest 16 = .ok (.invokevirtual 58, 3) := by decide +kernel
theorem dX2_surest_19 : decode cX2_surest 19 = .ok (.aload_n 0, 1) := by decide +kernel
theorem dX2_surest_20 : decode cX2_surest 20 = .ok (.getfield 35, 3) := by decide +kernel
theorem dX2_surest_23 : decode cX2_surest 23 = .ok (.ireturn, 1) := by decide +kernel
theorem dX2_begin_0 : decode cX2_begin 0 = .ok (.aload_n 0, 1) := by decide +kernel
theorem dX2_begin_1 : decode cX2_begin 1 = .ok (.iload_n 1, 1) := by decide +kernel
theorem dX2_begin_2 : decode cX2_begin 2 = .ok (.putfield 27, 3) := by decide +kernel
theorem dX2_begin_5 : decode cX2_begin 5 = .ok (.aload_n 0, 1) := by decide +kernel
theorem dX2_begin_6 : decode cX2_begin 6 = .ok (.getfield 11, 3) := by decide +kernel
theorem dX2_begin_9 : decode cX2_begin 9 = .ok (.iconst 1, 1) := by decide +kernel
theorem dX2_begin_10 : decode cX2_begin 10 = .ok (.iconst 0, 1) := by decide +kernel
theorem dX2_begin_11 : decode cX2_begin 11 = .ok (.iastore, 1) := by decide +kernel
theorem dX2_begin_12 : decode cX2_begin 12 = .ok (.aload_n 0, 1) := by decide +kernel
theorem dX2_begin_13 : decode cX2_begin 13 = .ok (.getfield 15, 3) := by decide +kernel
theorem dX2_begin_16 : decode cX2_begin 16 = .ok (.iconst 1, 1) := by decide +kernel
theorem dX2_begin_17 : decode cX2_begin 17 = .ok (.iconst 1, 1) := by decide +kernel
theorem dX2_begin_18 : decode cX2_begin 18 = .ok (.iastore, 1) := by decide +kernel
theorem dX2_begin_19 : decode cX2_begin 19 = .ok (.aload_n 0, 1) := by decide +kernel
theorem dX2_begin_20 : decode cX2_begin 20 = .ok (.getfield 18, 3) := by decide +kernel
theorem dX2_begin_23 : decode cX2_begin 23 = .ok (.iconst 0, 1) := by decide +kernel
theorem dX2_begin_24 : decode cX2_begin 24 = .ok (.iconst 1, 1) := by decide +kernel
theorem dX2_begin_25 : decode cX2_begin 25 = .ok (.iastore, 1) := by decide +kernel
theorem dX2_begin_26 : decode cX2_begin 26 = .ok (.return_, 1) := by decide +kernel
theorem dX2_walk_0 : decode cX2_walk 0 = .ok (.iload 5, 2) := by decide +kernel
theorem dX2_walk_2 : decode cX2_walk 2 = .ok (.iconst 2, 1) := by decide +kernel
theorem dX2_walk_3 : decode cX2_walk 3 = .ok (.aload_n 1, 1) := by decide +kernel
theorem dX2_walk_4 : decode cX2_walk 4 = .ok (.getfield 46, 3) := by decide +kernel
theorem dX2_walk_7 : decode cX2_walk 7 = .ok (.iload_n 2, 1) := by decide +kernel
theorem dX2_walk_8 : decode cX2_walk 8 = .ok (.isub, 1) := by decide +kernel
theorem dX2_walk_9 : decode cX2_walk 9 = .ok (.imul, 1) := by decide +kernel
theorem dX2_walk_10 : decode cX2_walk 10 = .ok (.ishl, 1) := by decide +kernel
theorem dX2_walk_11 : decode cX2_walk 11 = .ok (.aload_n 0, 1) := by decide +kernel
theorem dX2_walk_12 : decode cX2_walk 12 = .ok (.getfield 35, 3) := by decide +kernel
theorem dX2_walk_15 : decode cX2_walk 15 = .ok (.if_icmp .gt 4, 3) := by decide +kernel
theorem dX2_walk_18 : decode cX2_walk 18 = .ok (.return_, 1) := by decide +kernel
theorem dX2_walk_19 : decode cX2_walk 19 = .ok (.iload_n 2, 1) := by decide +kernel
theorem dX2_walk_20 : decode cX2_walk 20 = .ok (.aload_n 1, 1) := by decide +kernel
theorem dX2_walk_21 : decode cX2_walk 21 = .ok (.getfield 46, 3) := by decide +kernel
theorem dX2_walk_24 : decode cX2_walk 24 = .ok (.if_icmp .lt 25, 3) := by decide +kernel
theorem dX2_walk_27 : decode cX2_walk 27 = .ok (.aload_n 0, 1) := by decide +kernel
theorem dX2_walk_28 : decode cX2_walk 28 = .ok (.iload 5, 2) := by decide +kernel
theorem dX2_walk_30 : decode cX2_walk 30 = .ok (.putfield 35, 3) := by decide +kernel
theorem dX2_walk_33 : decode cX2_walk 33 = .ok (.aload_n 0, 1) := by decide +kernel
theorem dX2_walk_34 : decode cX2_walk 34 = .ok (.getfield 21, 3) := by decide +kernel
theorem dX2_walk_37 : decode cX2_walk 37 = .ok (.iconst 0, 1) := by decide +kernel
theorem dX2_walk_38 : decode cX2_walk 38 = .ok (.aload_n 0, 1) := by decide +kernel
theorem dX2_walk_39 : decode cX2_walk 39 = .ok (.getfield 24, 3) := by decide +kernel
theorem dX2_walk_42 : decode cX2_walk 42 = .ok (.iconst 0, 1) := by decide +kernel
theorem dX2_walk_43 : decode cX2_walk 43 = .ok (.bipush 6, 2) := by decide +kernel
theorem dX2_walk_45 : decode cX2_walk 45 = .ok (.invokestatic 62, 3) := by decide +kernel
theorem dX2_walk_48 : decode cX2_walk 48 = .ok (.return_, 1) := by decide +kernel
theorem dX2_walk_49 : decode cX2_walk 49 = .ok (.iconst 0, 1) := by decide +kernel
theorem dX2_walk_50 : decode cX2_walk 50 = .ok (.istore 6, 2) := by decide +kernel
theorem dX2_walk_52 : decode cX2_walk 52 = .ok (.iload 6, 2) := by decide +kernel
theorem dX2_walk_54 : decode cX2_walk 54 = .ok (.aload_n 1, 1) := by decide +kernel
theorem dX2_walk_55 : decode cX2_walk 55 = .ok (.getfield 46, 3) := by decide +kernel
theorem dX2_walk_58 : decode cX2_walk 58 = .ok (.if_icmp .ge 61, 3) := by decide +kernel
theorem dX2_walk_61 : decode cX2_walk 61 = .ok (.iload 4, 2) := by decide +kernel
theorem dX2_walk_63 : decode cX2_walk 63 = .ok (.iload 6, 2) := by decide +kernel
theorem dX2_walk_65 : decode cX2_walk 65 = .ok (.ishr, 1) := by decide +kernel
theorem dX2_walk_66 : decode cX2_walk 66 = .ok (.iconst 1, 1) := by decide +kernel
theorem dX2_walk_67 : decode cX2_walk 67 = .ok (.iand, 1) := by decide +kernel
theorem dX2_walk_68 : decode cX2_walk 68 = .ok (.ifCond .eq 6, 3) := by decide +kernel
theorem dX2_walk_71 : decode cX2_walk 71 = .ok (.goto 42, 3) := by decide +kernel
theorem dX2_walk_74 : decode cX2_walk 74 = .ok (.aload_n 0, 1) := by decide +kernel
theorem dX2_walk_75 : decode cX2_walk 75 = .ok (.getfield 21, 3) := by decide +kernel
theorem dX2_walk_78 : decode cX2_walk 78 = .ok (.iload_n 2, 1) := by decide +kernel
theorem dX2_walk_79 : decode cX2_walk 79 = .ok (.iload 6, 2) := by decide +kernel
theorem dX2_walk_81 : decode cX2_walk 81 = .ok (.iastore, 1) := by decide +kernel
theorem dX2_walk_82 : decode cX2_walk 82 = .ok (.aload_n 0, 1) := by decide +kernel
theorem dX2_walk_83 : decode cX2_walk 83 = .ok (.aload_n 1, 1) := by decide +kernel
theorem dX2_walk_84 : decode cX2_walk 84 = .ok (.iload_n 2, 1) := by decide +kernel
theorem dX2_walk_85 : decode cX2_walk 85 = .ok (.iconst 1, 1) := by decide +kernel
theorem dX2_walk_86 : decode cX2_walk 86 = .ok (.iadd, 1) := by decide +kernel
theorem dX2_walk_87 : decode cX2_walk 87 = .ok (.aload_n 1, 1) := by decide +kernel
theorem dX2_walk_88 : decode cX2_walk 88 = .ok (.getfield 51, 3) := by decide +kernel
theorem dX2_walk_91 : decode cX2_walk 91 = .ok (.iload 6, 2) := by decide +kernel
theorem dX2_walk_93 : decode cX2_walk 93 = .ok (.iaload, 1) := by decide +kernel
theorem dX2_walk_94 : decode cX2_walk 94 = .ok (.iload 4, 2) := by decide +kernel
theorem dX2_walk_96 : decode cX2_walk 96 = .ok (.iconst 1, 1) := by decide +kernel
theorem dX2_walk_97 : decode cX2_walk 97 = .ok (.iload 6, 2) := by decide +kernel
theorem dX2_walk_99 : decode cX2_walk 99 = .ok (.ishl, 1) := by decide +kernel
theorem dX2_walk_100 : decode cX2_walk 100 = .ok (.ior, 1) := by decide +kernel
theorem dX2_walk_101 : decode cX2_walk 101 = .ok (.aload_n 0, 1) := by decide +kernel
theorem dX2_walk_102 : decode cX2_walk 102 = .ok (.aload_n 1, 1) := by decide +kernel
theorem dX2_walk_103 : decode cX2_walk 103 = .ok (.iload_n 2, 1) := by decide +kernel
theorem dX2_walk_104 : decode cX2_walk 104 = .ok (.iload_n 3, 1) := by decide +kernel
theorem dX2_walk_105 : decode cX2_walk 105 = .ok (.iload 6, 2) := by decide +kernel
theorem dX2_walk_107 : decode cX2_walk 107 = .ok (.invokevirtual 54, 3) := by decide +kernel
theorem dX2_walk_110 : decode cX2_walk 110 = .ok (.invokevirtual 58, 3) := by decide +kernel
theorem dX2_walk_113 : decode cX2_walk 113 = .ok (.iinc 6 1, 3) := by decide +kernel
theorem dX2_walk_116 : decode cX2_walk 116 = .ok (.goto (-64), 3) := by decide +kernel
theorem dX2_walk_119 : decode cX2_walk 119 = .ok (.return_, 1) := by decide +kernel
theorem dX2_spread_0 : decode cX2_spread 0 = .ok (.iconst 1, 1) := by decide +kernel
theorem dX2_spread_1 : decode cX2_spread 1 = .ok (.iload_n 2, 1) := by decide +kernel
theorem dX2_spread_2 : decode cX2_spread 2 = .ok (.ishl, 1) := by decide +kernel
theorem dX2_spread_3 : decode cX2_spread 3 = .ok (.istore 5, 2) := by decide +kernel
theorem dX2_spread_5 : decode cX2_spread 5 = .ok (.iload 5, 2) := by decide +kernel
theorem dX2_spread_7 : decode cX2_spread 7 = .ok (.iconst 2, 1) := by decide +kernel
theorem dX2_spread_8 : decode cX2_spread 8 = .ok (.imul, 1) := by decide +kernel
theorem dX2_spread_9 : decode cX2_spread 9 = .ok (.istore 6, 2) := by decide +kernel
theorem dX2_spread_11 : decode cX2_spread 11 = .ok (.iconst 0, 1) := by decide +kernel
theorem dX2_spread_12 : decode cX2_spread 12 = .ok (.istore 7, 2) := by decide +kernel
theorem dX2_spread_14 : decode cX2_spread 14 = .ok (.iconst 0, 1) := by decide +kernel
theorem dX2_spread_15 : decode cX2_spread 15 = .ok (.istore 8, 2) := by decide +kernel
theorem dX2_spread_17 : decode cX2_spread 17 = .ok (.aload_n 0, 1) := by decide +kernel
theorem dX2_spread_18 : decode cX2_spread 18 = .ok (.iconst 0, 1) := by decide +kernel
theorem dX2_spread_19 : decode cX2_spread 19 = .ok (.putfield 31, 3) := by decide +kernel
theorem dX2_spread_22 : decode cX2_spread 22 = .ok (.iconst 0, 1) := by decide +kernel
theorem dX2_spread_23 : decode cX2_spread 23 = .ok (.istore 9, 2) := by decide +kernel
theorem dX2_spread_25 : decode cX2_spread 25 = .ok (.iload 9, 2) := by decide +kernel
theorem dX2_spread_27 : decode cX2_spread 27 = .ok (.aload_n 0, 1) := by decide +kernel
theorem dX2_spread_28 : decode cX2_spread 28 = .ok (.getfield 18, 3) := by decide +kernel
theorem dX2_spread_31 : decode cX2_spread 31 = .ok (.iload_n 2, 1) := by decide +kernel
theorem dX2_spread_32 : decode cX2_spread 32 = .ok (.iaload, 1) := by decide +kernel
theorem dX2_spread_33 : decode cX2_spread 33 = .ok (.if_icmp .ge 192, 3) := by decide +kernel
theorem dX2_spread_36 : decode cX2_spread 36 = .ok (.aload_n 0, 1) := by decide +kernel
theorem dX2_spread_37 : decode cX2_spread 37 = .ok (.getfield 38, 3) := by decide +kernel
theorem dX2_spread_40 : decode cX2_spread 40 = .ok (.aload_n 0, 1) := by decide +kernel
theorem dX2_spread_41 : decode cX2_spread 41 = .ok (.getfield 11, 3) := by decide +kernel
theorem dX2_spread_44 : decode cX2_spread 44 = .ok (.iload 5, 2) := by decide +kernel
theorem dX2_spread_46 : decode cX2_spread 46 = .ok (.iload 9, 2) := by decide +kernel
theorem dX2_spread_48 : decode cX2_spread 48 = .ok (.iadd, 1) := by decide +kernel
theorem dX2_spread_49 : decode cX2_spread 49 = .ok (.iaload, 1) := by decide +kernel
theorem dX2_spread_50 : decode cX2_spread 50 = .ok (.iload_n 3, 1) := by decide +kernel
theorem dX2_spread_51 : decode cX2_spread 51 = .ok (.aload_n 1, 1) := by decide +kernel
theorem dX2_spread_52 : decode cX2_spread 52 = .ok (.iload 4, 2) := by decide +kernel
theorem dX2_spread_54 : decode cX2_spread 54 = .ok (.invokevirtual 68, 3) := by decide +kernel
theorem dX2_spread_57 : decode cX2_spread 57 = .ok (.istore 10, 2) := by decide +kernel
theorem dX2_spread_59 : decode cX2_spread 59 = .ok (.iconst 0, 1) := by decide +kernel
theorem dX2_spread_60 : decode cX2_spread 60 = .ok (.istore 11, 2) := by decide +kernel
theorem dX2_spread_62 : decode cX2_spread 62 = .ok (.iload 11, 2) := by decide +kernel
theorem dX2_spread_64 : decode cX2_spread 64 = .ok (.iconst 2, 1) := by decide +kernel
theorem dX2_spread_65 : decode cX2_spread 65 = .ok (.if_icmp .ge 154, 3) := by decide +kernel
theorem dX2_spread_68 : decode cX2_spread 68 = .ok (.aload_n 0, 1) := by decide +kernel
theorem dX2_spread_69 : decode cX2_spread 69 = .ok (.getfield 15, 3) := by decide +kernel
theorem dX2_spread_72 : decode cX2_spread 72 = .ok (.iload 5, 2) := by decide +kernel
theorem dX2_spread_74 : decode cX2_spread 74 = .ok (.iload 9, 2) := by decide +kernel
theorem dX2_spread_76 : decode cX2_spread 76 = .ok (.iadd, 1) := by decide +kernel
theorem dX2_spread_77 : decode cX2_spread 77 = .ok (.iaload, 1) := by decide +kernel
theorem dX2_spread_78 : decode cX2_spread 78 = .ok (.iload 11, 2) := by decide +kernel
theorem dX2_spread_80 : decode cX2_spread 80 = .ok (.ifCond .ne 15, 3) := by decide +kernel
theorem dX2_spread_83 : decode cX2_spread 83 = .ok (.iconst 4, 1) := by decide +kernel
theorem dX2_spread_84 : decode cX2_spread 84 = .ok (.aload_n 0, 1) := by decide +kernel
theorem dX2_spread_85 : decode cX2_spread 85 = .ok (.getfield 38, 3) := by decide +kernel
theorem dX2_spread_88 : decode cX2_spread 88 = .ok (.getfield 74, 3) := by decide +kernel
theorem dX2_spread_91 : decode cX2_spread 91 = .ok (.isub, 1) := by decide +kernel
theorem dX2_spread_92 : decode cX2_spread 92 = .ok (.goto 10, 3) := by decide +kernel
theorem dX2_spread_95 : decode cX2_spread 95 = .ok (.aload_n 0, 1) := by decide +kernel
theorem dX2_spread_96 : decode cX2_spread 96 = .ok (.getfield 38, 3) := by decide +kernel
theorem dX2_spread_99 : decode cX2_spread 99 = .ok (.getfield 74, 3) := by decide +kernel
theorem dX2_spread_102 : decode cX2_spread 102 = .ok (.imul, 1) := by decide +kernel
theorem dX2_spread_103 : decode cX2_spread 103 = .ok (.istore 12, 2) := by decide +kernel
theorem dX2_spread_105 : decode cX2_spread 105 = .ok (.aload_n 0, 1) := by decide +kernel
theorem dX2_spread_106 : decode cX2_spread 106 = .ok (.getfield 38, 3) := by decide +kernel
theorem dX2_spread_109 : decode cX2_spread 109 = .ok (.iload 10, 2) := by decide +kernel
theorem dX2_spread_111 : decode cX2_spread 111 = .ok (.invokevirtual 77, 3) := by decide +kernel
theorem dX2_spread_114 : decode cX2_spread 114 = .ok (.istore 13, 2) := by decide +kernel
theorem dX2_spread_116 : decode cX2_spread 116 = .ok (.iload 12, 2) := by decide +kernel
theorem dX2_spread_118 : decode cX2_spread 118 = .ok (.ifCond .le 83, 3) := by decide +kernel
theorem dX2_spread_121 : decode cX2_spread 121 = .ok (.aload_n 0, 1) := by decide +kernel
theorem dX2_spread_122 : decode cX2_spread 122 = .ok (.getfield 27, 3) := by decide +kernel
theorem dX2_spread_125 : decode cX2_spread 125 = .ok (.ifCond .ne 15, 3) := by decide +kernel
theorem dX2_spread_128 : decode cX2_spread 128 = .ok (.iload 13, 2) := by decide +kernel
theorem dX2_spread_130 : decode cX2_spread 130 = .ok (.aload_n 1, 1) := by decide +kernel
theorem dX2_spread_131 : decode cX2_spread 131 = .ok (.getfield 81, 3) := by decide +kernel
theorem dX2_spread_134 : decode cX2_spread 134 = .ok (.iload 4, 2) := by decide +kernel
theorem dX2_spread_136 : decode cX2_spread 136 = .ok (.iaload, 1) := by decide +kernel
theorem dX2_spread_137 : decode cX2_spread 137 = .ok (.if_icmp .gt 64, 3) := by decide +kernel
theorem dX2_spread_140 : decode cX2_spread 140 = .ok (.aload_n 0, 1) := by decide +kernel
theorem dX2_spread_141 : decode cX2_spread 141 = .ok (.getfield 11, 3) := by decide +kernel
theorem dX2_spread_144 : decode cX2_spread 144 = .ok (.iload 6, 2) := by decide +kernel
theorem dX2_spread_146 : decode cX2_spread 146 = .ok (.iload 7, 2) := by decide +kernel
theorem dX2_spread_148 : decode cX2_spread 148 = .ok (.iadd, 1) := by decide +kernel
theorem dX2_spread_149 : decode cX2_spread 149 = .ok (.iload 10, 2) := by decide +kernel
theorem dX2_spread_151 : decode cX2_spread 151 = .ok (.iastore, 1) := by decide +kernel
theorem dX2_spread_152 : decode cX2_spread 152 = .ok (.aload_n 0, 1) := by decide +kernel
theorem dX2_spread_153 : decode cX2_spread 153 = .ok (.getfield 15, 3) := by decide +kernel
theorem dX2_spread_156 : decode cX2_spread 156 = .ok (.iload 6, 2) := by decide +kernel
theorem dX2_spread_158 : decode cX2_spread 158 = .ok (.iload 7, 2) := by decide +kernel
theorem dX2_spread_160 : decode cX2_spread 160 = .ok (.iadd, 1) := by decide +kernel
theorem dX2_spread_161 : decode cX2_spread 161 = .ok (.iload 12, 2) := by decide +kernel
theorem dX2_spread_163 : decode cX2_spread 163 = .ok (.iastore, 1) := by decide +kernel
theorem dX2_spread_164 : decode cX2_spread 164 = .ok (.iinc 7 1, 3) := by decide +kernel
theorem dX2_spread_167 : decode cX2_spread 167 = .ok (.iload 8, 2) := by decide +kernel
theorem dX2_spread_169 : decode cX2_spread 169 = .ok (.iload 12, 2) := by decide +kernel
theorem dX2_spread_171 : decode cX2_spread 171 = .ok (.iadd, 1) := by decide +kernel
theorem dX2_spread_172 : decode cX2_spread 172 = .ok (.istore 8, 2) := by decide +kernel
theorem dX2_spread_174 : decode cX2_spread 174 = .ok (.aload_n 0, 1) := by decide +kernel
theorem dX2_spread_175 : decode cX2_spread 175 = .ok (.dup, 1) := by decide +kernel
theorem dX2_spread_176 : decode cX2_spread 176 = .ok (.getfield 31, 3) := by decide +kernel
theorem dX2_spread_179 : decode cX2_spread 179 = .ok (.iload 12, 2) := by decide +kernel
theorem dX2_spread_181 : decode cX2_spread 181 = .ok (.aload_n 1, 1) := by decide +kernel
theorem dX2_spread_182 : decode cX2_spread 182 = .ok (.iload 4, 2) := by decide +kernel
theorem dX2_spread_184 : decode cX2_spread 184 = .ok (.iload 13, 2) := by decide +kernel
theorem dX2_spread_186 : decode cX2_spread 186 = .ok (.aload_n 0, 1) := by decide +kernel
theorem dX2_spread_187 : decode cX2_spread 187 = .ok (.getfield 38, 3) := by decide +kernel
theorem dX2_spread_190 : decode cX2_spread 190 = .ok (.getfield 84, 3) := by decide +kernel
theorem dX2_spread_193 : decode cX2_spread 193 = .ok (.invokevirtual 87, 3) := by decide +kernel
theorem dX2_spread_196 : decode cX2_spread 196 = .ok (.imul, 1) := by decide +kernel
theorem dX2_spread_197 : decode cX2_spread 197 = .ok (.iadd, 1) := by decide +kernel
theorem dX2_spread_198 : decode cX2_spread 198 = .ok (.putfield 31, 3) := by decide +kernel
theorem dX2_spread_201 : decode cX2_spread 201 = .ok (.iload 10, 2) := by decide +kernel
theorem dX2_spread_203 : decode cX2_spread 203 = .ok (.aload_n 1, 1) := by decide +kernel
theorem dX2_spread_204 : decode cX2_spread 204 = .ok (.getfield 91, 3) := by decide +kernel
theorem dX2_spread_207 : decode cX2_spread 207 = .ok (.iload 4, 2) := by decide +kernel
theorem dX2_spread_209 : decode cX2_spread 209 = .ok (.iaload, 1) := by decide +kernel
theorem dX2_spread_210 : decode cX2_spread 210 = .ok (.iadd, 1) := by decide +kernel
theorem dX2_spread_211 : decode cX2_spread 211 = .ok (.istore 10, 2) := by decide +kernel
theorem dX2_spread_213 : decode cX2_spread 213 = .ok (.iinc 11 1, 3) := by decide +kernel
theorem dX2_spread_216 : decode cX2_spread 216 = .ok (.goto (-154), 3) := by decide +kernel
theorem dX2_spread_219 : decode cX2_spread 219 = .ok (.iinc 9 1, 3) := by decide +kernel
theorem dX2_spread_222 : decode cX2_spread 222 = .ok (.goto (-197), 3) := by decide +kernel
theorem dX2_spread_225 : decode cX2_spread 225 = .ok (.aload_n 0, 1) := by decide +kernel
theorem dX2_spread_226 : decode cX2_spread 226 = .ok (.getfield 18, 3) := by decide +kernel
theorem dX2_spread_229 : decode cX2_spread 229 = .ok (.iload_n 2, 1) := by decide +kernel
theorem dX2_spread_230 : decode cX2_spread 230 = .ok (.iconst 1, 1) := by decide +kernel
theorem dX2_spread_231 : decode cX2_spread 231 = .ok (.iadd, 1) := by decide +kernel
theorem dX2_spread_232 : decode cX2_spread 232 = .ok (.iload 7, 2) := by decide +kernel
theorem dX2_spread_234 : decode cX2_spread 234 = .ok (.iastore, 1) := by decide +kernel
theorem dX2_spread_235 : decode cX2_spread 235 = .ok (.iload 8, 2) := by decide +kernel
theorem dX2_spread_237 : decode cX2_spread 237 = .ok (.ireturn, 1) := by decide +kernel
theorem dX3_init_0 : decode cX3_init 0 = .ok (.aload_n 0, 1) := by decide +kernel
theorem dX3_init_1 : decode cX3_init 1 = .ok (.invokespecial 5, 3) := by decide +kernel
theorem dX3_init_4 : decode cX3_init 4 = .ok (.aload_n 0, 1) := by decide +kernel
theorem dX3_init_5 : decode cX3_init 5 = .ok (.bipush 127, 2) := by decide +kernel
theorem dX3_init_7 : decode cX3_init 7 = .ok (.newarray .int, 2) := by decide +kernel
theorem dX3_init_9 : decode cX3_init 9 = .ok (.putfield 11, 3) := by decide +kernel
theorem dX3_init_12 : decode cX3_init 12 = .ok (.aload_n 0, 1) := by decide +kernel
theorem dX3_init_13 : decode cX3_init 13 = .ok (.bipush 6, 2) := by decide +kernel
theorem dX3_init_15 : decode cX3_init 15 = .ok (.newarray .int, 2) := by decide +kernel
theorem dX3_init_17 : decode cX3_init 17 = .ok (.putfield 15, 3) := by decide +kernel
theorem dX3_init_20 : decode cX3_init 20 = .ok (.aload_n 0, 1) := by decide +kernel
theorem dX3_init_21 : decode cX3_init 21 = .ok (.iconst 0, 1) := by decide +kernel
theorem dX3_init_22 : decode cX3_init 22 = .ok (.putfield 18, 3) := by decide +kernel
theorem dX3_init_25 : decode cX3_init 25 = .ok (.aload_n 0, 1) := by decide +kernel
theorem dX3_init_26 : decode cX3_init 26 = .ok (.iconst 0, 1) := by decide +kernel
theorem dX3_init_27 : decode cX3_init 27 = .ok (.putfield 22, 3) := by decide +kernel
theorem dX3_init_30 : decode cX3_init 30 = .ok (.aload_n 0, 1) := by decide +kernel
theorem dX3_init_31 : decode cX3_init 31 = .ok (.iconst 0, 1) := by decide +kernel
theorem dX3_init_32 : decode cX3_init 32 = .ok (.putfield 25, 3) := by decide +kernel
theorem dX3_init_35 : decode cX3_init 35 = .ok (.aload_n 0, 1) := by decide +kernel
theorem dX3_init_36 : decode cX3_init 36 = .ok (.iconst 0, 1) := by decide +kernel
theorem dX3_init_37 : decode cX3_init 37 = .ok (.putfield 28, 3) := by decide +kernel
theorem dX3_init_40 : decode cX3_init 40 = .ok (.aload_n 0, 1) := by decide +kernel
theorem dX3_init_41 : decode cX3_init 41 = .ok (.iconst 0, 1) := by decide +kernel
theorem dX3_init_42 : decode cX3_init 42 = .ok (.putfield 31, 3) := by decide +kernel
theorem dX3_init_45 : decode cX3_init 45 = .ok (.return_, 1) := by decide +kernel
theorem dX3_measure_0 : decode cX3_measure 0 = .ok (.aload_n 0, 1) := by decide +kernel
theorem dX3_measure_1 : decode cX3_measure 1 = .ok (.aload_n 1, 1) := by decide +kernel
theorem dX3_measure_2 : decode cX3_measure 2 = .ok (.getfield 34, 3) := by decide +kernel
theorem dX3_measure_5 : decode cX3_measure 5 = .ok (.iconst 2, 1) := by decide +kernel
theorem dX3_measure_6 : decode cX3_measure 6 = .ok (.iaload, 1) := by decide +kernel
theorem dX3_measure_7 : decode cX3_measure 7 = .ok (.putfield 18, 3) := by decide +kernel
theorem dX3_measure_10 : decode cX3_measure 10 = .ok (.aload_n 0, 1) := by decide +kernel
theorem dX3_measure_11 : decode cX3_measure 11 = .ok (.aload_n 1, 1) := by decide +kernel
theorem dX3_measure_12 : decode cX3_measure 12 = .ok (.getfield 34, 3) := by decide +kernel
theorem dX3_measure_15 : decode cX3_measure 15 = .ok (.iconst 3, 1) := by decide +kernel
theorem dX3_measure_16 : decode cX3_measure 16 = .ok (.iaload, 1) := by decide +kernel
theorem dX3_measure_17 : decode cX3_measure 17 = .ok (.putfield 22, 3) := by decide +kernel
theorem dX3_measure_20 : decode cX3_measure 20 = .ok (.aload_n 0, 1) := by decide +kernel
theorem dX3_measure_21 : decode cX3_measure 21 = .ok (.aload_n 1, 1) := by decide +kernel
theorem dX3_measure_22 : decode cX3_measure 22 = .ok (.getfield 34, 3) := by decide +kernel
theorem dX3_measure_25 : decode cX3_measure 25 = .ok (.iconst 1, 1) := by decide +kernel
theorem dX3_measure_26 : decode cX3_measure 26 = .ok (.iaload, 1) := by decide +kernel
theorem dX3_measure_27 : decode cX3_measure 27 = .ok (.putfield 25, 3) := by decide +kernel
theorem dX3_measure_30 : decode cX3_measure 30 = .ok (.aload_n 0, 1) := by decide +kernel
theorem dX3_measure_31 : decode cX3_measure 31 = .ok (.aload_n 1, 1) := by decide +kernel
theorem dX3_measure_32 : decode cX3_measure 32 = .ok (.getfield 39, 3) := by decide +kernel
theorem dX3_measure_35 : decode cX3_measure 35 = .ok (.putfield 28, 3) := by decide +kernel
theorem dX3_measure_38 : decode cX3_measure 38 = .ok (.aload_n 0, 1) := by decide +kernel
theorem dX3_measure_39 : decode cX3_measure 39 = .ok (.aload_n 1, 1) := by decide +kernel
theorem dX3_measure_40 : decode cX3_measure 40 = .ok (.getfield 40, 3) := by decide +kernel
theorem dX3_measure_43 : decode cX3_measure 43 = .ok (.putfield 31, 3) := by decide +kernel
theorem dX3_measure_46 : decode cX3_measure 46 = .ok (.iconst 0, 1) := by decide +kernel
theorem dX3_measure_47 : decode cX3_measure 47 = .ok (.istore_n 3, 1) := by decide +kernel
theorem dX3_measure_48 : decode cX3_measure 48 = .ok (.aload_n 1, 1) := by decide +kernel
theorem dX3_measure_49 : decode cX3_measure 49 = .ok (.getfield 41, 3) := by decide +kernel
theorem dX3_measure_52 : decode cX3_measure 52 = .ok (.istore 4, 2) := by decide +kernel
theorem dX3_measure_54 : decode cX3_measure 54 = .ok (.iload 4, 2) := by decide +kernel
theorem dX3_measure_56 : decode cX3_measure 56 = .ok (.sipush 186, 3) := by decide +kernel
theorem dX3_measure_59 : decode cX3_measure 59 = .ok (.if_icmp .gt 73, 3) := by decide +kernel
theorem dX3_measure_62 : decode cX3_measure 62 = .ok (.iload_n 3, 1) := by decide +kernel
theorem dX3_measure_63 : decode cX3_measure 63 = .ok (.bipush 126, 2) := by decide +kernel
theorem dX3_measure_65 : decode cX3_measure 65 = .ok (.if_icmp .ge 67, 3) := by decide +kernel
theorem dX3_measure_68 : decode cX3_measure 68 = .ok (.aload_n 1, 1) := by decide +kernel
theorem dX3_measure_69 : decode cX3_measure 69 = .ok (.iload 4, 2) := by decide +kernel
theorem dX3_measure_71 : decode cX3_measure 71 = .ok (.invokevirtual 44, 3) := by decide +kernel
theorem dX3_measure_74 : decode cX3_measure 74 = .ok (.iload 4, 2) := by decide +kernel
theorem dX3_measure_76 : decode cX3_measure 76 = .ok (.aload_n 1, 1) := by decide +kernel
theorem dX3_measure_77 : decode cX3_measure 77 = .ok (.getfield 41, 3) := by decide +kernel
theorem dX3_measure_80 : decode cX3_measure 80 = .ok (.isub, 1) := by decide +kernel
theorem dX3_measure_81 : decode cX3_measure 81 = .ok (.iload_n 2, 1) := by decide +kernel
theorem dX3_measure_82 : decode cX3_measure 82 = .ok (.if_icmp .ge 7, 3) := by decide +kernel
theorem dX3_measure_85 : decode cX3_measure 85 = .ok (.iconst 1, 1) := by decide +kernel
theorem dX3_measure_86 : decode cX3_measure 86 = .ok (.goto 4, 3) := by decide +kernel
theorem dX3_measure_89 : decode cX3_measure 89 = .ok (.iconst 0, 1) := by decide +kernel
theorem dX3_measure_90 : decode cX3_measure 90 = .ok (.iadd, 1) := by decide +kernel
theorem dX3_measure_91 : decode cX3_measure 91 = .ok (.istore 5, 2) := by decide +kernel
theorem dX3_measure_93 : decode cX3_measure 93 = .ok (.iconst 0, 1) := by decide +kernel
theorem dX3_measure_94 : decode cX3_measure 94 = .ok (.istore 6, 2) := by decide +kernel
theorem dX3_measure_96 : decode cX3_measure 96 = .ok (.iload 6, 2) := by decide +kernel
theorem dX3_measure_98 : decode cX3_measure 98 = .ok (.iload 5, 2) := by decide +kernel
theorem dX3_measure_100 : decode cX3_measure 100 = .ok (.if_icmp .ge 26, 3) := by decide +kernel
theorem dX3_measure_103 : decode cX3_measure 103 = .ok (.iload_n 3, 1) := by decide +kernel
theorem dX3_measure_104 : decode cX3_measure 104 = .ok (.bipush 126, 2) := by decide +kernel
theorem dX3_measure_106 : decode cX3_measure 106 = .ok (.if_icmp .ge 20, 3) := by decide +kernel
theorem dX3_measure_109 : decode cX3_measure 109 = .ok (.iinc 3 1, 3) := by decide +kernel
theorem dX3_measure_112 : decode cX3_measure 112 = .ok (.aload_n 0, 1) := by decide +kernel
theorem dX3_measure_113 : decode cX3_measure 113 = .ok (.getfield 11, 3) := by decide +kernel
theorem dX3_measure_116 : decode cX3_measure 116 = .ok (.iload_n 3, 1) := by decide +kernel
theorem dX3_measure_117 : decode cX3_measure 117 = .ok (.iload 4, 2) := by decide +kernel
theorem dX3_measure_119 : decode cX3_measure 119 = .ok (.iastore, 1) := by decide +kernel
theorem dX3_measure_120 : decode cX3_measure 120 = .ok (.iinc 6 1, 3) := by decide +kernel
theorem dX3_measure_123 : decode cX3_measure 123 = .ok (.goto (-27), 3) := by decide +kernel
theorem dX3_measure_126 : decode cX3_measure 126 = .ok (.iinc 4 1, 3) := by decide +kernel
theorem dX3_measure_129 : decode cX3_measure 129 = .ok (.goto (-75), 3) := by decide +kernel
theorem dX3_measure_132 : decode cX3_measure 132 = .ok (.return_, 1) := by decide +kernel
theorem dX3_usedBehind_0 : decode cX3_usedBehind 0 = .ok (.aload_n 3, 1) := by decide +kernel
theorem dX3_usedBehind_1 : decode cX3_usedBehind 1 = .ok (.getfield 48, 3) := by decide +kernel
theorem dX3_usedBehind_4 : decode cX3_usedBehind 4 = .ok (.iload 4, 2) := by decide +kernel
theorem dX3_usedBehind_6 : decode cX3_usedBehind 6 = .ok (.iaload, 1) := by decide +kernel
theorem dX3_usedBehind_7 : decode cX3_usedBehind 7 = .ok (.istore 5, 2) := by decide +kernel
theorem dX3_usedBehind_9 : decode cX3_usedBehind 9 = .ok (.iload 5, 2) := by decide +kernel
theorem dX3_usedBehind_11 : decode cX3_usedBehind 11 = .ok (.iload_n 2, 1) := by decide +kernel
theorem dX3_usedBehind_12 : decode cX3_usedBehind 12 = .ok (.if_icmp .ne 7, 3) := by decide +kernel
theorem dX3_usedBehind_15 : decode cX3_usedBehind 15 = .ok (.iconst 0, 1) := by decide +kernel
theorem dX3_usedBehind_16 : decode cX3_usedBehind 16 = .ok (.goto 7, 3) := by decide +kernel
theorem dX3_usedBehind_19 : decode cX3_usedBehind 19 = .ok (.aload_n 0, 1) := by decide +kernel
theorem dX3_usedBehind_20 : decode cX3_usedBehind 20 = .ok (.getfield 25, 3) := by decide +kernel
theorem dX3_usedBehind_23 : decode cX3_usedBehind 23 = .ok (.istore 6, 2) := by decide +kernel
theorem dX3_usedBehind_25 : decode cX3_usedBehind 25 = .ok (.iload_n 1, 1) := by decide +kernel
theorem dX3_usedBehind_26 : decode cX3_usedBehind 26 = .ok (.ifCond .ne 25, 3) := by decide +kernel
theorem dX3_usedBehind_29 : decode cX3_usedBehind 29 = .ok (.iload 5, 2) := by decide +kernel
theorem dX3_usedBehind_31 : decode cX3_usedBehind 31 = .ok (.aload_n 0, 1) := by decide +kernel
theorem dX3_usedBehind_32 : decode cX3_usedBehind 32 = .ok (.getfield 28, 3) := by decide +kernel
theorem dX3_usedBehind_35 : decode cX3_usedBehind 35 = .ok (.if_icmp .ne 10, 3) := by decide +kernel
theorem dX3_usedBehind_38 : decode cX3_usedBehind 38 = .ok (.aload_n 0, 1) := by decide +kernel
theorem dX3_usedBehind_39 : decode cX3_usedBehind 39 = .ok (.getfield 31, 3) := by decide +kernel
theorem dX3_usedBehind_42 : decode cX3_usedBehind 42 = .ok (.goto 7, 3) := by decide +kernel
theorem dX3_usedBehind_45 : decode cX3_usedBehind 45 = .ok (.aload_n 0, 1) := by decide +kernel
theorem dX3_usedBehind_46 : decode cX3_usedBehind 46 = .ok (.getfield 25, 3) := by decide +kernel
theorem dX3_usedBehind_49 : decode cX3_usedBehind 49 = .ok (.istore 6, 2) := by decide +kernel
theorem dX3_usedBehind_51 : decode cX3_usedBehind 51 = .ok (.iload_n 1, 1) := by decide +kernel
theorem dX3_usedBehind_52 : decode cX3_usedBehind 52 = .ok (.iload 6, 2) := by decide +kernel
theorem dX3_usedBehind_54 : decode cX3_usedBehind 54 = .ok (.iadd, 1) := by decide +kernel
theorem dX3_usedBehind_55 : decode cX3_usedBehind 55 = .ok (.aload_n 3, 1) := by decide +kernel
theorem dX3_usedBehind_56 : decode cX3_usedBehind 56 = .ok (.getfield 52, 3) := by decide +kernel
theorem dX3_usedBehind_59 : decode cX3_usedBehind 59 = .ok (.iload 4, 2) := by decide +kernel
theorem dX3_usedBehind_61 : decode cX3_usedBehind 61 = .ok (.iaload, 1) := by decide +kernel
theorem dX3_usedBehind_62 : decode cX3_usedBehind 62 = .ok (.iadd, 1) := by decide +kernel
theorem dX3_usedBehind_63 : decode cX3_usedBehind 63 = .ok (.ireturn, 1) := by decide +kernel
theorem dX3_dayAt_0 : decode cX3_dayAt 0 = .ok (.aload_n 0, 1) := by decide +kernel
theorem dX3_dayAt_1 : decode cX3_dayAt 1 = .ok (.getfield 11, 3) := by decide +kernel
theorem dX3_dayAt_4 : decode cX3_dayAt 4 = .ok (.iconst 0, 1) := by decide +kernel
theorem dX3_dayAt_5 : decode cX3_dayAt 5 = .ok (.iload_n 1, 1) := by decide +kernel
theorem dX3_dayAt_6 : decode cX3_dayAt 6 = .ok (.bipush 126, 2) := by decide +kernel
theorem dX3_dayAt_8 : decode cX3_dayAt 8 = .ok (.invokestatic 55, 3) := by decide +kernel
theorem dX3_dayAt_11 : decode cX3_dayAt 11 = .ok (.invokestatic 61, 3) := by decide +kernel
theorem dX3_dayAt_14 : decode cX3_dayAt 14 = .ok (.iaload, 1) := by decide +kernel
theorem dX3_dayAt_15 : decode cX3_dayAt 15 = .ok (.ireturn, 1) := by decide +kernel
theorem dX3_follow_0 : decode cX3_follow 0 = .ok (.iconst 0, 1) := by decide +kernel
theorem dX3_follow_1 : decode cX3_follow 1 = .ok (.istore_n 3, 1) := by decide +kernel
theorem dX3_follow_2 : decode cX3_follow 2 = .ok (.iconst 0, 1) := by decide +kernel
theorem dX3_follow_3 : decode cX3_follow 3 = .ok (.istore 4, 2) := by decide +kernel
theorem dX3_follow_5 : decode cX3_follow 5 = .ok (.iconst 0, 1) := by decide +kernel
theorem dX3_follow_6 : decode cX3_follow 6 = .ok (.istore 5, 2) := by decide +kernel
theorem dX3_follow_8 : decode cX3_follow 8 = .ok (.iload 5, 2) := by decide +kernel
theorem dX3_follow_10 : decode cX3_follow 10 = .ok (.aload_n 1, 1) := by decide +kernel
theorem dX3_follow_11 : decode cX3_follow 11 = .ok (.getfield 64, 3) := by decide +kernel
theorem dX3_follow_14 : decode cX3_follow 14 = .ok (.if_icmp .ge 47, 3) := by decide +kernel
theorem dX3_follow_17 : decode cX3_follow 17 = .ok (.aload_n 2, 1) := by decide +kernel
theorem dX3_follow_18 : decode cX3_follow 18 = .ok (.iload 5, 2) := by decide +kernel
theorem dX3_follow_20 : decode cX3_follow 20 = .ok (.iaload, 1) := by decide +kernel
theorem dX3_follow_21 : decode cX3_follow 21 = .ok (.istore 6, 2) := by decide +kernel
theorem dX3_follow_23 : decode cX3_follow 23 = .ok (.aload_n 0, 1) := by decide +kernel
theorem dX3_follow_24 : decode cX3_follow 24 = .ok (.iload_n 3, 1) := by decide +kernel
theorem dX3_follow_25 : decode cX3_follow 25 = .ok (.iload 4, 2) := by decide +kernel
theorem dX3_follow_27 : decode cX3_follow 27 = .ok (.aload_n 1, 1) := by decide +kernel
theorem dX3_follow_28 : decode cX3_follow 28 = .ok (.iload 6, 2) := by decide +kernel
theorem dX3_follow_30 : decode cX3_follow 30 = .ok (.invokevirtual 67, 3) := by decide +kernel
theorem dX3_follow_33 : decode cX3_follow 33 = .ok (.istore_n 3, 1) := by decide +kernel
theorem dX3_follow_34 : decode cX3_follow 34 = .ok (.aload_n 1, 1) := by decide +kernel
theorem dX3_follow_35 : decode cX3_follow 35 = .ok (.getfield 48, 3) := by decide +kernel
theorem dX3_follow_38 : decode cX3_follow 38 = .ok (.iload 6, 2) := by decide +kernel
theorem dX3_follow_40 : decode cX3_follow 40 = .ok (.iaload, 1) := by decide +kernel
theorem dX3_follow_41 : decode cX3_follow 41 = .ok (.istore 4, 2) := by decide +kernel
theorem dX3_follow_43 : decode cX3_follow 43 = .ok (.aload_n 0, 1) := by decide +kernel
theorem dX3_follow_44 : decode cX3_follow 44 = .ok (.getfield 15, 3) := by decide +kernel
theorem dX3_follow_47 : decode cX3_follow 47 = .ok (.iload 6, 2) := by decide +kernel
theorem dX3_follow_49 : decode cX3_follow 49 = .ok (.aload_n 0, 1) := by decide +kernel
theorem dX3_follow_50 : decode cX3_follow 50 = .ok (.iload_n 3, 1) := by decide +kernel
theorem dX3_follow_51 : decode cX3_follow 51 = .ok (.invokevirtual 71, 3) := by decide +kernel
theorem dX3_follow_54 : decode cX3_follow 54 = .ok (.iastore, 1) := by decide +kernel
theorem dX3_follow_55 : decode cX3_follow 55 = .ok (.iinc 5 1, 3) := by decide +kernel
theorem dX3_follow_58 : decode cX3_follow 58 = .ok (.goto (-50), 3) := by decide +kernel
theorem dX3_follow_61 : decode cX3_follow 61 = .ok (.return_, 1) := by decide +kernel
theorem dX4_init_0 : decode cX4_init 0 = .ok (.aload_n 0, 1) := by decide +kernel
theorem dX4_init_1 : decode cX4_init 1 = .ok (.invokespecial 3, 3) := by decide +kernel
theorem dX4_init_4 : decode cX4_init 4 = .ok (.aload_n 0, 1) := by decide +kernel
theorem dX4_init_5 : decode cX4_init 5 = .ok (.iconst 0, 1) := by decide +kernel
theorem dX4_init_6 : decode cX4_init 6 = .ok (.putfield 9, 3) := by decide +kernel
theorem dX4_init_9 : decode cX4_init 9 = .ok (.aload_n 0, 1) := by decide +kernel
theorem dX4_init_10 : decode cX4_init 10 = .ok (.bipush 6, 2) := by decide +kernel
theorem dX4_init_12 : decode cX4_init 12 = .ok (.newarray .int, 2) := by decide +kernel
theorem dX4_init_14 : decode cX4_init 14 = .ok (.putfield 15, 3) := by decide +kernel
theorem dX4_init_17 : decode cX4_init 17 = .ok (.aload_n 0, 1) := by decide +kernel
theorem dX4_init_18 : decode cX4_init 18 = .ok (.bipush 6, 2) := by decide +kernel
theorem dX4_init_20 : decode cX4_init 20 = .ok (.newarray .int, 2) := by decide +kernel
theorem dX4_init_22 : decode cX4_init 22 = .ok (.putfield 19, 3) := by decide +kernel
theorem dX4_init_25 : decode cX4_init 25 = .ok (.aload_n 0, 1) := by decide +kernel
theorem dX4_init_26 : decode cX4_init 26 = .ok (.bipush 6, 2) := by decide +kernel
theorem dX4_init_28 : decode cX4_init 28 = .ok (.newarray .int, 2) := by decide +kernel
theorem dX4_init_30 : decode cX4_init 30 = .ok (.putfield 22, 3) := by decide +kernel
theorem dX4_init_33 : decode cX4_init 33 = .ok (.aload_n 0, 1) := by decide +kernel
theorem dX4_init_34 : decode cX4_init 34 = .ok (.bipush 6, 2) := by decide +kernel
theorem dX4_init_36 : decode cX4_init 36 = .ok (.newarray .int, 2) := by decide +kernel
theorem dX4_init_38 : decode cX4_init 38 = .ok (.putfield 25, 3) := by decide +kernel
theorem dX4_init_41 : decode cX4_init 41 = .ok (.aload_n 0, 1) := by decide +kernel
theorem dX4_init_42 : decode cX4_init 42 = .ok (.bipush 6, 2) := by decide +kernel
theorem dX4_init_44 : decode cX4_init 44 = .ok (.newarray .int, 2) := by decide +kernel
theorem dX4_init_46 : decode cX4_init 46 = .ok (.putfield 28, 3) := by decide +kernel
theorem dX4_init_49 : decode cX4_init 49 = .ok (.return_, 1) := by decide +kernel
theorem dX4_has_0 : decode cX4_has 0 = .ok (.iload_n 1, 1) := by decide +kernel
theorem dX4_has_1 : decode cX4_has 1 = .ok (.ifCond .lt 15, 3) := by decide +kernel
theorem dX4_has_4 : decode cX4_has 4 = .ok (.iload_n 1, 1) := by decide +kernel
theorem dX4_has_5 : decode cX4_has 5 = .ok (.aload_n 0, 1) := by decide +kernel
theorem dX4_has_6 : decode cX4_has 6 = .ok (.getfield 9, 3) := by decide +kernel
theorem dX4_has_9 : decode cX4_has 9 = .ok (.if_icmp .ge 7, 3) := by decide +kernel
theorem dX4_has_12 : decode cX4_has 12 = .ok (.iconst 1, 1) := by decide +kernel
theorem dX4_has_13 : decode cX4_has 13 = .ok (.goto 4, 3) := by decide +kernel
theorem dX4_has_16 : decode cX4_has 16 = .ok (.iconst 0, 1) := by decide +kernel
theorem dX4_has_17 : decode cX4_has 17 = .ok (.ireturn, 1) := by decide +kernel
theorem dX4_add_0 : decode cX4_add 0 = .ok (.aload_n 0, 1) := by decide +kernel
theorem dX4_add_1 : decode cX4_add 1 = .ok (.getfield 9, 3) := by decide +kernel
theorem dX4_add_4 : decode cX4_add 4 = .ok (.bipush 6, 2) := by decide +kernel
theorem dX4_add_6 : decode cX4_add 6 = .ok (.if_icmp .lt 4, 3) := by decide +kernel
theorem dX4_add_9 : decode cX4_add 9 = .ok (.return_, 1) := by decide +kernel
theorem dX4_add_10 : decode cX4_add 10 = .ok (.aload_n 0, 1) := by decide +kernel
theorem dX4_add_11 : decode cX4_add 11 = .ok (.getfield 15, 3) := by decide +kernel
theorem dX4_add_14 : decode cX4_add 14 = .ok (.aload_n 0, 1) := by decide +kernel
theorem dX4_add_15 : decode cX4_add 15 = .ok (.getfield 9, 3) := by decide +kernel
theorem dX4_add_18 : decode cX4_add 18 = .ok (.iload_n 1, 1) := by decide +kernel
theorem dX4_add_19 : decode cX4_add 19 = .ok (.iastore, 1) := by decide +kernel
theorem dX4_add_20 : decode cX4_add 20 = .ok (.aload_n 0, 1) := by decide +kernel
theorem dX4_add_21 : decode cX4_add 21 = .ok (.getfield 19, 3) := by decide +kernel
theorem dX4_add_24 : decode cX4_add 24 = .ok (.aload_n 0, 1) := by decide +kernel
theorem dX4_add_25 : decode cX4_add 25 = .ok (.getfield 9, 3) := by decide +kernel
theorem dX4_add_28 : decode cX4_add 28 = .ok (.iload_n 1, 1) := by decide +kernel
theorem dX4_add_29 : decode cX4_add 29 = .ok (.iconst 5, 1) := by decide +kernel
theorem dX4_add_30 : decode cX4_add 30 = .ok (.if_icmp .ne 11, 3) := by decide +kernel
theorem dX4_add_33 : decode cX4_add 33 = .ok (.iload_n 2, 1) := by decide +kernel
theorem dX4_add_34 : decode cX4_add 34 = .ok (.iconst 1, 1) := by decide +kernel
theorem dX4_add_35 : decode cX4_add 35 = .ok (.iadd, 1) := by decide +kernel
theorem dX4_add_36 : decode cX4_add 36 = .ok (.iconst 2, 1) := by decide +kernel
theorem dX4_add_37 : decode cX4_add 37 = .ok (.idiv, 1) := by decide +kernel
theorem dX4_add_38 : decode cX4_add 38 = .ok (.goto 4, 3) := by decide +kernel
theorem dX4_add_41 : decode cX4_add 41 = .ok (.iload_n 2, 1) := by decide +kernel
theorem dX4_add_42 : decode cX4_add 42 = .ok (.iastore, 1) := by decide +kernel
theorem dX4_add_43 : decode cX4_add 43 = .ok (.aload_n 0, 1) := by decide +kernel
theorem dX4_add_44 : decode cX4_add 44 = .ok (.getfield 22, 3) := by decide +kernel
theorem dX4_add_47 : decode cX4_add 47 = .ok (.aload_n 0, 1) := by decide +kernel
theorem dX4_add_48 : decode cX4_add 48 = .ok (.getfield 9, 3) := by decide +kernel
theorem dX4_add_51 : decode cX4_add 51 = .ok (.iload_n 3, 1) := by decide +kernel
theorem dX4_add_52 : decode cX4_add 52 = .ok (.iastore, 1) := by decide +kernel
theorem dX4_add_53 : decode cX4_add 53 = .ok (.aload_n 0, 1) := by decide +kernel
theorem dX4_add_54 : decode cX4_add 54 = .ok (.getfield 25, 3) := by decide +kernel
theorem dX4_add_57 : decode cX4_add 57 = .ok (.aload_n 0, 1) := by decide +kernel
theorem dX4_add_58 : decode cX4_add 58 = .ok (.getfield 9, 3) := by decide +kernel
theorem dX4_add_61 : decode cX4_add 61 = .ok (.iload 4, 2) := by decide +kernel
theorem dX4_add_63 : decode cX4_add 63 = .ok (.iastore, 1) := by decide +kernel
theorem dX4_add_64 : decode cX4_add 64 = .ok (.aload_n 0, 1) := by decide +kernel
theorem dX4_add_65 : decode cX4_add 65 = .ok (.getfield 28, 3) := by decide +kernel
theorem dX4_add_68 : decode cX4_add 68 = .ok (.aload_n 0, 1) := by decide +kernel
theorem dX4_add_69 : decode cX4_add 69 = .ok (.getfield 9, 3) := by decide +kernel
theorem dX4_add_72 : decode cX4_add 72 = .ok (.iload 5, 2) := by decide +kernel
theorem dX4_add_74 : decode cX4_add 74 = .ok (.iastore, 1) := by decide +kernel
theorem dX4_add_75 : decode cX4_add 75 = .ok (.aload_n 0, 1) := by decide +kernel
theorem dX4_add_76 : decode cX4_add 76 = .ok (.dup, 1) := by decide +kernel
theorem dX4_add_77 : decode cX4_add 77 = .ok (.getfield 9, 3) := by decide +kernel
theorem dX4_add_80 : decode cX4_add 80 = .ok (.iconst 1, 1) := by decide +kernel
theorem dX4_add_81 : decode cX4_add 81 = .ok (.iadd, 1) := by decide +kernel
theorem dX4_add_82 : decode cX4_add 82 = .ok (.putfield 9, 3) := by decide +kernel
theorem dX4_add_85 : decode cX4_add 85 = .ok (.return_, 1) := by decide +kernel
theorem dX4_remove_0 : decode cX4_remove 0 = .ok (.aload_n 0, 1) := by decide +kernel
theorem dX4_remove_1 : decode cX4_remove 1 = .ok (.iload_n 1, 1) := by decide +kernel
theorem dX4_remove_2 : decode cX4_remove 2 = .ok (.invokevirtual 31, 3) := by decide +kernel
theorem dX4_remove_5 : decode cX4_remove 5 = .ok (.ifCond .ne 4, 3) := by decide +kernel
theorem dX4_remove_8 : decode cX4_remove 8 = .ok (.return_, 1) := by decide +kernel
theorem dX4_remove_9 : decode cX4_remove 9 = .ok (.iload_n 1, 1) := by decide +kernel
theorem dX4_remove_10 : decode cX4_remove 10 = .ok (.istore_n 2, 1) := by decide +kernel
theorem dX4_remove_11 : decode cX4_remove 11 = .ok (.iload_n 2, 1) := by decide +kernel
theorem dX4_remove_12 : decode cX4_remove 12 = .ok (.iconst 1, 1) := by decide +kernel
theorem dX4_remove_13 : decode cX4_remove 13 = .ok (.iadd, 1) := by decide +kernel
theorem dX4_remove_14 : decode cX4_remove 14 = .ok (.aload_n 0, 1) := by decide +kernel
theorem dX4_remove_15 : decode cX4_remove 15 = .ok (.getfield 9, 3) := by decide +kernel
theorem dX4_remove_18 : decode cX4_remove 18 = .ok (.if_icmp .ge 79, 3) := by decide +kernel
theorem dX4_remove_21 : decode cX4_remove 21 = .ok (.aload_n 0, 1) := by decide +kernel
theorem dX4_remove_22 : decode cX4_remove 22 = .ok (.getfield 15, 3) := by decide +kernel
theorem dX4_remove_25 : decode cX4_remove 25 = .ok (.iload_n 2, 1) := by decide +kernel
theorem dX4_remove_26 : decode cX4_remove 26 = .ok (.aload_n 0, 1) := by decide +kernel
theorem dX4_remove_27 : decode cX4_remove 27 = .ok (.getfield 15, 3) := by decide +kernel
theorem dX4_remove_30 : decode cX4_remove 30 = .ok (.iload_n 2, 1) := by decide +kernel
theorem dX4_remove_31 : decode cX4_remove 31 = .ok (.iconst 1, 1) := by decide +kernel
theorem dX4_remove_32 : decode cX4_remove 32 = .ok (.iadd, 1) := by decide +kernel
theorem dX4_remove_33 : decode cX4_remove 33 = .ok (.iaload, 1) := by decide +kernel
theorem dX4_remove_34 : decode cX4_remove 34 = .ok (.iastore, 1) := by decide +kernel
theorem dX4_remove_35 : decode cX4_remove 35 = .ok (.aload_n 0, 1) := by decide +kernel
theorem dX4_remove_36 : decode cX4_remove 36 = .ok (.getfield 19, 3) := by decide +kernel
theorem dX4_remove_39 : decode cX4_remove 39 = .ok (.iload_n 2, 1) := by decide +kernel
theorem dX4_remove_40 : decode cX4_remove 40 = .ok (.aload_n 0, 1) := by decide +kernel
theorem dX4_remove_41 : decode cX4_remove 41 = .ok (.getfield 19, 3) := by decide +kernel
theorem dX4_remove_44 : decode cX4_remove 44 = .ok (.iload_n 2, 1) := by decide +kernel
theorem dX4_remove_45 : decode cX4_remove 45 = .ok (.iconst 1, 1) := by decide +kernel
theorem dX4_remove_46 : decode cX4_remove 46 = .ok (.iadd, 1) := by decide +kernel
theorem dX4_remove_47 : decode cX4_remove 47 = .ok (.iaload, 1) := by decide +kernel
theorem dX4_remove_48 : decode cX4_remove 48 = .ok (.iastore, 1) := by decide +kernel
theorem dX4_remove_49 : decode cX4_remove 49 = .ok (.aload_n 0, 1) := by decide +kernel
theorem dX4_remove_50 : decode cX4_remove 50 = .ok (.getfield 22, 3) := by decide +kernel
theorem dX4_remove_53 : decode cX4_remove 53 = .ok (.iload_n 2, 1) := by decide +kernel
theorem dX4_remove_54 : decode cX4_remove 54 = .ok (.aload_n 0, 1) := by decide +kernel
theorem dX4_remove_55 : decode cX4_remove 55 = .ok (.getfield 22, 3) := by decide +kernel
theorem dX4_remove_58 : decode cX4_remove 58 = .ok (.iload_n 2, 1) := by decide +kernel
theorem dX4_remove_59 : decode cX4_remove 59 = .ok (.iconst 1, 1) := by decide +kernel
theorem dX4_remove_60 : decode cX4_remove 60 = .ok (.iadd, 1) := by decide +kernel
theorem dX4_remove_61 : decode cX4_remove 61 = .ok (.iaload, 1) := by decide +kernel
theorem dX4_remove_62 : decode cX4_remove 62 = .ok (.iastore, 1) := by decide +kernel
theorem dX4_remove_63 : decode cX4_remove 63 = .ok (.aload_n 0, 1) := by decide +kernel
theorem dX4_remove_64 : decode cX4_remove 64 = .ok (.getfield 25, 3) := by decide +kernel
theorem dX4_remove_67 : decode cX4_remove 67 = .ok (.iload_n 2, 1) := by decide +kernel
theorem dX4_remove_68 : decode cX4_remove 68 = .ok (.aload_n 0, 1) := by decide +kernel
theorem dX4_remove_69 : decode cX4_remove 69 = .ok (.getfield 25, 3) := by decide +kernel
theorem dX4_remove_72 : decode cX4_remove 72 = .ok (.iload_n 2, 1) := by decide +kernel
theorem dX4_remove_73 : decode cX4_remove 73 = .ok (.iconst 1, 1) := by decide +kernel
theorem dX4_remove_74 : decode cX4_remove 74 = .ok (.iadd, 1) := by decide +kernel
theorem dX4_remove_75 : decode cX4_remove 75 = .ok (.iaload, 1) := by decide +kernel
theorem dX4_remove_76 : decode cX4_remove 76 = .ok (.iastore, 1) := by decide +kernel
theorem dX4_remove_77 : decode cX4_remove 77 = .ok (.aload_n 0, 1) := by decide +kernel
theorem dX4_remove_78 : decode cX4_remove 78 = .ok (.getfield 28, 3) := by decide +kernel
theorem dX4_remove_81 : decode cX4_remove 81 = .ok (.iload_n 2, 1) := by decide +kernel
theorem dX4_remove_82 : decode cX4_remove 82 = .ok (.aload_n 0, 1) := by decide +kernel
theorem dX4_remove_83 : decode cX4_remove 83 = .ok (.getfield 28, 3) := by decide +kernel
theorem dX4_remove_86 : decode cX4_remove 86 = .ok (.iload_n 2, 1) := by decide +kernel
theorem dX4_remove_87 : decode cX4_remove 87 = .ok (.iconst 1, 1) := by decide +kernel
theorem dX4_remove_88 : decode cX4_remove 88 = .ok (.iadd, 1) := by decide +kernel
theorem dX4_remove_89 : decode cX4_remove 89 = .ok (.iaload, 1) := by decide +kernel
theorem dX4_remove_90 : decode cX4_remove 90 = .ok (.iastore, 1) := by decide +kernel
theorem dX4_remove_91 : decode cX4_remove 91 = .ok (.iinc 2 1, 3) := by decide +kernel
theorem dX4_remove_94 : decode cX4_remove 94 = .ok (.goto (-83), 3) := by decide +kernel
theorem dX4_remove_97 : decode cX4_remove 97 = .ok (.aload_n 0, 1) := by decide +kernel
theorem dX4_remove_98 : decode cX4_remove 98 = .ok (.dup, 1) := by decide +kernel
theorem dX4_remove_99 : decode cX4_remove 99 = .ok (.getfield 9, 3) := by decide +kernel
theorem dX4_remove_102 : decode cX4_remove 102 = .ok (.iconst 1, 1) := by decide +kernel
theorem dX4_remove_103 : decode cX4_remove 103 = .ok (.isub, 1) := by decide +kernel
theorem dX4_remove_104 : decode cX4_remove 104 = .ok (.putfield 9, 3) := by decide +kernel
theorem dX4_remove_107 : decode cX4_remove 107 = .ok (.return_, 1) := by decide +kernel
theorem dX4_copy_0 : decode cX4_copy 0 = .ok (.aload_n 0, 1) := by decide +kernel
theorem dX4_copy_1 : decode cX4_copy 1 = .ok (.aload_n 1, 1) := by decide +kernel
theorem dX4_copy_2 : decode cX4_copy 2 = .ok (.getfield 9, 3) := by decide +kernel
theorem dX4_copy_5 : decode cX4_copy 5 = .ok (.putfield 9, 3) := by decide +kernel
theorem dX4_copy_8 : decode cX4_copy 8 = .ok (.iconst 0, 1) := by decide +kernel
theorem dX4_copy_9 : decode cX4_copy 9 = .ok (.istore_n 2, 1) := by decide +kernel
theorem dX4_copy_10 : decode cX4_copy 10 = .ok (.iload_n 2, 1) := by decide +kernel
theorem dX4_copy_11 : decode cX4_copy 11 = .ok (.aload_n 1, 1) := by decide +kernel
theorem dX4_copy_12 : decode cX4_copy 12 = .ok (.getfield 9, 3) := by decide +kernel
theorem dX4_copy_15 : decode cX4_copy 15 = .ok (.if_icmp .ge 69, 3) := by decide +kernel
theorem dX4_copy_18 : decode cX4_copy 18 = .ok (.aload_n 0, 1) := by decide +kernel
theorem dX4_copy_19 : decode cX4_copy 19 = .ok (.getfield 15, 3) := by decide +kernel
theorem dX4_copy_22 : decode cX4_copy 22 = .ok (.iload_n 2, 1) := by decide +kernel
theorem dX4_copy_23 : decode cX4_copy 23 = .ok (.aload_n 1, 1) := by decide +kernel
theorem dX4_copy_24 : decode cX4_copy 24 = .ok (.getfield 15, 3) := by decide +kernel
theorem dX4_copy_27 : decode cX4_copy 27 = .ok (.iload_n 2, 1) := by decide +kernel
theorem dX4_copy_28 : decode cX4_copy 28 = .ok (.iaload, 1) := by decide +kernel
theorem dX4_copy_29 : decode cX4_copy 29 = .ok (.iastore, 1) := by decide +kernel
theorem dX4_copy_30 : decode cX4_copy 30 = .ok (.aload_n 0, 1) := by decide +kernel
theorem dX4_copy_31 : decode cX4_copy 31 = .ok (.getfield 19, 3) := by decide +kernel
theorem dX4_copy_34 : decode cX4_copy 34 = .ok (.iload_n 2, 1) := by decide +kernel
theorem dX4_copy_35 : decode cX4_copy 35 = .ok (.aload_n 1, 1) := by decide +kernel
theorem dX4_copy_36 : decode cX4_copy 36 = .ok (.getfield 19, 3) := by decide +kernel
theorem dX4_copy_39 : decode cX4_copy 39 = .ok (.iload_n 2, 1) := by decide +kernel
theorem dX4_copy_40 : decode cX4_copy 40 = .ok (.iaload, 1) := by decide +kernel
theorem dX4_copy_41 : decode cX4_copy 41 = .ok (.iastore, 1) := by decide +kernel
theorem dX4_copy_42 : decode cX4_copy 42 = .ok (.aload_n 0, 1) := by decide +kernel
theorem dX4_copy_43 : decode cX4_copy 43 = .ok (.getfield 22, 3) := by decide +kernel
theorem dX4_copy_46 : decode cX4_copy 46 = .ok (.iload_n 2, 1) := by decide +kernel
theorem dX4_copy_47 : decode cX4_copy 47 = .ok (.aload_n 1, 1) := by decide +kernel
theorem dX4_copy_48 : decode cX4_copy 48 = .ok (.getfield 22, 3) := by decide +kernel
theorem dX4_copy_51 : decode cX4_copy 51 = .ok (.iload_n 2, 1) := by decide +kernel
theorem dX4_copy_52 : decode cX4_copy 52 = .ok (.iaload, 1) := by decide +kernel
theorem dX4_copy_53 : decode cX4_copy 53 = .ok (.iastore, 1) := by decide +kernel
theorem dX4_copy_54 : decode cX4_copy 54 = .ok (.aload_n 0, 1) := by decide +kernel
theorem dX4_copy_55 : decode cX4_copy 55 = .ok (.getfield 25, 3) := by decide +kernel
theorem dX4_copy_58 : decode cX4_copy 58 = .ok (.iload_n 2, 1) := by decide +kernel
theorem dX4_copy_59 : decode cX4_copy 59 = .ok (.aload_n 1, 1) := by decide +kernel
theorem dX4_copy_60 : decode cX4_copy 60 = .ok (.getfield 25, 3) := by decide +kernel
theorem dX4_copy_63 : decode cX4_copy 63 = .ok (.iload_n 2, 1) := by decide +kernel
theorem dX4_copy_64 : decode cX4_copy 64 = .ok (.iaload, 1) := by decide +kernel
theorem dX4_copy_65 : decode cX4_copy 65 = .ok (.iastore, 1) := by decide +kernel
theorem dX4_copy_66 : decode cX4_copy 66 = .ok (.aload_n 0, 1) := by decide +kernel
theorem dX4_copy_67 : decode cX4_copy 67 = .ok (.getfield 28, 3) := by decide +kernel
theorem dX4_copy_70 : decode cX4_copy 70 = .ok (.iload_n 2, 1) := by decide +kernel
theorem dX4_copy_71 : decode cX4_copy 71 = .ok (.aload_n 1, 1) := by decide +kernel
theorem dX4_copy_72 : decode cX4_copy 72 = .ok (.getfield 28, 3) := by decide +kernel
theorem dX4_copy_75 : decode cX4_copy 75 = .ok (.iload_n 2, 1) := by decide +kernel
theorem dX4_copy_76 : decode cX4_copy 76 = .ok (.iaload, 1) := by decide +kernel
theorem dX4_copy_77 : decode cX4_copy 77 = .ok (.iastore, 1) := by decide +kernel
theorem dX4_copy_78 : decode cX4_copy 78 = .ok (.iinc 2 1, 3) := by decide +kernel
theorem dX4_copy_81 : decode cX4_copy 81 = .ok (.goto (-71), 3) := by decide +kernel
theorem dX4_copy_84 : decode cX4_copy 84 = .ok (.return_, 1) := by decide +kernel
theorem dX4_valueOf_0 : decode cX4_valueOf 0 = .ok (.iload_n 2, 1) := by decide +kernel
theorem dX4_valueOf_1 : decode cX4_valueOf 1 = .ok (.aload_n 0, 1) := by decide +kernel
theorem dX4_valueOf_2 : decode cX4_valueOf 2 = .ok (.getfield 25, 3) := by decide +kernel
theorem dX4_valueOf_5 : decode cX4_valueOf 5 = .ok (.iload_n 1, 1) := by decide +kernel
theorem dX4_valueOf_6 : decode cX4_valueOf 6 = .ok (.iaload, 1) := by decide +kernel
theorem dX4_valueOf_7 : decode cX4_valueOf 7 = .ok (.if_icmp .gt 10, 3) := by decide +kernel
theorem dX4_valueOf_10 : decode cX4_valueOf 10 = .ok (.aload_n 0, 1) := by decide +kernel
theorem dX4_valueOf_11 : decode cX4_valueOf 11 = .ok (.getfield 28, 3) := by decide +kernel
theorem dX4_valueOf_14 : decode cX4_valueOf 14 = .ok (.iload_n 1, 1) := by decide +kernel
theorem dX4_valueOf_15 : decode cX4_valueOf 15 = .ok (.iaload, 1) := by decide +kernel
theorem dX4_valueOf_16 : decode cX4_valueOf 16 = .ok (.ireturn, 1) := by decide +kernel
theorem dX4_valueOf_17 : decode cX4_valueOf 17 = .ok (.aload_n 0, 1) := by decide +kernel
theorem dX4_valueOf_18 : decode cX4_valueOf 18 = .ok (.getfield 15, 3) := by decide +kernel
theorem dX4_valueOf_21 : decode cX4_valueOf 21 = .ok (.iload_n 1, 1) := by decide +kernel
theorem dX4_valueOf_22 : decode cX4_valueOf 22 = .ok (.iaload, 1) := by decide +kernel
theorem dX4_valueOf_23 : decode cX4_valueOf 23 = .ok (.tableswitch 75 1 4 #[29, 34, 43, 54], 29) := by decide +kernel
theorem dX4_valueOf_52 : decode cX4_valueOf 52 = .ok (.bipush (-2), 2) := by decide +kernel
theorem dX4_valueOf_54 : decode cX4_valueOf 54 = .ok (.iload_n 3, 1) := by decide +kernel
theorem dX4_valueOf_55 : decode cX4_valueOf 55 = .ok (.imul, 1) := by decide +kernel
theorem dX4_valueOf_56 : decode cX4_valueOf 56 = .ok (.ireturn, 1) := by decide +kernel
theorem dX4_valueOf_57 : decode cX4_valueOf 57 = .ok (.aload_n 0, 1) := by decide +kernel
theorem dX4_valueOf_58 : decode cX4_valueOf 58 = .ok (.getfield 28, 3) := by decide +kernel
theorem dX4_valueOf_61 : decode cX4_valueOf 61 = .ok (.iload_n 1, 1) := by decide +kernel
theorem dX4_valueOf_62 : decode cX4_valueOf 62 = .ok (.iaload, 1) := by decide +kernel
theorem dX4_valueOf_63 : decode cX4_valueOf 63 = .ok (.iconst 2, 1) := by decide +kernel
theorem dX4_valueOf_64 : decode cX4_valueOf 64 = .ok (.idiv, 1) := by decide +kernel
theorem dX4_valueOf_65 : decode cX4_valueOf 65 = .ok (.ireturn, 1) := by decide +kernel
theorem dX4_valueOf_66 : decode cX4_valueOf 66 = .ok (.aload_n 0, 1) := by decide +kernel
theorem dX4_valueOf_67 : decode cX4_valueOf 67 = .ok (.getfield 28, 3) := by decide +kernel
theorem dX4_valueOf_70 : decode cX4_valueOf 70 = .ok (.iload_n 1, 1) := by decide +kernel
theorem dX4_valueOf_71 : decode cX4_valueOf 71 = .ok (.iaload, 1) := by decide +kernel
theorem dX4_valueOf_72 : decode cX4_valueOf 72 = .ok (.iconst 2, 1) := by decide +kernel
theorem dX4_valueOf_73 : decode cX4_valueOf 73 = .ok (.idiv, 1) := by decide +kernel
theorem dX4_valueOf_74 : decode cX4_valueOf 74 = .ok (.iload_n 3, 1) := by decide +kernel
theorem dX4_valueOf_75 : decode cX4_valueOf 75 = .ok (.isub, 1) := by decide +kernel
theorem dX4_valueOf_76 : decode cX4_valueOf 76 = .ok (.ireturn, 1) := by decide +kernel
theorem dX4_valueOf_77 : decode cX4_valueOf 77 = .ok (.iload_n 2, 1) := by decide +kernel
theorem dX4_valueOf_78 : decode cX4_valueOf 78 = .ok (.aload_n 0, 1) := by decide +kernel
theorem dX4_valueOf_79 : decode cX4_valueOf 79 = .ok (.getfield 25, 3) := by decide +kernel
theorem dX4_valueOf_82 : decode cX4_valueOf 82 = .ok (.iload_n 1, 1) := by decide +kernel
theorem dX4_valueOf_83 : decode cX4_valueOf 83 = .ok (.iaload, 1) := by decide +kernel
theorem dX4_valueOf_84 : decode cX4_valueOf 84 = .ok (.iconst 1, 1) := by decide +kernel
theorem dX4_valueOf_85 : decode cX4_valueOf 85 = .ok (.iadd, 1) := by decide +kernel
theorem dX4_valueOf_86 : decode cX4_valueOf 86 = .ok (.if_icmp .ne 7, 3) := by decide +kernel
theorem dX4_valueOf_89 : decode cX4_valueOf 89 = .ok (.iconst 0, 1) := by decide +kernel
theorem dX4_valueOf_90 : decode cX4_valueOf 90 = .ok (.goto 7, 3) := by decide +kernel
theorem dX4_valueOf_93 : decode cX4_valueOf 93 = .ok (.bipush (-2), 2) := by decide +kernel
theorem dX4_valueOf_95 : decode cX4_valueOf 95 = .ok (.iload_n 3, 1) := by decide +kernel
theorem dX4_valueOf_96 : decode cX4_valueOf 96 = .ok (.imul, 1) := by decide +kernel
theorem dX4_valueOf_97 : decode cX4_valueOf 97 = .ok (.ireturn, 1) := by decide +kernel
theorem dX4_valueOf_98 : decode cX4_valueOf 98 = .ok (.iload_n 3, 1) := by decide +kernel
theorem dX4_valueOf_99 : decode cX4_valueOf 99 = .ok (.ineg, 1) := by decide +kernel
theorem dX4_valueOf_100 : decode cX4_valueOf 100 = .ok (.ireturn, 1) := by decide +kernel
theorem dX5_init_0 : decode cX5_init 0 = .ok (.aload_n 0, 1) := by decide +kernel
theorem dX5_init_1 : decode cX5_init 1 = .ok (.invokespecial 3, 3) := by decide +kernel
theorem dX5_init_4 : decode cX5_init 4 = .ok (.aload_n 0, 1) := by decide +kernel
theorem dX5_init_5 : decode cX5_init 5 = .ok (.bipush 6, 2) := by decide +kernel
theorem dX5_init_7 : decode cX5_init 7 = .ok (.newarray .int, 2) := by decide +kernel
theorem dX5_init_9 : decode cX5_init 9 = .ok (.putfield 9, 3) := by decide +kernel
theorem dX5_init_12 : decode cX5_init 12 = .ok (.aload_n 0, 1) := by decide +kernel
theorem dX5_init_13 : decode cX5_init 13 = .ok (.bipush 6, 2) := by decide +kernel
theorem dX5_init_15 : decode cX5_init 15 = .ok (.newarray .int, 2) := by decide +kernel
theorem dX5_init_17 : decode cX5_init 17 = .ok (.putfield 15, 3) := by decide +kernel
theorem dX5_init_20 : decode cX5_init 20 = .ok (.aload_n 0, 1) := by decide +kernel
theorem dX5_init_21 : decode cX5_init 21 = .ok (.iconst 0, 1) := by decide +kernel
theorem dX5_init_22 : decode cX5_init 22 = .ok (.putfield 18, 3) := by decide +kernel
theorem dX5_init_25 : decode cX5_init 25 = .ok (.aload_n 0, 1) := by decide +kernel
theorem dX5_init_26 : decode cX5_init 26 = .ok (.iconst 0, 1) := by decide +kernel
theorem dX5_init_27 : decode cX5_init 27 = .ok (.putfield 22, 3) := by decide +kernel
theorem dX5_init_30 : decode cX5_init 30 = .ok (.aload_n 0, 1) := by decide +kernel
theorem dX5_init_31 : decode cX5_init 31 = .ok (.ldc 25, 2) := by decide +kernel
theorem dX5_init_33 : decode cX5_init 33 = .ok (.putfield 26, 3) := by decide +kernel
theorem dX5_init_36 : decode cX5_init 36 = .ok (.aload_n 0, 1) := by decide +kernel
theorem dX5_init_37 : decode cX5_init 37 = .ok (.aload_n 1, 1) := by decide +kernel
theorem dX5_init_38 : decode cX5_init 38 = .ok (.putfield 29, 3) := by decide +kernel
theorem dX5_init_41 : decode cX5_init 41 = .ok (.return_, 1) := by decide +kernel
theorem dX5_mostWorth_0 : decode cX5_mostWorth 0 = .ok (.iconst 0, 1) := by decide +kernel
theorem dX5_mostWorth_1 : decode cX5_mostWorth 1 = .ok (.istore_n 3, 1) := by decide +kernel
theorem dX5_mostWorth_2 : decode cX5_mostWorth 2 = .ok (.iconst 0, 1) := by decide +kernel
theorem dX5_mostWorth_3 : decode cX5_mostWorth 3 = .ok (.istore 4, 2) := by decide +kernel
theorem dX5_mostWorth_5 : decode cX5_mostWorth 5 = .ok (.iload 4, 2) := by decide +kernel
theorem dX5_mostWorth_7 : decode cX5_mostWorth 7 = .ok (.aload_n 1, 1) := by decide +kernel
theorem dX5_mostWorth_8 : decode cX5_mostWorth 8 = .ok (.getfield 33, 3) := by decide +kernel
theorem dX5_mostWorth_11 : decode cX5_mostWorth 11 = .ok (.if_icmp .ge 25, 3) := by decide +kernel
theorem dX5_mostWorth_14 : decode cX5_mostWorth 14 = .ok (.iload 4, 2) := by decide +kernel
theorem dX5_mostWorth_16 : decode cX5_mostWorth 16 = .ok (.iload_n 2, 1) := by decide +kernel
theorem dX5_mostWorth_17 : decode cX5_mostWorth 17 = .ok (.if_icmp .eq 13, 3) := by decide +kernel
theorem dX5_mostWorth_20 : decode cX5_mostWorth 20 = .ok (.iload_n 3, 1) := by decide +kernel
theorem dX5_mostWorth_21 : decode cX5_mostWorth 21 = .ok (.aload_n 1, 1) := by decide +kernel
theorem dX5_mostWorth_22 : decode cX5_mostWorth 22 = .ok (.getfield 38, 3) := by decide +kernel
theorem dX5_mostWorth_25 : decode cX5_mostWorth 25 = .ok (.iload 4, 2) := by decide +kernel
theorem dX5_mostWorth_27 : decode cX5_mostWorth 27 = .ok (.iaload, 1) := by decide +kernel
theorem dX5_mostWorth_28 : decode cX5_mostWorth 28 = .ok (.iadd, 1) := by decide +kernel
theorem dX5_mostWorth_29 : decode cX5_mostWorth 29 = .ok (.istore_n 3, 1) := by decide +kernel
theorem dX5_mostWorth_30 : decode cX5_mostWorth 30 = .ok (.iinc 4 1, 3) := by decide +kernel
theorem dX5_mostWorth_33 : decode cX5_mostWorth 33 = .ok (.goto (-28), 3) := by decide +kernel
theorem dX5_mostWorth_36 : decode cX5_mostWorth 36 = .ok (.iload_n 3, 1) := by decide +kernel
theorem dX5_mostWorth_37 : decode cX5_mostWorth 37 = .ok (.aload_n 0, 1) := by decide +kernel
theorem dX5_mostWorth_38 : decode cX5_mostWorth 38 = .ok (.iconst 0, 1) := by decide +kernel
theorem dX5_mostWorth_39 : decode cX5_mostWorth 39 = .ok (.aload_n 1, 1) := by decide +kernel
theorem dX5_mostWorth_40 : decode cX5_mostWorth 40 = .ok (.iload_n 2, 1) := by decide +kernel
theorem dX5_mostWorth_41 : decode cX5_mostWorth 41 = .ok (.invokevirtual 41, 3) := by decide +kernel
theorem dX5_mostWorth_44 : decode cX5_mostWorth 44 = .ok (.isub, 1) := by decide +kernel
theorem dX5_mostWorth_45 : decode cX5_mostWorth 45 = .ok (.ireturn, 1) := by decide +kernel
theorem dX5_fewestLate_0 : decode cX5_fewestLate 0 = .ok (.aload_n 0, 1) := by decide +kernel
theorem dX5_fewestLate_1 : decode cX5_fewestLate 1 = .ok (.iconst 1, 1) := by decide +kernel
theorem dX5_fewestLate_2 : decode cX5_fewestLate 2 = .ok (.aload_n 1, 1) := by decide +kernel
theorem dX5_fewestLate_3 : decode cX5_fewestLate 3 = .ok (.bipush (-9), 2) := by decide +kernel
theorem dX5_fewestLate_5 : decode cX5_fewestLate 5 = .ok (.invokevirtual 41, 3) := by decide +kernel
theorem dX5_fewestLate_8 : decode cX5_fewestLate 8 = .ok (.ireturn, 1) := by decide +kernel
theorem dX5_soonestEnd_0 : decode cX5_soonestEnd 0 = .ok (.aload_n 0, 1) := by decide +kernel
theorem dX5_soonestEnd_1 : decode cX5_soonestEnd 1 = .ok (.iconst 2, 1) := by decide +kernel
theorem dX5_soonestEnd_2 : decode cX5_soonestEnd 2 = .ok (.aload_n 1, 1) := by decide +kernel
theorem dX5_soonestEnd_3 : decode cX5_soonestEnd 3 = .ok (.bipush (-9), 2) := by decide +kernel
theorem dX5_soonestEnd_5 : decode cX5_soonestEnd 5 = .ok (.invokevirtual 41, 3) := by decide +kernel
theorem dX5_soonestEnd_8 : decode cX5_soonestEnd 8 = .ok (.ireturn, 1) := by decide +kernel
theorem dX5_leastLost_0 : decode cX5_leastLost 0 = .ok (.aload_n 0, 1) := by decide +kernel
theorem dX5_leastLost_1 : decode cX5_leastLost 1 = .ok (.iload_n 1, 1) := by decide +kernel
theorem dX5_leastLost_2 : decode cX5_leastLost 2 = .ok (.putfield 18, 3) := by decide +kernel
theorem dX5_leastLost_5 : decode cX5_leastLost 5 = .ok (.aload_n 0, 1) := by decide +kernel
theorem dX5_leastLost_6 : decode cX5_leastLost 6 = .ok (.ldc 25, 2) := by decide +kernel
theorem dX5_leastLost_8 : decode cX5_leastLost 8 = .ok (.putfield 26, 3) := by decide +kernel
theorem dX5_leastLost_11 : decode cX5_leastLost 11 = .ok (.aload_n 2, 1) := by decide +kernel
theorem dX5_leastLost_12 : decode cX5_leastLost 12 = .ok (.iload_n 3, 1) := by decide +kernel
theorem dX5_leastLost_13 : decode cX5_leastLost 13 = .ok (.invokevirtual 45, 3) := by decide +kernel
theorem dX5_leastLost_16 : decode cX5_leastLost 16 = .ok (.istore 4, 2) := by decide +kernel
theorem dX5_leastLost_18 : decode cX5_leastLost 18 = .ok (.aload_n 0, 1) := by decide +kernel
theorem dX5_leastLost_19 : decode cX5_leastLost 19 = .ok (.iload 4, 2) := by decide +kernel
theorem dX5_leastLost_21 : decode cX5_leastLost 21 = .ok (.ifCond .eq 12, 3) := by decide +kernel
theorem dX5_leastLost_24 : decode cX5_leastLost 24 = .ok (.aload_n 2, 1) := by decide +kernel
theorem dX5_leastLost_25 : decode cX5_leastLost 25 = .ok (.getfield 33, 3) := by decide +kernel
theorem dX5_leastLost_28 : decode cX5_leastLost 28 = .ok (.iconst 1, 1) := by decide +kernel
theorem dX5_leastLost_29 : decode cX5_leastLost 29 = .ok (.isub, 1) := by decide +kernel
theorem dX5_leastLost_30 : decode cX5_leastLost 30 = .ok (.goto 7, 3) := by decide +kernel
theorem dX5_leastLost_33 : decode cX5_leastLost 33 = .ok (.aload_n 2, 1) := by decide +kernel
theorem dX5_leastLost_34 : decode cX5_leastLost 34 = .ok (.getfield 33, 3) := by decide +kernel
theorem dX5_leastLost_37 : decode cX5_leastLost 37 = .ok (.putfield 22, 3) := by decide +kernel
theorem dX5_leastLost_40 : decode cX5_leastLost 40 = .ok (.aload_n 0, 1) := by decide +kernel
theorem dX5_leastLost_41 : decode cX5_leastLost 41 = .ok (.aload_n 2, 1) := by decide +kernel
theorem dX5_leastLost_42 : decode cX5_leastLost 42 = .ok (.iconst 0, 1) := by decide +kernel
theorem dX5_leastLost_43 : decode cX5_leastLost 43 = .ok (.iconst 0, 1) := by decide +kernel
theorem dX5_leastLost_44 : decode cX5_leastLost 44 = .ok (.iconst 0, 1) := by decide +kernel
theorem dX5_leastLost_45 : decode cX5_leastLost 45 = .ok (.iload 4, 2) := by decide +kernel
theorem dX5_leastLost_47 : decode cX5_leastLost 47 = .ok (.ifCond .eq 9, 3) := by decide +kernel
theorem dX5_leastLost_50 : decode cX5_leastLost 50 = .ok (.iconst 1, 1) := by decide +kernel
theorem dX5_leastLost_51 : decode cX5_leastLost 51 = .ok (.iload_n 3, 1) := by decide +kernel
theorem dX5_leastLost_52 : decode cX5_leastLost 52 = .ok (.ishl, 1) := by decide +kernel
theorem dX5_leastLost_53 : decode cX5_leastLost 53 = .ok (.goto 4, 3) := by decide +kernel
theorem dX5_leastLost_56 : decode cX5_leastLost 56 = .ok (.iconst 0, 1) := by decide +kernel
theorem dX5_leastLost_57 : decode cX5_leastLost 57 = .ok (.iconst 0, 1) := by decide +kernel
theorem dX5_leastLost_58 : decode cX5_leastLost 58 = .ok (.invokevirtual 49, 3) := by decide +kernel
theorem dX5_leastLost_61 : decode cX5_leastLost 61 = .ok (.aload_n 0, 1) := by decide +kernel
theorem dX5_leastLost_62 : decode cX5_leastLost 62 = .ok (.getfield 26, 3) := by decide +kernel
theorem dX5_leastLost_65 : decode cX5_leastLost 65 = .ok (.ireturn, 1) := by decide +kernel
theorem dX5_walk_0 : decode cX5_walk 0 = .ok (.iload 6, 2) := by decide +kernel
theorem dX5_walk_2 : decode cX5_walk 2 = .ok (.aload_n 0, 1) := by decide +kernel
theorem dX5_walk_3 : decode cX5_walk 3 = .ok (.getfield 26, 3) := by decide +kernel
theorem dX5_walk_6 : decode cX5_walk 6 = .ok (.if_icmp .lt 4, 3) := by decide +kernel
theorem dX5_walk_9 : decode cX5_walk 9 = .ok (.return_, 1) := by decide +kernel
theorem dX5_walk_10 : decode cX5_walk 10 = .ok (.iload_n 2, 1) := by decide +kernel
theorem dX5_walk_11 : decode cX5_walk 11 = .ok (.aload_n 0, 1) := by decide +kernel
theorem dX5_walk_12 : decode cX5_walk 12 = .ok (.getfield 22, 3) := by decide +kernel
theorem dX5_walk_15 : decode cX5_walk 15 = .ok (.if_icmp .lt 25, 3) := by decide +kernel
theorem dX5_walk_18 : decode cX5_walk 18 = .ok (.aload_n 0, 1) := by decide +kernel
theorem dX5_walk_19 : decode cX5_walk 19 = .ok (.iload 6, 2) := by decide +kernel
theorem dX5_walk_21 : decode cX5_walk 21 = .ok (.putfield 26, 3) := by decide +kernel
theorem dX5_walk_24 : decode cX5_walk 24 = .ok (.aload_n 0, 1) := by decide +kernel
theorem dX5_walk_25 : decode cX5_walk 25 = .ok (.getfield 9, 3) := by decide +kernel
theorem dX5_walk_28 : decode cX5_walk 28 = .ok (.iconst 0, 1) := by decide +kernel
theorem dX5_walk_29 : decode cX5_walk 29 = .ok (.aload_n 0, 1) := by decide +kernel
theorem dX5_walk_30 : decode cX5_walk 30 = .ok (.getfield 15, 3) := by decide +kernel
theorem dX5_walk_33 : decode cX5_walk 33 = .ok (.iconst 0, 1) := by decide +kernel
theorem dX5_walk_34 : decode cX5_walk 34 = .ok (.bipush 6, 2) := by decide +kernel
theorem dX5_walk_36 : decode cX5_walk 36 = .ok (.invokestatic 53, 3) := by decide +kernel
theorem dX5_walk_39 : decode cX5_walk 39 = .ok (.return_, 1) := by decide +kernel
theorem dX5_walk_40 : decode cX5_walk 40 = .ok (.iconst 0, 1) := by decide +kernel
theorem dX5_walk_41 : decode cX5_walk 41 = .ok (.istore 7, 2) := by decide +kernel
theorem dX5_walk_43 : decode cX5_walk 43 = .ok (.iload 7, 2) := by decide +kernel
theorem dX5_walk_45 : decode cX5_walk 45 = .ok (.aload_n 1, 1) := by decide +kernel
theorem dX5_walk_46 : decode cX5_walk 46 = .ok (.getfield 33, 3) := by decide +kernel
theorem dX5_walk_49 : decode cX5_walk 49 = .ok (.if_icmp .ge 92, 3) := by decide +kernel
theorem dX5_walk_52 : decode cX5_walk 52 = .ok (.iload 5, 2) := by decide +kernel
theorem dX5_walk_54 : decode cX5_walk 54 = .ok (.iload 7, 2) := by decide +kernel
theorem dX5_walk_56 : decode cX5_walk 56 = .ok (.ishr, 1) := by decide +kernel
theorem dX5_walk_57 : decode cX5_walk 57 = .ok (.iconst 1, 1) := by decide +kernel
theorem dX5_walk_58 : decode cX5_walk 58 = .ok (.iand, 1) := by decide +kernel
theorem dX5_walk_59 : decode cX5_walk 59 = .ok (.ifCond .eq 6, 3) := by decide +kernel
theorem dX5_walk_62 : decode cX5_walk 62 = .ok (.goto 73, 3) := by decide +kernel
theorem dX5_walk_65 : decode cX5_walk 65 = .ok (.aload_n 0, 1) := by decide +kernel
theorem dX5_walk_66 : decode cX5_walk 66 = .ok (.getfield 29, 3) := by decide +kernel
theorem dX5_walk_69 : decode cX5_walk 69 = .ok (.iload_n 3, 1) := by decide +kernel
theorem dX5_walk_70 : decode cX5_walk 70 = .ok (.iload 4, 2) := by decide +kernel
theorem dX5_walk_72 : decode cX5_walk 72 = .ok (.aload_n 1, 1) := by decide +kernel
theorem dX5_walk_73 : decode cX5_walk 73 = .ok (.iload 7, 2) := by decide +kernel
theorem dX5_walk_75 : decode cX5_walk 75 = .ok (.invokevirtual 59, 3) := by decide +kernel
theorem dX5_walk_78 : decode cX5_walk 78 = .ok (.istore 8, 2) := by decide +kernel
theorem dX5_walk_80 : decode cX5_walk 80 = .ok (.aload_n 0, 1) := by decide +kernel
theorem dX5_walk_81 : decode cX5_walk 81 = .ok (.getfield 9, 3) := by decide +kernel
theorem dX5_walk_84 : decode cX5_walk 84 = .ok (.iload_n 2, 1) := by decide +kernel
theorem dX5_walk_85 : decode cX5_walk 85 = .ok (.iload 7, 2) := by decide +kernel
theorem dX5_walk_87 : decode cX5_walk 87 = .ok (.iastore, 1) := by decide +kernel
theorem dX5_walk_88 : decode cX5_walk 88 = .ok (.aload_n 0, 1) := by decide +kernel
theorem dX5_walk_89 : decode cX5_walk 89 = .ok (.aload_n 1, 1) := by decide +kernel
theorem dX5_walk_90 : decode cX5_walk 90 = .ok (.iload 7, 2) := by decide +kernel
theorem dX5_walk_92 : decode cX5_walk 92 = .ok (.aload_n 0, 1) := by decide +kernel
theorem dX5_walk_93 : decode cX5_walk 93 = .ok (.getfield 29, 3) := by decide +kernel
theorem dX5_walk_96 : decode cX5_walk 96 = .ok (.iload 8, 2) := by decide +kernel
theorem dX5_walk_98 : decode cX5_walk 98 = .ok (.invokevirtual 65, 3) := by decide +kernel
theorem dX5_walk_101 : decode cX5_walk 101 = .ok (.invokevirtual 69, 3) := by decide +kernel
theorem dX5_walk_104 : decode cX5_walk 104 = .ok (.istore 9, 2) := by decide +kernel
theorem dX5_walk_106 : decode cX5_walk 106 = .ok (.aload_n 0, 1) := by decide +kernel
theorem dX5_walk_107 : decode cX5_walk 107 = .ok (.aload_n 1, 1) := by decide +kernel
theorem dX5_walk_108 : decode cX5_walk 108 = .ok (.iload_n 2, 1) := by decide +kernel
theorem dX5_walk_109 : decode cX5_walk 109 = .ok (.iconst 1, 1) := by decide +kernel
theorem dX5_walk_110 : decode cX5_walk 110 = .ok (.iadd, 1) := by decide +kernel
theorem dX5_walk_111 : decode cX5_walk 111 = .ok (.iload 8, 2) := by decide +kernel
theorem dX5_walk_113 : decode cX5_walk 113 = .ok (.aload_n 1, 1) := by decide +kernel
theorem dX5_walk_114 : decode cX5_walk 114 = .ok (.getfield 73, 3) := by decide +kernel
theorem dX5_walk_117 : decode cX5_walk 117 = .ok (.iload 7, 2) := by decide +kernel
theorem dX5_walk_119 : decode cX5_walk 119 = .ok (.iaload, 1) := by decide +kernel
theorem dX5_walk_120 : decode cX5_walk 120 = .ok (.iload 5, 2) := by decide +kernel
theorem dX5_walk_122 : decode cX5_walk 122 = .ok (.iconst 1, 1) := by decide +kernel
theorem dX5_walk_123 : decode cX5_walk 123 = .ok (.iload 7, 2) := by decide +kernel
theorem dX5_walk_125 : decode cX5_walk 125 = .ok (.ishl, 1) := by decide +kernel
theorem dX5_walk_126 : decode cX5_walk 126 = .ok (.ior, 1) := by decide +kernel
theorem dX5_walk_127 : decode cX5_walk 127 = .ok (.iload 6, 2) := by decide +kernel
theorem dX5_walk_129 : decode cX5_walk 129 = .ok (.iload 9, 2) := by decide +kernel
theorem dX5_walk_131 : decode cX5_walk 131 = .ok (.iadd, 1) := by decide +kernel
theorem dX5_walk_132 : decode cX5_walk 132 = .ok (.invokevirtual 49, 3) := by decide +kernel
theorem dX5_walk_135 : decode cX5_walk 135 = .ok (.iinc 7 1, 3) := by decide +kernel
theorem dX5_walk_138 : decode cX5_walk 138 = .ok (.goto (-95), 3) := by decide +kernel
theorem dX5_walk_141 : decode cX5_walk 141 = .ok (.return_, 1) := by decide +kernel
theorem dX5_lossOf_0 : decode cX5_lossOf 0 = .ok (.iload_n 3, 1) := by decide +kernel
theorem dX5_lossOf_1 : decode cX5_lossOf 1 = .ok (.aload_n 1, 1) := by decide +kernel
theorem dX5_lossOf_2 : decode cX5_lossOf 2 = .ok (.getfield 76, 3) := by decide +kernel
theorem dX5_lossOf_5 : decode cX5_lossOf 5 = .ok (.iload_n 2, 1) := by decide +kernel
theorem dX5_lossOf_6 : decode cX5_lossOf 6 = .ok (.iaload, 1) := by decide +kernel
theorem dX5_lossOf_7 : decode cX5_lossOf 7 = .ok (.if_icmp .le 7, 3) := by decide +kernel
theorem dX5_lossOf_10 : decode cX5_lossOf 10 = .ok (.iconst 1, 1) := by decide +kernel
theorem dX5_lossOf_11 : decode cX5_lossOf 11 = .ok (.goto 4, 3) := by decide +kernel
theorem dX5_lossOf_14 : decode cX5_lossOf 14 = .ok (.iconst 0, 1) := by decide +kernel
theorem dX5_lossOf_15 : decode cX5_lossOf 15 = .ok (.istore 4, 2) := by decide +kernel
theorem dX5_lossOf_17 : decode cX5_lossOf 17 = .ok (.aload_n 0, 1) := by decide +kernel
theorem dX5_lossOf_18 : decode cX5_lossOf 18 = .ok (.getfield 18, 3) := by decide +kernel
theorem dX5_lossOf_21 : decode cX5_lossOf 21 = .ok (.lookupswitch 59 #[(0, 27), (1, 48)], 27) := by decide +kernel
theorem dX5_lossOf_48 : decode cX5_lossOf 48 = .ok (.aload_n 1, 1) := by decide +kernel
theorem dX5_lossOf_49 : decode cX5_lossOf 49 = .ok (.getfield 38, 3) := by decide +kernel
theorem dX5_lossOf_52 : decode cX5_lossOf 52 = .ok (.iload_n 2, 1) := by decide +kernel
theorem dX5_lossOf_53 : decode cX5_lossOf 53 = .ok (.iaload, 1) := by decide +kernel
theorem dX5_lossOf_54 : decode cX5_lossOf 54 = .ok (.aload_n 1, 1) := by decide +kernel
theorem dX5_lossOf_55 : decode cX5_lossOf 55 = .ok (.iload_n 2, 1) := by decide +kernel
theorem dX5_lossOf_56 : decode cX5_lossOf 56 = .ok (.iload_n 3, 1) := by decide +kernel
theorem dX5_lossOf_57 : decode cX5_lossOf 57 = .ok (.aload_n 0, 1) := by decide +kernel
theorem dX5_lossOf_58 : decode cX5_lossOf 58 = .ok (.getfield 29, 3) := by decide +kernel
theorem dX5_lossOf_61 : decode cX5_lossOf 61 = .ok (.getfield 79, 3) := by decide +kernel
theorem dX5_lossOf_64 : decode cX5_lossOf 64 = .ok (.invokevirtual 82, 3) := by decide +kernel
theorem dX5_lossOf_67 : decode cX5_lossOf 67 = .ok (.isub, 1) := by decide +kernel
theorem dX5_lossOf_68 : decode cX5_lossOf 68 = .ok (.ireturn, 1) := by decide +kernel
theorem dX5_lossOf_69 : decode cX5_lossOf 69 = .ok (.iload 4, 2) := by decide +kernel
theorem dX5_lossOf_71 : decode cX5_lossOf 71 = .ok (.ifCond .eq 7, 3) := by decide +kernel
theorem dX5_lossOf_74 : decode cX5_lossOf 74 = .ok (.iconst 1, 1) := by decide +kernel
theorem dX5_lossOf_75 : decode cX5_lossOf 75 = .ok (.goto 4, 3) := by decide +kernel
theorem dX5_lossOf_78 : decode cX5_lossOf 78 = .ok (.iconst 0, 1) := by decide +kernel
theorem dX5_lossOf_79 : decode cX5_lossOf 79 = .ok (.ireturn, 1) := by decide +kernel
theorem dX5_lossOf_80 : decode cX5_lossOf 80 = .ok (.iload_n 2, 1) := by decide +kernel
theorem dX5_lossOf_81 : decode cX5_lossOf 81 = .ok (.aload_n 1, 1) := by decide +kernel
theorem dX5_lossOf_82 : decode cX5_lossOf 82 = .ok (.getfield 33, 3) := by decide +kernel
theorem dX5_lossOf_85 : decode cX5_lossOf 85 = .ok (.iconst 1, 1) := by decide +kernel
theorem dX5_lossOf_86 : decode cX5_lossOf 86 = .ok (.isub, 1) := by decide +kernel
theorem dX5_lossOf_87 : decode cX5_lossOf 87 = .ok (.if_icmp .ne 5, 3) := by decide +kernel
theorem dX5_lossOf_90 : decode cX5_lossOf 90 = .ok (.iload_n 3, 1) := by decide +kernel
theorem dX5_lossOf_91 : decode cX5_lossOf 91 = .ok (.ireturn, 1) := by decide +kernel
theorem dX5_lossOf_92 : decode cX5_lossOf 92 = .ok (.iload 4, 2) := by decide +kernel
theorem dX5_lossOf_94 : decode cX5_lossOf 94 = .ok (.ifCond .eq 8, 3) := by decide +kernel
theorem dX5_lossOf_97 : decode cX5_lossOf 97 = .ok (.ldc 25, 2) := by decide +kernel
theorem dX5_lossOf_99 : decode cX5_lossOf 99 = .ok (.goto 4, 3) := by decide +kernel
theorem dX5_lossOf_102 : decode cX5_lossOf 102 = .ok (.iconst 0, 1) := by decide +kernel
theorem dX5_lossOf_103 : decode cX5_lossOf 103 = .ok (.ireturn, 1) := by decide +kernel
theorem dX6_init_0 : decode cX6_init 0 = .ok (.aload_n 0, 1) := by decide +kernel
theorem dX6_init_1 : decode cX6_init 1 = .ok (.invokespecial 3, 3) := by decide +kernel
theorem dX6_init_4 : decode cX6_init 4 = .ok (.aload_n 0, 1) := by decide +kernel
theorem dX6_init_5 : decode cX6_init 5 = .ok (.bipush 18, 2) := by decide +kernel
theorem dX6_init_7 : decode cX6_init 7 = .ok (.newarray .int, 2) := by decide +kernel
theorem dX6_init_9 : decode cX6_init 9 = .ok (.putfield 11, 3) := by decide +kernel
theorem dX6_init_12 : decode cX6_init 12 = .ok (.aload_n 0, 1) := by decide +kernel
theorem dX6_init_13 : decode cX6_init 13 = .ok (.iconst 0, 1) := by decide +kernel
theorem dX6_init_14 : decode cX6_init 14 = .ok (.putfield 15, 3) := by decide +kernel
theorem dX6_init_17 : decode cX6_init 17 = .ok (.aload_n 0, 1) := by decide +kernel
theorem dX6_init_18 : decode cX6_init 18 = .ok (.aload_n 1, 1) := by decide +kernel
theorem dX6_init_19 : decode cX6_init 19 = .ok (.putfield 19, 3) := by decide +kernel
theorem dX6_init_22 : decode cX6_init 22 = .ok (.return_, 1) := by decide +kernel
theorem dX6_has_0 : decode cX6_has 0 = .ok (.iload_n 1, 1) := by decide +kernel
theorem dX6_has_1 : decode cX6_has 1 = .ok (.iconst 0, 1) := by decide +kernel
theorem dX6_has_2 : decode cX6_has 2 = .ok (.aload_n 0, 1) := by decide +kernel
theorem dX6_has_3 : decode cX6_has 3 = .ok (.getfield 15, 3) := by decide +kernel
theorem dX6_has_6 : decode cX6_has 6 = .ok (.iconst 1, 1) := by decide +kernel
theorem dX6_has_7 : decode cX6_has 7 = .ok (.isub, 1) := by decide +kernel
theorem dX6_has_8 : decode cX6_has 8 = .ok (.invokestatic 23, 3) := by decide +kernel
theorem dX6_has_11 : decode cX6_has 11 = .ok (.ifCond .eq 16, 3) := by decide +kernel
theorem dX6_has_14 : decode cX6_has 14 = .ok (.iload_n 2, 1) := by decide +kernel
theorem dX6_has_15 : decode cX6_has 15 = .ok (.iconst 0, 1) := by decide +kernel
theorem dX6_has_16 : decode cX6_has 16 = .ok (.iconst 2, 1) := by decide +kernel
theorem dX6_has_17 : decode cX6_has 17 = .ok (.invokestatic 23, 3) := by decide +kernel
theorem dX6_has_20 : decode cX6_has 20 = .ok (.ifCond .eq 7, 3) := by decide +kernel
theorem dX6_has_23 : decode cX6_has 23 = .ok (.iconst 1, 1) := by decide +kernel
theorem dX6_has_24 : decode cX6_has 24 = .ok (.goto 4, 3) := by decide +kernel
theorem dX6_has_27 : decode cX6_has 27 = .ok (.iconst 0, 1) := by decide +kernel
theorem dX6_has_28 : decode cX6_has 28 = .ok (.ireturn, 1) := by decide +kernel
theorem dX6_fill_0 : decode cX6_fill 0 = .ok (.aload_n 0, 1) := by decide +kernel
theorem dX6_fill_1 : decode cX6_fill 1 = .ok (.getfield 19, 3) := by decide +kernel
theorem dX6_fill_4 : decode cX6_fill 4 = .ok (.aload_n 1, 1) := by decide +kernel
theorem dX6_fill_5 : decode cX6_fill 5 = .ok (.aload_n 2, 1) := by decide +kernel
theorem dX6_fill_6 : decode cX6_fill 6 = .ok (.invokevirtual 27, 3) := by decide +kernel
theorem dX6_fill_9 : decode cX6_fill 9 = .ok (.aload_n 0, 1) := by decide +kernel
theorem dX6_fill_10 : decode cX6_fill 10 = .ok (.aload_n 1, 1) := by decide +kernel
theorem dX6_fill_11 : decode cX6_fill 11 = .ok (.getfield 33, 3) := by decide +kernel
theorem dX6_fill_14 : decode cX6_fill 14 = .ok (.putfield 15, 3) := by decide +kernel
theorem dX6_fill_17 : decode cX6_fill 17 = .ok (.iconst 0, 1) := by decide +kernel
theorem dX6_fill_18 : decode cX6_fill 18 = .ok (.istore_n 3, 1) := by decide +kernel
theorem dX6_fill_19 : decode cX6_fill 19 = .ok (.iload_n 3, 1) := by decide +kernel
theorem dX6_fill_20 : decode cX6_fill 20 = .ok (.aload_n 1, 1) := by decide +kernel
theorem dX6_fill_21 : decode cX6_fill 21 = .ok (.getfield 33, 3) := by decide +kernel
theorem dX6_fill_24 : decode cX6_fill 24 = .ok (.if_icmp .ge 77, 3) := by decide +kernel
theorem dX6_fill_27 : decode cX6_fill 27 = .ok (.aload_n 2, 1) := by decide +kernel
theorem dX6_fill_28 : decode cX6_fill 28 = .ok (.iload_n 3, 1) := by decide +kernel
theorem dX6_fill_29 : decode cX6_fill 29 = .ok (.iaload, 1) := by decide +kernel
theorem dX6_fill_30 : decode cX6_fill 30 = .ok (.istore 4, 2) := by decide +kernel
theorem dX6_fill_32 : decode cX6_fill 32 = .ok (.aload_n 0, 1) := by decide +kernel
theorem dX6_fill_33 : decode cX6_fill 33 = .ok (.getfield 11, 3) := by decide +kernel
theorem dX6_fill_36 : decode cX6_fill 36 = .ok (.iload_n 3, 1) := by decide +kernel
theorem dX6_fill_37 : decode cX6_fill 37 = .ok (.iconst 3, 1) := by decide +kernel
theorem dX6_fill_38 : decode cX6_fill 38 = .ok (.imul, 1) := by decide +kernel
theorem dX6_fill_39 : decode cX6_fill 39 = .ok (.iload 4, 2) := by decide +kernel
theorem dX6_fill_41 : decode cX6_fill 41 = .ok (.iastore, 1) := by decide +kernel
theorem dX6_fill_42 : decode cX6_fill 42 = .ok (.aload_n 0, 1) := by decide +kernel
theorem dX6_fill_43 : decode cX6_fill 43 = .ok (.getfield 11, 3) := by decide +kernel
theorem dX6_fill_46 : decode cX6_fill 46 = .ok (.iload_n 3, 1) := by decide +kernel
theorem dX6_fill_47 : decode cX6_fill 47 = .ok (.iconst 3, 1) := by decide +kernel
theorem dX6_fill_48 : decode cX6_fill 48 = .ok (.imul, 1) := by decide +kernel
theorem dX6_fill_49 : decode cX6_fill 49 = .ok (.iconst 1, 1) := by decide +kernel
theorem dX6_fill_50 : decode cX6_fill 50 = .ok (.iadd, 1) := by decide +kernel
theorem dX6_fill_51 : decode cX6_fill 51 = .ok (.aload_n 0, 1) := by decide +kernel
theorem dX6_fill_52 : decode cX6_fill 52 = .ok (.getfield 19, 3) := by decide +kernel
theorem dX6_fill_55 : decode cX6_fill 55 = .ok (.getfield 36, 3) := by decide +kernel
theorem dX6_fill_58 : decode cX6_fill 58 = .ok (.iload 4, 2) := by decide +kernel
theorem dX6_fill_60 : decode cX6_fill 60 = .ok (.iaload, 1) := by decide +kernel
theorem dX6_fill_61 : decode cX6_fill 61 = .ok (.iastore, 1) := by decide +kernel
theorem dX6_fill_62 : decode cX6_fill 62 = .ok (.aload_n 0, 1) := by decide +kernel
theorem dX6_fill_63 : decode cX6_fill 63 = .ok (.getfield 11, 3) := by decide +kernel
theorem dX6_fill_66 : decode cX6_fill 66 = .ok (.iload_n 3, 1) := by decide +kernel
theorem dX6_fill_67 : decode cX6_fill 67 = .ok (.iconst 3, 1) := by decide +kernel
theorem dX6_fill_68 : decode cX6_fill 68 = .ok (.imul, 1) := by decide +kernel
theorem dX6_fill_69 : decode cX6_fill 69 = .ok (.iconst 2, 1) := by decide +kernel
theorem dX6_fill_70 : decode cX6_fill 70 = .ok (.iadd, 1) := by decide +kernel
theorem dX6_fill_71 : decode cX6_fill 71 = .ok (.aload_n 1, 1) := by decide +kernel
theorem dX6_fill_72 : decode cX6_fill 72 = .ok (.iload 4, 2) := by decide +kernel
theorem dX6_fill_74 : decode cX6_fill 74 = .ok (.aload_n 0, 1) := by decide +kernel
theorem dX6_fill_75 : decode cX6_fill 75 = .ok (.getfield 19, 3) := by decide +kernel
theorem dX6_fill_78 : decode cX6_fill 78 = .ok (.getfield 36, 3) := by decide +kernel
theorem dX6_fill_81 : decode cX6_fill 81 = .ok (.iload 4, 2) := by decide +kernel
theorem dX6_fill_83 : decode cX6_fill 83 = .ok (.iaload, 1) := by decide +kernel
theorem dX6_fill_84 : decode cX6_fill 84 = .ok (.aload_n 0, 1) := by decide +kernel
theorem dX6_fill_85 : decode cX6_fill 85 = .ok (.getfield 19, 3) := by decide +kernel
theorem dX6_fill_88 : decode cX6_fill 88 = .ok (.getfield 39, 3) := by decide +kernel
theorem dX6_fill_91 : decode cX6_fill 91 = .ok (.invokevirtual 42, 3) := by decide +kernel
theorem dX6_fill_94 : decode cX6_fill 94 = .ok (.iastore, 1) := by decide +kernel
theorem dX6_fill_95 : decode cX6_fill 95 = .ok (.iinc 3 1, 3) := by decide +kernel
theorem dX6_fill_98 : decode cX6_fill 98 = .ok (.goto (-79), 3) := by decide +kernel
theorem dX6_fill_101 : decode cX6_fill 101 = .ok (.return_, 1) := by decide +kernel
theorem dX6_firstWrong_0 : decode cX6_firstWrong 0 = .ok (.iconst 0, 1) := by decide +kernel
theorem dX6_firstWrong_1 : decode cX6_firstWrong 1 = .ok (.istore_n 2, 1) := by decide +kernel
theorem dX6_firstWrong_2 : decode cX6_firstWrong 2 = .ok (.iconst 0, 1) := by decide +kernel
theorem dX6_firstWrong_3 : decode cX6_firstWrong 3 = .ok (.istore_n 3, 1) := by decide +kernel
theorem dX6_firstWrong_4 : decode cX6_firstWrong 4 = .ok (.iconst 0, 1) := by decide +kernel
theorem dX6_firstWrong_5 : decode cX6_firstWrong 5 = .ok (.istore 4, 2) := by decide +kernel
theorem dX6_firstWrong_7 : decode cX6_firstWrong 7 = .ok (.iconst 0, 1) := by decide +kernel
theorem dX6_firstWrong_8 : decode cX6_firstWrong 8 = .ok (.istore 5, 2) := by decide +kernel
theorem dX6_firstWrong_10 : decode cX6_firstWrong 10 = .ok (.iload 5, 2) := by decide +kernel
theorem dX6_firstWrong_12 : decode cX6_firstWrong 12 = .ok (.aload_n 0, 1) := by decide +kernel
theorem dX6_firstWrong_13 : decode cX6_firstWrong 13 = .ok (.getfield 15, 3) := by decide +kernel
theorem dX6_firstWrong_16 : decode cX6_firstWrong 16 = .ok (.if_icmp .ge 139, 3) := by decide +kernel
theorem dX6_firstWrong_19 : decode cX6_firstWrong 19 = .ok (.aload_n 0, 1) := by decide +kernel
theorem dX6_firstWrong_20 : decode cX6_firstWrong 20 = .ok (.getfield 11, 3) := by decide +kernel
theorem dX6_firstWrong_23 : decode cX6_firstWrong 23 = .ok (.iload 5, 2) := by decide +kernel
theorem dX6_firstWrong_25 : decode cX6_firstWrong 25 = .ok (.iconst 3, 1) := by decide +kernel
theorem dX6_firstWrong_26 : decode cX6_firstWrong 26 = .ok (.imul, 1) := by decide +kernel
theorem dX6_firstWrong_27 : decode cX6_firstWrong 27 = .ok (.iaload, 1) := by decide +kernel
theorem dX6_firstWrong_28 : decode cX6_firstWrong 28 = .ok (.istore 6, 2) := by decide +kernel
theorem dX6_firstWrong_30 : decode cX6_firstWrong 30 = .ok (.aload_n 1, 1) := by decide +kernel
theorem dX6_firstWrong_31 : decode cX6_firstWrong 31 = .ok (.iload 6, 2) := by decide +kernel
theorem dX6_firstWrong_33 : decode cX6_firstWrong 33 = .ok (.invokevirtual 46, 3) := by decide +kernel
theorem dX6_firstWrong_36 : decode cX6_firstWrong 36 = .ok (.ifCond .eq 13, 3) := by decide +kernel
theorem dX6_firstWrong_39 : decode cX6_firstWrong 39 = .ok (.iload 4, 2) := by decide +kernel
theorem dX6_firstWrong_41 : decode cX6_firstWrong 41 = .ok (.iload 6, 2) := by decide +kernel
theorem dX6_firstWrong_43 : decode cX6_firstWrong 43 = .ok (.ishr, 1) := by decide +kernel
theorem dX6_firstWrong_44 : decode cX6_firstWrong 44 = .ok (.iconst 1, 1) := by decide +kernel
theorem dX6_firstWrong_45 : decode cX6_firstWrong 45 = .ok (.iand, 1) := by decide +kernel
theorem dX6_firstWrong_46 : decode cX6_firstWrong 46 = .ok (.ifCond .eq 8, 3) := by decide +kernel
theorem dX6_firstWrong_49 : decode cX6_firstWrong 49 = .ok (.iload 5, 2) := by decide +kernel
theorem dX6_firstWrong_51 : decode cX6_firstWrong 51 = .ok (.iconst 1, 1) := by decide +kernel
theorem dX6_firstWrong_52 : decode cX6_firstWrong 52 = .ok (.iadd, 1) := by decide +kernel
theorem dX6_firstWrong_53 : decode cX6_firstWrong 53 = .ok (.ireturn, 1) := by decide +kernel
theorem dX6_firstWrong_54 : decode cX6_firstWrong 54 = .ok (.iload 4, 2) := by decide +kernel
theorem dX6_firstWrong_56 : decode cX6_firstWrong 56 = .ok (.iconst 1, 1) := by decide +kernel
theorem dX6_firstWrong_57 : decode cX6_firstWrong 57 = .ok (.iload 6, 2) := by decide +kernel
theorem dX6_firstWrong_59 : decode cX6_firstWrong 59 = .ok (.ishl, 1) := by decide +kernel
theorem dX6_firstWrong_60 : decode cX6_firstWrong 60 = .ok (.ior, 1) := by decide +kernel
theorem dX6_firstWrong_61 : decode cX6_firstWrong 61 = .ok (.istore 4, 2) := by decide +kernel
theorem dX6_firstWrong_63 : decode cX6_firstWrong 63 = .ok (.aload_n 0, 1) := by decide +kernel
theorem dX6_firstWrong_64 : decode cX6_firstWrong 64 = .ok (.getfield 19, 3) := by decide +kernel
theorem dX6_firstWrong_67 : decode cX6_firstWrong 67 = .ok (.iload_n 2, 1) := by decide +kernel
theorem dX6_firstWrong_68 : decode cX6_firstWrong 68 = .ok (.iload_n 3, 1) := by decide +kernel
theorem dX6_firstWrong_69 : decode cX6_firstWrong 69 = .ok (.aload_n 1, 1) := by decide +kernel
theorem dX6_firstWrong_70 : decode cX6_firstWrong 70 = .ok (.iload 6, 2) := by decide +kernel
theorem dX6_firstWrong_72 : decode cX6_firstWrong 72 = .ok (.invokevirtual 50, 3) := by decide +kernel
theorem dX6_firstWrong_75 : decode cX6_firstWrong 75 = .ok (.istore_n 2, 1) := by decide +kernel
theorem dX6_firstWrong_76 : decode cX6_firstWrong 76 = .ok (.aload_n 1, 1) := by decide +kernel
theorem dX6_firstWrong_77 : decode cX6_firstWrong 77 = .ok (.getfield 54, 3) := by decide +kernel
theorem dX6_firstWrong_80 : decode cX6_firstWrong 80 = .ok (.iload 6, 2) := by decide +kernel
theorem dX6_firstWrong_82 : decode cX6_firstWrong 82 = .ok (.iaload, 1) := by decide +kernel
theorem dX6_firstWrong_83 : decode cX6_firstWrong 83 = .ok (.istore_n 3, 1) := by decide +kernel
theorem dX6_firstWrong_84 : decode cX6_firstWrong 84 = .ok (.aload_n 0, 1) := by decide +kernel
theorem dX6_firstWrong_85 : decode cX6_firstWrong 85 = .ok (.getfield 19, 3) := by decide +kernel
theorem dX6_firstWrong_88 : decode cX6_firstWrong 88 = .ok (.iload_n 2, 1) := by decide +kernel
theorem dX6_firstWrong_89 : decode cX6_firstWrong 89 = .ok (.invokevirtual 57, 3) := by decide +kernel
theorem dX6_firstWrong_92 : decode cX6_firstWrong 92 = .ok (.istore 7, 2) := by decide +kernel
theorem dX6_firstWrong_94 : decode cX6_firstWrong 94 = .ok (.aload_n 0, 1) := by decide +kernel
theorem dX6_firstWrong_95 : decode cX6_firstWrong 95 = .ok (.getfield 11, 3) := by decide +kernel
theorem dX6_firstWrong_98 : decode cX6_firstWrong 98 = .ok (.iload 5, 2) := by decide +kernel
theorem dX6_firstWrong_100 : decode cX6_firstWrong 100 = .ok (.iconst 3, 1) := by decide +kernel
theorem dX6_firstWrong_101 : decode cX6_firstWrong 101 = .ok (.imul, 1) := by decide +kernel
theorem dX6_firstWrong_102 : decode cX6_firstWrong 102 = .ok (.iconst 1, 1) := by decide +kernel
theorem dX6_firstWrong_103 : decode cX6_firstWrong 103 = .ok (.iadd, 1) := by decide +kernel
theorem dX6_firstWrong_104 : decode cX6_firstWrong 104 = .ok (.iaload, 1) := by decide +kernel
theorem dX6_firstWrong_105 : decode cX6_firstWrong 105 = .ok (.iload 7, 2) := by decide +kernel
theorem dX6_firstWrong_107 : decode cX6_firstWrong 107 = .ok (.if_icmp .eq 8, 3) := by decide +kernel
theorem dX6_firstWrong_110 : decode cX6_firstWrong 110 = .ok (.iload 5, 2) := by decide +kernel
theorem dX6_firstWrong_112 : decode cX6_firstWrong 112 = .ok (.iconst 1, 1) := by decide +kernel
theorem dX6_firstWrong_113 : decode cX6_firstWrong 113 = .ok (.iadd, 1) := by decide +kernel
theorem dX6_firstWrong_114 : decode cX6_firstWrong 114 = .ok (.ireturn, 1) := by decide +kernel
theorem dX6_firstWrong_115 : decode cX6_firstWrong 115 = .ok (.aload_n 0, 1) := by decide +kernel
theorem dX6_firstWrong_116 : decode cX6_firstWrong 116 = .ok (.getfield 11, 3) := by decide +kernel
theorem dX6_firstWrong_119 : decode cX6_firstWrong 119 = .ok (.iload 5, 2) := by decide +kernel
theorem dX6_firstWrong_121 : decode cX6_firstWrong 121 = .ok (.iconst 3, 1) := by decide +kernel
theorem dX6_firstWrong_122 : decode cX6_firstWrong 122 = .ok (.imul, 1) := by decide +kernel
theorem dX6_firstWrong_123 : decode cX6_firstWrong 123 = .ok (.iconst 2, 1) := by decide +kernel
theorem dX6_firstWrong_124 : decode cX6_firstWrong 124 = .ok (.iadd, 1) := by decide +kernel
theorem dX6_firstWrong_125 : decode cX6_firstWrong 125 = .ok (.iaload, 1) := by decide +kernel
theorem dX6_firstWrong_126 : decode cX6_firstWrong 126 = .ok (.aload_n 1, 1) := by decide +kernel
theorem dX6_firstWrong_127 : decode cX6_firstWrong 127 = .ok (.iload 6, 2) := by decide +kernel
theorem dX6_firstWrong_129 : decode cX6_firstWrong 129 = .ok (.iload 7, 2) := by decide +kernel
theorem dX6_firstWrong_131 : decode cX6_firstWrong 131 = .ok (.aload_n 0, 1) := by decide +kernel
theorem dX6_firstWrong_132 : decode cX6_firstWrong 132 = .ok (.getfield 19, 3) := by decide +kernel
theorem dX6_firstWrong_135 : decode cX6_firstWrong 135 = .ok (.getfield 39, 3) := by decide +kernel
theorem dX6_firstWrong_138 : decode cX6_firstWrong 138 = .ok (.invokevirtual 42, 3) := by decide +kernel
theorem dX6_firstWrong_141 : decode cX6_firstWrong 141 = .ok (.if_icmp .eq 8, 3) := by decide +kernel
theorem dX6_firstWrong_144 : decode cX6_firstWrong 144 = .ok (.iload 5, 2) := by decide +kernel
theorem dX6_firstWrong_146 : decode cX6_firstWrong 146 = .ok (.iconst 1, 1) := by decide +kernel
theorem dX6_firstWrong_147 : decode cX6_firstWrong 147 = .ok (.iadd, 1) := by decide +kernel
theorem dX6_firstWrong_148 : decode cX6_firstWrong 148 = .ok (.ireturn, 1) := by decide +kernel
theorem dX6_firstWrong_149 : decode cX6_firstWrong 149 = .ok (.iinc 5 1, 3) := by decide +kernel
theorem dX6_firstWrong_152 : decode cX6_firstWrong 152 = .ok (.goto (-142), 3) := by decide +kernel
theorem dX6_firstWrong_155 : decode cX6_firstWrong 155 = .ok (.aload_n 0, 1) := by decide +kernel
theorem dX6_firstWrong_156 : decode cX6_firstWrong 156 = .ok (.getfield 15, 3) := by decide +kernel
theorem dX6_firstWrong_159 : decode cX6_firstWrong 159 = .ok (.aload_n 1, 1) := by decide +kernel
theorem dX6_firstWrong_160 : decode cX6_firstWrong 160 = .ok (.getfield 33, 3) := by decide +kernel
theorem dX6_firstWrong_163 : decode cX6_firstWrong 163 = .ok (.if_icmp .ge 9, 3) := by decide +kernel
theorem dX6_firstWrong_166 : decode cX6_firstWrong 166 = .ok (.sipush 222, 3) := by decide +kernel
theorem dX6_firstWrong_169 : decode cX6_firstWrong 169 = .ok (.goto 4, 3) := by decide +kernel
theorem dX6_firstWrong_172 : decode cX6_firstWrong 172 = .ok (.iconst 0, 1) := by decide +kernel
theorem dX6_firstWrong_173 : decode cX6_firstWrong 173 = .ok (.ireturn, 1) := by decide +kernel
theorem dX7_init_0 : decode cX7_init 0 = .ok (.aload_n 0, 1) := by decide +kernel
theorem dX7_init_1 : decode cX7_init 1 = .ok (.invokespecial 3, 3) := by decide +kernel
theorem dX7_init_4 : decode cX7_init 4 = .ok (.aload_n 0, 1) := by decide +kernel
theorem dX7_init_5 : decode cX7_init 5 = .ok (.iconst 4, 1) := by decide +kernel
theorem dX7_init_6 : decode cX7_init 6 = .ok (.newarray .int, 2) := by decide +kernel
theorem dX7_init_8 : decode cX7_init 8 = .ok (.dup, 1) := by decide +kernel
theorem dX7_init_9 : decode cX7_init 9 = .ok (.iconst 0, 1) := by decide +kernel
theorem dX7_init_10 : decode cX7_init 10 = .ok (.iconst (-1), 1) := by decide +kernel
theorem dX7_init_11 : decode cX7_init 11 = .ok (.iastore, 1) := by decide +kernel
theorem dX7_init_12 : decode cX7_init 12 = .ok (.dup, 1) := by decide +kernel
theorem dX7_init_13 : decode cX7_init 13 = .ok (.iconst 1, 1) := by decide +kernel
theorem dX7_init_14 : decode cX7_init 14 = .ok (.iconst (-1), 1) := by decide +kernel
theorem dX7_init_15 : decode cX7_init 15 = .ok (.iastore, 1) := by decide +kernel
theorem dX7_init_16 : decode cX7_init 16 = .ok (.dup, 1) := by decide +kernel
theorem dX7_init_17 : decode cX7_init 17 = .ok (.iconst 2, 1) := by decide +kernel
theorem dX7_init_18 : decode cX7_init 18 = .ok (.iconst (-1), 1) := by decide +kernel
theorem dX7_init_19 : decode cX7_init 19 = .ok (.iastore, 1) := by decide +kernel
theorem dX7_init_20 : decode cX7_init 20 = .ok (.dup, 1) := by decide +kernel
theorem dX7_init_21 : decode cX7_init 21 = .ok (.iconst 3, 1) := by decide +kernel
theorem dX7_init_22 : decode cX7_init 22 = .ok (.iconst (-1), 1) := by decide +kernel
theorem dX7_init_23 : decode cX7_init 23 = .ok (.iastore, 1) := by decide +kernel
theorem dX7_init_24 : decode cX7_init 24 = .ok (.putfield 11, 3) := by decide +kernel
theorem dX7_init_27 : decode cX7_init 27 = .ok (.aload_n 0, 1) := by decide +kernel
theorem dX7_init_28 : decode cX7_init 28 = .ok (.iconst 4, 1) := by decide +kernel
theorem dX7_init_29 : decode cX7_init 29 = .ok (.newarray .int, 2) := by decide +kernel
theorem dX7_init_31 : decode cX7_init 31 = .ok (.putfield 15, 3) := by decide +kernel
theorem dX7_init_34 : decode cX7_init 34 = .ok (.aload_n 0, 1) := by decide +kernel
theorem dX7_init_35 : decode cX7_init 35 = .ok (.sipush 160, 3) := by decide +kernel
theorem dX7_init_38 : decode cX7_init 38 = .ok (.newarray .int, 2) := by decide +kernel
theorem dX7_init_40 : decode cX7_init 40 = .ok (.putfield 18, 3) := by decide +kernel
theorem dX7_init_43 : decode cX7_init 43 = .ok (.aload_n 0, 1) := by decide +kernel
theorem dX7_init_44 : decode cX7_init 44 = .ok (.iconst 4, 1) := by decide +kernel
theorem dX7_init_45 : decode cX7_init 45 = .ok (.newarray .int, 2) := by decide +kernel
theorem dX7_init_47 : decode cX7_init 47 = .ok (.putfield 21, 3) := by decide +kernel
theorem dX7_init_50 : decode cX7_init 50 = .ok (.aload_n 0, 1) := by decide +kernel
theorem dX7_init_51 : decode cX7_init 51 = .ok (.iconst 4, 1) := by decide +kernel
theorem dX7_init_52 : decode cX7_init 52 = .ok (.newarray .int, 2) := by decide +kernel
theorem dX7_init_54 : decode cX7_init 54 = .ok (.putfield 24, 3) := by decide +kernel
theorem dX7_init_57 : decode cX7_init 57 = .ok (.aload_n 0, 1) := by decide +kernel
theorem dX7_init_58 : decode cX7_init 58 = .ok (.iconst 4, 1) := by decide +kernel
theorem dX7_init_59 : decode cX7_init 59 = .ok (.newarray .int, 2) := by decide +kernel
theorem dX7_init_61 : decode cX7_init 61 = .ok (.putfield 27, 3) := by decide +kernel
theorem dX7_init_64 : decode cX7_init 64 = .ok (.return_, 1) := by decide +kernel
theorem dX7_isPlace_0 : decode cX7_isPlace 0 = .ok (.iload_n 0, 1) := by decide +kernel
theorem dX7_isPlace_1 : decode cX7_isPlace 1 = .ok (.iconst 0, 1) := by decide +kernel
theorem dX7_isPlace_2 : decode cX7_isPlace 2 = .ok (.iconst 3, 1) := by decide +kernel
theorem dX7_isPlace_3 : decode cX7_isPlace 3 = .ok (.invokestatic 30, 3) := by decide +kernel
theorem dX7_isPlace_6 : decode cX7_isPlace 6 = .ok (.ireturn, 1) := by decide +kernel
theorem dX7_narrowed_0 : decode cX7_narrowed 0 = .ok (.iload_n 1, 1) := by decide +kernel
theorem dX7_narrowed_1 : decode cX7_narrowed 1 = .ok (.ifCond .ne 6, 3) := by decide +kernel
theorem dX7_narrowed_4 : decode cX7_narrowed 4 = .ok (.iload_n 0, 1) := by decide +kernel
theorem dX7_narrowed_5 : decode cX7_narrowed 5 = .ok (.i2b, 1) := by decide +kernel
theorem dX7_narrowed_6 : decode cX7_narrowed 6 = .ok (.ireturn, 1) := by decide +kernel
theorem dX7_narrowed_7 : decode cX7_narrowed 7 = .ok (.iload_n 1, 1) := by decide +kernel
theorem dX7_narrowed_8 : decode cX7_narrowed 8 = .ok (.iconst 1, 1) := by decide +kernel
theorem dX7_narrowed_9 : decode cX7_narrowed 9 = .ok (.if_icmp .ne 8, 3) := by decide +kernel
theorem dX7_narrowed_12 : decode cX7_narrowed 12 = .ok (.iload_n 0, 1) := by decide +kernel
theorem dX7_narrowed_13 : decode cX7_narrowed 13 = .ok (.i2s, 1) := by decide +kernel
theorem dX7_narrowed_14 : decode cX7_narrowed 14 = .ok (.goto 4, 3) := by decide +kernel
theorem dX7_narrowed_17 : decode cX7_narrowed 17 = .ok (.iload_n 0, 1) := by decide +kernel
theorem dX7_narrowed_18 : decode cX7_narrowed 18 = .ok (.ireturn, 1) := by decide +kernel
theorem dX7_lay_0 : decode cX7_lay 0 = .ok (.aload_n 0, 1) := by decide +kernel
theorem dX7_lay_1 : decode cX7_lay 1 = .ok (.getfield 11, 3) := by decide +kernel
theorem dX7_lay_4 : decode cX7_lay 4 = .ok (.iload_n 1, 1) := by decide +kernel
theorem dX7_lay_5 : decode cX7_lay 5 = .ok (.iload_n 2, 1) := by decide +kernel
theorem dX7_lay_6 : decode cX7_lay 6 = .ok (.iastore, 1) := by decide +kernel
theorem dX7_lay_7 : decode cX7_lay 7 = .ok (.aload_n 0, 1) := by decide +kernel
theorem dX7_lay_8 : decode cX7_lay 8 = .ok (.getfield 15, 3) := by decide +kernel
theorem dX7_lay_11 : decode cX7_lay 11 = .ok (.iload_n 1, 1) := by decide +kernel
theorem dX7_lay_12 : decode cX7_lay 12 = .ok (.iload_n 2, 1) := by decide +kernel
theorem dX7_lay_13 : decode cX7_lay 13 = .ok (.iconst (-1), 1) := by decide +kernel
theorem dX7_lay_14 : decode cX7_lay 14 = .ok (.if_icmp .ne 7, 3) := by decide +kernel
theorem dX7_lay_17 : decode cX7_lay 17 = .ok (.iconst 0, 1) := by decide +kernel
theorem dX7_lay_18 : decode cX7_lay 18 = .ok (.goto 4, 3) := by decide +kernel
theorem dX7_lay_21 : decode cX7_lay 21 = .ok (.iload_n 3, 1) := by decide +kernel
theorem dX7_lay_22 : decode cX7_lay 22 = .ok (.iastore, 1) := by decide +kernel
theorem dX7_lay_23 : decode cX7_lay 23 = .ok (.iconst 0, 1) := by decide +kernel
theorem dX7_lay_24 : decode cX7_lay 24 = .ok (.istore 4, 2) := by decide +kernel
theorem dX7_lay_26 : decode cX7_lay 26 = .ok (.iload 4, 2) := by decide +kernel
theorem dX7_lay_28 : decode cX7_lay 28 = .ok (.bipush 40, 2) := by decide +kernel
theorem dX7_lay_30 : decode cX7_lay 30 = .ok (.if_icmp .ge 22, 3) := by decide +kernel
theorem dX7_lay_33 : decode cX7_lay 33 = .ok (.aload_n 0, 1) := by decide +kernel
theorem dX7_lay_34 : decode cX7_lay 34 = .ok (.getfield 18, 3) := by decide +kernel
theorem dX7_lay_37 : decode cX7_lay 37 = .ok (.iload_n 1, 1) := by decide +kernel
theorem dX7_lay_38 : decode cX7_lay 38 = .ok (.bipush 40, 2) := by decide +kernel
theorem dX7_lay_40 : decode cX7_lay 40 = .ok (.imul, 1) := by decide +kernel
theorem dX7_lay_41 : decode cX7_lay 41 = .ok (.iload 4, 2) := by decide +kernel
theorem dX7_lay_43 : decode cX7_lay 43 = .ok (.iadd, 1) := by decide +kernel
theorem dX7_lay_44 : decode cX7_lay 44 = .ok (.iconst 0, 1) := by decide +kernel
theorem dX7_lay_45 : decode cX7_lay 45 = .ok (.iastore, 1) := by decide +kernel
theorem dX7_lay_46 : decode cX7_lay 46 = .ok (.iinc 4 1, 3) := by decide +kernel
theorem dX7_lay_49 : decode cX7_lay 49 = .ok (.goto (-23), 3) := by decide +kernel
theorem dX7_lay_52 : decode cX7_lay 52 = .ok (.return_, 1) := by decide +kernel
theorem dX7_holdNothing_0 : decode cX7_holdNothing 0 = .ok (.aload_n 0, 1) := by decide +kernel
theorem dX7_holdNothing_1 : decode cX7_holdNothing 1 = .ok (.getfield 21, 3) := by decide +kernel
theorem dX7_holdNothing_4 : decode cX7_holdNothing 4 = .ok (.iload_n 1, 1) := by decide +kernel
theorem dX7_holdNothing_5 : decode cX7_holdNothing 5 = .ok (.iconst 0, 1) := by decide +kernel
theorem dX7_holdNothing_6 : decode cX7_holdNothing 6 = .ok (.iastore, 1) := by decide +kernel
theorem dX7_holdNothing_7 : decode cX7_holdNothing 7 = .ok (.return_, 1) := by decide +kernel
theorem dX7_holdJob_0 : decode cX7_holdJob 0 = .ok (.aload_n 0, 1) := by decide +kernel
theorem dX7_holdJob_1 : decode cX7_holdJob 1 = .ok (.getfield 21, 3) := by decide +kernel
theorem dX7_holdJob_4 : decode cX7_holdJob 4 = .ok (.iload_n 1, 1) := by decide +kernel
theorem dX7_holdJob_5 : decode cX7_holdJob 5 = .ok (.iconst 1, 1) := by decide +kernel
theorem dX7_holdJob_6 : decode cX7_holdJob 6 = .ok (.iastore, 1) := by decide +kernel
theorem dX7_holdJob_7 : decode cX7_holdJob 7 = .ok (.aload_n 0, 1) := by decide +kernel
theorem dX7_holdJob_8 : decode cX7_holdJob 8 = .ok (.getfield 27, 3) := by decide +kernel
theorem dX7_holdJob_11 : decode cX7_holdJob 11 = .ok (.iload_n 1, 1) := by decide +kernel
theorem dX7_holdJob_12 : decode cX7_holdJob 12 = .ok (.iload_n 2, 1) := by decide +kernel
theorem dX7_holdJob_13 : decode cX7_holdJob 13 = .ok (.iastore, 1) := by decide +kernel
theorem dX7_holdJob_14 : decode cX7_holdJob 14 = .ok (.return_, 1) := by decide +kernel
theorem dX7_holdRow_0 : decode cX7_holdRow 0 = .ok (.aload_n 0, 1) := by decide +kernel
theorem dX7_holdRow_1 : decode cX7_holdRow 1 = .ok (.getfield 21, 3) := by decide +kernel
theorem dX7_holdRow_4 : decode cX7_holdRow 4 = .ok (.iload_n 1, 1) := by decide +kernel
theorem dX7_holdRow_5 : decode cX7_holdRow 5 = .ok (.aload_n 0, 1) := by decide +kernel
theorem dX7_holdRow_6 : decode cX7_holdRow 6 = .ok (.getfield 11, 3) := by decide +kernel
theorem dX7_holdRow_9 : decode cX7_holdRow 9 = .ok (.iload_n 2, 1) := by decide +kernel
theorem dX7_holdRow_10 : decode cX7_holdRow 10 = .ok (.iaload, 1) := by decide +kernel
theorem dX7_holdRow_11 : decode cX7_holdRow 11 = .ok (.iconst (-1), 1) := by decide +kernel
theorem dX7_holdRow_12 : decode cX7_holdRow 12 = .ok (.if_icmp .ne 7, 3) := by decide +kernel
theorem dX7_holdRow_15 : decode cX7_holdRow 15 = .ok (.iconst 0, 1) := by decide +kernel
theorem dX7_holdRow_16 : decode cX7_holdRow 16 = .ok (.goto 4, 3) := by decide +kernel
theorem dX7_holdRow_19 : decode cX7_holdRow 19 = .ok (.iconst 2, 1) := by decide +kernel
theorem dX7_holdRow_20 : decode cX7_holdRow 20 = .ok (.iastore, 1) := by decide +kernel
theorem dX7_holdRow_21 : decode cX7_holdRow 21 = .ok (.aload_n 0, 1) := by decide +kernel
theorem dX7_holdRow_22 : decode cX7_holdRow 22 = .ok (.getfield 24, 3) := by decide +kernel
theorem dX7_holdRow_25 : decode cX7_holdRow 25 = .ok (.iload_n 1, 1) := by decide +kernel
theorem dX7_holdRow_26 : decode cX7_holdRow 26 = .ok (.aload_n 0, 1) := by decide +kernel
theorem dX7_holdRow_27 : decode cX7_holdRow 27 = .ok (.getfield 11, 3) := by decide +kernel
theorem dX7_holdRow_30 : decode cX7_holdRow 30 = .ok (.iload_n 2, 1) := by decide +kernel
theorem dX7_holdRow_31 : decode cX7_holdRow 31 = .ok (.iaload, 1) := by decide +kernel
theorem dX7_holdRow_32 : decode cX7_holdRow 32 = .ok (.iastore, 1) := by decide +kernel
theorem dX7_holdRow_33 : decode cX7_holdRow 33 = .ok (.aload_n 0, 1) := by decide +kernel
theorem dX7_holdRow_34 : decode cX7_holdRow 34 = .ok (.getfield 27, 3) := by decide +kernel
theorem dX7_holdRow_37 : decode cX7_holdRow 37 = .ok (.iload_n 1, 1) := by decide +kernel
theorem dX7_holdRow_38 : decode cX7_holdRow 38 = .ok (.aload_n 0, 1) := by decide +kernel
theorem dX7_holdRow_39 : decode cX7_holdRow 39 = .ok (.getfield 15, 3) := by decide +kernel
theorem dX7_holdRow_42 : decode cX7_holdRow 42 = .ok (.iload_n 2, 1) := by decide +kernel
theorem dX7_holdRow_43 : decode cX7_holdRow 43 = .ok (.iaload, 1) := by decide +kernel
theorem dX7_holdRow_44 : decode cX7_holdRow 44 = .ok (.iastore, 1) := by decide +kernel
theorem dX7_holdRow_45 : decode cX7_holdRow 45 = .ok (.return_, 1) := by decide +kernel
theorem dX7_holdsRow_0 : decode cX7_holdsRow 0 = .ok (.aload_n 0, 1) := by decide +kernel
theorem dX7_holdsRow_1 : decode cX7_holdsRow 1 = .ok (.getfield 21, 3) := by decide +kernel
theorem dX7_holdsRow_4 : decode cX7_holdsRow 4 = .ok (.iload_n 1, 1) := by decide +kernel
theorem dX7_holdsRow_5 : decode cX7_holdsRow 5 = .ok (.iaload, 1) := by decide +kernel
theorem dX7_holdsRow_6 : decode cX7_holdsRow 6 = .ok (.iconst 2, 1) := by decide +kernel
theorem dX7_holdsRow_7 : decode cX7_holdsRow 7 = .ok (.if_icmp .ne 7, 3) := by decide +kernel
theorem dX7_holdsRow_10 : decode cX7_holdsRow 10 = .ok (.iconst 1, 1) := by decide +kernel
theorem dX7_holdsRow_11 : decode cX7_holdsRow 11 = .ok (.goto 4, 3) := by decide +kernel
theorem dX7_holdsRow_14 : decode cX7_holdsRow 14 = .ok (.iconst 0, 1) := by decide +kernel
theorem dX7_holdsRow_15 : decode cX7_holdsRow 15 = .ok (.ireturn, 1) := by decide +kernel
theorem dX7_jobOn_0 : decode cX7_jobOn 0 = .ok (.aload_n 0, 1) := by decide +kernel
theorem dX7_jobOn_1 : decode cX7_jobOn 1 = .ok (.getfield 21, 3) := by decide +kernel
theorem dX7_jobOn_4 : decode cX7_jobOn 4 = .ok (.iload_n 1, 1) := by decide +kernel
theorem dX7_jobOn_5 : decode cX7_jobOn 5 = .ok (.iaload, 1) := by decide +kernel
theorem dX7_jobOn_6 : decode cX7_jobOn 6 = .ok (.iconst 1, 1) := by decide +kernel
theorem dX7_jobOn_7 : decode cX7_jobOn 7 = .ok (.if_icmp .ne 12, 3) := by decide +kernel
theorem dX7_jobOn_10 : decode cX7_jobOn 10 = .ok (.aload_n 0, 1) := by decide +kernel
theorem dX7_jobOn_11 : decode cX7_jobOn 11 = .ok (.getfield 27, 3) := by decide +kernel
theorem dX7_jobOn_14 : decode cX7_jobOn 14 = .ok (.iload_n 1, 1) := by decide +kernel
theorem dX7_jobOn_15 : decode cX7_jobOn 15 = .ok (.iaload, 1) := by decide +kernel
theorem dX7_jobOn_16 : decode cX7_jobOn 16 = .ok (.goto 5, 3) := by decide +kernel
theorem dX7_jobOn_19 : decode cX7_jobOn 19 = .ok (.bipush (-9), 2) := by decide +kernel
theorem dX7_jobOn_21 : decode cX7_jobOn 21 = .ok (.ireturn, 1) := by decide +kernel
theorem dX8_init_0 : decode cX8_init 0 = .ok (.aload_n 0, 1) := by decide +kernel
theorem dX8_init_1 : decode cX8_init 1 = .ok (.invokespecial 3, 3) := by decide +kernel
theorem dX8_init_4 : decode cX8_init 4 = .ok (.aload_n 0, 1) := by decide +kernel
theorem dX8_init_5 : decode cX8_init 5 = .ok (.sipush 200, 3) := by decide +kernel
theorem dX8_init_8 : decode cX8_init 8 = .ok (.newarray .byte, 2) := by decide +kernel
theorem dX8_init_10 : decode cX8_init 10 = .ok (.putfield 11, 3) := by decide +kernel
theorem dX8_init_13 : decode cX8_init 13 = .ok (.aload_n 0, 1) := by decide +kernel
theorem dX8_init_14 : decode cX8_init 14 = .ok (.iconst 0, 1) := by decide +kernel
theorem dX8_init_15 : decode cX8_init 15 = .ok (.putfield 15, 3) := by decide +kernel
theorem dX8_init_18 : decode cX8_init 18 = .ok (.aload_n 0, 1) := by decide +kernel
theorem dX8_init_19 : decode cX8_init 19 = .ok (.new 19, 3) := by decide +kernel
theorem dX8_init_22 : decode cX8_init 22 = .ok (.dup, 1) := by decide +kernel
theorem dX8_init_23 : decode cX8_init 23 = .ok (.invokespecial 21, 3) := by decide +kernel
theorem dX8_init_26 : decode cX8_init 26 = .ok (.putfield 22, 3) := by decide +kernel
theorem dX8_init_29 : decode cX8_init 29 = .ok (.aload_n 0, 1) := by decide +kernel
theorem dX8_init_30 : decode cX8_init 30 = .ok (.iconst 4, 1) := by decide +kernel
theorem dX8_init_31 : decode cX8_init 31 = .ok (.newarray .int, 2) := by decide +kernel
theorem dX8_init_33 : decode cX8_init 33 = .ok (.dup, 1) := by decide +kernel
theorem dX8_init_34 : decode cX8_init 34 = .ok (.iconst 0, 1) := by decide +kernel
theorem dX8_init_35 : decode cX8_init 35 = .ok (.iconst (-1), 1) := by decide +kernel
theorem dX8_init_36 : decode cX8_init 36 = .ok (.iastore, 1) := by decide +kernel
theorem dX8_init_37 : decode cX8_init 37 = .ok (.dup, 1) := by decide +kernel
theorem dX8_init_38 : decode cX8_init 38 = .ok (.iconst 1, 1) := by decide +kernel
theorem dX8_init_39 : decode cX8_init 39 = .ok (.iconst (-1), 1) := by decide +kernel
theorem dX8_init_40 : decode cX8_init 40 = .ok (.iastore, 1) := by decide +kernel
theorem dX8_init_41 : decode cX8_init 41 = .ok (.dup, 1) := by decide +kernel
theorem dX8_init_42 : decode cX8_init 42 = .ok (.iconst 2, 1) := by decide +kernel
theorem dX8_init_43 : decode cX8_init 43 = .ok (.iconst (-1), 1) := by decide +kernel
theorem dX8_init_44 : decode cX8_init 44 = .ok (.iastore, 1) := by decide +kernel
theorem dX8_init_45 : decode cX8_init 45 = .ok (.dup, 1) := by decide +kernel
theorem dX8_init_46 : decode cX8_init 46 = .ok (.iconst 3, 1) := by decide +kernel
theorem dX8_init_47 : decode cX8_init 47 = .ok (.iconst (-1), 1) := by decide +kernel
theorem dX8_init_48 : decode cX8_init 48 = .ok (.iastore, 1) := by decide +kernel
theorem dX8_init_49 : decode cX8_init 49 = .ok (.putfield 26, 3) := by decide +kernel
theorem dX8_init_52 : decode cX8_init 52 = .ok (.aload_n 0, 1) := by decide +kernel
theorem dX8_init_53 : decode cX8_init 53 = .ok (.iconst 0, 1) := by decide +kernel
theorem dX8_init_54 : decode cX8_init 54 = .ok (.putfield 30, 3) := by decide +kernel
theorem dX8_init_57 : decode cX8_init 57 = .ok (.aload_n 0, 1) := by decide +kernel
theorem dX8_init_58 : decode cX8_init 58 = .ok (.iconst 0, 1) := by decide +kernel
theorem dX8_init_59 : decode cX8_init 59 = .ok (.putfield 33, 3) := by decide +kernel
theorem dX8_init_62 : decode cX8_init 62 = .ok (.aload_n 0, 1) := by decide +kernel
theorem dX8_init_63 : decode cX8_init 63 = .ok (.iconst 0, 1) := by decide +kernel
theorem dX8_init_64 : decode cX8_init 64 = .ok (.putfield 36, 3) := by decide +kernel
theorem dX8_init_67 : decode cX8_init 67 = .ok (.aload_n 0, 1) := by decide +kernel
theorem dX8_init_68 : decode cX8_init 68 = .ok (.iconst 0, 1) := by decide +kernel
theorem dX8_init_69 : decode cX8_init 69 = .ok (.putfield 39, 3) := by decide +kernel
theorem dX8_init_72 : decode cX8_init 72 = .ok (.return_, 1) := by decide +kernel
theorem dX8_take_0 : decode cX8_take 0 = .ok (.aload_n 0, 1) := by decide +kernel
theorem dX8_take_1 : decode cX8_take 1 = .ok (.getfield 15, 3) := by decide +kernel
theorem dX8_take_4 : decode cX8_take 4 = .ok (.iload_n 3, 1) := by decide +kernel
theorem dX8_take_5 : decode cX8_take 5 = .ok (.iadd, 1) := by decide +kernel
theorem dX8_take_6 : decode cX8_take 6 = .ok (.sipush 200, 3) := by decide +kernel
theorem dX8_take_9 : decode cX8_take 9 = .ok (.if_icmp .le 6, 3) := by decide +kernel
theorem dX8_take_12 : decode cX8_take 12 = .ok (.bipush (-2), 2) := by decide +kernel
theorem dX8_take_14 : decode cX8_take 14 = .ok (.ireturn, 1) := by decide +kernel
theorem dX8_take_15 : decode cX8_take 15 = .ok (.iconst 0, 1) := by decide +kernel
theorem dX8_take_16 : decode cX8_take 16 = .ok (.istore 4, 2) := by decide +kernel
theorem dX8_take_18 : decode cX8_take 18 = .ok (.iload 4, 2) := by decide +kernel
theorem dX8_take_20 : decode cX8_take 20 = .ok (.iload_n 3, 1) := by decide +kernel
theorem dX8_take_21 : decode cX8_take 21 = .ok (.if_icmp .ge 37, 3) := by decide +kernel
theorem dX8_take_24 : decode cX8_take 24 = .ok (.aload_n 0, 1) := by decide +kernel
theorem dX8_take_25 : decode cX8_take 25 = .ok (.getfield 11, 3) := by decide +kernel
theorem dX8_take_28 : decode cX8_take 28 = .ok (.aload_n 0, 1) := by decide +kernel
theorem dX8_take_29 : decode cX8_take 29 = .ok (.getfield 15, 3) := by decide +kernel
theorem dX8_take_32 : decode cX8_take 32 = .ok (.lload_n 1, 1) := by decide +kernel
theorem dX8_take_33 : decode cX8_take 33 = .ok (.bipush 8, 2) := by decide +kernel
theorem dX8_take_35 : decode cX8_take 35 = .ok (.iload 4, 2) := by decide +kernel
theorem dX8_take_37 : decode cX8_take 37 = .ok (.imul, 1) := by decide +kernel
theorem dX8_take_38 : decode cX8_take 38 = .ok (.lushr, 1) := by decide +kernel
theorem dX8_take_39 : decode cX8_take 39 = .ok (.l2i, 1) := by decide +kernel
theorem dX8_take_40 : decode cX8_take 40 = .ok (.i2b, 1) := by decide +kernel
theorem dX8_take_41 : decode cX8_take 41 = .ok (.bastore, 1) := by decide +kernel
theorem dX8_take_42 : decode cX8_take 42 = .ok (.aload_n 0, 1) := by decide +kernel
theorem dX8_take_43 : decode cX8_take 43 = .ok (.dup, 1) := by decide +kernel
theorem dX8_take_44 : decode cX8_take 44 = .ok (.getfield 15, 3) := by decide +kernel
theorem dX8_take_47 : decode cX8_take 47 = .ok (.iconst 1, 1) := by decide +kernel
theorem dX8_take_48 : decode cX8_take 48 = .ok (.iadd, 1) := by decide +kernel
theorem dX8_take_49 : decode cX8_take 49 = .ok (.putfield 15, 3) := by decide +kernel
theorem dX8_take_52 : decode cX8_take 52 = .ok (.iinc 4 1, 3) := by decide +kernel
theorem dX8_take_55 : decode cX8_take 55 = .ok (.goto (-37), 3) := by decide +kernel
theorem dX8_take_58 : decode cX8_take 58 = .ok (.aload_n 0, 1) := by decide +kernel
theorem dX8_take_59 : decode cX8_take 59 = .ok (.getfield 15, 3) := by decide +kernel
theorem dX8_take_62 : decode cX8_take 62 = .ok (.ireturn, 1) := by decide +kernel
theorem dX8_useUp_0 : decode cX8_useUp 0 = .ok (.aload_n 0, 1) := by decide +kernel
theorem dX8_useUp_1 : decode cX8_useUp 1 = .ok (.iconst 0, 1) := by decide +kernel
theorem dX8_useUp_2 : decode cX8_useUp 2 = .ok (.putfield 15, 3) := by decide +kernel
theorem dX8_useUp_5 : decode cX8_useUp 5 = .ok (.return_, 1) := by decide +kernel
theorem dX8_read_0 : decode cX8_read 0 = .ok (.aload_n 0, 1) := by decide +kernel
theorem dX8_read_1 : decode cX8_read 1 = .ok (.getfield 22, 3) := by decide +kernel
theorem dX8_read_4 : decode cX8_read 4 = .ok (.iconst 0, 1) := by decide +kernel
theorem dX8_read_5 : decode cX8_read 5 = .ok (.putfield 42, 3) := by decide +kernel
theorem dX8_read_8 : decode cX8_read 8 = .ok (.iconst 0, 1) := by decide +kernel
theorem dX8_read_9 : decode cX8_read 9 = .ok (.istore_n 1, 1) := by decide +kernel
theorem dX8_read_10 : decode cX8_read 10 = .ok (.iload_n 1, 1) := by decide +kernel
theorem dX8_read_11 : decode cX8_read 11 = .ok (.iconst 4, 1) := by decide +kernel
theorem dX8_read_12 : decode cX8_read 12 = .ok (.if_icmp .ge 16, 3) := by decide +kernel
theorem dX8_read_15 : decode cX8_read 15 = .ok (.aload_n 0, 1) := by decide +kernel
theorem dX8_read_16 : decode cX8_read 16 = .ok (.getfield 26, 3) := by decide +kernel
theorem dX8_read_19 : decode cX8_read 19 = .ok (.iload_n 1, 1) := by decide +kernel
theorem dX8_read_20 : decode cX8_read 20 = .ok (.iconst (-1), 1) := by decide +kernel
theorem dX8_read_21 : decode cX8_read 21 = .ok (.iastore, 1) := by decide +kernel
theorem dX8_read_22 : decode cX8_read 22 = .ok (.iinc 1 1, 3) := by decide +kernel
theorem dX8_read_25 : decode cX8_read 25 = .ok (.goto (-15), 3) := by decide +kernel
theorem dX8_read_28 : decode cX8_read 28 = .ok (.aload_n 0, 1) := by decide +kernel
theorem dX8_read_29 : decode cX8_read 29 = .ok (.iconst 0, 1) := by decide +kernel
theorem dX8_read_30 : decode cX8_read 30 = .ok (.putfield 36, 3) := by decide +kernel
theorem dX8_read_33 : decode cX8_read 33 = .ok (.aload_n 0, 1) := by decide +kernel
theorem dX8_read_34 : decode cX8_read 34 = .ok (.invokevirtual 43, 3) := by decide +kernel
theorem dX8_read_37 : decode cX8_read 37 = .ok (.iconst 0, 1) := by decide +kernel
theorem dX8_read_38 : decode cX8_read 38 = .ok (.istore_n 1, 1) := by decide +kernel
theorem dX8_read_39 : decode cX8_read 39 = .ok (.iload_n 1, 1) := by decide +kernel
theorem dX8_read_40 : decode cX8_read 40 = .ok (.sipush 200, 3) := by decide +kernel
theorem dX8_read_43 : decode cX8_read 43 = .ok (.if_icmp .ge 47, 3) := by decide +kernel
theorem dX8_read_46 : decode cX8_read 46 = .ok (.aload_n 0, 1) := by decide +kernel
theorem dX8_read_47 : decode cX8_read 47 = .ok (.getfield 30, 3) := by decide +kernel
theorem dX8_read_50 : decode cX8_read 50 = .ok (.ifCond .eq 40, 3) := by decide +kernel
theorem dX8_read_53 : decode cX8_read 53 = .ok (.aload_n 0, 1) := by decide +kernel
theorem dX8_read_54 : decode cX8_read 54 = .ok (.invokevirtual 46, 3) := by decide +kernel
theorem dX8_read_57 : decode cX8_read 57 = .ok (.istore_n 2, 1) := by decide +kernel
theorem dX8_read_58 : decode cX8_read 58 = .ok (.iload_n 2, 1) := by decide +kernel
theorem dX8_read_59 : decode cX8_read 59 = .ok (.ifCond .lt 11, 3) := by decide +kernel
theorem dX8_read_62 : decode cX8_read 62 = .ok (.aload_n 0, 1) := by decide +kernel
theorem dX8_read_63 : decode cX8_read 63 = .ok (.iload_n 2, 1) := by decide +kernel
theorem dX8_read_64 : decode cX8_read 64 = .ok (.invokevirtual 50, 3) := by decide +kernel
theorem dX8_read_67 : decode cX8_read 67 = .ok (.goto 7, 3) := by decide +kernel
theorem dX8_read_70 : decode cX8_read 70 = .ok (.aload_n 0, 1) := by decide +kernel
theorem dX8_read_71 : decode cX8_read 71 = .ok (.invokevirtual 54, 3) := by decide +kernel
theorem dX8_read_74 : decode cX8_read 74 = .ok (.istore_n 3, 1) := by decide +kernel
theorem dX8_read_75 : decode cX8_read 75 = .ok (.iload_n 3, 1) := by decide +kernel
theorem dX8_read_76 : decode cX8_read 76 = .ok (.ifCond .ne 8, 3) := by decide +kernel
theorem dX8_read_79 : decode cX8_read 79 = .ok (.aload_n 0, 1) := by decide +kernel
theorem dX8_read_80 : decode cX8_read 80 = .ok (.getfield 33, 3) := by decide +kernel
theorem dX8_read_83 : decode cX8_read 83 = .ok (.ireturn, 1) := by decide +kernel
theorem dX8_read_84 : decode cX8_read 84 = .ok (.iinc 1 1, 3) := by decide +kernel
theorem dX8_read_87 : decode cX8_read 87 = .ok (.goto (-48), 3) := by decide +kernel
theorem dX8_read_90 : decode cX8_read 90 = .ok (.iconst (-1), 1) := by decide +kernel
theorem dX8_read_91 : decode cX8_read 91 = .ok (.ireturn, 1) := by decide +kernel
theorem dX8_readLaw_0 : decode cX8_readLaw 0 = .ok (.aload_n 0, 1) := by decide +kernel
theorem dX8_readLaw_1 : decode cX8_readLaw 1 = .ok (.invokevirtual 43, 3) := by decide +kernel
theorem dX8_readLaw_4 : decode cX8_readLaw 4 = .ok (.aload_n 0, 1) := by decide +kernel
theorem dX8_readLaw_5 : decode cX8_readLaw 5 = .ok (.getstatic 58, 3) := by decide +kernel
theorem dX8_readLaw_8 : decode cX8_readLaw 8 = .ok (.iload_n 1, 1) := by decide +kernel
theorem dX8_readLaw_9 : decode cX8_readLaw 9 = .ok (.iaload, 1) := by decide +kernel
theorem dX8_readLaw_10 : decode cX8_readLaw 10 = .ok (.getstatic 61, 3) := by decide +kernel
theorem dX8_readLaw_13 : decode cX8_readLaw 13 = .ok (.iload_n 1, 1) := by decide +kernel
theorem dX8_readLaw_14 : decode cX8_readLaw 14 = .ok (.iaload, 1) := by decide +kernel
theorem dX8_readLaw_15 : decode cX8_readLaw 15 = .ok (.invokevirtual 64, 3) := by decide +kernel
theorem dX8_readLaw_18 : decode cX8_readLaw 18 = .ok (.ifCond .ne 5, 3) := by decide +kernel
theorem dX8_readLaw_21 : decode cX8_readLaw 21 = .ok (.iconst 0, 1) := by decide +kernel
theorem dX8_readLaw_22 : decode cX8_readLaw 22 = .ok (.ireturn, 1) := by decide +kernel
theorem dX8_readLaw_23 : decode cX8_readLaw 23 = .ok (.aload_n 0, 1) := by decide +kernel
theorem dX8_readLaw_24 : decode cX8_readLaw 24 = .ok (.getfield 39, 3) := by decide +kernel
theorem dX8_readLaw_27 : decode cX8_readLaw 27 = .ok (.istore_n 2, 1) := by decide +kernel
theorem dX8_readLaw_28 : decode cX8_readLaw 28 = .ok (.aload_n 0, 1) := by decide +kernel
theorem dX8_readLaw_29 : decode cX8_readLaw 29 = .ok (.invokevirtual 68, 3) := by decide +kernel
theorem dX8_readLaw_32 : decode cX8_readLaw 32 = .ok (.ifCond .ne 5, 3) := by decide +kernel
theorem dX8_readLaw_35 : decode cX8_readLaw 35 = .ok (.iconst 0, 1) := by decide +kernel
theorem dX8_readLaw_36 : decode cX8_readLaw 36 = .ok (.ireturn, 1) := by decide +kernel
theorem dX8_readLaw_37 : decode cX8_readLaw 37 = .ok (.aload_n 0, 1) := by decide +kernel
theorem dX8_readLaw_38 : decode cX8_readLaw 38 = .ok (.getfield 26, 3) := by decide +kernel
theorem dX8_readLaw_41 : decode cX8_readLaw 41 = .ok (.iload_n 1, 1) := by decide +kernel
theorem dX8_readLaw_42 : decode cX8_readLaw 42 = .ok (.iload_n 2, 1) := by decide +kernel
theorem dX8_readLaw_43 : decode cX8_readLaw 43 = .ok (.iastore, 1) := by decide +kernel
theorem dX8_readLaw_44 : decode cX8_readLaw 44 = .ok (.iconst 1, 1) := by decide +kernel
theorem dX8_readLaw_45 : decode cX8_readLaw 45 = .ok (.ireturn, 1) := by decide +kernel
theorem dX8_readJob_0 : decode cX8_readJob 0 = .ok (.aload_n 0, 1) := by decide +kernel
theorem dX8_readJob_1 : decode cX8_readJob 1 = .ok (.getfield 22, 3) := by decide +kernel
theorem dX8_readJob_4 : decode cX8_readJob 4 = .ok (.getfield 42, 3) := by decide +kernel
theorem dX8_readJob_7 : decode cX8_readJob 7 = .ok (.bipush 6, 2) := by decide +kernel
theorem dX8_readJob_9 : decode cX8_readJob 9 = .ok (.if_icmp .lt 5, 3) := by decide +kernel
theorem dX8_readJob_12 : decode cX8_readJob 12 = .ok (.iconst 0, 1) := by decide +kernel
theorem dX8_readJob_13 : decode cX8_readJob 13 = .ok (.ireturn, 1) := by decide +kernel
theorem dX8_readJob_14 : decode cX8_readJob 14 = .ok (.iconst 0, 1) := by decide +kernel
theorem dX8_readJob_15 : decode cX8_readJob 15 = .ok (.istore_n 1, 1) := by decide +kernel
theorem dX8_readJob_16 : decode cX8_readJob 16 = .ok (.aload_n 0, 1) := by decide +kernel
theorem dX8_readJob_17 : decode cX8_readJob 17 = .ok (.getfield 30, 3) := by decide +kernel
theorem dX8_readJob_20 : decode cX8_readJob 20 = .ok (.iconst 1, 1) := by decide +kernel
theorem dX8_readJob_21 : decode cX8_readJob 21 = .ok (.if_icmp .ne 18, 3) := by decide +kernel
theorem dX8_readJob_24 : decode cX8_readJob 24 = .ok (.aload_n 0, 1) := by decide +kernel
theorem dX8_readJob_25 : decode cX8_readJob 25 = .ok (.invokevirtual 71, 3) := by decide +kernel
theorem dX8_readJob_28 : decode cX8_readJob 28 = .ok (.istore_n 1, 1) := by decide +kernel
theorem dX8_readJob_29 : decode cX8_readJob 29 = .ok (.iload_n 1, 1) := by decide +kernel
theorem dX8_readJob_30 : decode cX8_readJob 30 = .ok (.ifCond .ge 5, 3) := by decide +kernel
theorem dX8_readJob_33 : decode cX8_readJob 33 = .ok (.iconst 0, 1) := by decide +kernel
theorem dX8_readJob_34 : decode cX8_readJob 34 = .ok (.ireturn, 1) := by decide +kernel
theorem dX8_readJob_35 : decode cX8_readJob 35 = .ok (.aload_n 0, 1) := by decide +kernel
theorem dX8_readJob_36 : decode cX8_readJob 36 = .ok (.invokevirtual 43, 3) := by decide +kernel
theorem dX8_readJob_39 : decode cX8_readJob 39 = .ok (.aload_n 0, 1) := by decide +kernel
theorem dX8_readJob_40 : decode cX8_readJob 40 = .ok (.iconst 1, 1) := by decide +kernel
theorem dX8_readJob_41 : decode cX8_readJob 41 = .ok (.bipush 9, 2) := by decide +kernel
theorem dX8_readJob_43 : decode cX8_readJob 43 = .ok (.invokevirtual 64, 3) := by decide +kernel
theorem dX8_readJob_46 : decode cX8_readJob 46 = .ok (.ifCond .ne 5, 3) := by decide +kernel
theorem dX8_readJob_49 : decode cX8_readJob 49 = .ok (.iconst 0, 1) := by decide +kernel
theorem dX8_readJob_50 : decode cX8_readJob 50 = .ok (.ireturn, 1) := by decide +kernel
theorem dX8_readJob_51 : decode cX8_readJob 51 = .ok (.aload_n 0, 1) := by decide +kernel
theorem dX8_readJob_52 : decode cX8_readJob 52 = .ok (.getfield 39, 3) := by decide +kernel
theorem dX8_readJob_55 : decode cX8_readJob 55 = .ok (.istore_n 2, 1) := by decide +kernel
theorem dX8_readJob_56 : decode cX8_readJob 56 = .ok (.aload_n 0, 1) := by decide +kernel
theorem dX8_readJob_57 : decode cX8_readJob 57 = .ok (.ldc 74, 2) := by decide +kernel
theorem dX8_readJob_59 : decode cX8_readJob 59 = .ok (.invokevirtual 76, 3) := by decide +kernel
theorem dX8_readJob_62 : decode cX8_readJob 62 = .ok (.ifCond .eq 7, 3) := by decide +kernel
theorem dX8_readJob_65 : decode cX8_readJob 65 = .ok (.iconst 1, 1) := by decide +kernel
theorem dX8_readJob_66 : decode cX8_readJob 66 = .ok (.goto 4, 3) := by decide +kernel
theorem dX8_readJob_69 : decode cX8_readJob 69 = .ok (.iconst 0, 1) := by decide +kernel
theorem dX8_readJob_70 : decode cX8_readJob 70 = .ok (.istore_n 3, 1) := by decide +kernel
theorem dX8_readJob_71 : decode cX8_readJob 71 = .ok (.aload_n 0, 1) := by decide +kernel
theorem dX8_readJob_72 : decode cX8_readJob 72 = .ok (.ldc 80, 2) := by decide +kernel
theorem dX8_readJob_74 : decode cX8_readJob 74 = .ok (.invokevirtual 76, 3) := by decide +kernel
theorem dX8_readJob_77 : decode cX8_readJob 77 = .ok (.ifCond .eq 13, 3) := by decide +kernel
theorem dX8_readJob_80 : decode cX8_readJob 80 = .ok (.aload_n 0, 1) := by decide +kernel
theorem dX8_readJob_81 : decode cX8_readJob 81 = .ok (.iconst 0, 1) := by decide +kernel
theorem dX8_readJob_82 : decode cX8_readJob 82 = .ok (.bipush 60, 2) := by decide +kernel
theorem dX8_readJob_84 : decode cX8_readJob 84 = .ok (.invokevirtual 64, 3) := by decide +kernel
theorem dX8_readJob_87 : decode cX8_readJob 87 = .ok (.ifCond .ne 5, 3) := by decide +kernel
theorem dX8_readJob_90 : decode cX8_readJob 90 = .ok (.iconst 0, 1) := by decide +kernel
theorem dX8_readJob_91 : decode cX8_readJob 91 = .ok (.ireturn, 1) := by decide +kernel
theorem dX8_readJob_92 : decode cX8_readJob 92 = .ok (.aload_n 0, 1) := by decide +kernel
theorem dX8_readJob_93 : decode cX8_readJob 93 = .ok (.getfield 39, 3) := by decide +kernel
theorem dX8_readJob_96 : decode cX8_readJob 96 = .ok (.istore 4, 2) := by decide +kernel
theorem dX8_readJob_98 : decode cX8_readJob 98 = .ok (.aload_n 0, 1) := by decide +kernel
theorem dX8_readJob_99 : decode cX8_readJob 99 = .ok (.ldc 82, 2) := by decide +kernel
theorem dX8_readJob_101 : decode cX8_readJob 101 = .ok (.invokevirtual 76, 3) := by decide +kernel
theorem dX8_readJob_104 : decode cX8_readJob 104 = .ok (.ifCond .eq 13, 3) := by decide +kernel
theorem dX8_readJob_107 : decode cX8_readJob 107 = .ok (.aload_n 0, 1) := by decide +kernel
theorem dX8_readJob_108 : decode cX8_readJob 108 = .ok (.iconst 0, 1) := by decide +kernel
theorem dX8_readJob_109 : decode cX8_readJob 109 = .ok (.bipush 99, 2) := by decide +kernel
theorem dX8_readJob_111 : decode cX8_readJob 111 = .ok (.invokevirtual 64, 3) := by decide +kernel
theorem dX8_readJob_114 : decode cX8_readJob 114 = .ok (.ifCond .ne 5, 3) := by decide +kernel
theorem dX8_readJob_117 : decode cX8_readJob 117 = .ok (.iconst 0, 1) := by decide +kernel
theorem dX8_readJob_118 : decode cX8_readJob 118 = .ok (.ireturn, 1) := by decide +kernel
theorem dX8_readJob_119 : decode cX8_readJob 119 = .ok (.aload_n 0, 1) := by decide +kernel
theorem dX8_readJob_120 : decode cX8_readJob 120 = .ok (.getfield 39, 3) := by decide +kernel
theorem dX8_readJob_123 : decode cX8_readJob 123 = .ok (.istore 5, 2) := by decide +kernel
theorem dX8_readJob_125 : decode cX8_readJob 125 = .ok (.aload_n 0, 1) := by decide +kernel
theorem dX8_readJob_126 : decode cX8_readJob 126 = .ok (.invokevirtual 68, 3) := by decide +kernel
theorem dX8_readJob_129 : decode cX8_readJob 129 = .ok (.ifCond .ne 5, 3) := by decide +kernel
theorem dX8_readJob_132 : decode cX8_readJob 132 = .ok (.iconst 0, 1) := by decide +kernel
theorem dX8_readJob_133 : decode cX8_readJob 133 = .ok (.ireturn, 1) := by decide +kernel
theorem dX8_readJob_134 : decode cX8_readJob 134 = .ok (.aload_n 0, 1) := by decide +kernel
theorem dX8_readJob_135 : decode cX8_readJob 135 = .ok (.getfield 22, 3) := by decide +kernel
theorem dX8_readJob_138 : decode cX8_readJob 138 = .ok (.iload_n 1, 1) := by decide +kernel
theorem dX8_readJob_139 : decode cX8_readJob 139 = .ok (.iload_n 2, 1) := by decide +kernel
theorem dX8_readJob_140 : decode cX8_readJob 140 = .ok (.iload_n 3, 1) := by decide +kernel
theorem dX8_readJob_141 : decode cX8_readJob 141 = .ok (.iload 4, 2) := by decide +kernel
theorem dX8_readJob_143 : decode cX8_readJob 143 = .ok (.iload 5, 2) := by decide +kernel
theorem dX8_readJob_145 : decode cX8_readJob 145 = .ok (.invokevirtual 84, 3) := by decide +kernel
theorem dX8_readJob_148 : decode cX8_readJob 148 = .ok (.iconst 1, 1) := by decide +kernel
theorem dX8_readJob_149 : decode cX8_readJob 149 = .ok (.ireturn, 1) := by decide +kernel
theorem dX8_lawNamed_0 : decode cX8_lawNamed 0 = .ok (.aload_n 0, 1) := by decide +kernel
theorem dX8_lawNamed_1 : decode cX8_lawNamed 1 = .ok (.ldc 88, 2) := by decide +kernel
theorem dX8_lawNamed_3 : decode cX8_lawNamed 3 = .ok (.invokevirtual 90, 3) := by decide +kernel
theorem dX8_lawNamed_6 : decode cX8_lawNamed 6 = .ok (.ifCond .eq 5, 3) := by decide +kernel
theorem dX8_lawNamed_9 : decode cX8_lawNamed 9 = .ok (.iconst 0, 1) := by decide +kernel
theorem dX8_lawNamed_10 : decode cX8_lawNamed 10 = .ok (.ireturn, 1) := by decide +kernel
theorem dX8_lawNamed_11 : decode cX8_lawNamed 11 = .ok (.aload_n 0, 1) := by decide +kernel
theorem dX8_lawNamed_12 : decode cX8_lawNamed 12 = .ok (.ldc 93, 2) := by decide +kernel
theorem dX8_lawNamed_14 : decode cX8_lawNamed 14 = .ok (.invokevirtual 90, 3) := by decide +kernel
theorem dX8_lawNamed_17 : decode cX8_lawNamed 17 = .ok (.ifCond .eq 5, 3) := by decide +kernel
theorem dX8_lawNamed_20 : decode cX8_lawNamed 20 = .ok (.iconst 1, 1) := by decide +kernel
theorem dX8_lawNamed_21 : decode cX8_lawNamed 21 = .ok (.ireturn, 1) := by decide +kernel
theorem dX8_lawNamed_22 : decode cX8_lawNamed 22 = .ok (.aload_n 0, 1) := by decide +kernel
theorem dX8_lawNamed_23 : decode cX8_lawNamed 23 = .ok (.ldc 95, 2) := by decide +kernel
theorem dX8_lawNamed_25 : decode cX8_lawNamed 25 = .ok (.invokevirtual 90, 3) := by decide +kernel
theorem dX8_lawNamed_28 : decode cX8_lawNamed 28 = .ok (.ifCond .eq 5, 3) := by decide +kernel
theorem dX8_lawNamed_31 : decode cX8_lawNamed 31 = .ok (.iconst 2, 1) := by decide +kernel
theorem dX8_lawNamed_32 : decode cX8_lawNamed 32 = .ok (.ireturn, 1) := by decide +kernel
theorem dX8_lawNamed_33 : decode cX8_lawNamed 33 = .ok (.iconst (-1), 1) := by decide +kernel
theorem dX8_lawNamed_34 : decode cX8_lawNamed 34 = .ok (.ireturn, 1) := by decide +kernel
theorem dX8_kindNamed_0 : decode cX8_kindNamed 0 = .ok (.aload_n 0, 1) := by decide +kernel
theorem dX8_kindNamed_1 : decode cX8_kindNamed 1 = .ok (.ldc 97, 2) := by decide +kernel
theorem dX8_kindNamed_3 : decode cX8_kindNamed 3 = .ok (.invokevirtual 90, 3) := by decide +kernel
theorem dX8_kindNamed_6 : decode cX8_kindNamed 6 = .ok (.ifCond .eq 5, 3) := by decide +kernel
theorem dX8_kindNamed_9 : decode cX8_kindNamed 9 = .ok (.iconst 0, 1) := by decide +kernel
theorem dX8_kindNamed_10 : decode cX8_kindNamed 10 = .ok (.ireturn, 1) := by decide +kernel
theorem dX8_kindNamed_11 : decode cX8_kindNamed 11 = .ok (.aload_n 0, 1) := by decide +kernel
theorem dX8_kindNamed_12 : decode cX8_kindNamed 12 = .ok (.ldc 99, 2) := by decide +kernel
theorem dX8_kindNamed_14 : decode cX8_kindNamed 14 = .ok (.invokevirtual 90, 3) := by decide +kernel
theorem dX8_kindNamed_17 : decode cX8_kindNamed 17 = .ok (.ifCond .eq 5, 3) := by decide +kernel
theorem dX8_kindNamed_20 : decode cX8_kindNamed 20 = .ok (.iconst 1, 1) := by decide +kernel
theorem dX8_kindNamed_21 : decode cX8_kindNamed 21 = .ok (.ireturn, 1) := by decide +kernel
theorem dX8_kindNamed_22 : decode cX8_kindNamed 22 = .ok (.aload_n 0, 1) := by decide +kernel
theorem dX8_kindNamed_23 : decode cX8_kindNamed 23 = .ok (.ldc 101, 2) := by decide +kernel
theorem dX8_kindNamed_25 : decode cX8_kindNamed 25 = .ok (.invokevirtual 90, 3) := by decide +kernel
theorem dX8_kindNamed_28 : decode cX8_kindNamed 28 = .ok (.ifCond .eq 5, 3) := by decide +kernel
theorem dX8_kindNamed_31 : decode cX8_kindNamed 31 = .ok (.iconst 2, 1) := by decide +kernel
theorem dX8_kindNamed_32 : decode cX8_kindNamed 32 = .ok (.ireturn, 1) := by decide +kernel
theorem dX8_kindNamed_33 : decode cX8_kindNamed 33 = .ok (.aload_n 0, 1) := by decide +kernel
theorem dX8_kindNamed_34 : decode cX8_kindNamed 34 = .ok (.ldc 103, 2) := by decide +kernel
theorem dX8_kindNamed_36 : decode cX8_kindNamed 36 = .ok (.invokevirtual 90, 3) := by decide +kernel
theorem dX8_kindNamed_39 : decode cX8_kindNamed 39 = .ok (.ifCond .eq 5, 3) := by decide +kernel
theorem dX8_kindNamed_42 : decode cX8_kindNamed 42 = .ok (.iconst 3, 1) := by decide +kernel
theorem dX8_kindNamed_43 : decode cX8_kindNamed 43 = .ok (.ireturn, 1) := by decide +kernel
theorem dX8_kindNamed_44 : decode cX8_kindNamed 44 = .ok (.aload_n 0, 1) := by decide +kernel
theorem dX8_kindNamed_45 : decode cX8_kindNamed 45 = .ok (.ldc 105, 2) := by decide +kernel
theorem dX8_kindNamed_47 : decode cX8_kindNamed 47 = .ok (.invokevirtual 90, 3) := by decide +kernel
theorem dX8_kindNamed_50 : decode cX8_kindNamed 50 = .ok (.ifCond .eq 5, 3) := by decide +kernel
theorem dX8_kindNamed_53 : decode cX8_kindNamed 53 = .ok (.iconst 4, 1) := by decide +kernel
theorem dX8_kindNamed_54 : decode cX8_kindNamed 54 = .ok (.ireturn, 1) := by decide +kernel
theorem dX8_kindNamed_55 : decode cX8_kindNamed 55 = .ok (.aload_n 0, 1) := by decide +kernel
theorem dX8_kindNamed_56 : decode cX8_kindNamed 56 = .ok (.ldc 107, 2) := by decide +kernel
theorem dX8_kindNamed_58 : decode cX8_kindNamed 58 = .ok (.invokevirtual 90, 3) := by decide +kernel
theorem dX8_kindNamed_61 : decode cX8_kindNamed 61 = .ok (.ifCond .eq 5, 3) := by decide +kernel
theorem dX8_kindNamed_64 : decode cX8_kindNamed 64 = .ok (.iconst 5, 1) := by decide +kernel
theorem dX8_kindNamed_65 : decode cX8_kindNamed 65 = .ok (.ireturn, 1) := by decide +kernel
theorem dX8_kindNamed_66 : decode cX8_kindNamed 66 = .ok (.iconst (-1), 1) := by decide +kernel
theorem dX8_kindNamed_67 : decode cX8_kindNamed 67 = .ok (.ireturn, 1) := by decide +kernel
theorem dX8_isNamed_0 : decode cX8_isNamed 0 = .ok (.aload_n 0, 1) := by decide +kernel
theorem dX8_isNamed_1 : decode cX8_isNamed 1 = .ok (.getfield 30, 3) := by decide +kernel
theorem dX8_isNamed_4 : decode cX8_isNamed 4 = .ok (.iconst 1, 1) := by decide +kernel
theorem dX8_isNamed_5 : decode cX8_isNamed 5 = .ok (.if_icmp .ne 19, 3) := by decide +kernel
theorem dX8_isNamed_8 : decode cX8_isNamed 8 = .ok (.aload_n 0, 1) := by decide +kernel
theorem dX8_isNamed_9 : decode cX8_isNamed 9 = .ok (.getfield 36, 3) := by decide +kernel
theorem dX8_isNamed_12 : decode cX8_isNamed 12 = .ok (.aload_n 0, 1) := by decide +kernel
theorem dX8_isNamed_13 : decode cX8_isNamed 13 = .ok (.getfield 33, 3) := by decide +kernel
theorem dX8_isNamed_16 : decode cX8_isNamed 16 = .ok (.isub, 1) := by decide +kernel
theorem dX8_isNamed_17 : decode cX8_isNamed 17 = .ok (.aload_n 1, 1) := by decide +kernel
theorem dX8_isNamed_18 : decode cX8_isNamed 18 = .ok (.invokevirtual 109, 3) := by decide +kernel
theorem dX8_isNamed_21 : decode cX8_isNamed 21 = .ok (.if_icmp .eq 5, 3) := by decide +kernel
theorem dX8_isNamed_24 : decode cX8_isNamed 24 = .ok (.iconst 0, 1) := by decide +kernel
theorem dX8_isNamed_25 : decode cX8_isNamed 25 = .ok (.ireturn, 1) := by decide +kernel
theorem dX8_isNamed_26 : decode cX8_isNamed 26 = .ok (.iconst 0, 1) := by decide +kernel
theorem dX8_isNamed_27 : decode cX8_isNamed 27 = .ok (.istore_n 2, 1) := by decide +kernel
theorem dX8_isNamed_28 : decode cX8_isNamed 28 = .ok (.iload_n 2, 1) := by decide +kernel
theorem dX8_isNamed_29 : decode cX8_isNamed 29 = .ok (.aload_n 1, 1) := by decide +kernel
theorem dX8_isNamed_30 : decode cX8_isNamed 30 = .ok (.invokevirtual 109, 3) := by decide +kernel
theorem dX8_isNamed_33 : decode cX8_isNamed 33 = .ok (.if_icmp .ge 30, 3) := by decide +kernel
theorem dX8_isNamed_36 : decode cX8_isNamed 36 = .ok (.aload_n 0, 1) := by decide +kernel
theorem dX8_isNamed_37 : decode cX8_isNamed 37 = .ok (.getfield 11, 3) := by decide +kernel
theorem dX8_isNamed_40 : decode cX8_isNamed 40 = .ok (.aload_n 0, 1) := by decide +kernel
theorem dX8_isNamed_41 : decode cX8_isNamed 41 = .ok (.getfield 33, 3) := by decide +kernel
theorem dX8_isNamed_44 : decode cX8_isNamed 44 = .ok (.iload_n 2, 1) := by decide +kernel
theorem dX8_isNamed_45 : decode cX8_isNamed 45 = .ok (.iadd, 1) := by decide +kernel
theorem dX8_isNamed_46 : decode cX8_isNamed 46 = .ok (.baload, 1) := by decide +kernel
theorem dX8_isNamed_47 : decode cX8_isNamed 47 = .ok (.aload_n 1, 1) := by decide +kernel
theorem dX8_isNamed_48 : decode cX8_isNamed 48 = .ok (.iload_n 2, 1) := by decide +kernel
theorem dX8_isNamed_49 : decode cX8_isNamed 49 = .ok (.invokevirtual 114, 3) := by decide +kernel
theorem dX8_isNamed_52 : decode cX8_isNamed 52 = .ok (.if_icmp .eq 5, 3) := by decide +kernel
theorem dX8_isNamed_55 : decode cX8_isNamed 55 = .ok (.iconst 0, 1) := by decide +kernel
theorem dX8_isNamed_56 : decode cX8_isNamed 56 = .ok (.ireturn, 1) := by decide +kernel
theorem dX8_isNamed_57 : decode cX8_isNamed 57 = .ok (.iinc 2 1, 3) := by decide +kernel
theorem dX8_isNamed_60 : decode cX8_isNamed 60 = .ok (.goto (-32), 3) := by decide +kernel
theorem dX8_isNamed_63 : decode cX8_isNamed 63 = .ok (.iconst 1, 1) := by decide +kernel
theorem dX8_isNamed_64 : decode cX8_isNamed 64 = .ok (.ireturn, 1) := by decide +kernel
theorem dX8_passName_0 : decode cX8_passName 0 = .ok (.aload_n 0, 1) := by decide +kernel
theorem dX8_passName_1 : decode cX8_passName 1 = .ok (.aload_n 1, 1) := by decide +kernel
theorem dX8_passName_2 : decode cX8_passName 2 = .ok (.invokevirtual 90, 3) := by decide +kernel
theorem dX8_passName_5 : decode cX8_passName 5 = .ok (.ifCond .ne 5, 3) := by decide +kernel
theorem dX8_passName_8 : decode cX8_passName 8 = .ok (.iconst 0, 1) := by decide +kernel
theorem dX8_passName_9 : decode cX8_passName 9 = .ok (.ireturn, 1) := by decide +kernel
theorem dX8_passName_10 : decode cX8_passName 10 = .ok (.aload_n 0, 1) := by decide +kernel
theorem dX8_passName_11 : decode cX8_passName 11 = .ok (.invokevirtual 43, 3) := by decide +kernel
theorem dX8_passName_14 : decode cX8_passName 14 = .ok (.iconst 1, 1) := by decide +kernel
theorem dX8_passName_15 : decode cX8_passName 15 = .ok (.ireturn, 1) := by decide +kernel
theorem dX8_passNumber_0 : decode cX8_passNumber 0 = .ok (.aload_n 0, 1) := by decide +kernel
theorem dX8_passNumber_1 : decode cX8_passNumber 1 = .ok (.getfield 30, 3) := by decide +kernel
theorem dX8_passNumber_4 : decode cX8_passNumber 4 = .ok (.iconst 2, 1) := by decide +kernel
theorem dX8_passNumber_5 : decode cX8_passNumber 5 = .ok (.if_icmp .ne 16, 3) := by decide +kernel
theorem dX8_passNumber_8 : decode cX8_passNumber 8 = .ok (.aload_n 0, 1) := by decide +kernel
theorem dX8_passNumber_9 : decode cX8_passNumber 9 = .ok (.getfield 36, 3) := by decide +kernel
theorem dX8_passNumber_12 : decode cX8_passNumber 12 = .ok (.aload_n 0, 1) := by decide +kernel
theorem dX8_passNumber_13 : decode cX8_passNumber 13 = .ok (.getfield 33, 3) := by decide +kernel
theorem dX8_passNumber_16 : decode cX8_passNumber 16 = .ok (.isub, 1) := by decide +kernel
theorem dX8_passNumber_17 : decode cX8_passNumber 17 = .ok (.iconst 2, 1) := by decide +kernel
theorem dX8_passNumber_18 : decode cX8_passNumber 18 = .ok (.if_icmp .le 5, 3) := by decide +kernel
theorem dX8_passNumber_21 : decode cX8_passNumber 21 = .ok (.iconst 0, 1) := by decide +kernel
theorem dX8_passNumber_22 : decode cX8_passNumber 22 = .ok (.ireturn, 1) := by decide +kernel
theorem dX8_passNumber_23 : decode cX8_passNumber 23 = .ok (.iconst 0, 1) := by decide +kernel
theorem dX8_passNumber_24 : decode cX8_passNumber 24 = .ok (.istore_n 3, 1) := by decide +kernel
theorem dX8_passNumber_25 : decode cX8_passNumber 25 = .ok (.aload_n 0, 1) := by decide +kernel
theorem dX8_passNumber_26 : decode cX8_passNumber 26 = .ok (.getfield 33, 3) := by decide +kernel
theorem dX8_passNumber_29 : decode cX8_passNumber 29 = .ok (.istore 4, 2) := by decide +kernel
theorem dX8_passNumber_31 : decode cX8_passNumber 31 = .ok (.iload 4, 2) := by decide +kernel
theorem dX8_passNumber_33 : decode cX8_passNumber 33 = .ok (.aload_n 0, 1) := by decide +kernel
theorem dX8_passNumber_34 : decode cX8_passNumber 34 = .ok (.getfield 36, 3) := by decide +kernel
theorem dX8_passNumber_37 : decode cX8_passNumber 37 = .ok (.if_icmp .ge 25, 3) := by decide +kernel
theorem dX8_passNumber_40 : decode cX8_passNumber 40 = .ok (.iload_n 3, 1) := by decide +kernel
theorem dX8_passNumber_41 : decode cX8_passNumber 41 = .ok (.bipush 10, 2) := by decide +kernel
theorem dX8_passNumber_43 : decode cX8_passNumber 43 = .ok (.imul, 1) := by decide +kernel
theorem dX8_passNumber_44 : decode cX8_passNumber 44 = .ok (.aload_n 0, 1) := by decide +kernel
theorem dX8_passNumber_45 : decode cX8_passNumber 45 = .ok (.getfield 11, 3) := by decide +kernel
theorem dX8_passNumber_48 : decode cX8_passNumber 48 = .ok (.iload 4, 2) := by decide +kernel
theorem dX8_passNumber_50 : decode cX8_passNumber 50 = .ok (.baload, 1) := by decide +kernel
theorem dX8_passNumber_51 : decode cX8_passNumber 51 = .ok (.iadd, 1) := by decide +kernel
theorem dX8_passNumber_52 : decode cX8_passNumber 52 = .ok (.bipush 48, 2) := by decide +kernel
theorem dX8_passNumber_54 : decode cX8_passNumber 54 = .ok (.isub, 1) := by decide +kernel
theorem dX8_passNumber_55 : decode cX8_passNumber 55 = .ok (.istore_n 3, 1) := by decide +kernel
theorem dX8_passNumber_56 : decode cX8_passNumber 56 = .ok (.iinc 4 1, 3) := by decide +kernel
theorem dX8_passNumber_59 : decode cX8_passNumber 59 = .ok (.goto (-28), 3) := by decide +kernel
theorem dX8_passNumber_62 : decode cX8_passNumber 62 = .ok (.iload_n 3, 1) := by decide +kernel
theorem dX8_passNumber_63 : decode cX8_passNumber 63 = .ok (.iload_n 1, 1) := by decide +kernel
theorem dX8_passNumber_64 : decode cX8_passNumber 64 = .ok (.iload_n 2, 1) := by decide +kernel
theorem dX8_passNumber_65 : decode cX8_passNumber 65 = .ok (.invokestatic 118, 3) := by decide +kernel
theorem dX8_passNumber_68 : decode cX8_passNumber 68 = .ok (.ifCond .ne 5, 3) := by decide +kernel
theorem dX8_passNumber_71 : decode cX8_passNumber 71 = .ok (.iconst 0, 1) := by decide +kernel
theorem dX8_passNumber_72 : decode cX8_passNumber 72 = .ok (.ireturn, 1) := by decide +kernel
theorem dX8_passNumber_73 : decode cX8_passNumber 73 = .ok (.aload_n 0, 1) := by decide +kernel
theorem dX8_passNumber_74 : decode cX8_passNumber 74 = .ok (.iload_n 3, 1) := by decide +kernel
theorem dX8_passNumber_75 : decode cX8_passNumber 75 = .ok (.putfield 39, 3) := by decide +kernel
theorem dX8_passNumber_78 : decode cX8_passNumber 78 = .ok (.aload_n 0, 1) := by decide +kernel
theorem dX8_passNumber_79 : decode cX8_passNumber 79 = .ok (.invokevirtual 43, 3) := by decide +kernel
theorem dX8_passNumber_82 : decode cX8_passNumber 82 = .ok (.iconst 1, 1) := by decide +kernel
theorem dX8_passNumber_83 : decode cX8_passNumber 83 = .ok (.ireturn, 1) := by decide +kernel
theorem dX8_passStop_0 : decode cX8_passStop 0 = .ok (.aload_n 0, 1) := by decide +kernel
theorem dX8_passStop_1 : decode cX8_passStop 1 = .ok (.getfield 30, 3) := by decide +kernel
theorem dX8_passStop_4 : decode cX8_passStop 4 = .ok (.iconst 3, 1) := by decide +kernel
theorem dX8_passStop_5 : decode cX8_passStop 5 = .ok (.if_icmp .ne 17, 3) := by decide +kernel
theorem dX8_passStop_8 : decode cX8_passStop 8 = .ok (.aload_n 0, 1) := by decide +kernel
theorem dX8_passStop_9 : decode cX8_passStop 9 = .ok (.getfield 11, 3) := by decide +kernel
theorem dX8_passStop_12 : decode cX8_passStop 12 = .ok (.aload_n 0, 1) := by decide +kernel
theorem dX8_passStop_13 : decode cX8_passStop 13 = .ok (.getfield 33, 3) := by decide +kernel
theorem dX8_passStop_16 : decode cX8_passStop 16 = .ok (.baload, 1) := by decide +kernel
theorem dX8_passStop_17 : decode cX8_passStop 17 = .ok (.bipush 59, 2) := by decide +kernel
theorem dX8_passStop_19 : decode cX8_passStop 19 = .ok (.if_icmp .eq 5, 3) := by decide +kernel
theorem dX8_passStop_22 : decode cX8_passStop 22 = .ok (.iconst 0, 1) := by decide +kernel
theorem dX8_passStop_23 : decode cX8_passStop 23 = .ok (.ireturn, 1) := by decide +kernel
theorem dX8_passStop_24 : decode cX8_passStop 24 = .ok (.aload_n 0, 1) := by decide +kernel
theorem dX8_passStop_25 : decode cX8_passStop 25 = .ok (.invokevirtual 43, 3) := by decide +kernel
theorem dX8_passStop_28 : decode cX8_passStop 28 = .ok (.iconst 1, 1) := by decide +kernel
theorem dX8_passStop_29 : decode cX8_passStop 29 = .ok (.ireturn, 1) := by decide +kernel
theorem dX8_next_0 : decode cX8_next 0 = .ok (.aload_n 0, 1) := by decide +kernel
theorem dX8_next_1 : decode cX8_next 1 = .ok (.aload_n 0, 1) := by decide +kernel
theorem dX8_next_2 : decode cX8_next 2 = .ok (.getfield 36, 3) := by decide +kernel
theorem dX8_next_5 : decode cX8_next 5 = .ok (.putfield 33, 3) := by decide +kernel
theorem dX8_next_8 : decode cX8_next 8 = .ok (.aload_n 0, 1) := by decide +kernel
theorem dX8_next_9 : decode cX8_next 9 = .ok (.getfield 33, 3) := by decide +kernel
theorem dX8_next_12 : decode cX8_next 12 = .ok (.aload_n 0, 1) := by decide +kernel
theorem dX8_next_13 : decode cX8_next 13 = .ok (.getfield 15, 3) := by decide +kernel
theorem dX8_next_16 : decode cX8_next 16 = .ok (.if_icmp .ge 30, 3) := by decide +kernel
theorem dX8_next_19 : decode cX8_next 19 = .ok (.aload_n 0, 1) := by decide +kernel
theorem dX8_next_20 : decode cX8_next 20 = .ok (.getfield 11, 3) := by decide +kernel
theorem dX8_next_23 : decode cX8_next 23 = .ok (.aload_n 0, 1) := by decide +kernel
theorem dX8_next_24 : decode cX8_next 24 = .ok (.getfield 33, 3) := by decide +kernel
theorem dX8_next_27 : decode cX8_next 27 = .ok (.baload, 1) := by decide +kernel
theorem dX8_next_28 : decode cX8_next 28 = .ok (.bipush 32, 2) := by decide +kernel
theorem dX8_next_30 : decode cX8_next 30 = .ok (.if_icmp .ne 16, 3) := by decide +kernel
theorem dX8_next_33 : decode cX8_next 33 = .ok (.aload_n 0, 1) := by decide +kernel
theorem dX8_next_34 : decode cX8_next 34 = .ok (.dup, 1) := by decide +kernel
theorem dX8_next_35 : decode cX8_next 35 = .ok (.getfield 33, 3) := by decide +kernel
theorem dX8_next_38 : decode cX8_next 38 = .ok (.iconst 1, 1) := by decide +kernel
theorem dX8_next_39 : decode cX8_next 39 = .ok (.iadd, 1) := by decide +kernel
theorem dX8_next_40 : decode cX8_next 40 = .ok (.putfield 33, 3) := by decide +kernel
theorem dX8_next_43 : decode cX8_next 43 = .ok (.goto (-35), 3) := by decide +kernel
theorem dX8_next_46 : decode cX8_next 46 = .ok (.aload_n 0, 1) := by decide +kernel
theorem dX8_next_47 : decode cX8_next 47 = .ok (.aload_n 0, 1) := by decide +kernel
theorem dX8_next_48 : decode cX8_next 48 = .ok (.aload_n 0, 1) := by decide +kernel
theorem dX8_next_49 : decode cX8_next 49 = .ok (.getfield 33, 3) := by decide +kernel
theorem dX8_next_52 : decode cX8_next 52 = .ok (.invokevirtual 122, 3) := by decide +kernel
theorem dX8_next_55 : decode cX8_next 55 = .ok (.putfield 30, 3) := by decide +kernel
theorem dX8_next_58 : decode cX8_next 58 = .ok (.aload_n 0, 1) := by decide +kernel
theorem dX8_next_59 : decode cX8_next 59 = .ok (.aload_n 0, 1) := by decide +kernel
theorem dX8_next_60 : decode cX8_next 60 = .ok (.getfield 30, 3) := by decide +kernel
theorem dX8_next_63 : decode cX8_next 63 = .ok (.ifCond .ne 10, 3) := by decide +kernel
theorem dX8_next_66 : decode cX8_next 66 = .ok (.aload_n 0, 1) := by decide +kernel
theorem dX8_next_67 : decode cX8_next 67 = .ok (.getfield 33, 3) := by decide +kernel
theorem dX8_next_70 : decode cX8_next 70 = .ok (.goto 9, 3) := by decide +kernel
theorem dX8_next_73 : decode cX8_next 73 = .ok (.aload_n 0, 1) := by decide +kernel
theorem dX8_next_74 : decode cX8_next 74 = .ok (.getfield 33, 3) := by decide +kernel
theorem dX8_next_77 : decode cX8_next 77 = .ok (.iconst 1, 1) := by decide +kernel
theorem dX8_next_78 : decode cX8_next 78 = .ok (.iadd, 1) := by decide +kernel
theorem dX8_next_79 : decode cX8_next 79 = .ok (.putfield 36, 3) := by decide +kernel
theorem dX8_next_82 : decode cX8_next 82 = .ok (.aload_n 0, 1) := by decide +kernel
theorem dX8_next_83 : decode cX8_next 83 = .ok (.getfield 30, 3) := by decide +kernel
theorem dX8_next_86 : decode cX8_next 86 = .ok (.iconst 1, 1) := by decide +kernel
theorem dX8_next_87 : decode cX8_next 87 = .ok (.if_icmp .eq 11, 3) := by decide +kernel
theorem dX8_next_90 : decode cX8_next 90 = .ok (.aload_n 0, 1) := by decide +kernel
theorem dX8_next_91 : decode cX8_next 91 = .ok (.getfield 30, 3) := by decide +kernel
theorem dX8_next_94 : decode cX8_next 94 = .ok (.iconst 2, 1) := by decide +kernel
theorem dX8_next_95 : decode cX8_next 95 = .ok (.if_icmp .ne 42, 3) := by decide +kernel
theorem dX8_next_98 : decode cX8_next 98 = .ok (.aload_n 0, 1) := by decide +kernel
theorem dX8_next_99 : decode cX8_next 99 = .ok (.getfield 36, 3) := by decide +kernel
theorem dX8_next_102 : decode cX8_next 102 = .ok (.aload_n 0, 1) := by decide +kernel
theorem dX8_next_103 : decode cX8_next 103 = .ok (.getfield 15, 3) := by decide +kernel
theorem dX8_next_106 : decode cX8_next 106 = .ok (.if_icmp .ge 31, 3) := by decide +kernel
theorem dX8_next_109 : decode cX8_next 109 = .ok (.aload_n 0, 1) := by decide +kernel
theorem dX8_next_110 : decode cX8_next 110 = .ok (.aload_n 0, 1) := by decide +kernel
theorem dX8_next_111 : decode cX8_next 111 = .ok (.getfield 36, 3) := by decide +kernel
theorem dX8_next_114 : decode cX8_next 114 = .ok (.invokevirtual 122, 3) := by decide +kernel
theorem dX8_next_117 : decode cX8_next 117 = .ok (.aload_n 0, 1) := by decide +kernel
theorem dX8_next_118 : decode cX8_next 118 = .ok (.getfield 30, 3) := by decide +kernel
theorem dX8_next_121 : decode cX8_next 121 = .ok (.if_icmp .ne 16, 3) := by decide +kernel
theorem dX8_next_124 : decode cX8_next 124 = .ok (.aload_n 0, 1) := by decide +kernel
theorem dX8_next_125 : decode cX8_next 125 = .ok (.dup, 1) := by decide +kernel
theorem dX8_next_126 : decode cX8_next 126 = .ok (.getfield 36, 3) := by decide +kernel
theorem dX8_next_129 : decode cX8_next 129 = .ok (.iconst 1, 1) := by decide +kernel
theorem dX8_next_130 : decode cX8_next 130 = .ok (.iadd, 1) := by decide +kernel
theorem dX8_next_131 : decode cX8_next 131 = .ok (.putfield 36, 3) := by decide +kernel
theorem dX8_next_134 : decode cX8_next 134 = .ok (.goto (-52), 3) := by decide +kernel
theorem dX8_next_137 : decode cX8_next 137 = .ok (.return_, 1) := by decide +kernel
theorem dX8_sortAt_0 : decode cX8_sortAt 0 = .ok (.iload_n 1, 1) := by decide +kernel
theorem dX8_sortAt_1 : decode cX8_sortAt 1 = .ok (.ifCond .lt 11, 3) := by decide +kernel
theorem dX8_sortAt_4 : decode cX8_sortAt 4 = .ok (.iload_n 1, 1) := by decide +kernel
theorem dX8_sortAt_5 : decode cX8_sortAt 5 = .ok (.aload_n 0, 1) := by decide +kernel
theorem dX8_sortAt_6 : decode cX8_sortAt 6 = .ok (.getfield 15, 3) := by decide +kernel
theorem dX8_sortAt_9 : decode cX8_sortAt 9 = .ok (.if_icmp .lt 5, 3) := by decide +kernel
theorem dX8_sortAt_12 : decode cX8_sortAt 12 = .ok (.iconst 0, 1) := by decide +kernel
theorem dX8_sortAt_13 : decode cX8_sortAt 13 = .ok (.ireturn, 1) := by decide +kernel
theorem dX8_sortAt_14 : decode cX8_sortAt 14 = .ok (.aload_n 0, 1) := by decide +kernel
theorem dX8_sortAt_15 : decode cX8_sortAt 15 = .ok (.getfield 11, 3) := by decide +kernel
theorem dX8_sortAt_18 : decode cX8_sortAt 18 = .ok (.iload_n 1, 1) := by decide +kernel
theorem dX8_sortAt_19 : decode cX8_sortAt 19 = .ok (.baload, 1) := by decide +kernel
theorem dX8_sortAt_20 : decode cX8_sortAt 20 = .ok (.bipush 97, 2) := by decide +kernel
theorem dX8_sortAt_22 : decode cX8_sortAt 22 = .ok (.if_icmp .lt 16, 3) := by decide +kernel
theorem dX8_sortAt_25 : decode cX8_sortAt 25 = .ok (.aload_n 0, 1) := by decide +kernel
theorem dX8_sortAt_26 : decode cX8_sortAt 26 = .ok (.getfield 11, 3) := by decide +kernel
theorem dX8_sortAt_29 : decode cX8_sortAt 29 = .ok (.iload_n 1, 1) := by decide +kernel
theorem dX8_sortAt_30 : decode cX8_sortAt 30 = .ok (.baload, 1) := by decide +kernel
theorem dX8_sortAt_31 : decode cX8_sortAt 31 = .ok (.bipush 122, 2) := by decide +kernel
theorem dX8_sortAt_33 : decode cX8_sortAt 33 = .ok (.if_icmp .gt 5, 3) := by decide +kernel
theorem dX8_sortAt_36 : decode cX8_sortAt 36 = .ok (.iconst 1, 1) := by decide +kernel
theorem dX8_sortAt_37 : decode cX8_sortAt 37 = .ok (.ireturn, 1) := by decide +kernel
theorem dX8_sortAt_38 : decode cX8_sortAt 38 = .ok (.aload_n 0, 1) := by decide +kernel
theorem dX8_sortAt_39 : decode cX8_sortAt 39 = .ok (.getfield 11, 3) := by decide +kernel
theorem dX8_sortAt_42 : decode cX8_sortAt 42 = .ok (.iload_n 1, 1) := by decide +kernel
theorem dX8_sortAt_43 : decode cX8_sortAt 43 = .ok (.baload, 1) := by decide +kernel
theorem dX8_sortAt_44 : decode cX8_sortAt 44 = .ok (.bipush 48, 2) := by decide +kernel
theorem dX8_sortAt_46 : decode cX8_sortAt 46 = .ok (.if_icmp .lt 18, 3) := by decide +kernel
theorem dX8_sortAt_49 : decode cX8_sortAt 49 = .ok (.aload_n 0, 1) := by decide +kernel
theorem dX8_sortAt_50 : decode cX8_sortAt 50 = .ok (.getfield 11, 3) := by decide +kernel
theorem dX8_sortAt_53 : decode cX8_sortAt 53 = .ok (.iload_n 1, 1) := by decide +kernel
theorem dX8_sortAt_54 : decode cX8_sortAt 54 = .ok (.baload, 1) := by decide +kernel
theorem dX8_sortAt_55 : decode cX8_sortAt 55 = .ok (.bipush 57, 2) := by decide +kernel
theorem dX8_sortAt_57 : decode cX8_sortAt 57 = .ok (.if_icmp .gt 7, 3) := by decide +kernel
theorem dX8_sortAt_60 : decode cX8_sortAt 60 = .ok (.iconst 2, 1) := by decide +kernel
theorem dX8_sortAt_61 : decode cX8_sortAt 61 = .ok (.goto 4, 3) := by decide +kernel
theorem dX8_sortAt_64 : decode cX8_sortAt 64 = .ok (.iconst 3, 1) := by decide +kernel
theorem dX8_sortAt_65 : decode cX8_sortAt 65 = .ok (.ireturn, 1) := by decide +kernel
theorem dX9_init_0 : decode cX9_init 0 = .ok (.aload_n 0, 1) := by decide +kernel
theorem dX9_init_1 : decode cX9_init 1 = .ok (.invokespecial 3, 3) := by decide +kernel
theorem dX9_init_4 : decode cX9_init 4 = .ok (.aload_n 0, 1) := by decide +kernel
theorem dX9_init_5 : decode cX9_init 5 = .ok (.iconst 0, 1) := by decide +kernel
theorem dX9_init_6 : decode cX9_init 6 = .ok (.putfield 9, 3) := by decide +kernel
theorem dX9_init_9 : decode cX9_init 9 = .ok (.aload_n 0, 1) := by decide +kernel
theorem dX9_init_10 : decode cX9_init 10 = .ok (.iconst 0, 1) := by decide +kernel
theorem dX9_init_11 : decode cX9_init 11 = .ok (.putfield 15, 3) := by decide +kernel
theorem dX9_init_14 : decode cX9_init 14 = .ok (.aload_n 0, 1) := by decide +kernel
theorem dX9_init_15 : decode cX9_init 15 = .ok (.iconst 0, 1) := by decide +kernel
theorem dX9_init_16 : decode cX9_init 16 = .ok (.putfield 18, 3) := by decide +kernel
theorem dX9_init_19 : decode cX9_init 19 = .ok (.aload_n 0, 1) := by decide +kernel
theorem dX9_init_20 : decode cX9_init 20 = .ok (.iconst 0, 1) := by decide +kernel
theorem dX9_init_21 : decode cX9_init 21 = .ok (.putfield 21, 3) := by decide +kernel
theorem dX9_init_24 : decode cX9_init 24 = .ok (.aload_n 0, 1) := by decide +kernel
theorem dX9_init_25 : decode cX9_init 25 = .ok (.bipush 30, 2) := by decide +kernel
theorem dX9_init_27 : decode cX9_init 27 = .ok (.newarray .int, 2) := by decide +kernel
theorem dX9_init_29 : decode cX9_init 29 = .ok (.putfield 25, 3) := by decide +kernel
theorem dX9_init_32 : decode cX9_init 32 = .ok (.aload_n 0, 1) := by decide +kernel
theorem dX9_init_33 : decode cX9_init 33 = .ok (.iconst 0, 1) := by decide +kernel
theorem dX9_init_34 : decode cX9_init 34 = .ok (.putfield 29, 3) := by decide +kernel
theorem dX9_init_37 : decode cX9_init 37 = .ok (.return_, 1) := by decide +kernel
theorem dX9_forget_0 : decode cX9_forget 0 = .ok (.aload_n 0, 1) := by decide +kernel
theorem dX9_forget_1 : decode cX9_forget 1 = .ok (.iconst 0, 1) := by decide +kernel
theorem dX9_forget_2 : decode cX9_forget 2 = .ok (.putfield 29, 3) := by decide +kernel
theorem dX9_forget_5 : decode cX9_forget 5 = .ok (.return_, 1) := by decide +kernel
theorem dX9_become_0 : decode cX9_become 0 = .ok (.aload_n 0, 1) := by decide +kernel
theorem dX9_become_1 : decode cX9_become 1 = .ok (.iload_n 1, 1) := by decide +kernel
theorem dX9_become_2 : decode cX9_become 2 = .ok (.putfield 9, 3) := by decide +kernel
theorem dX9_become_5 : decode cX9_become 5 = .ok (.aload_n 0, 1) := by decide +kernel
theorem dX9_become_6 : decode cX9_become 6 = .ok (.iload_n 2, 1) := by decide +kernel
theorem dX9_become_7 : decode cX9_become 7 = .ok (.putfield 15, 3) := by decide +kernel
theorem dX9_become_10 : decode cX9_become 10 = .ok (.aload_n 0, 1) := by decide +kernel
theorem dX9_become_11 : decode cX9_become 11 = .ok (.iload_n 3, 1) := by decide +kernel
theorem dX9_become_12 : decode cX9_become 12 = .ok (.putfield 18, 3) := by decide +kernel
theorem dX9_become_15 : decode cX9_become 15 = .ok (.aload_n 0, 1) := by decide +kernel
theorem dX9_become_16 : decode cX9_become 16 = .ok (.iconst 0, 1) := by decide +kernel
theorem dX9_become_17 : decode cX9_become 17 = .ok (.putfield 21, 3) := by decide +kernel
theorem dX9_become_20 : decode cX9_become 20 = .ok (.return_, 1) := by decide +kernel
theorem dX9_perform_0 : decode cX9_perform 0 = .ok (.iconst 0, 1) := by decide +kernel
theorem dX9_perform_1 : decode cX9_perform 1 = .ok (.istore_n 3, 1) := by decide +kernel
theorem dX9_perform_2 : decode cX9_perform 2 = .ok (.iload_n 1, 1) := by decide +kernel
theorem dX9_perform_3 : decode cX9_perform 3 = .ok (.tableswitch 52 0 2 #[25, 34, 43], 25) := by decide +kernel
theorem dX9_perform_28 : decode cX9_perform 28 = .ok (.aload_n 0, 1) := by decide +kernel
theorem dX9_perform_29 : decode cX9_perform 29 = .ok (.iload_n 2, 1) := by decide +kernel
theorem dX9_perform_30 : decode cX9_perform 30 = .ok (.invokevirtual 32, 3) := by decide +kernel
theorem dX9_perform_33 : decode cX9_perform 33 = .ok (.istore_n 3, 1) := by decide +kernel
theorem dX9_perform_34 : decode cX9_perform 34 = .ok (.goto 27, 3) := by decide +kernel
theorem dX9_perform_37 : decode cX9_perform 37 = .ok (.aload_n 0, 1) := by decide +kernel
theorem dX9_perform_38 : decode cX9_perform 38 = .ok (.iload_n 2, 1) := by decide +kernel
theorem dX9_perform_39 : decode cX9_perform 39 = .ok (.invokevirtual 36, 3) := by decide +kernel
theorem dX9_perform_42 : decode cX9_perform 42 = .ok (.istore_n 3, 1) := by decide +kernel
theorem dX9_perform_43 : decode cX9_perform 43 = .ok (.goto 18, 3) := by decide +kernel
theorem dX9_perform_46 : decode cX9_perform 46 = .ok (.aload_n 0, 1) := by decide +kernel
theorem dX9_perform_47 : decode cX9_perform 47 = .ok (.iload_n 2, 1) := by decide +kernel
theorem dX9_perform_48 : decode cX9_perform 48 = .ok (.invokevirtual 39, 3) := by decide +kernel
theorem dX9_perform_51 : decode cX9_perform 51 = .ok (.istore_n 3, 1) := by decide +kernel
theorem dX9_perform_52 : decode cX9_perform 52 = .ok (.goto 9, 3) := by decide +kernel
theorem dX9_perform_55 : decode cX9_perform 55 = .ok (.aload_n 0, 1) := by decide +kernel
theorem dX9_perform_56 : decode cX9_perform 56 = .ok (.iload_n 2, 1) := by decide +kernel
theorem dX9_perform_57 : decode cX9_perform 57 = .ok (.invokevirtual 42, 3) := by decide +kernel
theorem dX9_perform_60 : decode cX9_perform 60 = .ok (.istore_n 3, 1) := by decide +kernel
theorem dX9_perform_61 : decode cX9_perform 61 = .ok (.aload_n 0, 1) := by decide +kernel
theorem dX9_perform_62 : decode cX9_perform 62 = .ok (.getfield 21, 3) := by decide +kernel
theorem dX9_perform_65 : decode cX9_perform 65 = .ok (.ifCond .eq 8, 3) := by decide +kernel
theorem dX9_perform_68 : decode cX9_perform 68 = .ok (.bipush (-15), 2) := by decide +kernel
theorem dX9_perform_70 : decode cX9_perform 70 = .ok (.goto 4, 3) := by decide +kernel
theorem dX9_perform_73 : decode cX9_perform 73 = .ok (.iload_n 3, 1) := by decide +kernel
theorem dX9_perform_74 : decode cX9_perform 74 = .ok (.ireturn, 1) := by decide +kernel
theorem dX9_runs_0 : decode cX9_runs 0 = .ok (.aload_n 0, 1) := by decide +kernel
theorem dX9_runs_1 : decode cX9_runs 1 = .ok (.getfield 29, 3) := by decide +kernel
theorem dX9_runs_4 : decode cX9_runs 4 = .ok (.bipush 30, 2) := by decide +kernel
theorem dX9_runs_6 : decode cX9_runs 6 = .ok (.if_icmp .lt 4, 3) := by decide +kernel
theorem dX9_runs_9 : decode cX9_runs 9 = .ok (.return_, 1) := by decide +kernel
theorem dX9_runs_10 : decode cX9_runs 10 = .ok (.aload_n 0, 1) := by decide +kernel
theorem dX9_runs_11 : decode cX9_runs 11 = .ok (.getfield 25, 3) := by decide +kernel
theorem dX9_runs_14 : decode cX9_runs 14 = .ok (.aload_n 0, 1) := by decide +kernel
theorem dX9_runs_15 : decode cX9_runs 15 = .ok (.getfield 29, 3) := by decide +kernel
theorem dX9_runs_18 : decode cX9_runs 18 = .ok (.iload_n 1, 1) := by decide +kernel
theorem dX9_runs_19 : decode cX9_runs 19 = .ok (.iastore, 1) := by decide +kernel
theorem dX9_runs_20 : decode cX9_runs 20 = .ok (.aload_n 0, 1) := by decide +kernel
theorem dX9_runs_21 : decode cX9_runs 21 = .ok (.dup, 1) := by decide +kernel
theorem dX9_runs_22 : decode cX9_runs 22 = .ok (.getfield 29, 3) := by decide +kernel
theorem dX9_runs_25 : decode cX9_runs 25 = .ok (.iconst 1, 1) := by decide +kernel
theorem dX9_runs_26 : decode cX9_runs 26 = .ok (.iadd, 1) := by decide +kernel
theorem dX9_runs_27 : decode cX9_runs 27 = .ok (.putfield 29, 3) := by decide +kernel
theorem dX9_runs_30 : decode cX9_runs 30 = .ok (.return_, 1) := by decide +kernel
theorem dX9_is_0 : decode cX9_is 0 = .ok (.aload_n 0, 1) := by decide +kernel
theorem dX9_is_1 : decode cX9_is 1 = .ok (.getfield 9, 3) := by decide +kernel
theorem dX9_is_4 : decode cX9_is 4 = .ok (.iload_n 1, 1) := by decide +kernel
theorem dX9_is_5 : decode cX9_is 5 = .ok (.invokestatic 45, 3) := by decide +kernel
theorem dX9_is_8 : decode cX9_is 8 = .ok (.ireturn, 1) := by decide +kernel
theorem dX9_prints_0 : decode cX9_prints 0 = .ok (.aload_n 0, 1) := by decide +kernel
theorem dX9_prints_1 : decode cX9_prints 1 = .ok (.iconst 3, 1) := by decide +kernel
theorem dX9_prints_2 : decode cX9_prints 2 = .ok (.invokevirtual 49, 3) := by decide +kernel
theorem dX9_prints_5 : decode cX9_prints 5 = .ok (.ifCond .eq 9, 3) := by decide +kernel
theorem dX9_prints_8 : decode cX9_prints 8 = .ok (.aload_n 0, 1) := by decide +kernel
theorem dX9_prints_9 : decode cX9_prints 9 = .ok (.bipush 41, 2) := by decide +kernel
theorem dX9_prints_11 : decode cX9_prints 11 = .ok (.invokevirtual 53, 3) := by decide +kernel
theorem dX9_prints_14 : decode cX9_prints 14 = .ok (.aload_n 0, 1) := by decide +kernel
theorem dX9_prints_15 : decode cX9_prints 15 = .ok (.iconst 2, 1) := by decide +kernel
theorem dX9_prints_16 : decode cX9_prints 16 = .ok (.invokevirtual 49, 3) := by decide +kernel
theorem dX9_prints_19 : decode cX9_prints 19 = .ok (.ifCond .eq 9, 3) := by decide +kernel
theorem dX9_prints_22 : decode cX9_prints 22 = .ok (.aload_n 0, 1) := by decide +kernel
theorem dX9_prints_23 : decode cX9_prints 23 = .ok (.bipush 30, 2) := by decide +kernel
theorem dX9_prints_25 : decode cX9_prints 25 = .ok (.invokevirtual 53, 3) := by decide +kernel
theorem dX9_prints_28 : decode cX9_prints 28 = .ok (.aload_n 0, 1) := by decide +kernel
theorem dX9_prints_29 : decode cX9_prints 29 = .ok (.iconst 4, 1) := by decide +kernel
theorem dX9_prints_30 : decode cX9_prints 30 = .ok (.invokevirtual 49, 3) := by decide +kernel
theorem dX9_prints_33 : decode cX9_prints 33 = .ok (.ifCond .eq 9, 3) := by decide +kernel
theorem dX9_prints_36 : decode cX9_prints 36 = .ok (.aload_n 0, 1) := by decide +kernel
theorem dX9_prints_37 : decode cX9_prints 37 = .ok (.bipush 50, 2) := by decide +kernel
theorem dX9_prints_39 : decode cX9_prints 39 = .ok (.invokevirtual 53, 3) := by decide +kernel
theorem dX9_prints_42 : decode cX9_prints 42 = .ok (.aload_n 0, 1) := by decide +kernel
theorem dX9_prints_43 : decode cX9_prints 43 = .ok (.bipush 10, 2) := by decide +kernel
theorem dX9_prints_45 : decode cX9_prints 45 = .ok (.invokevirtual 53, 3) := by decide +kernel
theorem dX9_prints_48 : decode cX9_prints 48 = .ok (.iload_n 1, 1) := by decide +kernel
theorem dX9_prints_49 : decode cX9_prints 49 = .ok (.aload_n 0, 1) := by decide +kernel
theorem dX9_prints_50 : decode cX9_prints 50 = .ok (.getfield 15, 3) := by decide +kernel
theorem dX9_prints_53 : decode cX9_prints 53 = .ok (.iadd, 1) := by decide +kernel
theorem dX9_prints_54 : decode cX9_prints 54 = .ok (.istore_n 2, 1) := by decide +kernel
theorem dX9_prints_55 : decode cX9_prints 55 = .ok (.aload_n 0, 1) := by decide +kernel
theorem dX9_prints_56 : decode cX9_prints 56 = .ok (.iconst 2, 1) := by decide +kernel
theorem dX9_prints_57 : decode cX9_prints 57 = .ok (.invokevirtual 49, 3) := by decide +kernel
theorem dX9_prints_60 : decode cX9_prints 60 = .ok (.ifCond .eq 7, 3) := by decide +kernel
theorem dX9_prints_63 : decode cX9_prints 63 = .ok (.iload_n 2, 1) := by decide +kernel
theorem dX9_prints_64 : decode cX9_prints 64 = .ok (.iconst 3, 1) := by decide +kernel
theorem dX9_prints_65 : decode cX9_prints 65 = .ok (.imul, 1) := by decide +kernel
theorem dX9_prints_66 : decode cX9_prints 66 = .ok (.istore_n 2, 1) := by decide +kernel
theorem dX9_prints_67 : decode cX9_prints 67 = .ok (.aload_n 0, 1) := by decide +kernel
theorem dX9_prints_68 : decode cX9_prints 68 = .ok (.iconst 3, 1) := by decide +kernel
theorem dX9_prints_69 : decode cX9_prints 69 = .ok (.invokevirtual 49, 3) := by decide +kernel
theorem dX9_prints_72 : decode cX9_prints 72 = .ok (.ifCond .eq 10, 3) := by decide +kernel
theorem dX9_prints_75 : decode cX9_prints 75 = .ok (.iload_n 2, 1) := by decide +kernel
theorem dX9_prints_76 : decode cX9_prints 76 = .ok (.aload_n 0, 1) := by decide +kernel
theorem dX9_prints_77 : decode cX9_prints 77 = .ok (.getfield 15, 3) := by decide +kernel
theorem dX9_prints_80 : decode cX9_prints 80 = .ok (.isub, 1) := by decide +kernel
theorem dX9_prints_81 : decode cX9_prints 81 = .ok (.istore_n 2, 1) := by decide +kernel
theorem dX9_prints_82 : decode cX9_prints 82 = .ok (.aload_n 0, 1) := by decide +kernel
theorem dX9_prints_83 : decode cX9_prints 83 = .ok (.iconst 4, 1) := by decide +kernel
theorem dX9_prints_84 : decode cX9_prints 84 = .ok (.invokevirtual 49, 3) := by decide +kernel
theorem dX9_prints_87 : decode cX9_prints 87 = .ok (.ifCond .eq 9, 3) := by decide +kernel
theorem dX9_prints_90 : decode cX9_prints 90 = .ok (.iconst 0, 1) := by decide +kernel
theorem dX9_prints_91 : decode cX9_prints 91 = .ok (.iload_n 2, 1) := by decide +kernel
theorem dX9_prints_92 : decode cX9_prints 92 = .ok (.isub, 1) := by decide +kernel
theorem dX9_prints_93 : decode cX9_prints 93 = .ok (.goto 4, 3) := by decide +kernel
theorem dX9_prints_96 : decode cX9_prints 96 = .ok (.iload_n 2, 1) := by decide +kernel
theorem dX9_prints_97 : decode cX9_prints 97 = .ok (.ireturn, 1) := by decide +kernel
theorem dX9_sets_0 : decode cX9_sets 0 = .ok (.aload_n 0, 1) := by decide +kernel
theorem dX9_sets_1 : decode cX9_sets 1 = .ok (.iconst 4, 1) := by decide +kernel
theorem dX9_sets_2 : decode cX9_sets 2 = .ok (.invokevirtual 49, 3) := by decide +kernel
theorem dX9_sets_5 : decode cX9_sets 5 = .ok (.ifCond .eq 9, 3) := by decide +kernel
theorem dX9_sets_8 : decode cX9_sets 8 = .ok (.aload_n 0, 1) := by decide +kernel
theorem dX9_sets_9 : decode cX9_sets 9 = .ok (.bipush 51, 2) := by decide +kernel
theorem dX9_sets_11 : decode cX9_sets 11 = .ok (.invokevirtual 53, 3) := by decide +kernel
theorem dX9_sets_14 : decode cX9_sets 14 = .ok (.aload_n 0, 1) := by decide +kernel
theorem dX9_sets_15 : decode cX9_sets 15 = .ok (.iconst 1, 1) := by decide +kernel
theorem dX9_sets_16 : decode cX9_sets 16 = .ok (.invokevirtual 49, 3) := by decide +kernel
theorem dX9_sets_19 : decode cX9_sets 19 = .ok (.ifCond .eq 9, 3) := by decide +kernel
theorem dX9_sets_22 : decode cX9_sets 22 = .ok (.aload_n 0, 1) := by decide +kernel
theorem dX9_sets_23 : decode cX9_sets 23 = .ok (.bipush 20, 2) := by decide +kernel
theorem dX9_sets_25 : decode cX9_sets 25 = .ok (.invokevirtual 53, 3) := by decide +kernel
theorem dX9_sets_28 : decode cX9_sets 28 = .ok (.aload_n 0, 1) := by decide +kernel
theorem dX9_sets_29 : decode cX9_sets 29 = .ok (.bipush 11, 2) := by decide +kernel
theorem dX9_sets_31 : decode cX9_sets 31 = .ok (.invokevirtual 53, 3) := by decide +kernel
theorem dX9_sets_34 : decode cX9_sets 34 = .ok (.aload_n 0, 1) := by decide +kernel
theorem dX9_sets_35 : decode cX9_sets 35 = .ok (.iload_n 1, 1) := by decide +kernel
theorem dX9_sets_36 : decode cX9_sets 36 = .ok (.invokevirtual 32, 3) := by decide +kernel
theorem dX9_sets_39 : decode cX9_sets 39 = .ok (.iconst 2, 1) := by decide +kernel
theorem dX9_sets_40 : decode cX9_sets 40 = .ok (.imul, 1) := by decide +kernel
theorem dX9_sets_41 : decode cX9_sets 41 = .ok (.istore_n 2, 1) := by decide +kernel
theorem dX9_sets_42 : decode cX9_sets 42 = .ok (.aload_n 0, 1) := by decide +kernel
theorem dX9_sets_43 : decode cX9_sets 43 = .ok (.iconst 1, 1) := by decide +kernel
theorem dX9_sets_44 : decode cX9_sets 44 = .ok (.invokevirtual 49, 3) := by decide +kernel
theorem dX9_sets_47 : decode cX9_sets 47 = .ok (.ifCond .eq 10, 3) := by decide +kernel
theorem dX9_sets_50 : decode cX9_sets 50 = .ok (.iload_n 2, 1) := by decide +kernel
theorem dX9_sets_51 : decode cX9_sets 51 = .ok (.aload_n 0, 1) := by decide +kernel
theorem dX9_sets_52 : decode cX9_sets 52 = .ok (.getfield 18, 3) := by decide +kernel
theorem dX9_sets_55 : decode cX9_sets 55 = .ok (.isub, 1) := by decide +kernel
theorem dX9_sets_56 : decode cX9_sets 56 = .ok (.istore_n 2, 1) := by decide +kernel
theorem dX9_sets_57 : decode cX9_sets 57 = .ok (.aload_n 0, 1) := by decide +kernel
theorem dX9_sets_58 : decode cX9_sets 58 = .ok (.iconst 4, 1) := by decide +kernel
theorem dX9_sets_59 : decode cX9_sets 59 = .ok (.invokevirtual 49, 3) := by decide +kernel
theorem dX9_sets_62 : decode cX9_sets 62 = .ok (.ifCond .eq 16, 3) := by decide +kernel
theorem dX9_sets_65 : decode cX9_sets 65 = .ok (.iload_n 2, 1) := by decide +kernel
theorem dX9_sets_66 : decode cX9_sets 66 = .ok (.aload_n 0, 1) := by decide +kernel
theorem dX9_sets_67 : decode cX9_sets 67 = .ok (.aload_n 0, 1) := by decide +kernel
theorem dX9_sets_68 : decode cX9_sets 68 = .ok (.getfield 15, 3) := by decide +kernel
theorem dX9_sets_71 : decode cX9_sets 71 = .ok (.invokevirtual 32, 3) := by decide +kernel
theorem dX9_sets_74 : decode cX9_sets 74 = .ok (.iadd, 1) := by decide +kernel
theorem dX9_sets_75 : decode cX9_sets 75 = .ok (.goto 4, 3) := by decide +kernel
theorem dX9_sets_78 : decode cX9_sets 78 = .ok (.iload_n 2, 1) := by decide +kernel
theorem dX9_sets_79 : decode cX9_sets 79 = .ok (.ireturn, 1) := by decide +kernel
theorem dX9_shares_0 : decode cX9_shares 0 = .ok (.aload_n 0, 1) := by decide +kernel
theorem dX9_shares_1 : decode cX9_shares 1 = .ok (.iconst 3, 1) := by decide +kernel
theorem dX9_shares_2 : decode cX9_shares 2 = .ok (.invokevirtual 49, 3) := by decide +kernel
theorem dX9_shares_5 : decode cX9_shares 5 = .ok (.ifCond .eq 9, 3) := by decide +kernel
theorem dX9_shares_8 : decode cX9_shares 8 = .ok (.aload_n 0, 1) := by decide +kernel
theorem dX9_shares_9 : decode cX9_shares 9 = .ok (.bipush 40, 2) := by decide +kernel
theorem dX9_shares_11 : decode cX9_shares 11 = .ok (.invokevirtual 53, 3) := by decide +kernel
theorem dX9_shares_14 : decode cX9_shares 14 = .ok (.aload_n 0, 1) := by decide +kernel
theorem dX9_shares_15 : decode cX9_shares 15 = .ok (.iconst 5, 1) := by decide +kernel
theorem dX9_shares_16 : decode cX9_shares 16 = .ok (.invokevirtual 49, 3) := by decide +kernel
theorem dX9_shares_19 : decode cX9_shares 19 = .ok (.ifCond .eq 9, 3) := by decide +kernel
theorem dX9_shares_22 : decode cX9_shares 22 = .ok (.aload_n 0, 1) := by decide +kernel
theorem dX9_shares_23 : decode cX9_shares 23 = .ok (.bipush 61, 2) := by decide +kernel
theorem dX9_shares_25 : decode cX9_shares 25 = .ok (.invokevirtual 53, 3) := by decide +kernel
theorem dX9_shares_28 : decode cX9_shares 28 = .ok (.aload_n 0, 1) := by decide +kernel
theorem dX9_shares_29 : decode cX9_shares 29 = .ok (.bipush 12, 2) := by decide +kernel
theorem dX9_shares_31 : decode cX9_shares 31 = .ok (.invokevirtual 53, 3) := by decide +kernel
theorem dX9_shares_34 : decode cX9_shares 34 = .ok (.aload_n 0, 1) := by decide +kernel
theorem dX9_shares_35 : decode cX9_shares 35 = .ok (.getfield 18, 3) := by decide +kernel
theorem dX9_shares_38 : decode cX9_shares 38 = .ok (.aload_n 0, 1) := by decide +kernel
theorem dX9_shares_39 : decode cX9_shares 39 = .ok (.getfield 15, 3) := by decide +kernel
theorem dX9_shares_42 : decode cX9_shares 42 = .ok (.if_icmp .ne 10, 3) := by decide +kernel
theorem dX9_shares_45 : decode cX9_shares 45 = .ok (.aload_n 0, 1) := by decide +kernel
theorem dX9_shares_46 : decode cX9_shares 46 = .ok (.iconst 1, 1) := by decide +kernel
theorem dX9_shares_47 : decode cX9_shares 47 = .ok (.putfield 21, 3) := by decide +kernel
theorem dX9_shares_50 : decode cX9_shares 50 = .ok (.iconst 0, 1) := by decide +kernel
theorem dX9_shares_51 : decode cX9_shares 51 = .ok (.ireturn, 1) := by decide +kernel
theorem dX9_shares_52 : decode cX9_shares 52 = .ok (.aload_n 0, 1) := by decide +kernel
theorem dX9_shares_53 : decode cX9_shares 53 = .ok (.iconst 3, 1) := by decide +kernel
theorem dX9_shares_54 : decode cX9_shares 54 = .ok (.invokevirtual 49, 3) := by decide +kernel
theorem dX9_shares_57 : decode cX9_shares 57 = .ok (.ifCond .eq 9, 3) := by decide +kernel
theorem dX9_shares_60 : decode cX9_shares 60 = .ok (.iload_n 1, 1) := by decide +kernel
theorem dX9_shares_61 : decode cX9_shares 61 = .ok (.iconst 2, 1) := by decide +kernel
theorem dX9_shares_62 : decode cX9_shares 62 = .ok (.iadd, 1) := by decide +kernel
theorem dX9_shares_63 : decode cX9_shares 63 = .ok (.goto 4, 3) := by decide +kernel
theorem dX9_shares_66 : decode cX9_shares 66 = .ok (.iload_n 1, 1) := by decide +kernel
theorem dX9_shares_67 : decode cX9_shares 67 = .ok (.aload_n 0, 1) := by decide +kernel
theorem dX9_shares_68 : decode cX9_shares 68 = .ok (.getfield 18, 3) := by decide +kernel
theorem dX9_shares_71 : decode cX9_shares 71 = .ok (.aload_n 0, 1) := by decide +kernel
theorem dX9_shares_72 : decode cX9_shares 72 = .ok (.getfield 15, 3) := by decide +kernel
theorem dX9_shares_75 : decode cX9_shares 75 = .ok (.isub, 1) := by decide +kernel
theorem dX9_shares_76 : decode cX9_shares 76 = .ok (.idiv, 1) := by decide +kernel
theorem dX9_shares_77 : decode cX9_shares 77 = .ok (.istore_n 2, 1) := by decide +kernel
theorem dX9_shares_78 : decode cX9_shares 78 = .ok (.aload_n 0, 1) := by decide +kernel
theorem dX9_shares_79 : decode cX9_shares 79 = .ok (.iconst 3, 1) := by decide +kernel
theorem dX9_shares_80 : decode cX9_shares 80 = .ok (.invokevirtual 49, 3) := by decide +kernel
theorem dX9_shares_83 : decode cX9_shares 83 = .ok (.ifCond .eq 7, 3) := by decide +kernel
theorem dX9_shares_86 : decode cX9_shares 86 = .ok (.iload_n 2, 1) := by decide +kernel
theorem dX9_shares_87 : decode cX9_shares 87 = .ok (.iconst 1, 1) := by decide +kernel
theorem dX9_shares_88 : decode cX9_shares 88 = .ok (.ixor, 1) := by decide +kernel
theorem dX9_shares_89 : decode cX9_shares 89 = .ok (.istore_n 2, 1) := by decide +kernel
theorem dX9_shares_90 : decode cX9_shares 90 = .ok (.aload_n 0, 1) := by decide +kernel
theorem dX9_shares_91 : decode cX9_shares 91 = .ok (.iconst 5, 1) := by decide +kernel
theorem dX9_shares_92 : decode cX9_shares 92 = .ok (.invokevirtual 49, 3) := by decide +kernel
theorem dX9_shares_95 : decode cX9_shares 95 = .ok (.ifCond .eq 16, 3) := by decide +kernel
theorem dX9_shares_98 : decode cX9_shares 98 = .ok (.iload_n 2, 1) := by decide +kernel
theorem dX9_shares_99 : decode cX9_shares 99 = .ok (.aload_n 0, 1) := by decide +kernel
theorem dX9_shares_100 : decode cX9_shares 100 = .ok (.aload_n 0, 1) := by decide +kernel
theorem dX9_shares_101 : decode cX9_shares 101 = .ok (.getfield 18, 3) := by decide +kernel
theorem dX9_shares_104 : decode cX9_shares 104 = .ok (.invokevirtual 32, 3) := by decide +kernel
theorem dX9_shares_107 : decode cX9_shares 107 = .ok (.iadd, 1) := by decide +kernel
theorem dX9_shares_108 : decode cX9_shares 108 = .ok (.goto 4, 3) := by decide +kernel
theorem dX9_shares_111 : decode cX9_shares 111 = .ok (.iload_n 2, 1) := by decide +kernel
theorem dX9_shares_112 : decode cX9_shares 112 = .ok (.ireturn, 1) := by decide +kernel
theorem dX9_tells_0 : decode cX9_tells 0 = .ok (.aload_n 0, 1) := by decide +kernel
theorem dX9_tells_1 : decode cX9_tells 1 = .ok (.iconst 2, 1) := by decide +kernel
theorem dX9_tells_2 : decode cX9_tells 2 = .ok (.invokevirtual 49, 3) := by decide +kernel
theorem dX9_tells_5 : decode cX9_tells 5 = .ok (.ifCond .eq 9, 3) := by decide +kernel
theorem dX9_tells_8 : decode cX9_tells 8 = .ok (.aload_n 0, 1) := by decide +kernel
theorem dX9_tells_9 : decode cX9_tells 9 = .ok (.bipush 31, 2) := by decide +kernel
theorem dX9_tells_11 : decode cX9_tells 11 = .ok (.invokevirtual 53, 3) := by decide +kernel
theorem dX9_tells_14 : decode cX9_tells 14 = .ok (.aload_n 0, 1) := by decide +kernel
theorem dX9_tells_15 : decode cX9_tells 15 = .ok (.iconst 5, 1) := by decide +kernel
theorem dX9_tells_16 : decode cX9_tells 16 = .ok (.invokevirtual 49, 3) := by decide +kernel
theorem dX9_tells_19 : decode cX9_tells 19 = .ok (.ifCond .eq 9, 3) := by decide +kernel
theorem dX9_tells_22 : decode cX9_tells 22 = .ok (.aload_n 0, 1) := by decide +kernel
theorem dX9_tells_23 : decode cX9_tells 23 = .ok (.bipush 60, 2) := by decide +kernel
theorem dX9_tells_25 : decode cX9_tells 25 = .ok (.invokevirtual 53, 3) := by decide +kernel
theorem dX9_tells_28 : decode cX9_tells 28 = .ok (.aload_n 0, 1) := by decide +kernel
theorem dX9_tells_29 : decode cX9_tells 29 = .ok (.bipush 13, 2) := by decide +kernel
theorem dX9_tells_31 : decode cX9_tells 31 = .ok (.invokevirtual 53, 3) := by decide +kernel
theorem dX9_tells_34 : decode cX9_tells 34 = .ok (.aload_n 0, 1) := by decide +kernel
theorem dX9_tells_35 : decode cX9_tells 35 = .ok (.iload_n 1, 1) := by decide +kernel
theorem dX9_tells_36 : decode cX9_tells 36 = .ok (.invokevirtual 36, 3) := by decide +kernel
theorem dX9_tells_39 : decode cX9_tells 39 = .ok (.aload_n 0, 1) := by decide +kernel
theorem dX9_tells_40 : decode cX9_tells 40 = .ok (.getfield 18, 3) := by decide +kernel
theorem dX9_tells_43 : decode cX9_tells 43 = .ok (.ixor, 1) := by decide +kernel
theorem dX9_tells_44 : decode cX9_tells 44 = .ok (.istore_n 2, 1) := by decide +kernel
theorem dX9_tells_45 : decode cX9_tells 45 = .ok (.aload_n 0, 1) := by decide +kernel
theorem dX9_tells_46 : decode cX9_tells 46 = .ok (.iconst 2, 1) := by decide +kernel
theorem dX9_tells_47 : decode cX9_tells 47 = .ok (.invokevirtual 49, 3) := by decide +kernel
theorem dX9_tells_50 : decode cX9_tells 50 = .ok (.ifCond .eq 14, 3) := by decide +kernel
theorem dX9_tells_53 : decode cX9_tells 53 = .ok (.iload_n 2, 1) := by decide +kernel
theorem dX9_tells_54 : decode cX9_tells 54 = .ok (.aload_n 0, 1) := by decide +kernel
theorem dX9_tells_55 : decode cX9_tells 55 = .ok (.aload_n 0, 1) := by decide +kernel
theorem dX9_tells_56 : decode cX9_tells 56 = .ok (.getfield 15, 3) := by decide +kernel
theorem dX9_tells_59 : decode cX9_tells 59 = .ok (.invokevirtual 39, 3) := by decide +kernel
theorem dX9_tells_62 : decode cX9_tells 62 = .ok (.iadd, 1) := by decide +kernel
theorem dX9_tells_63 : decode cX9_tells 63 = .ok (.istore_n 2, 1) := by decide +kernel
theorem dX9_tells_64 : decode cX9_tells 64 = .ok (.aload_n 0, 1) := by decide +kernel
theorem dX9_tells_65 : decode cX9_tells 65 = .ok (.iconst 5, 1) := by decide +kernel
theorem dX9_tells_66 : decode cX9_tells 66 = .ok (.invokevirtual 49, 3) := by decide +kernel
theorem dX9_tells_69 : decode cX9_tells 69 = .ok (.ifCond .eq 9, 3) := by decide +kernel
theorem dX9_tells_72 : decode cX9_tells 72 = .ok (.iload_n 2, 1) := by decide +kernel
theorem dX9_tells_73 : decode cX9_tells 73 = .ok (.iconst 2, 1) := by decide +kernel
theorem dX9_tells_74 : decode cX9_tells 74 = .ok (.imul, 1) := by decide +kernel
theorem dX9_tells_75 : decode cX9_tells 75 = .ok (.goto 4, 3) := by decide +kernel
theorem dX9_tells_78 : decode cX9_tells 78 = .ok (.iload_n 2, 1) := by decide +kernel
theorem dX9_tells_79 : decode cX9_tells 79 = .ok (.ireturn, 1) := by decide +kernel
theorem dX10_init_0 : decode cX10_init 0 = .ok (.aload_n 0, 1) := by decide +kernel
theorem dX10_init_1 : decode cX10_init 1 = .ok (.invokespecial 3, 3) := by decide +kernel
theorem dX10_init_4 : decode cX10_init 4 = .ok (.aload_n 0, 1) := by decide +kernel
theorem dX10_init_5 : decode cX10_init 5 = .ok (.iconst 0, 1) := by decide +kernel
theorem dX10_init_6 : decode cX10_init 6 = .ok (.putfield 9, 3) := by decide +kernel
theorem dX10_init_9 : decode cX10_init 9 = .ok (.aload_n 0, 1) := by decide +kernel
theorem dX10_init_10 : decode cX10_init 10 = .ok (.iconst 1, 1) := by decide +kernel
theorem dX10_init_11 : decode cX10_init 11 = .ok (.putfield 15, 3) := by decide +kernel
theorem dX10_init_14 : decode cX10_init 14 = .ok (.aload_n 0, 1) := by decide +kernel
theorem dX10_init_15 : decode cX10_init 15 = .ok (.iconst 3, 1) := by decide +kernel
theorem dX10_init_16 : decode cX10_init 16 = .ok (.newarray .int, 2) := by decide +kernel
theorem dX10_init_18 : decode cX10_init 18 = .ok (.putfield 18, 3) := by decide +kernel
theorem dX10_init_21 : decode cX10_init 21 = .ok (.aload_n 0, 1) := by decide +kernel
theorem dX10_init_22 : decode cX10_init 22 = .ok (.iconst 3, 1) := by decide +kernel
theorem dX10_init_23 : decode cX10_init 23 = .ok (.newarray .int, 2) := by decide +kernel
theorem dX10_init_25 : decode cX10_init 25 = .ok (.putfield 22, 3) := by decide +kernel
theorem dX10_init_28 : decode cX10_init 28 = .ok (.aload_n 0, 1) := by decide +kernel
theorem dX10_init_29 : decode cX10_init 29 = .ok (.iconst 3, 1) := by decide +kernel
theorem dX10_init_30 : decode cX10_init 30 = .ok (.newarray .int, 2) := by decide +kernel
theorem dX10_init_32 : decode cX10_init 32 = .ok (.putfield 25, 3) := by decide +kernel
theorem dX10_init_35 : decode cX10_init 35 = .ok (.aload_n 0, 1) := by decide +kernel
theorem dX10_init_36 : decode cX10_init 36 = .ok (.iconst 3, 1) := by decide +kernel
theorem dX10_init_37 : decode cX10_init 37 = .ok (.newarray .int, 2) := by decide +kernel
theorem dX10_init_39 : decode cX10_init 39 = .ok (.putfield 28, 3) := by decide +kernel
theorem dX10_init_42 : decode cX10_init 42 = .ok (.aload_n 0, 1) := by decide +kernel
theorem dX10_init_43 : decode cX10_init 43 = .ok (.iconst 3, 1) := by decide +kernel
theorem dX10_init_44 : decode cX10_init 44 = .ok (.newarray .int, 2) := by decide +kernel
theorem dX10_init_46 : decode cX10_init 46 = .ok (.putfield 31, 3) := by decide +kernel
theorem dX10_init_49 : decode cX10_init 49 = .ok (.aload_n 0, 1) := by decide +kernel
theorem dX10_init_50 : decode cX10_init 50 = .ok (.iconst 3, 1) := by decide +kernel
theorem dX10_init_51 : decode cX10_init 51 = .ok (.newarray .int, 2) := by decide +kernel
theorem dX10_init_53 : decode cX10_init 53 = .ok (.putfield 34, 3) := by decide +kernel
theorem dX10_init_56 : decode cX10_init 56 = .ok (.return_, 1) := by decide +kernel
theorem dX10_oddsOfAll_0 : decode cX10_oddsOfAll 0 = .ok (.iconst 0, 1) := by decide +kernel
theorem dX10_oddsOfAll_1 : decode cX10_oddsOfAll 1 = .ok (.istore_n 1, 1) := by decide +kernel
theorem dX10_oddsOfAll_2 : decode cX10_oddsOfAll 2 = .ok (.iconst 0, 1) := by decide +kernel
theorem dX10_oddsOfAll_3 : decode cX10_oddsOfAll 3 = .ok (.istore_n 2, 1) := by decide +kernel
theorem dX10_oddsOfAll_4 : decode cX10_oddsOfAll 4 = .ok (.iload_n 2, 1) := by decide +kernel
theorem dX10_oddsOfAll_5 : decode cX10_oddsOfAll 5 = .ok (.aload_n 0, 1) := by decide +kernel
theorem dX10_oddsOfAll_6 : decode cX10_oddsOfAll 6 = .ok (.getfield 9, 3) := by decide +kernel
theorem dX10_oddsOfAll_9 : decode cX10_oddsOfAll 9 = .ok (.if_icmp .ge 18, 3) := by decide +kernel
theorem dX10_oddsOfAll_12 : decode cX10_oddsOfAll 12 = .ok (.iload_n 1, 1) := by decide +kernel
theorem dX10_oddsOfAll_13 : decode cX10_oddsOfAll 13 = .ok (.aload_n 0, 1) := by decide +kernel
theorem dX10_oddsOfAll_14 : decode cX10_oddsOfAll 14 = .ok (.getfield 34, 3) := by decide +kernel
theorem dX10_oddsOfAll_17 : decode cX10_oddsOfAll 17 = .ok (.iload_n 2, 1) := by decide +kernel
theorem dX10_oddsOfAll_18 : decode cX10_oddsOfAll 18 = .ok (.iaload, 1) := by decide +kernel
theorem dX10_oddsOfAll_19 : decode cX10_oddsOfAll 19 = .ok (.iadd, 1) := by decide +kernel
theorem dX10_oddsOfAll_20 : decode cX10_oddsOfAll 20 = .ok (.istore_n 1, 1) := by decide +kernel
theorem dX10_oddsOfAll_21 : decode cX10_oddsOfAll 21 = .ok (.iinc 2 1, 3) := by decide +kernel
theorem dX10_oddsOfAll_24 : decode cX10_oddsOfAll 24 = .ok (.goto (-20), 3) := by decide +kernel
theorem dX10_oddsOfAll_27 : decode cX10_oddsOfAll 27 = .ok (.iload_n 1, 1) := by decide +kernel
theorem dX10_oddsOfAll_28 : decode cX10_oddsOfAll 28 = .ok (.ireturn, 1) := by decide +kernel
theorem dX10_add_0 : decode cX10_add 0 = .ok (.aload_n 0, 1) := by decide +kernel
theorem dX10_add_1 : decode cX10_add 1 = .ok (.getfield 9, 3) := by decide +kernel
theorem dX10_add_4 : decode cX10_add 4 = .ok (.iconst 3, 1) := by decide +kernel
theorem dX10_add_5 : decode cX10_add 5 = .ok (.if_icmp .lt 6, 3) := by decide +kernel
theorem dX10_add_8 : decode cX10_add 8 = .ok (.bipush (-2), 2) := by decide +kernel
theorem dX10_add_10 : decode cX10_add 10 = .ok (.ireturn, 1) := by decide +kernel
theorem dX10_add_11 : decode cX10_add 11 = .ok (.aload_n 0, 1) := by decide +kernel
theorem dX10_add_12 : decode cX10_add 12 = .ok (.getfield 18, 3) := by decide +kernel
theorem dX10_add_15 : decode cX10_add 15 = .ok (.aload_n 0, 1) := by decide +kernel
theorem dX10_add_16 : decode cX10_add 16 = .ok (.getfield 9, 3) := by decide +kernel
theorem dX10_add_19 : decode cX10_add 19 = .ok (.iload_n 1, 1) := by decide +kernel
theorem dX10_add_20 : decode cX10_add 20 = .ok (.iastore, 1) := by decide +kernel
theorem dX10_add_21 : decode cX10_add 21 = .ok (.aload_n 0, 1) := by decide +kernel
theorem dX10_add_22 : decode cX10_add 22 = .ok (.getfield 22, 3) := by decide +kernel
theorem dX10_add_25 : decode cX10_add 25 = .ok (.aload_n 0, 1) := by decide +kernel
theorem dX10_add_26 : decode cX10_add 26 = .ok (.getfield 9, 3) := by decide +kernel
theorem dX10_add_29 : decode cX10_add 29 = .ok (.iload_n 2, 1) := by decide +kernel
theorem dX10_add_30 : decode cX10_add 30 = .ok (.iastore, 1) := by decide +kernel
theorem dX10_add_31 : decode cX10_add 31 = .ok (.aload_n 0, 1) := by decide +kernel
theorem dX10_add_32 : decode cX10_add 32 = .ok (.getfield 25, 3) := by decide +kernel
theorem dX10_add_35 : decode cX10_add 35 = .ok (.aload_n 0, 1) := by decide +kernel
theorem dX10_add_36 : decode cX10_add 36 = .ok (.getfield 9, 3) := by decide +kernel
theorem dX10_add_39 : decode cX10_add 39 = .ok (.iload_n 3, 1) := by decide +kernel
theorem dX10_add_40 : decode cX10_add 40 = .ok (.iastore, 1) := by decide +kernel
theorem dX10_add_41 : decode cX10_add 41 = .ok (.aload_n 0, 1) := by decide +kernel
theorem dX10_add_42 : decode cX10_add 42 = .ok (.getfield 28, 3) := by decide +kernel
theorem dX10_add_45 : decode cX10_add 45 = .ok (.aload_n 0, 1) := by decide +kernel
theorem dX10_add_46 : decode cX10_add 46 = .ok (.getfield 9, 3) := by decide +kernel
theorem dX10_add_49 : decode cX10_add 49 = .ok (.iload 4, 2) := by decide +kernel
theorem dX10_add_51 : decode cX10_add 51 = .ok (.iastore, 1) := by decide +kernel
theorem dX10_add_52 : decode cX10_add 52 = .ok (.aload_n 0, 1) := by decide +kernel
theorem dX10_add_53 : decode cX10_add 53 = .ok (.getfield 31, 3) := by decide +kernel
theorem dX10_add_56 : decode cX10_add 56 = .ok (.aload_n 0, 1) := by decide +kernel
theorem dX10_add_57 : decode cX10_add 57 = .ok (.getfield 9, 3) := by decide +kernel
theorem dX10_add_60 : decode cX10_add 60 = .ok (.iload 5, 2) := by decide +kernel
theorem dX10_add_62 : decode cX10_add 62 = .ok (.iastore, 1) := by decide +kernel
theorem dX10_add_63 : decode cX10_add 63 = .ok (.aload_n 0, 1) := by decide +kernel
theorem dX10_add_64 : decode cX10_add 64 = .ok (.getfield 34, 3) := by decide +kernel
theorem dX10_add_67 : decode cX10_add 67 = .ok (.aload_n 0, 1) := by decide +kernel
theorem dX10_add_68 : decode cX10_add 68 = .ok (.getfield 9, 3) := by decide +kernel
theorem dX10_add_71 : decode cX10_add 71 = .ok (.iload 6, 2) := by decide +kernel
theorem dX10_add_73 : decode cX10_add 73 = .ok (.iastore, 1) := by decide +kernel
theorem dX10_add_74 : decode cX10_add 74 = .ok (.aload_n 0, 1) := by decide +kernel
theorem dX10_add_75 : decode cX10_add 75 = .ok (.dup, 1) := by decide +kernel
theorem dX10_add_76 : decode cX10_add 76 = .ok (.getfield 9, 3) := by decide +kernel
theorem dX10_add_79 : decode cX10_add 79 = .ok (.iconst 1, 1) := by decide +kernel
theorem dX10_add_80 : decode cX10_add 80 = .ok (.iadd, 1) := by decide +kernel
theorem dX10_add_81 : decode cX10_add 81 = .ok (.putfield 9, 3) := by decide +kernel
theorem dX10_add_84 : decode cX10_add 84 = .ok (.aload_n 0, 1) := by decide +kernel
theorem dX10_add_85 : decode cX10_add 85 = .ok (.getfield 9, 3) := by decide +kernel
theorem dX10_add_88 : decode cX10_add 88 = .ok (.iconst 1, 1) := by decide +kernel
theorem dX10_add_89 : decode cX10_add 89 = .ok (.isub, 1) := by decide +kernel
theorem dX10_add_90 : decode cX10_add 90 = .ok (.ireturn, 1) := by decide +kernel
theorem dX10_next_0 : decode cX10_next 0 = .ok (.aload_n 0, 1) := by decide +kernel
theorem dX10_next_1 : decode cX10_next 1 = .ok (.aload_n 0, 1) := by decide +kernel
theorem dX10_next_2 : decode cX10_next 2 = .ok (.getfield 15, 3) := by decide +kernel
theorem dX10_next_5 : decode cX10_next 5 = .ok (.ldc 37, 2) := by decide +kernel
theorem dX10_next_7 : decode cX10_next 7 = .ok (.imul, 1) := by decide +kernel
theorem dX10_next_8 : decode cX10_next 8 = .ok (.sipush 12345, 3) := by decide +kernel
theorem dX10_next_11 : decode cX10_next 11 = .ok (.iadd, 1) := by decide +kernel
theorem dX10_next_12 : decode cX10_next 12 = .ok (.putfield 15, 3) := by decide +kernel
theorem dX10_next_15 : decode cX10_next 15 = .ok (.aload_n 0, 1) := by decide +kernel
theorem dX10_next_16 : decode cX10_next 16 = .ok (.getfield 15, 3) := by decide +kernel
theorem dX10_next_19 : decode cX10_next 19 = .ok (.bipush 16, 2) := by decide +kernel
theorem dX10_next_21 : decode cX10_next 21 = .ok (.iushr, 1) := by decide +kernel
theorem dX10_next_22 : decode cX10_next 22 = .ok (.iconst 4, 1) := by decide +kernel
theorem dX10_next_23 : decode cX10_next 23 = .ok (.irem, 1) := by decide +kernel
theorem dX10_next_24 : decode cX10_next 24 = .ok (.istore_n 1, 1) := by decide +kernel
theorem dX10_next_25 : decode cX10_next 25 = .ok (.iconst 0, 1) := by decide +kernel
theorem dX10_next_26 : decode cX10_next 26 = .ok (.istore_n 2, 1) := by decide +kernel
theorem dX10_next_27 : decode cX10_next 27 = .ok (.iconst 0, 1) := by decide +kernel
theorem dX10_next_28 : decode cX10_next 28 = .ok (.istore_n 3, 1) := by decide +kernel
theorem dX10_next_29 : decode cX10_next 29 = .ok (.iload_n 3, 1) := by decide +kernel
theorem dX10_next_30 : decode cX10_next 30 = .ok (.aload_n 0, 1) := by decide +kernel
theorem dX10_next_31 : decode cX10_next 31 = .ok (.getfield 9, 3) := by decide +kernel
theorem dX10_next_34 : decode cX10_next 34 = .ok (.if_icmp .ge 25, 3) := by decide +kernel
theorem dX10_next_37 : decode cX10_next 37 = .ok (.iload_n 2, 1) := by decide +kernel
theorem dX10_next_38 : decode cX10_next 38 = .ok (.aload_n 0, 1) := by decide +kernel
theorem dX10_next_39 : decode cX10_next 39 = .ok (.getfield 34, 3) := by decide +kernel
theorem dX10_next_42 : decode cX10_next 42 = .ok (.iload_n 3, 1) := by decide +kernel
theorem dX10_next_43 : decode cX10_next 43 = .ok (.iaload, 1) := by decide +kernel
theorem dX10_next_44 : decode cX10_next 44 = .ok (.iadd, 1) := by decide +kernel
theorem dX10_next_45 : decode cX10_next 45 = .ok (.istore_n 2, 1) := by decide +kernel
theorem dX10_next_46 : decode cX10_next 46 = .ok (.iload_n 1, 1) := by decide +kernel
theorem dX10_next_47 : decode cX10_next 47 = .ok (.iload_n 2, 1) := by decide +kernel
theorem dX10_next_48 : decode cX10_next 48 = .ok (.if_icmp .ge 5, 3) := by decide +kernel
theorem dX10_next_51 : decode cX10_next 51 = .ok (.iload_n 3, 1) := by decide +kernel
theorem dX10_next_52 : decode cX10_next 52 = .ok (.ireturn, 1) := by decide +kernel
theorem dX10_next_53 : decode cX10_next 53 = .ok (.iinc 3 1, 3) := by decide +kernel
theorem dX10_next_56 : decode cX10_next 56 = .ok (.goto (-27), 3) := by decide +kernel
theorem dX10_next_59 : decode cX10_next 59 = .ok (.bipush (-9), 2) := by decide +kernel
theorem dX10_next_61 : decode cX10_next 61 = .ok (.ireturn, 1) := by decide +kernel
theorem dX10_copy_0 : decode cX10_copy 0 = .ok (.aload_n 0, 1) := by decide +kernel
theorem dX10_copy_1 : decode cX10_copy 1 = .ok (.aload_n 1, 1) := by decide +kernel
theorem dX10_copy_2 : decode cX10_copy 2 = .ok (.getfield 9, 3) := by decide +kernel
theorem dX10_copy_5 : decode cX10_copy 5 = .ok (.putfield 9, 3) := by decide +kernel
theorem dX10_copy_8 : decode cX10_copy 8 = .ok (.aload_n 0, 1) := by decide +kernel
theorem dX10_copy_9 : decode cX10_copy 9 = .ok (.aload_n 1, 1) := by decide +kernel
theorem dX10_copy_10 : decode cX10_copy 10 = .ok (.getfield 15, 3) := by decide +kernel
theorem dX10_copy_13 : decode cX10_copy 13 = .ok (.putfield 15, 3) := by decide +kernel
theorem dX10_copy_16 : decode cX10_copy 16 = .ok (.iconst 0, 1) := by decide +kernel
theorem dX10_copy_17 : decode cX10_copy 17 = .ok (.istore_n 2, 1) := by decide +kernel
theorem dX10_copy_18 : decode cX10_copy 18 = .ok (.iload_n 2, 1) := by decide +kernel
theorem dX10_copy_19 : decode cX10_copy 19 = .ok (.aload_n 1, 1) := by decide +kernel
theorem dX10_copy_20 : decode cX10_copy 20 = .ok (.getfield 9, 3) := by decide +kernel
theorem dX10_copy_23 : decode cX10_copy 23 = .ok (.if_icmp .ge 81, 3) := by decide +kernel
theorem dX10_copy_26 : decode cX10_copy 26 = .ok (.aload_n 0, 1) := by decide +kernel
theorem dX10_copy_27 : decode cX10_copy 27 = .ok (.getfield 18, 3) := by decide +kernel
theorem dX10_copy_30 : decode cX10_copy 30 = .ok (.iload_n 2, 1) := by decide +kernel
theorem dX10_copy_31 : decode cX10_copy 31 = .ok (.aload_n 1, 1) := by decide +kernel
theorem dX10_copy_32 : decode cX10_copy 32 = .ok (.getfield 18, 3) := by decide +kernel
theorem dX10_copy_35 : decode cX10_copy 35 = .ok (.iload_n 2, 1) := by decide +kernel
theorem dX10_copy_36 : decode cX10_copy 36 = .ok (.iaload, 1) := by decide +kernel
theorem dX10_copy_37 : decode cX10_copy 37 = .ok (.iastore, 1) := by decide +kernel
theorem dX10_copy_38 : decode cX10_copy 38 = .ok (.aload_n 0, 1) := by decide +kernel
theorem dX10_copy_39 : decode cX10_copy 39 = .ok (.getfield 22, 3) := by decide +kernel
theorem dX10_copy_42 : decode cX10_copy 42 = .ok (.iload_n 2, 1) := by decide +kernel
theorem dX10_copy_43 : decode cX10_copy 43 = .ok (.aload_n 1, 1) := by decide +kernel
theorem dX10_copy_44 : decode cX10_copy 44 = .ok (.getfield 22, 3) := by decide +kernel
theorem dX10_copy_47 : decode cX10_copy 47 = .ok (.iload_n 2, 1) := by decide +kernel
theorem dX10_copy_48 : decode cX10_copy 48 = .ok (.iaload, 1) := by decide +kernel
theorem dX10_copy_49 : decode cX10_copy 49 = .ok (.iastore, 1) := by decide +kernel
theorem dX10_copy_50 : decode cX10_copy 50 = .ok (.aload_n 0, 1) := by decide +kernel
theorem dX10_copy_51 : decode cX10_copy 51 = .ok (.getfield 25, 3) := by decide +kernel
theorem dX10_copy_54 : decode cX10_copy 54 = .ok (.iload_n 2, 1) := by decide +kernel
theorem dX10_copy_55 : decode cX10_copy 55 = .ok (.aload_n 1, 1) := by decide +kernel
theorem dX10_copy_56 : decode cX10_copy 56 = .ok (.getfield 25, 3) := by decide +kernel
theorem dX10_copy_59 : decode cX10_copy 59 = .ok (.iload_n 2, 1) := by decide +kernel
theorem dX10_copy_60 : decode cX10_copy 60 = .ok (.iaload, 1) := by decide +kernel
theorem dX10_copy_61 : decode cX10_copy 61 = .ok (.iastore, 1) := by decide +kernel
theorem dX10_copy_62 : decode cX10_copy 62 = .ok (.aload_n 0, 1) := by decide +kernel
theorem dX10_copy_63 : decode cX10_copy 63 = .ok (.getfield 28, 3) := by decide +kernel
theorem dX10_copy_66 : decode cX10_copy 66 = .ok (.iload_n 2, 1) := by decide +kernel
theorem dX10_copy_67 : decode cX10_copy 67 = .ok (.aload_n 1, 1) := by decide +kernel
theorem dX10_copy_68 : decode cX10_copy 68 = .ok (.getfield 28, 3) := by decide +kernel
theorem dX10_copy_71 : decode cX10_copy 71 = .ok (.iload_n 2, 1) := by decide +kernel
theorem dX10_copy_72 : decode cX10_copy 72 = .ok (.iaload, 1) := by decide +kernel
theorem dX10_copy_73 : decode cX10_copy 73 = .ok (.iastore, 1) := by decide +kernel
theorem dX10_copy_74 : decode cX10_copy 74 = .ok (.aload_n 0, 1) := by decide +kernel
theorem dX10_copy_75 : decode cX10_copy 75 = .ok (.getfield 31, 3) := by decide +kernel
theorem dX10_copy_78 : decode cX10_copy 78 = .ok (.iload_n 2, 1) := by decide +kernel
theorem dX10_copy_79 : decode cX10_copy 79 = .ok (.aload_n 1, 1) := by decide +kernel
theorem dX10_copy_80 : decode cX10_copy 80 = .ok (.getfield 31, 3) := by decide +kernel
theorem dX10_copy_83 : decode cX10_copy 83 = .ok (.iload_n 2, 1) := by decide +kernel
theorem dX10_copy_84 : decode cX10_copy 84 = .ok (.iaload, 1) := by decide +kernel
theorem dX10_copy_85 : decode cX10_copy 85 = .ok (.iastore, 1) := by decide +kernel
theorem dX10_copy_86 : decode cX10_copy 86 = .ok (.aload_n 0, 1) := by decide +kernel
theorem dX10_copy_87 : decode cX10_copy 87 = .ok (.getfield 34, 3) := by decide +kernel
theorem dX10_copy_90 : decode cX10_copy 90 = .ok (.iload_n 2, 1) := by decide +kernel
theorem dX10_copy_91 : decode cX10_copy 91 = .ok (.aload_n 1, 1) := by decide +kernel
theorem dX10_copy_92 : decode cX10_copy 92 = .ok (.getfield 34, 3) := by decide +kernel
theorem dX10_copy_95 : decode cX10_copy 95 = .ok (.iload_n 2, 1) := by decide +kernel
theorem dX10_copy_96 : decode cX10_copy 96 = .ok (.iaload, 1) := by decide +kernel
theorem dX10_copy_97 : decode cX10_copy 97 = .ok (.iastore, 1) := by decide +kernel
theorem dX10_copy_98 : decode cX10_copy 98 = .ok (.iinc 2 1, 3) := by decide +kernel
theorem dX10_copy_101 : decode cX10_copy 101 = .ok (.goto (-83), 3) := by decide +kernel
theorem dX10_copy_104 : decode cX10_copy 104 = .ok (.return_, 1) := by decide +kernel
theorem dX11_init_0 : decode cX11_init 0 = .ok (.aload_n 0, 1) := by decide +kernel
theorem dX11_init_1 : decode cX11_init 1 = .ok (.invokespecial 1, 3) := by decide +kernel
theorem dX11_init_4 : decode cX11_init 4 = .ok (.aload_n 0, 1) := by decide +kernel
theorem dX11_init_5 : decode cX11_init 5 = .ok (.new 7, 3) := by decide +kernel
theorem dX11_init_8 : decode cX11_init 8 = .ok (.dup, 1) := by decide +kernel
theorem dX11_init_9 : decode cX11_init 9 = .ok (.invokespecial 9, 3) := by decide +kernel
theorem dX11_init_12 : decode cX11_init 12 = .ok (.putfield 10, 3) := by decide +kernel
theorem dX11_init_15 : decode cX11_init 15 = .ok (.aload_n 0, 1) := by decide +kernel
theorem dX11_init_16 : decode cX11_init 16 = .ok (.new 7, 3) := by decide +kernel
theorem dX11_init_19 : decode cX11_init 19 = .ok (.dup, 1) := by decide +kernel
theorem dX11_init_20 : decode cX11_init 20 = .ok (.invokespecial 9, 3) := by decide +kernel
theorem dX11_init_23 : decode cX11_init 23 = .ok (.putfield 16, 3) := by decide +kernel
theorem dX11_init_26 : decode cX11_init 26 = .ok (.aload_n 0, 1) := by decide +kernel
theorem dX11_init_27 : decode cX11_init 27 = .ok (.new 19, 3) := by decide +kernel
theorem dX11_init_30 : decode cX11_init 30 = .ok (.dup, 1) := by decide +kernel
theorem dX11_init_31 : decode cX11_init 31 = .ok (.invokespecial 21, 3) := by decide +kernel
theorem dX11_init_34 : decode cX11_init 34 = .ok (.putfield 22, 3) := by decide +kernel
theorem dX11_init_37 : decode cX11_init 37 = .ok (.aload_n 0, 1) := by decide +kernel
theorem dX11_init_38 : decode cX11_init 38 = .ok (.new 19, 3) := by decide +kernel
theorem dX11_init_41 : decode cX11_init 41 = .ok (.dup, 1) := by decide +kernel
theorem dX11_init_42 : decode cX11_init 42 = .ok (.invokespecial 21, 3) := by decide +kernel
theorem dX11_init_45 : decode cX11_init 45 = .ok (.putfield 26, 3) := by decide +kernel
theorem dX11_init_48 : decode cX11_init 48 = .ok (.aload_n 0, 1) := by decide +kernel
theorem dX11_init_49 : decode cX11_init 49 = .ok (.iconst 0, 1) := by decide +kernel
theorem dX11_init_50 : decode cX11_init 50 = .ok (.putfield 29, 3) := by decide +kernel
theorem dX11_init_53 : decode cX11_init 53 = .ok (.aload_n 0, 1) := by decide +kernel
theorem dX11_init_54 : decode cX11_init 54 = .ok (.new 33, 3) := by decide +kernel
theorem dX11_init_57 : decode cX11_init 57 = .ok (.dup, 1) := by decide +kernel
theorem dX11_init_58 : decode cX11_init 58 = .ok (.invokespecial 35, 3) := by decide +kernel
theorem dX11_init_61 : decode cX11_init 61 = .ok (.putfield 36, 3) := by decide +kernel
theorem dX11_init_64 : decode cX11_init 64 = .ok (.aload_n 0, 1) := by decide +kernel
theorem dX11_init_65 : decode cX11_init 65 = .ok (.new 40, 3) := by decide +kernel
theorem dX11_init_68 : decode cX11_init 68 = .ok (.dup, 1) := by decide +kernel
theorem dX11_init_69 : decode cX11_init 69 = .ok (.invokespecial 42, 3) := by decide +kernel
theorem dX11_init_72 : decode cX11_init 72 = .ok (.putfield 43, 3) := by decide +kernel
theorem dX11_init_75 : decode cX11_init 75 = .ok (.aload_n 0, 1) := by decide +kernel
theorem dX11_init_76 : decode cX11_init 76 = .ok (.new 47, 3) := by decide +kernel
theorem dX11_init_79 : decode cX11_init 79 = .ok (.dup, 1) := by decide +kernel
theorem dX11_init_80 : decode cX11_init 80 = .ok (.aload_n 0, 1) := by decide +kernel
theorem dX11_init_81 : decode cX11_init 81 = .ok (.getfield 43, 3) := by decide +kernel
theorem dX11_init_84 : decode cX11_init 84 = .ok (.invokespecial 49, 3) := by decide +kernel
theorem dX11_init_87 : decode cX11_init 87 = .ok (.putfield 52, 3) := by decide +kernel
theorem dX11_init_90 : decode cX11_init 90 = .ok (.aload_n 0, 1) := by decide +kernel
theorem dX11_init_91 : decode cX11_init 91 = .ok (.new 56, 3) := by decide +kernel
theorem dX11_init_94 : decode cX11_init 94 = .ok (.dup, 1) := by decide +kernel
theorem dX11_init_95 : decode cX11_init 95 = .ok (.aload_n 0, 1) := by decide +kernel
theorem dX11_init_96 : decode cX11_init 96 = .ok (.getfield 43, 3) := by decide +kernel
theorem dX11_init_99 : decode cX11_init 99 = .ok (.invokespecial 58, 3) := by decide +kernel
theorem dX11_init_102 : decode cX11_init 102 = .ok (.putfield 59, 3) := by decide +kernel
theorem dX11_init_105 : decode cX11_init 105 = .ok (.aload_n 0, 1) := by decide +kernel
theorem dX11_init_106 : decode cX11_init 106 = .ok (.new 63, 3) := by decide +kernel
theorem dX11_init_109 : decode cX11_init 109 = .ok (.dup, 1) := by decide +kernel
theorem dX11_init_110 : decode cX11_init 110 = .ok (.aload_n 0, 1) := by decide +kernel
theorem dX11_init_111 : decode cX11_init 111 = .ok (.getfield 52, 3) := by decide +kernel
theorem dX11_init_114 : decode cX11_init 114 = .ok (.invokespecial 65, 3) := by decide +kernel
theorem dX11_init_117 : decode cX11_init 117 = .ok (.putfield 68, 3) := by decide +kernel
theorem dX11_init_120 : decode cX11_init 120 = .ok (.aload_n 0, 1) := by decide +kernel
theorem dX11_init_121 : decode cX11_init 121 = .ok (.new 72, 3) := by decide +kernel
theorem dX11_init_124 : decode cX11_init 124 = .ok (.dup, 1) := by decide +kernel
theorem dX11_init_125 : decode cX11_init 125 = .ok (.aload_n 0, 1) := by decide +kernel
theorem dX11_init_126 : decode cX11_init 126 = .ok (.getfield 43, 3) := by decide +kernel
theorem dX11_init_129 : decode cX11_init 129 = .ok (.invokespecial 74, 3) := by decide +kernel
theorem dX11_init_132 : decode cX11_init 132 = .ok (.putfield 75, 3) := by decide +kernel
theorem dX11_init_135 : decode cX11_init 135 = .ok (.aload_n 0, 1) := by decide +kernel
theorem dX11_init_136 : decode cX11_init 136 = .ok (.new 79, 3) := by decide +kernel
theorem dX11_init_139 : decode cX11_init 139 = .ok (.dup, 1) := by decide +kernel
theorem dX11_init_140 : decode cX11_init 140 = .ok (.invokespecial 81, 3) := by decide +kernel
theorem dX11_init_143 : decode cX11_init 143 = .ok (.putfield 82, 3) := by decide +kernel
theorem dX11_init_146 : decode cX11_init 146 = .ok (.aload_n 0, 1) := by decide +kernel
theorem dX11_init_147 : decode cX11_init 147 = .ok (.new 86, 3) := by decide +kernel
theorem dX11_init_150 : decode cX11_init 150 = .ok (.dup, 1) := by decide +kernel
theorem dX11_init_151 : decode cX11_init 151 = .ok (.invokespecial 88, 3) := by decide +kernel
theorem dX11_init_154 : decode cX11_init 154 = .ok (.putfield 89, 3) := by decide +kernel
theorem dX11_init_157 : decode cX11_init 157 = .ok (.aload_n 0, 1) := by decide +kernel
theorem dX11_init_158 : decode cX11_init 158 = .ok (.new 93, 3) := by decide +kernel
theorem dX11_init_161 : decode cX11_init 161 = .ok (.dup, 1) := by decide +kernel
theorem dX11_init_162 : decode cX11_init 162 = .ok (.invokespecial 95, 3) := by decide +kernel
theorem dX11_init_165 : decode cX11_init 165 = .ok (.putfield 96, 3) := by decide +kernel
theorem dX11_init_168 : decode cX11_init 168 = .ok (.return_, 1) := by decide +kernel
theorem dX11_feed_0 : decode cX11_feed 0 = .ok (.iload_n 3, 1) := by decide +kernel
theorem dX11_feed_1 : decode cX11_feed 1 = .ok (.iconst 1, 1) := by decide +kernel
theorem dX11_feed_2 : decode cX11_feed 2 = .ok (.bipush 8, 2) := by decide +kernel
theorem dX11_feed_4 : decode cX11_feed 4 = .ok (.invokestatic 100, 3) := by decide +kernel
theorem dX11_feed_7 : decode cX11_feed 7 = .ok (.ifCond .ne 5, 3) := by decide +kernel
theorem dX11_feed_10 : decode cX11_feed 10 = .ok (.iconst (-1), 1) := by decide +kernel
theorem dX11_feed_11 : decode cX11_feed 11 = .ok (.ireturn, 1) := by decide +kernel
theorem dX11_feed_12 : decode cX11_feed 12 = .ok (.aload_n 0, 1) := by decide +kernel
theorem dX11_feed_13 : decode cX11_feed 13 = .ok (.getfield 36, 3) := by decide +kernel
theorem dX11_feed_16 : decode cX11_feed 16 = .ok (.lload_n 1, 1) := by decide +kernel
theorem dX11_feed_17 : decode cX11_feed 17 = .ok (.iload_n 3, 1) := by decide +kernel
theorem dX11_feed_18 : decode cX11_feed 18 = .ok (.invokevirtual 104, 3) := by decide +kernel
theorem dX11_feed_21 : decode cX11_feed 21 = .ok (.ireturn, 1) := by decide +kernel
theorem dX11_board_0 : decode cX11_board 0 = .ok (.aload_n 0, 1) := by decide +kernel
theorem dX11_board_1 : decode cX11_board 1 = .ok (.getfield 36, 3) := by decide +kernel
theorem dX11_board_4 : decode cX11_board 4 = .ok (.invokevirtual 108, 3) := by decide +kernel
theorem dX11_board_7 : decode cX11_board 7 = .ok (.istore_n 1, 1) := by decide +kernel
theorem dX11_board_8 : decode cX11_board 8 = .ok (.aload_n 0, 1) := by decide +kernel
theorem dX11_board_9 : decode cX11_board 9 = .ok (.getfield 36, 3) := by decide +kernel
theorem dX11_board_12 : decode cX11_board 12 = .ok (.invokevirtual 112, 3) := by decide +kernel
theorem dX11_board_15 : decode cX11_board 15 = .ok (.iload_n 1, 1) := by decide +kernel
theorem dX11_board_16 : decode cX11_board 16 = .ok (.ifCond .lt 8, 3) := by decide +kernel
theorem dX11_board_19 : decode cX11_board 19 = .ok (.bipush (-100), 2) := by decide +kernel
theorem dX11_board_21 : decode cX11_board 21 = .ok (.iload_n 1, 1) := by decide +kernel
theorem dX11_board_22 : decode cX11_board 22 = .ok (.isub, 1) := by decide +kernel
theorem dX11_board_23 : decode cX11_board 23 = .ok (.ireturn, 1) := by decide +kernel
theorem dX11_board_24 : decode cX11_board 24 = .ok (.aload_n 0, 1) := by decide +kernel
theorem dX11_board_25 : decode cX11_board 25 = .ok (.getfield 10, 3) := by decide +kernel
theorem dX11_board_28 : decode cX11_board 28 = .ok (.aload_n 0, 1) := by decide +kernel
theorem dX11_board_29 : decode cX11_board 29 = .ok (.getfield 36, 3) := by decide +kernel
theorem dX11_board_32 : decode cX11_board 32 = .ok (.getfield 115, 3) := by decide +kernel
theorem dX11_board_35 : decode cX11_board 35 = .ok (.aload_n 0, 1) := by decide +kernel
theorem dX11_board_36 : decode cX11_board 36 = .ok (.getfield 36, 3) := by decide +kernel
theorem dX11_board_39 : decode cX11_board 39 = .ok (.getfield 118, 3) := by decide +kernel
theorem dX11_board_42 : decode cX11_board 42 = .ok (.invokevirtual 122, 3) := by decide +kernel
theorem dX11_board_45 : decode cX11_board 45 = .ok (.aload_n 0, 1) := by decide +kernel
theorem dX11_board_46 : decode cX11_board 46 = .ok (.getfield 75, 3) := by decide +kernel
theorem dX11_board_49 : decode cX11_board 49 = .ok (.iconst 0, 1) := by decide +kernel
theorem dX11_board_50 : decode cX11_board 50 = .ok (.putfield 126, 3) := by decide +kernel
theorem dX11_board_53 : decode cX11_board 53 = .ok (.aload_n 0, 1) := by decide +kernel
theorem dX11_board_54 : decode cX11_board 54 = .ok (.getfield 10, 3) := by decide +kernel
theorem dX11_board_57 : decode cX11_board 57 = .ok (.getfield 130, 3) := by decide +kernel
theorem dX11_board_60 : decode cX11_board 60 = .ok (.getfield 131, 3) := by decide +kernel
theorem dX11_board_63 : decode cX11_board 63 = .ok (.ireturn, 1) := by decide +kernel
theorem dX11_job_0 : decode cX11_job 0 = .ok (.iload_n 1, 1) := by decide +kernel
theorem dX11_job_1 : decode cX11_job 1 = .ok (.iload_n 2, 1) := by decide +kernel
theorem dX11_job_2 : decode cX11_job 2 = .ok (.iload_n 3, 1) := by decide +kernel
theorem dX11_job_3 : decode cX11_job 3 = .ok (.iload 4, 2) := by decide +kernel
theorem dX11_job_5 : decode cX11_job 5 = .ok (.iload 5, 2) := by decide +kernel
theorem dX11_job_7 : decode cX11_job 7 = .ok (.invokestatic 132, 3) := by decide +kernel
theorem dX11_job_10 : decode cX11_job 10 = .ok (.ifCond .ne 5, 3) := by decide +kernel
theorem dX11_job_13 : decode cX11_job 13 = .ok (.iconst (-1), 1) := by decide +kernel
theorem dX11_job_14 : decode cX11_job 14 = .ok (.ireturn, 1) := by decide +kernel
theorem dX11_job_15 : decode cX11_job 15 = .ok (.aload_n 0, 1) := by decide +kernel
theorem dX11_job_16 : decode cX11_job 16 = .ok (.getfield 10, 3) := by decide +kernel
theorem dX11_job_19 : decode cX11_job 19 = .ok (.iload_n 1, 1) := by decide +kernel
theorem dX11_job_20 : decode cX11_job 20 = .ok (.iload_n 2, 1) := by decide +kernel
theorem dX11_job_21 : decode cX11_job 21 = .ok (.iload_n 3, 1) := by decide +kernel
theorem dX11_job_22 : decode cX11_job 22 = .ok (.iload 4, 2) := by decide +kernel
theorem dX11_job_24 : decode cX11_job 24 = .ok (.iload 5, 2) := by decide +kernel
theorem dX11_job_26 : decode cX11_job 26 = .ok (.invokevirtual 136, 3) := by decide +kernel
theorem dX11_job_29 : decode cX11_job 29 = .ok (.ireturn, 1) := by decide +kernel
theorem dX11_jobOf_0 : decode cX11_jobOf 0 = .ok (.aload_n 0, 1) := by decide +kernel
theorem dX11_jobOf_1 : decode cX11_jobOf 1 = .ok (.getfield 10, 3) := by decide +kernel
theorem dX11_jobOf_4 : decode cX11_jobOf 4 = .ok (.getfield 130, 3) := by decide +kernel
theorem dX11_jobOf_7 : decode cX11_jobOf 7 = .ok (.iload_n 1, 1) := by decide +kernel
theorem dX11_jobOf_8 : decode cX11_jobOf 8 = .ok (.invokevirtual 140, 3) := by decide +kernel
theorem dX11_jobOf_11 : decode cX11_jobOf 11 = .ok (.ifCond .ne 5, 3) := by decide +kernel
theorem dX11_jobOf_14 : decode cX11_jobOf 14 = .ok (.iconst (-1), 1) := by decide +kernel
theorem dX11_jobOf_15 : decode cX11_jobOf 15 = .ok (.ireturn, 1) := by decide +kernel
theorem dX11_jobOf_16 : decode cX11_jobOf 16 = .ok (.iload_n 2, 1) := by decide +kernel
theorem dX11_jobOf_17 : decode cX11_jobOf 17 = .ok (.tableswitch 100 0 4 #[35, 48, 61, 74, 87], 35) := by decide +kernel
theorem dX11_jobOf_52 : decode cX11_jobOf 52 = .ok (.aload_n 0, 1) := by decide +kernel
theorem dX11_jobOf_53 : decode cX11_jobOf 53 = .ok (.getfield 10, 3) := by decide +kernel
theorem dX11_jobOf_56 : decode cX11_jobOf 56 = .ok (.getfield 130, 3) := by decide +kernel
theorem dX11_jobOf_59 : decode cX11_jobOf 59 = .ok (.getfield 144, 3) := by decide +kernel
theorem dX11_jobOf_62 : decode cX11_jobOf 62 = .ok (.iload_n 1, 1) := by decide +kernel
theorem dX11_jobOf_63 : decode cX11_jobOf 63 = .ok (.iaload, 1) := by decide +kernel
theorem dX11_jobOf_64 : decode cX11_jobOf 64 = .ok (.ireturn, 1) := by decide +kernel
theorem dX11_jobOf_65 : decode cX11_jobOf 65 = .ok (.aload_n 0, 1) := by decide +kernel
theorem dX11_jobOf_66 : decode cX11_jobOf 66 = .ok (.getfield 10, 3) := by decide +kernel
theorem dX11_jobOf_69 : decode cX11_jobOf 69 = .ok (.getfield 130, 3) := by decide +kernel
theorem dX11_jobOf_72 : decode cX11_jobOf 72 = .ok (.getfield 147, 3) := by decide +kernel
theorem dX11_jobOf_75 : decode cX11_jobOf 75 = .ok (.iload_n 1, 1) := by decide +kernel
theorem dX11_jobOf_76 : decode cX11_jobOf 76 = .ok (.iaload, 1) := by decide +kernel
theorem dX11_jobOf_77 : decode cX11_jobOf 77 = .ok (.ireturn, 1) := by decide +kernel
theorem dX11_jobOf_78 : decode cX11_jobOf 78 = .ok (.aload_n 0, 1) := by decide +kernel
theorem dX11_jobOf_79 : decode cX11_jobOf 79 = .ok (.getfield 10, 3) := by decide +kernel
theorem dX11_jobOf_82 : decode cX11_jobOf 82 = .ok (.getfield 130, 3) := by decide +kernel
theorem dX11_jobOf_85 : decode cX11_jobOf 85 = .ok (.getfield 150, 3) := by decide +kernel
theorem dX11_jobOf_88 : decode cX11_jobOf 88 = .ok (.iload_n 1, 1) := by decide +kernel
theorem dX11_jobOf_89 : decode cX11_jobOf 89 = .ok (.iaload, 1) := by decide +kernel
theorem dX11_jobOf_90 : decode cX11_jobOf 90 = .ok (.ireturn, 1) := by decide +kernel
theorem dX11_jobOf_91 : decode cX11_jobOf 91 = .ok (.aload_n 0, 1) := by decide +kernel
theorem dX11_jobOf_92 : decode cX11_jobOf 92 = .ok (.getfield 10, 3) := by decide +kernel
theorem dX11_jobOf_95 : decode cX11_jobOf 95 = .ok (.getfield 130, 3) := by decide +kernel
theorem dX11_jobOf_98 : decode cX11_jobOf 98 = .ok (.getfield 153, 3) := by decide +kernel
theorem dX11_jobOf_101 : decode cX11_jobOf 101 = .ok (.iload_n 1, 1) := by decide +kernel
theorem dX11_jobOf_102 : decode cX11_jobOf 102 = .ok (.iaload, 1) := by decide +kernel
theorem dX11_jobOf_103 : decode cX11_jobOf 103 = .ok (.ireturn, 1) := by decide +kernel
theorem dX11_jobOf_104 : decode cX11_jobOf 104 = .ok (.aload_n 0, 1) := by decide +kernel
theorem dX11_jobOf_105 : decode cX11_jobOf 105 = .ok (.getfield 10, 3) := by decide +kernel
theorem dX11_jobOf_108 : decode cX11_jobOf 108 = .ok (.getfield 130, 3) := by decide +kernel
theorem dX11_jobOf_111 : decode cX11_jobOf 111 = .ok (.getfield 156, 3) := by decide +kernel
theorem dX11_jobOf_114 : decode cX11_jobOf 114 = .ok (.iload_n 1, 1) := by decide +kernel
theorem dX11_jobOf_115 : decode cX11_jobOf 115 = .ok (.iaload, 1) := by decide +kernel
theorem dX11_jobOf_116 : decode cX11_jobOf 116 = .ok (.ireturn, 1) := by decide +kernel
theorem dX11_jobOf_117 : decode cX11_jobOf 117 = .ok (.iconst (-1), 1) := by decide +kernel
theorem dX11_jobOf_118 : decode cX11_jobOf 118 = .ok (.ireturn, 1) := by decide +kernel
theorem dX11_drop_0 : decode cX11_drop 0 = .ok (.aload_n 0, 1) := by decide +kernel
theorem dX11_drop_1 : decode cX11_drop 1 = .ok (.getfield 10, 3) := by decide +kernel
theorem dX11_drop_4 : decode cX11_drop 4 = .ok (.getfield 130, 3) := by decide +kernel
theorem dX11_drop_7 : decode cX11_drop 7 = .ok (.iload_n 1, 1) := by decide +kernel
theorem dX11_drop_8 : decode cX11_drop 8 = .ok (.invokevirtual 140, 3) := by decide +kernel
theorem dX11_drop_11 : decode cX11_drop 11 = .ok (.ifCond .ne 5, 3) := by decide +kernel
theorem dX11_drop_14 : decode cX11_drop 14 = .ok (.iconst (-1), 1) := by decide +kernel
theorem dX11_drop_15 : decode cX11_drop 15 = .ok (.ireturn, 1) := by decide +kernel
theorem dX11_drop_16 : decode cX11_drop 16 = .ok (.aload_n 0, 1) := by decide +kernel
theorem dX11_drop_17 : decode cX11_drop 17 = .ok (.getfield 10, 3) := by decide +kernel
theorem dX11_drop_20 : decode cX11_drop 20 = .ok (.iload_n 1, 1) := by decide +kernel
theorem dX11_drop_21 : decode cX11_drop 21 = .ok (.invokevirtual 159, 3) := by decide +kernel
theorem dX11_drop_24 : decode cX11_drop 24 = .ok (.aload_n 0, 1) := by decide +kernel
theorem dX11_drop_25 : decode cX11_drop 25 = .ok (.getfield 10, 3) := by decide +kernel
theorem dX11_drop_28 : decode cX11_drop 28 = .ok (.getfield 130, 3) := by decide +kernel
theorem dX11_drop_31 : decode cX11_drop 31 = .ok (.getfield 131, 3) := by decide +kernel
theorem dX11_drop_34 : decode cX11_drop 34 = .ok (.ireturn, 1) := by decide +kernel
theorem dX11_set_0 : decode cX11_set 0 = .ok (.iload_n 1, 1) := by decide +kernel
theorem dX11_set_1 : decode cX11_set 1 = .ok (.iconst 0, 1) := by decide +kernel
theorem dX11_set_2 : decode cX11_set 2 = .ok (.iconst 3, 1) := by decide +kernel
theorem dX11_set_3 : decode cX11_set 3 = .ok (.invokestatic 100, 3) := by decide +kernel
theorem dX11_set_6 : decode cX11_set 6 = .ok (.ifCond .eq 20, 3) := by decide +kernel
theorem dX11_set_9 : decode cX11_set 9 = .ok (.iload_n 2, 1) := by decide +kernel
theorem dX11_set_10 : decode cX11_set 10 = .ok (.getstatic 163, 3) := by decide +kernel
theorem dX11_set_13 : decode cX11_set 13 = .ok (.iload_n 1, 1) := by decide +kernel
theorem dX11_set_14 : decode cX11_set 14 = .ok (.iaload, 1) := by decide +kernel
theorem dX11_set_15 : decode cX11_set 15 = .ok (.getstatic 166, 3) := by decide +kernel
theorem dX11_set_18 : decode cX11_set 18 = .ok (.iload_n 1, 1) := by decide +kernel
theorem dX11_set_19 : decode cX11_set 19 = .ok (.iaload, 1) := by decide +kernel
theorem dX11_set_20 : decode cX11_set 20 = .ok (.invokestatic 100, 3) := by decide +kernel
theorem dX11_set_23 : decode cX11_set 23 = .ok (.ifCond .ne 5, 3) := by decide +kernel
theorem dX11_set_26 : decode cX11_set 26 = .ok (.iconst (-1), 1) := by decide +kernel
theorem dX11_set_27 : decode cX11_set 27 = .ok (.ireturn, 1) := by decide +kernel
theorem dX11_set_28 : decode cX11_set 28 = .ok (.aload_n 0, 1) := by decide +kernel
theorem dX11_set_29 : decode cX11_set 29 = .ok (.getfield 10, 3) := by decide +kernel
theorem dX11_set_32 : decode cX11_set 32 = .ok (.getfield 169, 3) := by decide +kernel
theorem dX11_set_35 : decode cX11_set 35 = .ok (.iload_n 1, 1) := by decide +kernel
theorem dX11_set_36 : decode cX11_set 36 = .ok (.iaload, 1) := by decide +kernel
theorem dX11_set_37 : decode cX11_set 37 = .ok (.istore_n 3, 1) := by decide +kernel
theorem dX11_set_38 : decode cX11_set 38 = .ok (.aload_n 0, 1) := by decide +kernel
theorem dX11_set_39 : decode cX11_set 39 = .ok (.getfield 10, 3) := by decide +kernel
theorem dX11_set_42 : decode cX11_set 42 = .ok (.getfield 169, 3) := by decide +kernel
theorem dX11_set_45 : decode cX11_set 45 = .ok (.iload_n 1, 1) := by decide +kernel
theorem dX11_set_46 : decode cX11_set 46 = .ok (.iload_n 2, 1) := by decide +kernel
theorem dX11_set_47 : decode cX11_set 47 = .ok (.iastore, 1) := by decide +kernel
theorem dX11_set_48 : decode cX11_set 48 = .ok (.iload_n 3, 1) := by decide +kernel
theorem dX11_set_49 : decode cX11_set 49 = .ok (.ireturn, 1) := by decide +kernel
theorem dX11_lose_0 : decode cX11_lose 0 = .ok (.iload_n 1, 1) := by decide +kernel
theorem dX11_lose_1 : decode cX11_lose 1 = .ok (.iconst 0, 1) := by decide +kernel
theorem dX11_lose_2 : decode cX11_lose 2 = .ok (.bipush 60, 2) := by decide +kernel
theorem dX11_lose_4 : decode cX11_lose 4 = .ok (.invokestatic 100, 3) := by decide +kernel
theorem dX11_lose_7 : decode cX11_lose 7 = .ok (.ifCond .eq 13, 3) := by decide +kernel
theorem dX11_lose_10 : decode cX11_lose 10 = .ok (.iload_n 2, 1) := by decide +kernel
theorem dX11_lose_11 : decode cX11_lose 11 = .ok (.iconst 0, 1) := by decide +kernel
theorem dX11_lose_12 : decode cX11_lose 12 = .ok (.bipush 9, 2) := by decide +kernel
theorem dX11_lose_14 : decode cX11_lose 14 = .ok (.invokestatic 100, 3) := by decide +kernel
theorem dX11_lose_17 : decode cX11_lose 17 = .ok (.ifCond .ne 5, 3) := by decide +kernel
theorem dX11_lose_20 : decode cX11_lose 20 = .ok (.iconst (-1), 1) := by decide +kernel
theorem dX11_lose_21 : decode cX11_lose 21 = .ok (.ireturn, 1) := by decide +kernel
theorem dX11_lose_22 : decode cX11_lose 22 = .ok (.aload_n 0, 1) := by decide +kernel
theorem dX11_lose_23 : decode cX11_lose 23 = .ok (.getfield 10, 3) := by decide +kernel
theorem dX11_lose_26 : decode cX11_lose 26 = .ok (.getfield 170, 3) := by decide +kernel
theorem dX11_lose_29 : decode cX11_lose 29 = .ok (.iload_n 1, 1) := by decide +kernel
theorem dX11_lose_30 : decode cX11_lose 30 = .ok (.iaload, 1) := by decide +kernel
theorem dX11_lose_31 : decode cX11_lose 31 = .ok (.istore_n 3, 1) := by decide +kernel
theorem dX11_lose_32 : decode cX11_lose 32 = .ok (.aload_n 0, 1) := by decide +kernel
theorem dX11_lose_33 : decode cX11_lose 33 = .ok (.getfield 10, 3) := by decide +kernel
theorem dX11_lose_36 : decode cX11_lose 36 = .ok (.getfield 170, 3) := by decide +kernel
theorem dX11_lose_39 : decode cX11_lose 39 = .ok (.iload_n 1, 1) := by decide +kernel
theorem dX11_lose_40 : decode cX11_lose 40 = .ok (.iload_n 2, 1) := by decide +kernel
theorem dX11_lose_41 : decode cX11_lose 41 = .ok (.iastore, 1) := by decide +kernel
theorem dX11_lose_42 : decode cX11_lose 42 = .ok (.iload_n 3, 1) := by decide +kernel
theorem dX11_lose_43 : decode cX11_lose 43 = .ok (.ireturn, 1) := by decide +kernel
theorem dX11_night_0 : decode cX11_night 0 = .ok (.iload_n 1, 1) := by decide +kernel
theorem dX11_night_1 : decode cX11_night 1 = .ok (.iconst 0, 1) := by decide +kernel
theorem dX11_night_2 : decode cX11_night 2 = .ok (.bipush 60, 2) := by decide +kernel
theorem dX11_night_4 : decode cX11_night 4 = .ok (.invokestatic 100, 3) := by decide +kernel
theorem dX11_night_7 : decode cX11_night 7 = .ok (.ifCond .eq 13, 3) := by decide +kernel
theorem dX11_night_10 : decode cX11_night 10 = .ok (.iload_n 2, 1) := by decide +kernel
theorem dX11_night_11 : decode cX11_night 11 = .ok (.iconst 0, 1) := by decide +kernel
theorem dX11_night_12 : decode cX11_night 12 = .ok (.bipush 9, 2) := by decide +kernel
theorem dX11_night_14 : decode cX11_night 14 = .ok (.invokestatic 100, 3) := by decide +kernel
theorem dX11_night_17 : decode cX11_night 17 = .ok (.ifCond .ne 5, 3) := by decide +kernel
theorem dX11_night_20 : decode cX11_night 20 = .ok (.iconst (-1), 1) := by decide +kernel
theorem dX11_night_21 : decode cX11_night 21 = .ok (.ireturn, 1) := by decide +kernel
theorem dX11_night_22 : decode cX11_night 22 = .ok (.aload_n 0, 1) := by decide +kernel
theorem dX11_night_23 : decode cX11_night 23 = .ok (.getfield 10, 3) := by decide +kernel
