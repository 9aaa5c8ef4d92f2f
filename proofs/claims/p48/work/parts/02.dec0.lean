theorem dX0_init_0 : decode cX0_init 0 = .ok (.aload_n 0, 1) := by decide +kernel
theorem dX0_init_1 : decode cX0_init 1 = .ok (.invokespecial 3, 3) := by decide +kernel
theorem dX0_init_4 : decode cX0_init 4 = .ok (.aload_n 0, 1) := by decide +kernel
theorem dX0_init_5 : decode cX0_init 5 = .ok (.aload_n 1, 1) := by decide +kernel
theorem dX0_init_6 : decode cX0_init 6 = .ok (.putfield 9, 3) := by decide +kernel
theorem dX0_init_9 : decode cX0_init 9 = .ok (.return_, 1) := by decide +kernel
theorem dX1_init_0 : decode cX1_init 0 = .ok (.aload_n 0, 1) := by decide +kernel
theorem dX1_init_1 : decode cX1_init 1 = .ok (.invokespecial 3, 3) := by decide +kernel
theorem dX1_init_4 : decode cX1_init 4 = .ok (.aload_n 0, 1) := by decide +kernel
theorem dX1_init_5 : decode cX1_init 5 = .ok (.new 9, 3) := by decide +kernel
theorem dX1_init_8 : decode cX1_init 8 = .ok (.dup, 1) := by decide +kernel
theorem dX1_init_9 : decode cX1_init 9 = .ok (.invokespecial 11, 3) := by decide +kernel
theorem dX1_init_12 : decode cX1_init 12 = .ok (.putfield 12, 3) := by decide +kernel
theorem dX1_init_15 : decode cX1_init 15 = .ok (.aload_n 0, 1) := by decide +kernel
theorem dX1_init_16 : decode cX1_init 16 = .ok (.iconst 4, 1) := by decide +kernel
theorem dX1_init_17 : decode cX1_init 17 = .ok (.newarray .int, 2) := by decide +kernel
theorem dX1_init_19 : decode cX1_init 19 = .ok (.dup, 1) := by decide +kernel
theorem dX1_init_20 : decode cX1_init 20 = .ok (.iconst 0, 1) := by decide +kernel
theorem dX1_init_21 : decode cX1_init 21 = .ok (.iconst 2, 1) := by decide +kernel
theorem dX1_init_22 : decode cX1_init 22 = .ok (.iastore, 1) := by decide +kernel
theorem dX1_init_23 : decode cX1_init 23 = .ok (.dup, 1) := by decide +kernel
theorem dX1_init_24 : decode cX1_init 24 = .ok (.iconst 1, 1) := by decide +kernel
theorem dX1_init_25 : decode cX1_init 25 = .ok (.iconst 1, 1) := by decide +kernel
theorem dX1_init_26 : decode cX1_init 26 = .ok (.iastore, 1) := by decide +kernel
theorem dX1_init_27 : decode cX1_init 27 = .ok (.dup, 1) := by decide +kernel
theorem dX1_init_28 : decode cX1_init 28 = .ok (.iconst 2, 1) := by decide +kernel
theorem dX1_init_29 : decode cX1_init 29 = .ok (.iconst 5, 1) := by decide +kernel
theorem dX1_init_30 : decode cX1_init 30 = .ok (.iastore, 1) := by decide +kernel
theorem dX1_init_31 : decode cX1_init 31 = .ok (.dup, 1) := by decide +kernel
theorem dX1_init_32 : decode cX1_init 32 = .ok (.iconst 3, 1) := by decide +kernel
theorem dX1_init_33 : decode cX1_init 33 = .ok (.iconst 1, 1) := by decide +kernel
theorem dX1_init_34 : decode cX1_init 34 = .ok (.iastore, 1) := by decide +kernel
theorem dX1_init_35 : decode cX1_init 35 = .ok (.putfield 18, 3) := by decide +kernel
theorem dX1_init_38 : decode cX1_init 38 = .ok (.aload_n 0, 1) := by decide +kernel
theorem dX1_init_39 : decode cX1_init 39 = .ok (.bipush 61, 2) := by decide +kernel
theorem dX1_init_41 : decode cX1_init 41 = .ok (.newarray .int, 2) := by decide +kernel
theorem dX1_init_43 : decode cX1_init 43 = .ok (.putfield 22, 3) := by decide +kernel
theorem dX1_init_46 : decode cX1_init 46 = .ok (.aload_n 0, 1) := by decide +kernel
theorem dX1_init_47 : decode cX1_init 47 = .ok (.bipush 61, 2) := by decide +kernel
theorem dX1_init_49 : decode cX1_init 49 = .ok (.newarray .int, 2) := by decide +kernel
theorem dX1_init_51 : decode cX1_init 51 = .ok (.putfield 25, 3) := by decide +kernel
theorem dX1_init_54 : decode cX1_init 54 = .ok (.aload_n 0, 1) := by decide +kernel
theorem dX1_init_55 : decode cX1_init 55 = .ok (.bipush 6, 2) := by decide +kernel
theorem dX1_init_57 : decode cX1_init 57 = .ok (.newarray .int, 2) := by decide +kernel
theorem dX1_init_59 : decode cX1_init 59 = .ok (.putfield 28, 3) := by decide +kernel
theorem dX1_init_62 : decode cX1_init 62 = .ok (.aload_n 0, 1) := by decide +kernel
theorem dX1_init_63 : decode cX1_init 63 = .ok (.iconst 0, 1) := by decide +kernel
theorem dX1_init_64 : decode cX1_init 64 = .ok (.putfield 31, 3) := by decide +kernel
theorem dX1_init_67 : decode cX1_init 67 = .ok (.aload_n 0, 1) := by decide +kernel
theorem dX1_init_68 : decode cX1_init 68 = .ok (.iconst 0, 1) := by decide +kernel
theorem dX1_init_69 : decode cX1_init 69 = .ok (.putfield 35, 3) := by decide +kernel
theorem dX1_init_72 : decode cX1_init 72 = .ok (.aload_n 0, 1) := by decide +kernel
theorem dX1_init_73 : decode cX1_init 73 = .ok (.iconst 0, 1) := by decide +kernel
theorem dX1_init_74 : decode cX1_init 74 = .ok (.putfield 38, 3) := by decide +kernel
theorem dX1_init_77 : decode cX1_init 77 = .ok (.aload_n 0, 1) := by decide +kernel
theorem dX1_init_78 : decode cX1_init 78 = .ok (.iconst 0, 1) := by decide +kernel
theorem dX1_init_79 : decode cX1_init 79 = .ok (.putfield 41, 3) := by decide +kernel
theorem dX1_init_82 : decode cX1_init 82 = .ok (.return_, 1) := by decide +kernel
theorem dX1_slotsOn_0 : decode cX1_slotsOn 0 = .ok (.iload_n 1, 1) := by decide +kernel
theorem dX1_slotsOn_1 : decode cX1_slotsOn 1 = .ok (.ifCond .lt 9, 3) := by decide +kernel
theorem dX1_slotsOn_4 : decode cX1_slotsOn 4 = .ok (.iload_n 1, 1) := by decide +kernel
theorem dX1_slotsOn_5 : decode cX1_slotsOn 5 = .ok (.bipush 60, 2) := by decide +kernel
theorem dX1_slotsOn_7 : decode cX1_slotsOn 7 = .ok (.if_icmp .le 10, 3) := by decide +kernel
theorem dX1_slotsOn_10 : decode cX1_slotsOn 10 = .ok (.aload_n 0, 1) := by decide +kernel
theorem dX1_slotsOn_11 : decode cX1_slotsOn 11 = .ok (.getfield 18, 3) := by decide +kernel
theorem dX1_slotsOn_14 : decode cX1_slotsOn 14 = .ok (.iconst 0, 1) := by decide +kernel
theorem dX1_slotsOn_15 : decode cX1_slotsOn 15 = .ok (.iaload, 1) := by decide +kernel
theorem dX1_slotsOn_16 : decode cX1_slotsOn 16 = .ok (.ireturn, 1) := by decide +kernel
theorem dX1_slotsOn_17 : decode cX1_slotsOn 17 = .ok (.iconst 0, 1) := by decide +kernel
theorem dX1_slotsOn_18 : decode cX1_slotsOn 18 = .ok (.aload_n 0, 1) := by decide +kernel
theorem dX1_slotsOn_19 : decode cX1_slotsOn 19 = .ok (.getfield 18, 3) := by decide +kernel
theorem dX1_slotsOn_22 : decode cX1_slotsOn 22 = .ok (.iconst 0, 1) := by decide +kernel
theorem dX1_slotsOn_23 : decode cX1_slotsOn 23 = .ok (.iaload, 1) := by decide +kernel
theorem dX1_slotsOn_24 : decode cX1_slotsOn 24 = .ok (.aload_n 0, 1) := by decide +kernel
theorem dX1_slotsOn_25 : decode cX1_slotsOn 25 = .ok (.getfield 22, 3) := by decide +kernel
theorem dX1_slotsOn_28 : decode cX1_slotsOn 28 = .ok (.iload_n 1, 1) := by decide +kernel
theorem dX1_slotsOn_29 : decode cX1_slotsOn 29 = .ok (.iaload, 1) := by decide +kernel
theorem dX1_slotsOn_30 : decode cX1_slotsOn 30 = .ok (.isub, 1) := by decide +kernel
theorem dX1_slotsOn_31 : decode cX1_slotsOn 31 = .ok (.invokestatic 44, 3) := by decide +kernel
theorem dX1_slotsOn_34 : decode cX1_slotsOn 34 = .ok (.aload_n 0, 1) := by decide +kernel
theorem dX1_slotsOn_35 : decode cX1_slotsOn 35 = .ok (.getfield 25, 3) := by decide +kernel
theorem dX1_slotsOn_38 : decode cX1_slotsOn 38 = .ok (.iload_n 1, 1) := by decide +kernel
theorem dX1_slotsOn_39 : decode cX1_slotsOn 39 = .ok (.iaload, 1) := by decide +kernel
theorem dX1_slotsOn_40 : decode cX1_slotsOn 40 = .ok (.iadd, 1) := by decide +kernel
theorem dX1_slotsOn_41 : decode cX1_slotsOn 41 = .ok (.ireturn, 1) := by decide +kernel
theorem dX1_come_0 : decode cX1_come 0 = .ok (.aload_n 0, 1) := by decide +kernel
theorem dX1_come_1 : decode cX1_come 1 = .ok (.getfield 12, 3) := by decide +kernel
theorem dX1_come_4 : decode cX1_come 4 = .ok (.getfield 54, 3) := by decide +kernel
theorem dX1_come_7 : decode cX1_come 7 = .ok (.bipush 6, 2) := by decide +kernel
theorem dX1_come_9 : decode cX1_come 9 = .ok (.if_icmp .lt 6, 3) := by decide +kernel
theorem dX1_come_12 : decode cX1_come 12 = .ok (.bipush (-2), 2) := by decide +kernel
theorem dX1_come_14 : decode cX1_come 14 = .ok (.ireturn, 1) := by decide +kernel
theorem dX1_come_15 : decode cX1_come 15 = .ok (.aload_n 0, 1) := by decide +kernel
theorem dX1_come_16 : decode cX1_come 16 = .ok (.getfield 28, 3) := by decide +kernel
theorem dX1_come_19 : decode cX1_come 19 = .ok (.aload_n 0, 1) := by decide +kernel
theorem dX1_come_20 : decode cX1_come 20 = .ok (.getfield 12, 3) := by decide +kernel
theorem dX1_come_23 : decode cX1_come 23 = .ok (.getfield 54, 3) := by decide +kernel
theorem dX1_come_26 : decode cX1_come 26 = .ok (.aload_n 0, 1) := by decide +kernel
theorem dX1_come_27 : decode cX1_come 27 = .ok (.getfield 12, 3) := by decide +kernel
theorem dX1_come_30 : decode cX1_come 30 = .ok (.getfield 54, 3) := by decide +kernel
theorem dX1_come_33 : decode cX1_come 33 = .ok (.iastore, 1) := by decide +kernel
theorem dX1_come_34 : decode cX1_come 34 = .ok (.aload_n 0, 1) := by decide +kernel
theorem dX1_come_35 : decode cX1_come 35 = .ok (.getfield 12, 3) := by decide +kernel
theorem dX1_come_38 : decode cX1_come 38 = .ok (.iload_n 1, 1) := by decide +kernel
theorem dX1_come_39 : decode cX1_come 39 = .ok (.iload_n 2, 1) := by decide +kernel
theorem dX1_come_40 : decode cX1_come 40 = .ok (.iload_n 3, 1) := by decide +kernel
theorem dX1_come_41 : decode cX1_come 41 = .ok (.iload 4, 2) := by decide +kernel
theorem dX1_come_43 : decode cX1_come 43 = .ok (.iload 5, 2) := by decide +kernel
theorem dX1_come_45 : decode cX1_come 45 = .ok (.invokevirtual 57, 3) := by decide +kernel
theorem dX1_come_48 : decode cX1_come 48 = .ok (.aload_n 0, 1) := by decide +kernel
theorem dX1_come_49 : decode cX1_come 49 = .ok (.getfield 12, 3) := by decide +kernel
theorem dX1_come_52 : decode cX1_come 52 = .ok (.getfield 54, 3) := by decide +kernel
theorem dX1_come_55 : decode cX1_come 55 = .ok (.iconst 1, 1) := by decide +kernel
theorem dX1_come_56 : decode cX1_come 56 = .ok (.isub, 1) := by decide +kernel
theorem dX1_come_57 : decode cX1_come 57 = .ok (.ireturn, 1) := by decide +kernel
theorem dX1_leave_0 : decode cX1_leave 0 = .ok (.iconst 0, 1) := by decide +kernel
theorem dX1_leave_1 : decode cX1_leave 1 = .ok (.istore_n 2, 1) := by decide +kernel
theorem dX1_leave_2 : decode cX1_leave 2 = .ok (.iconst 0, 1) := by decide +kernel
theorem dX1_leave_3 : decode cX1_leave 3 = .ok (.istore_n 3, 1) := by decide +kernel
theorem dX1_leave_4 : decode cX1_leave 4 = .ok (.iload_n 3, 1) := by decide +kernel
theorem dX1_leave_5 : decode cX1_leave 5 = .ok (.aload_n 0, 1) := by decide +kernel
theorem dX1_leave_6 : decode cX1_leave 6 = .ok (.getfield 12, 3) := by decide +kernel
theorem dX1_leave_9 : decode cX1_leave 9 = .ok (.getfield 54, 3) := by decide +kernel
theorem dX1_leave_12 : decode cX1_leave 12 = .ok (.if_icmp .ge 50, 3) := by decide +kernel
theorem dX1_leave_15 : decode cX1_leave 15 = .ok (.aload_n 0, 1) := by decide +kernel
theorem dX1_leave_16 : decode cX1_leave 16 = .ok (.getfield 28, 3) := by decide +kernel
theorem dX1_leave_19 : decode cX1_leave 19 = .ok (.iload_n 3, 1) := by decide +kernel
theorem dX1_leave_20 : decode cX1_leave 20 = .ok (.iaload, 1) := by decide +kernel
theorem dX1_leave_21 : decode cX1_leave 21 = .ok (.istore 4, 2) := by decide +kernel
theorem dX1_leave_23 : decode cX1_leave 23 = .ok (.iload 4, 2) := by decide +kernel
theorem dX1_leave_25 : decode cX1_leave 25 = .ok (.iload_n 1, 1) := by decide +kernel
theorem dX1_leave_26 : decode cX1_leave 26 = .ok (.if_icmp .ne 6, 3) := by decide +kernel
theorem dX1_leave_29 : decode cX1_leave 29 = .ok (.goto 27, 3) := by decide +kernel
theorem dX1_leave_32 : decode cX1_leave 32 = .ok (.aload_n 0, 1) := by decide +kernel
theorem dX1_leave_33 : decode cX1_leave 33 = .ok (.getfield 28, 3) := by decide +kernel
theorem dX1_leave_36 : decode cX1_leave 36 = .ok (.iload_n 2, 1) := by decide +kernel
theorem dX1_leave_37 : decode cX1_leave 37 = .ok (.iload 4, 2) := by decide +kernel
theorem dX1_leave_39 : decode cX1_leave 39 = .ok (.iload_n 1, 1) := by decide +kernel
theorem dX1_leave_40 : decode cX1_leave 40 = .ok (.if_icmp .le 10, 3) := by decide +kernel
theorem dX1_leave_43 : decode cX1_leave 43 = .ok (.iload 4, 2) := by decide +kernel
theorem dX1_leave_45 : decode cX1_leave 45 = .ok (.iconst 1, 1) := by decide +kernel
theorem dX1_leave_46 : decode cX1_leave 46 = .ok (.isub, 1) := by decide +kernel
theorem dX1_leave_47 : decode cX1_leave 47 = .ok (.goto 5, 3) := by decide +kernel
theorem dX1_leave_50 : decode cX1_leave 50 = .ok (.iload 4, 2) := by decide +kernel
theorem dX1_leave_52 : decode cX1_leave 52 = .ok (.iastore, 1) := by decide +kernel
theorem dX1_leave_53 : decode cX1_leave 53 = .ok (.iinc 2 1, 3) := by decide +kernel
theorem dX1_leave_56 : decode cX1_leave 56 = .ok (.iinc 3 1, 3) := by decide +kernel
theorem dX1_leave_59 : decode cX1_leave 59 = .ok (.goto (-55), 3) := by decide +kernel
theorem dX1_leave_62 : decode cX1_leave 62 = .ok (.aload_n 0, 1) := by decide +kernel
theorem dX1_leave_63 : decode cX1_leave 63 = .ok (.getfield 12, 3) := by decide +kernel
theorem dX1_leave_66 : decode cX1_leave 66 = .ok (.iload_n 1, 1) := by decide +kernel
theorem dX1_leave_67 : decode cX1_leave 67 = .ok (.invokevirtual 61, 3) := by decide +kernel
theorem dX1_leave_70 : decode cX1_leave 70 = .ok (.return_, 1) := by decide +kernel
theorem dX1_arrange_0 : decode cX1_arrange 0 = .ok (.iload_n 1, 1) := by decide +kernel
theorem dX1_arrange_1 : decode cX1_arrange 1 = .ok (.ifCond .lt 17, 3) := by decide +kernel
theorem dX1_arrange_4 : decode cX1_arrange 4 = .ok (.iload_n 1, 1) := by decide +kernel
theorem dX1_arrange_5 : decode cX1_arrange 5 = .ok (.iconst 3, 1) := by decide +kernel
theorem dX1_arrange_6 : decode cX1_arrange 6 = .ok (.aload_n 0, 1) := by decide +kernel
theorem dX1_arrange_7 : decode cX1_arrange 7 = .ok (.getfield 12, 3) := by decide +kernel
theorem dX1_arrange_10 : decode cX1_arrange 10 = .ok (.getfield 54, 3) := by decide +kernel
theorem dX1_arrange_13 : decode cX1_arrange 13 = .ok (.imul, 1) := by decide +kernel
theorem dX1_arrange_14 : decode cX1_arrange 14 = .ok (.ishr, 1) := by decide +kernel
theorem dX1_arrange_15 : decode cX1_arrange 15 = .ok (.ifCond .eq 5, 3) := by decide +kernel
theorem dX1_arrange_18 : decode cX1_arrange 18 = .ok (.iconst 0, 1) := by decide +kernel
theorem dX1_arrange_19 : decode cX1_arrange 19 = .ok (.ireturn, 1) := by decide +kernel
theorem dX1_arrange_20 : decode cX1_arrange 20 = .ok (.iconst 0, 1) := by decide +kernel
theorem dX1_arrange_21 : decode cX1_arrange 21 = .ok (.istore_n 2, 1) := by decide +kernel
theorem dX1_arrange_22 : decode cX1_arrange 22 = .ok (.iconst 0, 1) := by decide +kernel
theorem dX1_arrange_23 : decode cX1_arrange 23 = .ok (.istore_n 3, 1) := by decide +kernel
theorem dX1_arrange_24 : decode cX1_arrange 24 = .ok (.iload_n 3, 1) := by decide +kernel
theorem dX1_arrange_25 : decode cX1_arrange 25 = .ok (.aload_n 0, 1) := by decide +kernel
theorem dX1_arrange_26 : decode cX1_arrange 26 = .ok (.getfield 12, 3) := by decide +kernel
theorem dX1_arrange_29 : decode cX1_arrange 29 = .ok (.getfield 54, 3) := by decide +kernel
theorem dX1_arrange_32 : decode cX1_arrange 32 = .ok (.if_icmp .ge 22, 3) := by decide +kernel
theorem dX1_arrange_35 : decode cX1_arrange 35 = .ok (.iload_n 2, 1) := by decide +kernel
theorem dX1_arrange_36 : decode cX1_arrange 36 = .ok (.iconst 1, 1) := by decide +kernel
theorem dX1_arrange_37 : decode cX1_arrange 37 = .ok (.iload_n 1, 1) := by decide +kernel
theorem dX1_arrange_38 : decode cX1_arrange 38 = .ok (.iconst 3, 1) := by decide +kernel
theorem dX1_arrange_39 : decode cX1_arrange 39 = .ok (.iload_n 3, 1) := by decide +kernel
theorem dX1_arrange_40 : decode cX1_arrange 40 = .ok (.imul, 1) := by decide +kernel
theorem dX1_arrange_41 : decode cX1_arrange 41 = .ok (.ishr, 1) := by decide +kernel
theorem dX1_arrange_42 : decode cX1_arrange 42 = .ok (.bipush 7, 2) := by decide +kernel
theorem dX1_arrange_44 : decode cX1_arrange 44 = .ok (.iand, 1) := by decide +kernel
theorem dX1_arrange_45 : decode cX1_arrange 45 = .ok (.ishl, 1) := by decide +kernel
theorem dX1_arrange_46 : decode cX1_arrange 46 = .ok (.ior, 1) := by decide +kernel
theorem dX1_arrange_47 : decode cX1_arrange 47 = .ok (.istore_n 2, 1) := by decide +kernel
theorem dX1_arrange_48 : decode cX1_arrange 48 = .ok (.iinc 3 1, 3) := by decide +kernel
theorem dX1_arrange_51 : decode cX1_arrange 51 = .ok (.goto (-27), 3) := by decide +kernel
theorem dX1_arrange_54 : decode cX1_arrange 54 = .ok (.iload_n 2, 1) := by decide +kernel
theorem dX1_arrange_55 : decode cX1_arrange 55 = .ok (.iconst 1, 1) := by decide +kernel
theorem dX1_arrange_56 : decode cX1_arrange 56 = .ok (.aload_n 0, 1) := by decide +kernel
theorem dX1_arrange_57 : decode cX1_arrange 57 = .ok (.getfield 12, 3) := by decide +kernel
theorem dX1_arrange_60 : decode cX1_arrange 60 = .ok (.getfield 54, 3) := by decide +kernel
theorem dX1_arrange_63 : decode cX1_arrange 63 = .ok (.ishl, 1) := by decide +kernel
theorem dX1_arrange_64 : decode cX1_arrange 64 = .ok (.iconst 1, 1) := by decide +kernel
theorem dX1_arrange_65 : decode cX1_arrange 65 = .ok (.isub, 1) := by decide +kernel
theorem dX1_arrange_66 : decode cX1_arrange 66 = .ok (.if_icmp .eq 5, 3) := by decide +kernel
theorem dX1_arrange_69 : decode cX1_arrange 69 = .ok (.iconst 0, 1) := by decide +kernel
theorem dX1_arrange_70 : decode cX1_arrange 70 = .ok (.ireturn, 1) := by decide +kernel
theorem dX1_arrange_71 : decode cX1_arrange 71 = .ok (.iconst 0, 1) := by decide +kernel
theorem dX1_arrange_72 : decode cX1_arrange 72 = .ok (.istore_n 3, 1) := by decide +kernel
theorem dX1_arrange_73 : decode cX1_arrange 73 = .ok (.iload_n 3, 1) := by decide +kernel
theorem dX1_arrange_74 : decode cX1_arrange 74 = .ok (.aload_n 0, 1) := by decide +kernel
theorem dX1_arrange_75 : decode cX1_arrange 75 = .ok (.getfield 12, 3) := by decide +kernel
theorem dX1_arrange_78 : decode cX1_arrange 78 = .ok (.getfield 54, 3) := by decide +kernel
theorem dX1_arrange_81 : decode cX1_arrange 81 = .ok (.if_icmp .ge 23, 3) := by decide +kernel
theorem dX1_arrange_84 : decode cX1_arrange 84 = .ok (.aload_n 0, 1) := by decide +kernel
theorem dX1_arrange_85 : decode cX1_arrange 85 = .ok (.getfield 28, 3) := by decide +kernel
theorem dX1_arrange_88 : decode cX1_arrange 88 = .ok (.iload_n 3, 1) := by decide +kernel
theorem dX1_arrange_89 : decode cX1_arrange 89 = .ok (.iload_n 1, 1) := by decide +kernel
theorem dX1_arrange_90 : decode cX1_arrange 90 = .ok (.iconst 3, 1) := by decide +kernel
theorem dX1_arrange_91 : decode cX1_arrange 91 = .ok (.iload_n 3, 1) := by decide +kernel
theorem dX1_arrange_92 : decode cX1_arrange 92 = .ok (.imul, 1) := by decide +kernel
theorem dX1_arrange_93 : decode cX1_arrange 93 = .ok (.ishr, 1) := by decide +kernel
theorem dX1_arrange_94 : decode cX1_arrange 94 = .ok (.bipush 7, 2) := by decide +kernel
theorem dX1_arrange_96 : decode cX1_arrange 96 = .ok (.iand, 1) := by decide +kernel
theorem dX1_arrange_97 : decode cX1_arrange 97 = .ok (.iastore, 1) := by decide +kernel
theorem dX1_arrange_98 : decode cX1_arrange 98 = .ok (.iinc 3 1, 3) := by decide +kernel
theorem dX1_arrange_101 : decode cX1_arrange 101 = .ok (.goto (-28), 3) := by decide +kernel
theorem dX1_arrange_104 : decode cX1_arrange 104 = .ok (.iconst 1, 1) := by decide +kernel
theorem dX1_arrange_105 : decode cX1_arrange 105 = .ok (.ireturn, 1) := by decide +kernel
theorem dX1_workDay_0 : decode cX1_workDay 0 = .ok (.iconst 0, 1) := by decide +kernel
theorem dX1_workDay_1 : decode cX1_workDay 1 = .ok (.istore_n 1, 1) := by decide +kernel
theorem dX1_workDay_2 : decode cX1_workDay 2 = .ok (.aload_n 0, 1) := by decide +kernel
theorem dX1_workDay_3 : decode cX1_workDay 3 = .ok (.aload_n 0, 1) := by decide +kernel
theorem dX1_workDay_4 : decode cX1_workDay 4 = .ok (.getfield 31, 3) := by decide +kernel
theorem dX1_workDay_7 : decode cX1_workDay 7 = .ok (.invokevirtual 65, 3) := by decide +kernel
theorem dX1_workDay_10 : decode cX1_workDay 10 = .ok (.istore_n 2, 1) := by decide +kernel
theorem dX1_workDay_11 : decode cX1_workDay 11 = .ok (.iconst 0, 1) := by decide +kernel
theorem dX1_workDay_12 : decode cX1_workDay 12 = .ok (.istore_n 3, 1) := by decide +kernel
theorem dX1_workDay_13 : decode cX1_workDay 13 = .ok (.iload_n 3, 1) := by decide +kernel
theorem dX1_workDay_14 : decode cX1_workDay 14 = .ok (.iload_n 2, 1) := by decide +kernel
theorem dX1_workDay_15 : decode cX1_workDay 15 = .ok (.if_icmp .ge 35, 3) := by decide +kernel
theorem dX1_workDay_18 : decode cX1_workDay 18 = .ok (.aload_n 0, 1) := by decide +kernel
theorem dX1_workDay_19 : decode cX1_workDay 19 = .ok (.getfield 12, 3) := by decide +kernel
theorem dX1_workDay_22 : decode cX1_workDay 22 = .ok (.getfield 54, 3) := by decide +kernel
theorem dX1_workDay_25 : decode cX1_workDay 25 = .ok (.ifCond .le 25, 3) := by decide +kernel
theorem dX1_workDay_28 : decode cX1_workDay 28 = .ok (.aload_n 0, 1) := by decide +kernel
theorem dX1_workDay_29 : decode cX1_workDay 29 = .ok (.aload_n 0, 1) := by decide +kernel
theorem dX1_workDay_30 : decode cX1_workDay 30 = .ok (.getfield 28, 3) := by decide +kernel
theorem dX1_workDay_33 : decode cX1_workDay 33 = .ok (.iconst 0, 1) := by decide +kernel
theorem dX1_workDay_34 : decode cX1_workDay 34 = .ok (.iaload, 1) := by decide +kernel
theorem dX1_workDay_35 : decode cX1_workDay 35 = .ok (.invokevirtual 69, 3) := by decide +kernel
theorem dX1_workDay_38 : decode cX1_workDay 38 = .ok (.ifCond .eq 6, 3) := by decide +kernel
theorem dX1_workDay_41 : decode cX1_workDay 41 = .ok (.iinc 1 1, 3) := by decide +kernel
theorem dX1_workDay_44 : decode cX1_workDay 44 = .ok (.iinc 3 1, 3) := by decide +kernel
theorem dX1_workDay_47 : decode cX1_workDay 47 = .ok (.goto (-34), 3) := by decide +kernel
theorem dX1_workDay_50 : decode cX1_workDay 50 = .ok (.aload_n 0, 1) := by decide +kernel
theorem dX1_workDay_51 : decode cX1_workDay 51 = .ok (.dup, 1) := by decide +kernel
theorem dX1_workDay_52 : decode cX1_workDay 52 = .ok (.getfield 31, 3) := by decide +kernel
theorem dX1_workDay_55 : decode cX1_workDay 55 = .ok (.iconst 1, 1) := by decide +kernel
theorem dX1_workDay_56 : decode cX1_workDay 56 = .ok (.iadd, 1) := by decide +kernel
theorem dX1_workDay_57 : decode cX1_workDay 57 = .ok (.putfield 31, 3) := by decide +kernel
theorem dX1_workDay_60 : decode cX1_workDay 60 = .ok (.iload_n 1, 1) := by decide +kernel
theorem dX1_workDay_61 : decode cX1_workDay 61 = .ok (.ireturn, 1) := by decide +kernel
theorem dX1_workSlot_0 : decode cX1_workSlot 0 = .ok (.aload_n 0, 1) := by decide +kernel
theorem dX1_workSlot_1 : decode cX1_workSlot 1 = .ok (.getfield 12, 3) := by decide +kernel
theorem dX1_workSlot_4 : decode cX1_workSlot 4 = .ok (.iload_n 1, 1) := by decide +kernel
theorem dX1_workSlot_5 : decode cX1_workSlot 5 = .ok (.invokevirtual 73, 3) := by decide +kernel
theorem dX1_workSlot_8 : decode cX1_workSlot 8 = .ok (.ifCond .ne 5, 3) := by decide +kernel
theorem dX1_workSlot_11 : decode cX1_workSlot 11 = .ok (.iconst 0, 1) := by decide +kernel
theorem dX1_workSlot_12 : decode cX1_workSlot 12 = .ok (.ireturn, 1) := by decide +kernel
theorem dX1_workSlot_13 : decode cX1_workSlot 13 = .ok (.aload_n 0, 1) := by decide +kernel
theorem dX1_workSlot_14 : decode cX1_workSlot 14 = .ok (.getfield 12, 3) := by decide +kernel
theorem dX1_workSlot_17 : decode cX1_workSlot 17 = .ok (.getfield 76, 3) := by decide +kernel
theorem dX1_workSlot_20 : decode cX1_workSlot 20 = .ok (.iload_n 1, 1) := by decide +kernel
theorem dX1_workSlot_21 : decode cX1_workSlot 21 = .ok (.iaload, 1) := by decide +kernel
theorem dX1_workSlot_22 : decode cX1_workSlot 22 = .ok (.aload_n 0, 1) := by decide +kernel
theorem dX1_workSlot_23 : decode cX1_workSlot 23 = .ok (.getfield 35, 3) := by decide +kernel
theorem dX1_workSlot_26 : decode cX1_workSlot 26 = .ok (.if_icmp .eq 26, 3) := by decide +kernel
theorem dX1_workSlot_29 : decode cX1_workSlot 29 = .ok (.aload_n 0, 1) := by decide +kernel
theorem dX1_workSlot_30 : decode cX1_workSlot 30 = .ok (.aload_n 0, 1) := by decide +kernel
theorem dX1_workSlot_31 : decode cX1_workSlot 31 = .ok (.getfield 12, 3) := by decide +kernel
theorem dX1_workSlot_34 : decode cX1_workSlot 34 = .ok (.getfield 76, 3) := by decide +kernel
theorem dX1_workSlot_37 : decode cX1_workSlot 37 = .ok (.iload_n 1, 1) := by decide +kernel
theorem dX1_workSlot_38 : decode cX1_workSlot 38 = .ok (.iaload, 1) := by decide +kernel
theorem dX1_workSlot_39 : decode cX1_workSlot 39 = .ok (.putfield 35, 3) := by decide +kernel
theorem dX1_workSlot_42 : decode cX1_workSlot 42 = .ok (.aload_n 0, 1) := by decide +kernel
theorem dX1_workSlot_43 : decode cX1_workSlot 43 = .ok (.aload_n 0, 1) := by decide +kernel
theorem dX1_workSlot_44 : decode cX1_workSlot 44 = .ok (.getfield 18, 3) := by decide +kernel
theorem dX1_workSlot_47 : decode cX1_workSlot 47 = .ok (.iconst 1, 1) := by decide +kernel
theorem dX1_workSlot_48 : decode cX1_workSlot 48 = .ok (.iaload, 1) := by decide +kernel
theorem dX1_workSlot_49 : decode cX1_workSlot 49 = .ok (.putfield 38, 3) := by decide +kernel
theorem dX1_workSlot_52 : decode cX1_workSlot 52 = .ok (.aload_n 0, 1) := by decide +kernel
theorem dX1_workSlot_53 : decode cX1_workSlot 53 = .ok (.getfield 38, 3) := by decide +kernel
theorem dX1_workSlot_56 : decode cX1_workSlot 56 = .ok (.ifCond .le 15, 3) := by decide +kernel
theorem dX1_workSlot_59 : decode cX1_workSlot 59 = .ok (.aload_n 0, 1) := by decide +kernel
theorem dX1_workSlot_60 : decode cX1_workSlot 60 = .ok (.dup, 1) := by decide +kernel
theorem dX1_workSlot_61 : decode cX1_workSlot 61 = .ok (.getfield 38, 3) := by decide +kernel
theorem dX1_workSlot_64 : decode cX1_workSlot 64 = .ok (.iconst 1, 1) := by decide +kernel
theorem dX1_workSlot_65 : decode cX1_workSlot 65 = .ok (.isub, 1) := by decide +kernel
theorem dX1_workSlot_66 : decode cX1_workSlot 66 = .ok (.putfield 38, 3) := by decide +kernel
theorem dX1_workSlot_69 : decode cX1_workSlot 69 = .ok (.iconst 0, 1) := by decide +kernel
theorem dX1_workSlot_70 : decode cX1_workSlot 70 = .ok (.ireturn, 1) := by decide +kernel
theorem dX1_workSlot_71 : decode cX1_workSlot 71 = .ok (.aload_n 0, 1) := by decide +kernel
theorem dX1_workSlot_72 : decode cX1_workSlot 72 = .ok (.getfield 12, 3) := by decide +kernel
theorem dX1_workSlot_75 : decode cX1_workSlot 75 = .ok (.getfield 78, 3) := by decide +kernel
theorem dX1_workSlot_78 : decode cX1_workSlot 78 = .ok (.iload_n 1, 1) := by decide +kernel
theorem dX1_workSlot_79 : decode cX1_workSlot 79 = .ok (.dup2, 1) := by decide +kernel
theorem dX1_workSlot_80 : decode cX1_workSlot 80 = .ok (.iaload, 1) := by decide +kernel
theorem dX1_workSlot_81 : decode cX1_workSlot 81 = .ok (.iconst 1, 1) := by decide +kernel
theorem dX1_workSlot_82 : decode cX1_workSlot 82 = .ok (.isub, 1) := by decide +kernel
theorem dX1_workSlot_83 : decode cX1_workSlot 83 = .ok (.iastore, 1) := by decide +kernel
theorem dX1_workSlot_84 : decode cX1_workSlot 84 = .ok (.aload_n 0, 1) := by decide +kernel
theorem dX1_workSlot_85 : decode cX1_workSlot 85 = .ok (.getfield 12, 3) := by decide +kernel
theorem dX1_workSlot_88 : decode cX1_workSlot 88 = .ok (.getfield 78, 3) := by decide +kernel
theorem dX1_workSlot_91 : decode cX1_workSlot 91 = .ok (.iload_n 1, 1) := by decide +kernel
theorem dX1_workSlot_92 : decode cX1_workSlot 92 = .ok (.iaload, 1) := by decide +kernel
theorem dX1_workSlot_93 : decode cX1_workSlot 93 = .ok (.ifCond .le 5, 3) := by decide +kernel
theorem dX1_workSlot_96 : decode cX1_workSlot 96 = .ok (.iconst 0, 1) := by decide +kernel
theorem dX1_workSlot_97 : decode cX1_workSlot 97 = .ok (.ireturn, 1) := by decide +kernel
theorem dX1_workSlot_98 : decode cX1_workSlot 98 = .ok (.aload_n 0, 1) := by decide +kernel
theorem dX1_workSlot_99 : decode cX1_workSlot 99 = .ok (.dup, 1) := by decide +kernel
theorem dX1_workSlot_100 : decode cX1_workSlot 100 = .ok (.getfield 41, 3) := by decide +kernel
theorem dX1_workSlot_103 : decode cX1_workSlot 103 = .ok (.aload_n 0, 1) := by decide +kernel
theorem dX1_workSlot_104 : decode cX1_workSlot 104 = .ok (.getfield 12, 3) := by decide +kernel
theorem dX1_workSlot_107 : decode cX1_workSlot 107 = .ok (.iload_n 1, 1) := by decide +kernel
theorem dX1_workSlot_108 : decode cX1_workSlot 108 = .ok (.aload_n 0, 1) := by decide +kernel
theorem dX1_workSlot_109 : decode cX1_workSlot 109 = .ok (.getfield 31, 3) := by decide +kernel
theorem dX1_workSlot_112 : decode cX1_workSlot 112 = .ok (.aload_n 0, 1) := by decide +kernel
theorem dX1_workSlot_113 : decode cX1_workSlot 113 = .ok (.getfield 18, 3) := by decide +kernel
theorem dX1_workSlot_116 : decode cX1_workSlot 116 = .ok (.iconst 2, 1) := by decide +kernel
theorem dX1_workSlot_117 : decode cX1_workSlot 117 = .ok (.iaload, 1) := by decide +kernel
theorem dX1_workSlot_118 : decode cX1_workSlot 118 = .ok (.invokevirtual 81, 3) := by decide +kernel
theorem dX1_workSlot_121 : decode cX1_workSlot 121 = .ok (.iadd, 1) := by decide +kernel
theorem dX1_workSlot_122 : decode cX1_workSlot 122 = .ok (.putfield 41, 3) := by decide +kernel
theorem dX1_workSlot_125 : decode cX1_workSlot 125 = .ok (.aload_n 0, 1) := by decide +kernel
theorem dX1_workSlot_126 : decode cX1_workSlot 126 = .ok (.iload_n 1, 1) := by decide +kernel
theorem dX1_workSlot_127 : decode cX1_workSlot 127 = .ok (.invokevirtual 85, 3) := by decide +kernel
theorem dX1_workSlot_130 : decode cX1_workSlot 130 = .ok (.iconst 1, 1) := by decide +kernel
theorem dX1_workSlot_131 : decode cX1_workSlot 131 = .ok (.ireturn, 1) := by decide +kernel
theorem dX1_copy_0 : decode cX1_copy 0 = .ok (.aload_n 0, 1) := by decide +kernel
theorem dX1_copy_1 : decode cX1_copy 1 = .ok (.getfield 12, 3) := by decide +kernel
theorem dX1_copy_4 : decode cX1_copy 4 = .ok (.aload_n 1, 1) := by decide +kernel
theorem dX1_copy_5 : decode cX1_copy 5 = .ok (.getfield 12, 3) := by decide +kernel
theorem dX1_copy_8 : decode cX1_copy 8 = .ok (.invokevirtual 50, 3) := by decide +kernel
theorem dX1_copy_11 : decode cX1_copy 11 = .ok (.aload_n 1, 1) := by decide +kernel
theorem dX1_copy_12 : decode cX1_copy 12 = .ok (.getfield 18, 3) := by decide +kernel
theorem dX1_copy_15 : decode cX1_copy 15 = .ok (.iconst 0, 1) := by decide +kernel
theorem dX1_copy_16 : decode cX1_copy 16 = .ok (.aload_n 0, 1) := by decide +kernel
theorem dX1_copy_17 : decode cX1_copy 17 = .ok (.getfield 18, 3) := by decide +kernel
theorem dX1_copy_20 : decode cX1_copy 20 = .ok (.iconst 0, 1) := by decide +kernel
theorem dX1_copy_21 : decode cX1_copy 21 = .ok (.iconst 4, 1) := by decide +kernel
theorem dX1_copy_22 : decode cX1_copy 22 = .ok (.invokestatic 88, 3) := by decide +kernel
theorem dX1_copy_25 : decode cX1_copy 25 = .ok (.aload_n 1, 1) := by decide +kernel
theorem dX1_copy_26 : decode cX1_copy 26 = .ok (.getfield 22, 3) := by decide +kernel
theorem dX1_copy_29 : decode cX1_copy 29 = .ok (.iconst 0, 1) := by decide +kernel
theorem dX1_copy_30 : decode cX1_copy 30 = .ok (.aload_n 0, 1) := by decide +kernel
theorem dX1_copy_31 : decode cX1_copy 31 = .ok (.getfield 22, 3) := by decide +kernel
theorem dX1_copy_34 : decode cX1_copy 34 = .ok (.iconst 0, 1) := by decide +kernel
theorem dX1_copy_35 : decode cX1_copy 35 = .ok (.bipush 61, 2) := by decide +kernel
theorem dX1_copy_37 : decode cX1_copy 37 = .ok (.invokestatic 88, 3) := by decide +kernel
theorem dX1_copy_40 : decode cX1_copy 40 = .ok (.aload_n 1, 1) := by decide +kernel
theorem dX1_copy_41 : decode cX1_copy 41 = .ok (.getfield 25, 3) := by decide +kernel
theorem dX1_copy_44 : decode cX1_copy 44 = .ok (.iconst 0, 1) := by decide +kernel
theorem dX1_copy_45 : decode cX1_copy 45 = .ok (.aload_n 0, 1) := by decide +kernel
theorem dX1_copy_46 : decode cX1_copy 46 = .ok (.getfield 25, 3) := by decide +kernel
theorem dX1_copy_49 : decode cX1_copy 49 = .ok (.iconst 0, 1) := by decide +kernel
theorem dX1_copy_50 : decode cX1_copy 50 = .ok (.bipush 61, 2) := by decide +kernel
theorem dX1_copy_52 : decode cX1_copy 52 = .ok (.invokestatic 88, 3) := by decide +kernel
theorem dX1_copy_55 : decode cX1_copy 55 = .ok (.aload_n 1, 1) := by decide +kernel
theorem dX1_copy_56 : decode cX1_copy 56 = .ok (.getfield 28, 3) := by decide +kernel
theorem dX1_copy_59 : decode cX1_copy 59 = .ok (.iconst 0, 1) := by decide +kernel
theorem dX1_copy_60 : decode cX1_copy 60 = .ok (.aload_n 0, 1) := by decide +kernel
theorem dX1_copy_61 : decode cX1_copy 61 = .ok (.getfield 28, 3) := by decide +kernel
theorem dX1_copy_64 : decode cX1_copy 64 = .ok (.iconst 0, 1) := by decide +kernel
theorem dX1_copy_65 : decode cX1_copy 65 = .ok (.bipush 6, 2) := by decide +kernel
theorem dX1_copy_67 : decode cX1_copy 67 = .ok (.invokestatic 88, 3) := by decide +kernel
theorem dX1_copy_70 : decode cX1_copy 70 = .ok (.aload_n 0, 1) := by decide +kernel
theorem dX1_copy_71 : decode cX1_copy 71 = .ok (.aload_n 1, 1) := by decide +kernel
theorem dX1_copy_72 : decode cX1_copy 72 = .ok (.getfield 31, 3) := by decide +kernel
theorem dX1_copy_75 : decode cX1_copy 75 = .ok (.putfield 31, 3) := by decide +kernel
theorem dX1_copy_78 : decode cX1_copy 78 = .ok (.aload_n 0, 1) := by decide +kernel
theorem dX1_copy_79 : decode cX1_copy 79 = .ok (.aload_n 1, 1) := by decide +kernel
theorem dX1_copy_80 : decode cX1_copy 80 = .ok (.getfield 35, 3) := by decide +kernel
theorem dX1_copy_83 : decode cX1_copy 83 = .ok (.putfield 35, 3) := by decide +kernel
theorem dX1_copy_86 : decode cX1_copy 86 = .ok (.aload_n 0, 1) := by decide +kernel
theorem dX1_copy_87 : decode cX1_copy 87 = .ok (.aload_n 1, 1) := by decide +kernel
theorem dX1_copy_88 : decode cX1_copy 88 = .ok (.getfield 38, 3) := by decide +kernel
theorem dX1_copy_91 : decode cX1_copy 91 = .ok (.putfield 38, 3) := by decide +kernel
theorem dX1_copy_94 : decode cX1_copy 94 = .ok (.aload_n 0, 1) := by decide +kernel
theorem dX1_copy_95 : decode cX1_copy 95 = .ok (.aload_n 1, 1) := by decide +kernel
theorem dX1_copy_96 : decode cX1_copy 96 = .ok (.getfield 41, 3) := by decide +kernel
theorem dX1_copy_99 : decode cX1_copy 99 = .ok (.putfield 41, 3) := by decide +kernel
theorem dX1_copy_102 : decode cX1_copy 102 = .ok (.return_, 1) := by decide +kernel
theorem dX2_init_0 : decode cX2_init 0 = .ok (.aload_n 0, 1) := by decide +kernel
theorem dX2_init_1 : decode cX2_init 1 = .ok (.invokespecial 3, 3) := by decide +kernel
theorem dX2_init_4 : decode cX2_init 4 = .ok (.aload_n 0, 1) := by decide +kernel
theorem dX2_init_5 : decode cX2_init 5 = .ok (.sipush 128, 3) := by decide +kernel
theorem dX2_init_8 : decode cX2_init 8 = .ok (.newarray .int, 2) := by decide +kernel
theorem dX2_init_10 : decode cX2_init 10 = .ok (.putfield 11, 3) := by decide +kernel
theorem dX2_init_13 : decode cX2_init 13 = .ok (.aload_n 0, 1) := by decide +kernel
theorem dX2_init_14 : decode cX2_init 14 = .ok (.sipush 128, 3) := by decide +kernel
theorem dX2_init_17 : decode cX2_init 17 = .ok (.newarray .int, 2) := by decide +kernel
theorem dX2_init_19 : decode cX2_init 19 = .ok (.putfield 15, 3) := by decide +kernel
theorem dX2_init_22 : decode cX2_init 22 = .ok (.aload_n 0, 1) := by decide +kernel
theorem dX2_init_23 : decode cX2_init 23 = .ok (.bipush 7, 2) := by decide +kernel
theorem dX2_init_25 : decode cX2_init 25 = .ok (.newarray .int, 2) := by decide +kernel
theorem dX2_init_27 : decode cX2_init 27 = .ok (.putfield 18, 3) := by decide +kernel
theorem dX2_init_30 : decode cX2_init 30 = .ok (.aload_n 0, 1) := by decide +kernel
theorem dX2_init_31 : decode cX2_init 31 = .ok (.bipush 6, 2) := by decide +kernel
theorem dX2_init_33 : decode cX2_init 33 = .ok (.newarray .int, 2) := by decide +kernel
theorem dX2_init_35 : decode cX2_init 35 = .ok (.putfield 21, 3) := by decide +kernel
theorem dX2_init_38 : decode cX2_init 38 = .ok (.aload_n 0, 1) := by decide +kernel
theorem dX2_init_39 : decode cX2_init 39 = .ok (.bipush 6, 2) := by decide +kernel
theorem dX2_init_41 : decode cX2_init 41 = .ok (.newarray .int, 2) := by decide +kernel
theorem dX2_init_43 : decode cX2_init 43 = .ok (.putfield 24, 3) := by decide +kernel
theorem dX2_init_46 : decode cX2_init 46 = .ok (.aload_n 0, 1) := by decide +kernel
theorem dX2_init_47 : decode cX2_init 47 = .ok (.iconst 0, 1) := by decide +kernel
theorem dX2_init_48 : decode cX2_init 48 = .ok (.putfield 27, 3) := by decide +kernel
theorem dX2_init_51 : decode cX2_init 51 = .ok (.aload_n 0, 1) := by decide +kernel
theorem dX2_init_52 : decode cX2_init 52 = .ok (.iconst 0, 1) := by decide +kernel
theorem dX2_init_53 : decode cX2_init 53 = .ok (.putfield 31, 3) := by decide +kernel
theorem dX2_init_56 : decode cX2_init 56 = .ok (.aload_n 0, 1) := by decide +kernel
theorem dX2_init_57 : decode cX2_init 57 = .ok (.iconst 0, 1) := by decide +kernel
theorem dX2_init_58 : decode cX2_init 58 = .ok (.putfield 35, 3) := by decide +kernel
theorem dX2_init_61 : decode cX2_init 61 = .ok (.aload_n 0, 1) := by decide +kernel
theorem dX2_init_62 : decode cX2_init 62 = .ok (.aload_n 1, 1) := by decide +kernel
theorem dX2_init_63 : decode cX2_init 63 = .ok (.putfield 38, 3) := by decide +kernel
theorem dX2_init_66 : decode cX2_init 66 = .ok (.return_, 1) := by decide +kernel
theorem dX2_sureOf_0 : decode cX2_sureOf 0 = .ok (.aload_n 0, 1) := by decide +kernel
theorem dX2_sureOf_1 : decode cX2_sureOf 1 = .ok (.iconst 0, 1) := by decide +kernel
theorem dX2_sureOf_2 : decode cX2_sureOf 2 = .ok (.invokevirtual 42, 3) := by decide +kernel
theorem dX2_sureOf_5 : decode cX2_sureOf 5 = .ok (.iconst 1, 1) := by decide +kernel
theorem dX2_sureOf_6 : decode cX2_sureOf 6 = .ok (.istore_n 3, 1) := by decide +kernel
theorem dX2_sureOf_7 : decode cX2_sureOf 7 = .ok (.iconst 0, 1) := by decide +kernel
theorem dX2_sureOf_8 : decode cX2_sureOf 8 = .ok (.istore 4, 2) := by decide +kernel
theorem dX2_sureOf_10 : decode cX2_sureOf 10 = .ok (.iload 4, 2) := by decide +kernel
theorem dX2_sureOf_12 : decode cX2_sureOf 12 = .ok (.aload_n 1, 1) := by decide +kernel
theorem dX2_sureOf_13 : decode cX2_sureOf 13 = .ok (.getfield 46, 3) := by decide +kernel
theorem dX2_sureOf_16 : decode cX2_sureOf 16 = .ok (.if_icmp .ge 41, 3) := by decide +kernel
theorem dX2_sureOf_19 : decode cX2_sureOf 19 = .ok (.aload_n 0, 1) := by decide +kernel
theorem dX2_sureOf_20 : decode cX2_sureOf 20 = .ok (.aload_n 1, 1) := by decide +kernel
theorem dX2_sureOf_21 : decode cX2_sureOf 21 = .ok (.iload 4, 2) := by decide +kernel
theorem dX2_sureOf_23 : decode cX2_sureOf 23 = .ok (.iload 4, 2) := by decide +kernel
theorem dX2_sureOf_25 : decode cX2_sureOf 25 = .ok (.ifCond .ne 7, 3) := by decide +kernel
theorem dX2_sureOf_28 : decode cX2_sureOf 28 = .ok (.iconst 0, 1) := by decide +kernel
theorem dX2_sureOf_29 : decode cX2_sureOf 29 = .ok (.goto 14, 3) := by decide +kernel
theorem dX2_sureOf_32 : decode cX2_sureOf 32 = .ok (.aload_n 1, 1) := by decide +kernel
theorem dX2_sureOf_33 : decode cX2_sureOf 33 = .ok (.getfield 51, 3) := by decide +kernel
theorem dX2_sureOf_36 : decode cX2_sureOf 36 = .ok (.aload_n 2, 1) := by decide +kernel
theorem dX2_sureOf_37 : decode cX2_sureOf 37 = .ok (.iload 4, 2) := by decide +kernel
theorem dX2_sureOf_39 : decode cX2_sureOf 39 = .ok (.iconst 1, 1) := by decide +kernel
theorem dX2_sureOf_40 : decode cX2_sureOf 40 = .ok (.isub, 1) := by decide +kernel
theorem dX2_sureOf_41 : decode cX2_sureOf 41 = .ok (.iaload, 1) := by decide +kernel
theorem dX2_sureOf_42 : decode cX2_sureOf 42 = .ok (.iaload, 1) := by decide +kernel
theorem dX2_sureOf_43 : decode cX2_sureOf 43 = .ok (.aload_n 2, 1) := by decide +kernel
theorem dX2_sureOf_44 : decode cX2_sureOf 44 = .ok (.iload 4, 2) := by decide +kernel
theorem dX2_sureOf_46 : decode cX2_sureOf 46 = .ok (.iaload, 1) := by decide +kernel
theorem dX2_sureOf_47 : decode cX2_sureOf 47 = .ok (.invokevirtual 54, 3) := by decide +kernel
theorem dX2_sureOf_50 : decode cX2_sureOf 50 = .ok (.istore_n 3, 1) := by decide +kernel
theorem dX2_sureOf_51 : decode cX2_sureOf 51 = .ok (.iinc 4 1, 3) := by decide +kernel
theorem dX2_sureOf_54 : decode cX2_sureOf 54 = .ok (.goto (-44), 3) := by decide +kernel
theorem dX2_sureOf_57 : decode cX2_sureOf 57 = .ok (.iload_n 3, 1) := by decide +kernel
theorem dX2_sureOf_58 : decode cX2_sureOf 58 = .ok (.ireturn, 1) := by decide +kernel
theorem dX2_meanOf_0 : decode cX2_meanOf 0 = .ok (.aload_n 0, 1) := by decide +kernel
theorem dX2_meanOf_1 : decode cX2_meanOf 1 = .ok (.iconst 1, 1) := by decide +kernel
theorem dX2_meanOf_2 : decode cX2_meanOf 2 = .ok (.invokevirtual 42, 3) := by decide +kernel
theorem dX2_meanOf_5 : decode cX2_meanOf 5 = .ok (.iconst 0, 1) := by decide +kernel
theorem dX2_meanOf_6 : decode cX2_meanOf 6 = .ok (.istore_n 3, 1) := by decide +kernel
theorem dX2_meanOf_7 : decode cX2_meanOf 7 = .ok (.iconst 0, 1) := by decide +kernel
theorem dX2_meanOf_8 : decode cX2_meanOf 8 = .ok (.istore 4, 2) := by decide +kernel
theorem dX2_meanOf_10 : decode cX2_meanOf 10 = .ok (.iload 4, 2) := by decide +kernel
theorem dX2_meanOf_12 : decode cX2_meanOf 12 = .ok (.aload_n 1, 1) := by decide +kernel
theorem dX2_meanOf_13 : decode cX2_meanOf 13 = .ok (.getfield 46, 3) := by decide +kernel
theorem dX2_meanOf_16 : decode cX2_meanOf 16 = .ok (.if_icmp .ge 50, 3) := by decide +kernel
theorem dX2_meanOf_19 : decode cX2_meanOf 19 = .ok (.aload_n 0, 1) := by decide +kernel
theorem dX2_meanOf_20 : decode cX2_meanOf 20 = .ok (.aload_n 1, 1) := by decide +kernel
theorem dX2_meanOf_21 : decode cX2_meanOf 21 = .ok (.iload 4, 2) := by decide +kernel
theorem dX2_meanOf_23 : decode cX2_meanOf 23 = .ok (.iload 4, 2) := by decide +kernel
theorem dX2_meanOf_25 : decode cX2_meanOf 25 = .ok (.ifCond .ne 7, 3) := by decide +kernel
theorem dX2_meanOf_28 : decode cX2_meanOf 28 = .ok (.iconst 0, 1) := by decide +kernel
theorem dX2_meanOf_29 : decode cX2_meanOf 29 = .ok (.goto 14, 3) := by decide +kernel
theorem dX2_meanOf_32 : decode cX2_meanOf 32 = .ok (.aload_n 1, 1) := by decide +kernel
theorem dX2_meanOf_33 : decode cX2_meanOf 33 = .ok (.getfield 51, 3) := by decide +kernel
theorem dX2_meanOf_36 : decode cX2_meanOf 36 = .ok (.aload_n 2, 1) := by decide +kernel
theorem dX2_meanOf_37 : decode cX2_meanOf 37 = .ok (.iload 4, 2) := by decide +kernel
theorem dX2_meanOf_39 : decode cX2_meanOf 39 = .ok (.iconst 1, 1) := by decide +kernel
theorem dX2_meanOf_40 : decode cX2_meanOf 40 = .ok (.isub, 1) := by decide +kernel
theorem dX2_meanOf_41 : decode cX2_meanOf 41 = .ok (.iaload, 1) := by decide +kernel
theorem dX2_meanOf_42 : decode cX2_meanOf 42 = .ok (.iaload, 1) := by decide +kernel
theorem dX2_meanOf_43 : decode cX2_meanOf 43 = .ok (.aload_n 2, 1) := by decide +kernel
theorem dX2_meanOf_44 : decode cX2_meanOf 44 = .ok (.iload 4, 2) := by decide +kernel
theorem dX2_meanOf_46 : decode cX2_meanOf 46 = .ok (.iaload, 1) := by decide +kernel
theorem dX2_meanOf_47 : decode cX2_meanOf 47 = .ok (.invokevirtual 54, 3) := by decide +kernel
theorem dX2_meanOf_50 : decode cX2_meanOf 50 = .ok (.pop, 1) := by decide +kernel
theorem dX2_meanOf_51 : decode cX2_meanOf 51 = .ok (.iload_n 3, 1) := by decide +kernel
theorem dX2_meanOf_52 : decode cX2_meanOf 52 = .ok (.iconst 4, 1) := by decide +kernel
theorem dX2_meanOf_53 : decode cX2_meanOf 53 = .ok (.imul, 1) := by decide +kernel
theorem dX2_meanOf_54 : decode cX2_meanOf 54 = .ok (.aload_n 0, 1) := by decide +kernel
theorem dX2_meanOf_55 : decode cX2_meanOf 55 = .ok (.getfield 31, 3) := by decide +kernel
theorem dX2_meanOf_58 : decode cX2_meanOf 58 = .ok (.iadd, 1) := by decide +kernel
theorem dX2_meanOf_59 : decode cX2_meanOf 59 = .ok (.istore_n 3, 1) := by decide +kernel
theorem dX2_meanOf_60 : decode cX2_meanOf 60 = .ok (.iinc 4 1, 3) := by decide +kernel
theorem dX2_meanOf_63 : decode cX2_meanOf 63 = .ok (.goto (-53), 3) := by decide +kernel
theorem dX2_meanOf_66 : decode cX2_meanOf 66 = .ok (.iload_n 3, 1) := by decide +kernel
theorem dX2_meanOf_67 : decode cX2_meanOf 67 = .ok (.ireturn, 1) := by decide +kernel
theorem dX2_surest_0 : decode cX2_surest 0 = .ok (.aload_n 0, 1) := by decide +kernel
theorem dX2_surest_1 : decode cX2_surest 1 = .ok (.iconst 0, 1) := by decide +kernel
theorem dX2_surest_2 : decode cX2_surest 2 = .ok (.invokevirtual 42, 3) := by decide +kernel
theorem dX2_surest_5 : decode cX2_surest 5 = .ok (.aload_n 0, 1) := by decide +kernel
theorem dX2_surest_6 : decode cX2_surest 6 = .ok (.iconst (-1), 1) := by decide +kernel
theorem dX2_surest_7 : decode cX2_surest 7 = .ok (.putfield 35, 3) := by decide +kernel
theorem dX2_surest_10 : decode cX2_surest 10 = .ok (.aload_n 0, 1) := by decide +kernel
theorem dX2_surest_11 : decode cX2_surest 11 = .ok (.aload_n 1, 1) := by decide +kernel
theorem dX2_surest_12 : decode cX2_surest 12 = .ok (.iconst 0, 1) := by decide +kernel
theorem dX2_surest_13 : decode cX2_surest 13 = .ok (.iconst 0, 1) := by decide +kernel
theorem dX2_surest_14 : decode cX2_surest 14 = .ok (.iconst 0, 1) := by decide +kernel
theorem dX2_surest_15 : decode cX2_surest 15 = .ok (.iconst 1, 1) := by decide +kernel
theorem dX2_surest_16 : decode cX2_surest 16 = .ok (.invokevirtual 58, 3) := by decide +kernel
theorem dX2_surest_19 : decode cX2_surest 19 = .ok (.aload_n 0, 1) := by decide +kernel
theorem dX2_surest_20 : decode cX2_surest 20 = .ok (.getfield 35, 3) := by decide +kernel
theorem dX2_surest_23 : decode cX2_surest 23 = .ok (.ireturn, 1) := by decide +kernel
theorem dX2_begin_0 : decode cX2_begin 0 = .ok (.aload_n 0, 1) := by decide +kernel
theorem dX2_begin_1 : decode cX2_begin 1 = .ok (.iload_n 1, 1) := by decide +kernel
theorem dX2_begin_2 : decode cX2_begin 2 = .ok (.putfield 27, 3) := by decide +kernel
theorem dX2_begin_5 : decode cX2_begin 5 = .ok (.aload_n 0, 1) := by decide +kernel
theorem dX2_begin_6 : decode cX2_begin 6 = .ok (.getfield 11, 3) := by decide +kernel
theorem dX2_begin_9 : decode cX2_begin 9 = .ok (.iconst 1, 1) := by decide +kernel
theorem dX2_begin_10 : decode cX2_begin 10 = .ok (.iconst 0, 1) := by decide +kernel
theorem dX2_begin_11 : decode cX2_begin 11 = .ok (.iastore, 1) := by decide +kernel
theorem dX2_begin_12 : decode cX2_begin 12 = .ok (.aload_n 0, 1) := by decide +kernel
theorem dX2_begin_13 : decode cX2_begin 13 = .ok (.getfield 15, 3) := by decide +kernel
theorem dX2_begin_16 : decode cX2_begin 16 = .ok (.iconst 1, 1) := by decide +kernel
theorem dX2_begin_17 : decode cX2_begin 17 = .ok (.iconst 1, 1) := by decide +kernel
theorem dX2_begin_18 : decode cX2_begin 18 = .ok (.iastore, 1) := by decide +kernel
theorem dX2_begin_19 : decode cX2_begin 19 = .ok (.aload_n 0, 1) := by decide +kernel
theorem dX2_begin_20 : decode cX2_begin 20 = .ok (.getfield 18, 3) := by decide +kernel
theorem dX2_begin_23 : decode cX2_begin 23 = .ok (.iconst 0, 1) := by decide +kernel
theorem dX2_begin_24 : decode cX2_begin 24 = .ok (.iconst 1, 1) := by decide +kernel
theorem dX2_begin_25 : decode cX2_begin 25 = .ok (.iastore, 1) := by decide +kernel
theorem dX2_begin_26 : decode cX2_begin 26 = .ok (.return_, 1) := by decide +kernel
theorem dX2_walk_0 : decode cX2_walk 0 = .ok (.iload 5, 2) := by decide +kernel
theorem dX2_walk_2 : decode cX2_walk 2 = .ok (.iconst 2, 1) := by decide +kernel
theorem dX2_walk_3 : decode cX2_walk 3 = .ok (.aload_n 1, 1) := by decide +kernel
theorem dX2_walk_4 : decode cX2_walk 4 = .ok (.getfield 46, 3) := by decide +kernel
theorem dX2_walk_7 : decode cX2_walk 7 = .ok (.iload_n 2, 1) := by decide +kernel
theorem dX2_walk_8 : decode cX2_walk 8 = .ok (.isub, 1) := by decide +kernel
theorem dX2_walk_9 : decode cX2_walk 9 = .ok (.imul, 1) := by decide +kernel
theorem dX2_walk_10 : decode cX2_walk 10 = .ok (.ishl, 1) := by decide +kernel
theorem dX2_walk_11 : decode cX2_walk 11 = .ok (.aload_n 0, 1) := by decide +kernel
theorem dX2_walk_12 : decode cX2_walk 12 = .ok (.getfield 35, 3) := by decide +kernel
theorem dX2_walk_15 : decode cX2_walk 15 = .ok (.if_icmp .gt 4, 3) := by decide +kernel
theorem dX2_walk_18 : decode cX2_walk 18 = .ok (.return_, 1) := by decide +kernel
theorem dX2_walk_19 : decode cX2_walk 19 = .ok (.iload_n 2, 1) := by decide +kernel
theorem dX2_walk_20 : decode cX2_walk 20 = .ok (.aload_n 1, 1) := by decide +kernel
theorem dX2_walk_21 : decode cX2_walk 21 = .ok (.getfield 46, 3) := by decide +kernel
theorem dX2_walk_24 : decode cX2_walk 24 = .ok (.if_icmp .lt 25, 3) := by decide +kernel
theorem dX2_walk_27 : decode cX2_walk 27 = .ok (.aload_n 0, 1) := by decide +kernel
theorem dX2_walk_28 : decode cX2_walk 28 = .ok (.iload 5, 2) := by decide +kernel
theorem dX2_walk_30 : decode cX2_walk 30 = .ok (.putfield 35, 3) := by decide +kernel
theorem dX2_walk_33 : decode cX2_walk 33 = .ok (.aload_n 0, 1) := by decide +kernel
theorem dX2_walk_34 : decode cX2_walk 34 = .ok (.getfield 21, 3) := by decide +kernel
theorem dX2_walk_37 : decode cX2_walk 37 = .ok (.iconst 0, 1) := by decide +kernel
theorem dX2_walk_38 : decode cX2_walk 38 = .ok (.aload_n 0, 1) := by decide +kernel
theorem dX2_walk_39 : decode cX2_walk 39 = .ok (.getfield 24, 3) := by decide +kernel
theorem dX2_walk_42 : decode cX2_walk 42 = .ok (.iconst 0, 1) := by decide +kernel
theorem dX2_walk_43 : decode cX2_walk 43 = .ok (.bipush 6, 2) := by decide +kernel
theorem dX2_walk_45 : decode cX2_walk 45 = .ok (.invokestatic 62, 3) := by decide +kernel
theorem dX2_walk_48 : decode cX2_walk 48 = .ok (.return_, 1) := by decide +kernel
theorem dX2_walk_49 : decode cX2_walk 49 = .ok (.iconst 0, 1) := by decide +kernel
theorem dX2_walk_50 : decode cX2_walk 50 = .ok (.istore 6, 2) := by decide +kernel
theorem dX2_walk_52 : decode cX2_walk 52 = .ok (.iload 6, 2) := by decide +kernel
theorem dX2_walk_54 : decode cX2_walk 54 = .ok (.aload_n 1, 1) := by decide +kernel
theorem dX2_walk_55 : decode cX2_walk 55 = .ok (.getfield 46, 3) := by decide +kernel
theorem dX2_walk_58 : decode cX2_walk 58 = .ok (.if_icmp .ge 61, 3) := by decide +kernel
theorem dX2_walk_61 : decode cX2_walk 61 = .ok (.iload 4, 2) := by decide +kernel
theorem dX2_walk_63 : decode cX2_walk 63 = .ok (.iload 6, 2) := by decide +kernel
theorem dX2_walk_65 : decode cX2_walk 65 = .ok (.ishr, 1) := by decide +kernel
theorem dX2_walk_66 : decode cX2_walk 66 = .ok (.iconst 1, 1) := by decide +kernel
theorem dX2_walk_67 : decode cX2_walk 67 = .ok (.iand, 1) := by decide +kernel
theorem dX2_walk_68 : decode cX2_walk 68 = .ok (.ifCond .eq 6, 3) := by decide +kernel
theorem dX2_walk_71 : decode cX2_walk 71 = .ok (.goto 42, 3) := by decide +kernel
theorem dX2_walk_74 : decode cX2_walk 74 = .ok (.aload_n 0, 1) := by decide +kernel
theorem dX2_walk_75 : decode cX2_walk 75 = .ok (.getfield 21, 3) := by decide +kernel
theorem dX2_walk_78 : decode cX2_walk 78 = .ok (.iload_n 2, 1) := by decide +kernel
theorem dX2_walk_79 : decode cX2_walk 79 = .ok (.iload 6, 2) := by decide +kernel
theorem dX2_walk_81 : decode cX2_walk 81 = .ok (.iastore, 1) := by decide +kernel
theorem dX2_walk_82 : decode cX2_walk 82 = .ok (.aload_n 0, 1) := by decide +kernel
theorem dX2_walk_83 : decode cX2_walk 83 = .ok (.aload_n 1, 1) := by decide +kernel
theorem dX2_walk_84 : decode cX2_walk 84 = .ok (.iload_n 2, 1) := by decide +kernel
theorem dX2_walk_85 : decode cX2_walk 85 = .ok (.iconst 1, 1) := by decide +kernel
theorem dX2_walk_86 : decode cX2_walk 86 = .ok (.iadd, 1) := by decide +kernel
theorem dX2_walk_87 : decode cX2_walk 87 = .ok (.aload_n 1, 1) := by decide +kernel
theorem dX2_walk_88 : decode cX2_walk 88 = .ok (.getfield 51, 3) := by decide +kernel
theorem dX2_walk_91 : decode cX2_walk 91 = .ok (.iload 6, 2) := by decide +kernel
theorem dX2_walk_93 : decode cX2_walk 93 = .ok (.iaload, 1) := by decide +kernel
theorem dX2_walk_94 : decode cX2_walk 94 = .ok (.iload 4, 2) := by decide +kernel
theorem dX2_walk_96 : decode cX2_walk 96 = .ok (.iconst 1, 1) := by decide +kernel
theorem dX2_walk_97 : decode cX2_walk 97 = .ok (.iload 6, 2) := by decide +kernel
theorem dX2_walk_99 : decode cX2_walk 99 = .ok (.ishl, 1) := by decide +kernel
theorem dX2_walk_100 : decode cX2_walk 100 = .ok (.ior, 1) := by decide +kernel
theorem dX2_walk_101 : decode cX2_walk 101 = .ok (.aload_n 0, 1) := by decide +kernel
theorem dX2_walk_102 : decode cX2_walk 102 = .ok (.aload_n 1, 1) := by decide +kernel
theorem dX2_walk_103 : decode cX2_walk 103 = .ok (.iload_n 2, 1) := by decide +kernel
theorem dX2_walk_104 : decode cX2_walk 104 = .ok (.iload_n 3, 1) := by decide +kernel
theorem dX2_walk_105 : decode cX2_walk 105 = .ok (.iload 6, 2) := by decide +kernel
theorem dX2_walk_107 : decode cX2_walk 107 = .ok (.invokevirtual 54, 3) := by decide +kernel
theorem dX2_walk_110 : decode cX2_walk 110 = .ok (.invokevirtual 58, 3) := by decide +kernel
theorem dX2_walk_113 : decode cX2_walk 113 = .ok (.iinc 6 1, 3) := by decide +kernel
theorem dX2_walk_116 : decode cX2_walk 116 = .ok (.goto (-64), 3) := by decide +kernel
theorem dX2_walk_119 : decode cX2_walk 119 = .ok (.return_, 1) := by decide +kernel
theorem dX2_spread_0 : decode cX2_spread 0 = .ok (.iconst 1, 1) := by decide +kernel
theorem dX2_spread_1 : decode cX2_spread 1 = .ok (.iload_n 2, 1) := by decide +kernel
theorem dX2_spread_2 : decode cX2_spread 2 = .ok (.ishl, 1) := by decide +kernel
theorem dX2_spread_3 : decode cX2_spread 3 = .ok (.istore 5, 2) := by decide +kernel
theorem dX2_spread_5 : decode cX2_spread 5 = .ok (.iload 5, 2) := by decide +kernel
theorem dX2_spread_7 : decode cX2_spread 7 = .ok (.iconst 2, 1) := by decide +kernel
theorem dX2_spread_8 : decode cX2_spread 8 = .ok (.imul, 1) := by decide +kernel
theorem dX2_spread_9 : decode cX2_spread 9 = .ok (.istore 6, 2) := by decide +kernel
theorem dX2_spread_11 : decode cX2_spread 11 = .ok (.iconst 0, 1) := by decide +kernel
theorem dX2_spread_12 : decode cX2_spread 12 = .ok (.istore 7, 2) := by decide +kernel
theorem dX2_spread_14 : decode cX2_spread 14 = .ok (.iconst 0, 1) := by decide +kernel
theorem dX2_spread_15 : decode cX2_spread 15 = .ok (.istore 8, 2) := by decide +kernel
theorem dX2_spread_17 : decode cX2_spread 17 = .ok (.aload_n 0, 1) := by decide +kernel
theorem dX2_spread_18 : decode cX2_spread 18 = .ok (.iconst 0, 1) := by decide +kernel
theorem dX2_spread_19 : decode cX2_spread 19 = .ok (.putfield 31, 3) := by decide +kernel
theorem dX2_spread_22 : decode cX2_spread 22 = .ok (.iconst 0, 1) := by decide +kernel
theorem dX2_spread_23 : decode cX2_spread 23 = .ok (.istore 9, 2) := by decide +kernel
theorem dX2_spread_25 : decode cX2_spread 25 = .ok (.iload 9, 2) := by decide +kernel
theorem dX2_spread_27 : decode cX2_spread 27 = .ok (.aload_n 0, 1) := by decide +kernel
theorem dX2_spread_28 : decode cX2_spread 28 = .ok (.getfield 18, 3) := by decide +kernel
theorem dX2_spread_31 : decode cX2_spread 31 = .ok (.iload_n 2, 1) := by decide +kernel
theorem dX2_spread_32 : decode cX2_spread 32 = .ok (.iaload, 1) := by decide +kernel
theorem dX2_spread_33 : decode cX2_spread 33 = .ok (.if_icmp .ge 192, 3) := by decide +kernel
theorem dX2_spread_36 : decode cX2_spread 36 = .ok (.aload_n 0, 1) := by decide +kernel
theorem dX2_spread_37 : decode cX2_spread 37 = .ok (.getfield 38, 3) := by decide +kernel
theorem dX2_spread_40 : decode cX2_spread 40 = .ok (.aload_n 0, 1) := by decide +kernel
theorem dX2_spread_41 : decode cX2_spread 41 = .ok (.getfield 11, 3) := by decide +kernel
theorem dX2_spread_44 : decode cX2_spread 44 = .ok (.iload 5, 2) := by decide +kernel
theorem dX2_spread_46 : decode cX2_spread 46 = .ok (.iload 9, 2) := by decide +kernel
theorem dX2_spread_48 : decode cX2_spread 48 = .ok (.iadd, 1) := by decide +kernel
theorem dX2_spread_49 : decode cX2_spread 49 = .ok (.iaload, 1) := by decide +kernel
theorem dX2_spread_50 : decode cX2_spread 50 = .ok (.iload_n 3, 1) := by decide +kernel
theorem dX2_spread_51 : decode cX2_spread 51 = .ok (.aload_n 1, 1) := by decide +kernel
theorem dX2_spread_52 : decode cX2_spread 52 = .ok (.iload 4, 2) := by decide +kernel
theorem dX2_spread_54 : decode cX2_spread 54 = .ok (.invokevirtual 68, 3) := by decide +kernel
theorem dX2_spread_57 : decode cX2_spread 57 = .ok (.istore 10, 2) := by decide +kernel
theorem dX2_spread_59 : decode cX2_spread 59 = .ok (.iconst 0, 1) := by decide +kernel
theorem dX2_spread_60 : decode cX2_spread 60 = .ok (.istore 11, 2) := by decide +kernel
theorem dX2_spread_62 : decode cX2_spread 62 = .ok (.iload 11, 2) := by decide +kernel
theorem dX2_spread_64 : decode cX2_spread 64 = .ok (.iconst 2, 1) := by decide +kernel
theorem dX2_spread_65 : decode cX2_spread 65 = .ok (.if_icmp .ge 154, 3) := by decide +kernel
theorem dX2_spread_68 : decode cX2_spread 68 = .ok (.aload_n 0, 1) := by decide +kernel
theorem dX2_spread_69 : decode cX2_spread 69 = .ok (.getfield 15, 3) := by decide +kernel
theorem dX2_spread_72 : decode cX2_spread 72 = .ok (.iload 5, 2) := by decide +kernel
theorem dX2_spread_74 : decode cX2_spread 74 = .ok (.iload 9, 2) := by decide +kernel
theorem dX2_spread_76 : decode cX2_spread 76 = .ok (.iadd, 1) := by decide +kernel
theorem dX2_spread_77 : decode cX2_spread 77 = .ok (.iaload, 1) := by decide +kernel
theorem dX2_spread_78 : decode cX2_spread 78 = .ok (.iload 11, 2) := by decide +kernel
theorem dX2_spread_80 : decode cX2_spread 80 = .ok (.ifCond .ne 15, 3) := by decide +kernel
theorem dX2_spread_83 : decode cX2_spread 83 = .ok (.iconst 4, 1) := by decide +kernel
theorem dX2_spread_84 : decode cX2_spread 84 = .ok (.aload_n 0, 1) := by decide +kernel
theorem dX2_spread_85 : decode cX2_spread 85 = .ok (.getfield 38, 3) := by decide +kernel
theorem dX2_spread_88 : decode cX2_spread 88 = .ok (.getfield 74, 3) := by decide +kernel
theorem dX2_spread_91 : decode cX2_spread 91 = .ok (.isub, 1) := by decide +kernel
theorem dX2_spread_92 : decode cX2_spread 92 = .ok (.goto 10, 3) := by decide +kernel
theorem dX2_spread_95 : decode cX2_spread 95 = .ok (.aload_n 0, 1) := by decide +kernel
theorem dX2_spread_96 : decode cX2_spread 96 = .ok (.getfield 38, 3) := by decide +kernel
theorem dX2_spread_99 : decode cX2_spread 99 = .ok (.getfield 74, 3) := by decide +kernel
theorem dX2_spread_102 : decode cX2_spread 102 = .ok (.imul, 1) := by decide +kernel
theorem dX2_spread_103 : decode cX2_spread 103 = .ok (.istore 12, 2) := by decide +kernel
theorem dX2_spread_105 : decode cX2_spread 105 = .ok (.aload_n 0, 1) := by decide +kernel
theorem dX2_spread_106 : decode cX2_spread 106 = .ok (.getfield 38, 3) := by decide +kernel
theorem dX2_spread_109 : decode cX2_spread 109 = .ok (.iload 10, 2) := by decide +kernel
theorem dX2_spread_111 : decode cX2_spread 111 = .ok (.invokevirtual 77, 3) := by decide +kernel
theorem dX2_spread_114 : decode cX2_spread 114 = .ok (.istore 13, 2) := by decide +kernel
theorem dX2_spread_116 : decode cX2_spread 116 = .ok (.iload 12, 2) := by decide +kernel
theorem dX2_spread_118 : decode cX2_spread 118 = .ok (.ifCond .le 83, 3) := by decide +kernel
theorem dX2_spread_121 : decode cX2_spread 121 = .ok (.aload_n 0, 1) := by decide +kernel
theorem dX2_spread_122 : decode cX2_spread 122 = .ok (.getfield 27, 3) := by decide +kernel
theorem dX2_spread_125 : decode cX2_spread 125 = .ok (.ifCond .ne 15, 3) := by decide +kernel
theorem dX2_spread_128 : decode cX2_spread 128 = .ok (.iload 13, 2) := by decide +kernel
theorem dX2_spread_130 : decode cX2_spread 130 = .ok (.aload_n 1, 1) := by decide +kernel
theorem dX2_spread_131 : decode cX2_spread 131 = .ok (.getfield 81, 3) := by decide +kernel
theorem dX2_spread_134 : decode cX2_spread 134 = .ok (.iload 4, 2) := by decide +kernel
theorem dX2_spread_136 : decode cX2_spread 136 = .ok (.iaload, 1) := by decide +kernel
theorem dX2_spread_137 : decode cX2_spread 137 = .ok (.if_icmp .gt 64, 3) := by decide +kernel
theorem dX2_spread_140 : decode cX2_spread 140 = .ok (.aload_n 0, 1) := by decide +kernel
theorem dX2_spread_141 : decode cX2_spread 141 = .ok (.getfield 11, 3) := by decide +kernel
theorem dX2_spread_144 : decode cX2_spread 144 = .ok (.iload 6, 2) := by decide +kernel
theorem dX2_spread_146 : decode cX2_spread 146 = .ok (.iload 7, 2) := by decide +kernel
theorem dX2_spread_148 : decode cX2_spread 148 = .ok (.iadd, 1) := by decide +kernel
theorem dX2_spread_149 : decode cX2_spread 149 = .ok (.iload 10, 2) := by decide +kernel
theorem dX2_spread_151 : decode cX2_spread 151 = .ok (.iastore, 1) := by decide +kernel
theorem dX2_spread_152 : decode cX2_spread 152 = .ok (.aload_n 0, 1) := by decide +kernel
theorem dX2_spread_153 : decode cX2_spread 153 = .ok (.getfield 15, 3) := by decide +kernel
theorem dX2_spread_156 : decode cX2_spread 156 = .ok (.iload 6, 2) := by decide +kernel
theorem dX2_spread_158 : decode cX2_spread 158 = .ok (.iload 7, 2) := by decide +kernel
theorem dX2_spread_160 : decode cX2_spread 160 = .ok (.iadd, 1) := by decide +kernel
theorem dX2_spread_161 : decode cX2_spread 161 = .ok (.iload 12, 2) := by decide +kernel
theorem dX2_spread_163 : decode cX2_spread 163 = .ok (.iastore, 1) := by decide +kernel
theorem dX2_spread_164 : decode cX2_spread 164 = .ok (.iinc 7 1, 3) := by decide +kernel
theorem dX2_spread_167 : decode cX2_spread 167 = .ok (.iload 8, 2) := by decide +kernel
theorem dX2_spread_169 : decode cX2_spread 169 = .ok (.iload 12, 2) := by decide +kernel
theorem dX2_spread_171 : decode cX2_spread 171 = .ok (.iadd, 1) := by decide +kernel
theorem dX2_spread_172 : decode cX2_spread 172 = .ok (.istore 8, 2) := by decide +kernel
theorem dX2_spread_174 : decode cX2_spread 174 = .ok (.aload_n 0, 1) := by decide +kernel
theorem dX2_spread_175 : decode cX2_spread 175 = .ok (.dup, 1) := by decide +kernel
theorem dX2_spread_176 : decode cX2_spread 176 = .ok (.getfield 31, 3) := by decide +kernel
theorem dX2_spread_179 : decode cX2_spread 179 = .ok (.iload 12, 2) := by decide +kernel
theorem dX2_spread_181 : decode cX2_spread 181 = .ok (.aload_n 1, 1) := by decide +kernel
theorem dX2_spread_182 : decode cX2_spread 182 = .ok (.iload 4, 2) := by decide +kernel
theorem dX2_spread_184 : decode cX2_spread 184 = .ok (.iload 13, 2) := by decide +kernel
theorem dX2_spread_186 : decode cX2_spread 186 = .ok (.aload_n 0, 1) := by decide +kernel
theorem dX2_spread_187 : decode cX2_spread 187 = .ok (.getfield 38, 3) := by decide +kernel
theorem dX2_spread_190 : decode cX2_spread 190 = .ok (.getfield 84, 3) := by decide +kernel
theorem dX2_spread_193 : decode cX2_spread 193 = .ok (.invokevirtual 87, 3) := by decide +kernel
theorem dX2_spread_196 : decode cX2_spread 196 = .ok (.imul, 1) := by decide +kernel
theorem dX2_spread_197 : decode cX2_spread 197 = .ok (.iadd, 1) := by decide +kernel
theorem dX2_spread_198 : decode cX2_spread 198 = .ok (.putfield 31, 3) := by decide +kernel
theorem dX2_spread_201 : decode cX2_spread 201 = .ok (.iload 10, 2) := by decide +kernel
theorem dX2_spread_203 : decode cX2_spread 203 = .ok (.aload_n 1, 1) := by decide +kernel
theorem dX2_spread_204 : decode cX2_spread 204 = .ok (.getfield 91, 3) := by decide +kernel
theorem dX2_spread_207 : decode cX2_spread 207 = .ok (.iload 4, 2) := by decide +kernel
theorem dX2_spread_209 : decode cX2_spread 209 = .ok (.iaload, 1) := by decide +kernel
theorem dX2_spread_210 : decode cX2_spread 210 = .ok (.iadd, 1) := by decide +kernel
theorem dX2_spread_211 : decode cX2_spread 211 = .ok (.istore 10, 2) := by decide +kernel
theorem dX2_spread_213 : decode cX2_spread 213 = .ok (.iinc 11 1, 3) := by decide +kernel
theorem dX2_spread_216 : decode cX2_spread 216 = .ok (.goto (-154), 3) := by decide +kernel
theorem dX2_spread_219 : decode cX2_spread 219 = .ok (.iinc 9 1, 3) := by decide +kernel
theorem dX2_spread_222 : decode cX2_spread 222 = .ok (.goto (-197), 3) := by decide +kernel
theorem dX2_spread_225 : decode cX2_spread 225 = .ok (.aload_n 0, 1) := by decide +kernel
theorem dX2_spread_226 : decode cX2_spread 226 = .ok (.getfield 18, 3) := by decide +kernel
theorem dX2_spread_229 : decode cX2_spread 229 = .ok (.iload_n 2, 1) := by decide +kernel
theorem dX2_spread_230 : decode cX2_spread 230 = .ok (.iconst 1, 1) := by decide +kernel
theorem dX2_spread_231 : decode cX2_spread 231 = .ok (.iadd, 1) := by decide +kernel
theorem dX2_spread_232 : decode cX2_spread 232 = .ok (.iload 7, 2) := by decide +kernel
theorem dX2_spread_234 : decode cX2_spread 234 = .ok (.iastore, 1) := by decide +kernel
theorem dX2_spread_235 : decode cX2_spread 235 = .ok (.iload 8, 2) := by decide +kernel
theorem dX2_spread_237 : decode cX2_spread 237 = .ok (.ireturn, 1) := by decide +kernel
theorem dX3_init_0 : decode cX3_init 0 = .ok (.aload_n 0, 1) := by decide +kernel
theorem dX3_init_1 : decode cX3_init 1 = .ok (.invokespecial 5, 3) := by decide +kernel
theorem dX3_init_4 : decode cX3_init 4 = .ok (.aload_n 0, 1) := by decide +kernel
theorem dX3_init_5 : decode cX3_init 5 = .ok (.bipush 127, 2) := by decide +kernel
theorem dX3_init_7 : decode cX3_init 7 = .ok (.newarray .int, 2) := by decide +kernel
theorem dX3_init_9 : decode cX3_init 9 = .ok (.putfield 11, 3) := by decide +kernel
theorem dX3_init_12 : decode cX3_init 12 = .ok (.aload_n 0, 1) := by decide +kernel
theorem dX3_init_13 : decode cX3_init 13 = .ok (.bipush 6, 2) := by decide +kernel
theorem dX3_init_15 : decode cX3_init 15 = .ok (.newarray .int, 2) := by decide +kernel
theorem dX3_init_17 : decode cX3_init 17 = .ok (.putfield 15, 3) := by decide +kernel
theorem dX3_init_20 : decode cX3_init 20 = .ok (.aload_n 0, 1) := by decide +kernel
theorem dX3_init_21 : decode cX3_init 21 = .ok (.iconst 0, 1) := by decide +kernel
theorem dX3_init_22 : decode cX3_init 22 = .ok (.putfield 18, 3) := by decide +kernel
theorem dX3_init_25 : decode cX3_init 25 = .ok (.aload_n 0, 1) := by decide +kernel
theorem dX3_init_26 : decode cX3_init 26 = .ok (.iconst 0, 1) := by decide +kernel
theorem dX3_init_27 : decode cX3_init 27 = .ok (.putfield 22, 3) := by decide +kernel
theorem dX3_init_30 : decode cX3_init 30 = .ok (.aload_n 0, 1) := by decide +kernel
theorem dX3_init_31 : decode cX3_init 31 = .ok (.iconst 0, 1) := by decide +kernel
theorem dX3_init_32 : decode cX3_init 32 = .ok (.putfield 25, 3) := by decide +kernel
theorem dX3_init_35 : decode cX3_init 35 = .ok (.aload_n 0, 1) := by decide +kernel
theorem dX3_init_36 : decode cX3_init 36 = .ok (.iconst 0, 1) := by decide +kernel
theorem dX3_init_37 : decode cX3_init 37 = .ok (.putfield 28, 3) := by decide +kernel
theorem dX3_init_40 : decode cX3_init 40 = .ok (.aload_n 0, 1) := by decide +kernel
theorem dX3_init_41 : decode cX3_init 41 = .ok (.iconst 0, 1) := by decide +kernel
theorem dX3_init_42 : decode cX3_init 42 = .ok (.putfield 31, 3) := by decide +kernel
theorem dX3_init_45 : decode cX3_init 45 = .ok (.return_, 1) := by decide +kernel
theorem dX3_measure_0 : decode cX3_measure 0 = .ok (.aload_n 0, 1) := by decide +kernel
theorem dX3_measure_1 : decode cX3_measure 1 = .ok (.aload_n 1, 1) := by decide +kernel
theorem dX3_measure_2 : decode cX3_measure 2 = .ok (.getfield 34, 3) := by decide +kernel
theorem dX3_measure_5 : decode cX3_measure 5 = .ok (.iconst 2, 1) := by decide +kernel
theorem dX3_measure_6 : decode cX3_measure 6 = .ok (.iaload, 1) := by decide +kernel
theorem dX3_measure_7 : decode cX3_measure 7 = .ok (.putfield 18, 3) := by decide +kernel
theorem dX3_measure_10 : decode cX3_measure 10 = .ok (.aload_n 0, 1) := by decide +kernel
theorem dX3_measure_11 : decode cX3_measure 11 = .ok (.aload_n 1, 1) := by decide +kernel
theorem dX3_measure_12 : decode cX3_measure 12 = .ok (.getfield 34, 3) := by decide +kernel
theorem dX3_measure_15 : decode cX3_measure 15 = .ok (.iconst 3, 1) := by decide +kernel
theorem dX3_measure_16 : decode cX3_measure 16 = .ok (.iaload, 1) := by decide +kernel
theorem dX3_measure_17 : decode cX3_measure 17 = .ok (.putfield 22, 3) := by decide +kernel
theorem dX3_measure_20 : decode cX3_measure 20 = .ok (.aload_n 0, 1) := by decide +kernel
theorem dX3_measure_21 : decode cX3_measure 21 = .ok (.aload_n 1, 1) := by decide +kernel
theorem dX3_measure_22 : decode cX3_measure 22 = .ok (.getfield 34, 3) := by decide +kernel
theorem dX3_measure_25 : decode cX3_measure 25 = .ok (.iconst 1, 1) := by decide +kernel
theorem dX3_measure_26 : decode cX3_measure 26 = .ok (.iaload, 1) := by decide +kernel
theorem dX3_measure_27 : decode cX3_measure 27 = .ok (.putfield 25, 3) := by decide +kernel
theorem dX3_measure_30 : decode cX3_measure 30 = .ok (.aload_n 0, 1) := by decide +kernel
theorem dX3_measure_31 : decode cX3_measure 31 = .ok (.aload_n 1, 1) := by decide +kernel
theorem dX3_measure_32 : decode cX3_measure 32 = .ok (.getfield 39, 3) := by decide +kernel
theorem dX3_measure_35 : decode cX3_measure 35 = .ok (.putfield 28, 3) := by decide +kernel
theorem dX3_measure_38 : decode cX3_measure 38 = .ok (.aload_n 0, 1) := by decide +kernel
theorem dX3_measure_39 : decode cX3_measure 39 = .ok (.aload_n 1, 1) := by decide +kernel
theorem dX3_measure_40 : decode cX3_measure 40 = .ok (.getfield 40, 3) := by decide +kernel
theorem dX3_measure_43 : decode cX3_measure 43 = .ok (.putfield 31, 3) := by decide +kernel
theorem dX3_measure_46 : decode cX3_measure 46 = .ok (.iconst 0, 1) := by decide +kernel
theorem dX3_measure_47 : decode cX3_measure 47 = .ok (.istore_n 3, 1) := by decide +kernel
theorem dX3_measure_48 : decode cX3_measure 48 = .ok (.aload_n 1, 1) := by decide +kernel
theorem dX3_measure_49 : decode cX3_measure 49 = .ok (.getfield 41, 3) := by decide +kernel
theorem dX3_measure_52 : decode cX3_measure 52 = .ok (.istore 4, 2) := by decide +kernel
theorem dX3_measure_54 : decode cX3_measure 54 = .ok (.iload 4, 2) := by decide +kernel
theorem dX3_measure_56 : decode cX3_measure 56 = .ok (.sipush 186, 3) := by decide +kernel
theorem dX3_measure_59 : decode cX3_measure 59 = .ok (.if_icmp .gt 73, 3) := by decide +kernel
theorem dX3_measure_62 : decode cX3_measure 62 = .ok (.iload_n 3, 1) := by decide +kernel
theorem dX3_measure_63 : decode cX3_measure 63 = .ok (.bipush 126, 2) := by decide +kernel
theorem dX3_measure_65 : decode cX3_measure 65 = .ok (.if_icmp .ge 67, 3) := by decide +kernel
theorem dX3_measure_68 : decode cX3_measure 68 = .ok (.aload_n 1, 1) := by decide +kernel
theorem dX3_measure_69 : decode cX3_measure 69 = .ok (.iload 4, 2) := by decide +kernel
theorem dX3_measure_71 : decode cX3_measure 71 = .ok (.invokevirtual 44, 3) := by decide +kernel
theorem dX3_measure_74 : decode cX3_measure 74 = .ok (.iload 4, 2) := by decide +kernel
theorem dX3_measure_76 : decode cX3_measure 76 = .ok (.aload_n 1, 1) := by decide +kernel
theorem dX3_measure_77 : decode cX3_measure 77 = .ok (.getfield 41, 3) := by decide +kernel
theorem dX3_measure_80 : decode cX3_measure 80 = .ok (.isub, 1) := by decide +kernel
theorem dX3_measure_81 : decode cX3_measure 81 = .ok (.iload_n 2, 1) := by decide +kernel
theorem dX3_measure_82 : decode cX3_measure 82 = .ok (.if_icmp .ge 7, 3) := by decide +kernel
theorem dX3_measure_85 : decode cX3_measure 85 = .ok (.iconst 1, 1) := by decide +kernel
theorem dX3_measure_86 : decode cX3_measure 86 = .ok (.goto 4, 3) := by decide +kernel
theorem dX3_measure_89 : decode cX3_measure 89 = .ok (.iconst 0, 1) := by decide +kernel
theorem dX3_measure_90 : decode cX3_measure 90 = .ok (.iadd, 1) := by decide +kernel
theorem dX3_measure_91 : decode cX3_measure 91 = .ok (.istore 5, 2) := by decide +kernel
theorem dX3_measure_93 : decode cX3_measure 93 = .ok (.iconst 0, 1) := by decide +kernel
theorem dX3_measure_94 : decode cX3_measure 94 = .ok (.istore 6, 2) := by decide +kernel
theorem dX3_measure_96 : decode cX3_measure 96 = .ok (.iload 6, 2) := by decide +kernel
theorem dX3_measure_98 : decode cX3_measure 98 = .ok (.iload 5, 2) := by decide +kernel
theorem dX3_measure_100 : decode cX3_measure 100 = .ok (.if_icmp .ge 26, 3) := by decide +kernel
theorem dX3_measure_103 : decode cX3_measure 103 = .ok (.iload_n 3, 1) := by decide +kernel
theorem dX3_measure_104 : decode cX3_measure 104 = .ok (.bipush 126, 2) := by decide +kernel
theorem dX3_measure_106 : decode cX3_measure 106 = .ok (.if_icmp .ge 20, 3) := by decide +kernel
theorem dX3_measure_109 : decode cX3_measure 109 = .ok (.iinc 3 1, 3) := by decide +kernel
theorem dX3_measure_112 : decode cX3_measure 112 = .ok (.aload_n 0, 1) := by decide +kernel
theorem dX3_measure_113 : decode cX3_measure 113 = .ok (.getfield 11, 3) := by decide +kernel
theorem dX3_measure_116 : decode cX3_measure 116 = .ok (.iload_n 3, 1) := by decide +kernel
theorem dX3_measure_117 : decode cX3_measure 117 = .ok (.iload 4, 2) := by decide +kernel
theorem dX3_measure_119 : decode cX3_measure 119 = .ok (.iastore, 1) := by decide +kernel
theorem dX3_measure_120 : decode cX3_measure 120 = .ok (.iinc 6 1, 3) := by decide +kernel
theorem dX3_measure_123 : decode cX3_measure 123 = .ok (.goto (-27), 3) := by decide +kernel
theorem dX3_measure_126 : decode cX3_measure 126 = .ok (.iinc 4 1, 3) := by decide +kernel
theorem dX3_measure_129 : decode cX3_measure 129 = .ok (.goto (-75), 3) := by decide +kernel
theorem dX3_measure_132 : decode cX3_measure 132 = .ok (.return_, 1) := by decide +kernel
theorem dX3_usedBehind_0 : decode cX3_usedBehind 0 = .ok (.aload_n 3, 1) := by decide +kernel
theorem dX3_usedBehind_1 : decode cX3_usedBehind 1 = .ok (.getfield 48, 3) := by decide +kernel
theorem dX3_usedBehind_4 : decode cX3_usedBehind 4 = .ok (.iload 4, 2) := by decide +kernel
theorem dX3_usedBehind_6 : decode cX3_usedBehind 6 = .ok (.iaload, 1) := by decide +kernel
theorem dX3_usedBehind_7 : decode cX3_usedBehind 7 = .ok (.istore 5, 2) := by decide +kernel
theorem dX3_usedBehind_9 : decode cX3_usedBehind 9 = .ok (.iload 5, 2) := by decide +kernel
theorem dX3_usedBehind_11 : decode cX3_usedBehind 11 = .ok (.iload_n 2, 1) := by decide +kernel
theorem dX3_usedBehind_12 : decode cX3_usedBehind 12 = .ok (.if_icmp .ne 7, 3) := by decide +kernel
theorem dX3_usedBehind_15 : decode cX3_usedBehind 15 = .ok (.iconst 0, 1) := by decide +kernel
theorem dX3_usedBehind_16 : decode cX3_usedBehind 16 = .ok (.goto 7, 3) := by decide +kernel
theorem dX3_usedBehind_19 : decode cX3_usedBehind 19 = .ok (.aload_n 0, 1) := by decide +kernel
theorem dX3_usedBehind_20 : decode cX3_usedBehind 20 = .ok (.getfield 25, 3) := by decide +kernel
theorem dX3_usedBehind_23 : decode cX3_usedBehind 23 = .ok (.istore 6, 2) := by decide +kernel
theorem dX3_usedBehind_25 : decode cX3_usedBehind 25 = .ok (.iload_n 1, 1) := by decide +kernel
theorem dX3_usedBehind_26 : decode cX3_usedBehind 26 = .ok (.ifCond .ne 25, 3) := by decide +kernel
theorem dX3_usedBehind_29 : decode cX3_usedBehind 29 = .ok (.iload 5, 2) := by decide +kernel
theorem dX3_usedBehind_31 : decode cX3_usedBehind 31 = .ok (.aload_n 0, 1) := by decide +kernel
theorem dX3_usedBehind_32 : decode cX3_usedBehind 32 = .ok (.getfield 28, 3) := by decide +kernel
theorem dX3_usedBehind_35 : decode cX3_usedBehind 35 = .ok (.if_icmp .ne 10, 3) := by decide +kernel
theorem dX3_usedBehind_38 : decode cX3_usedBehind 38 = .ok (.aload_n 0, 1) := by decide +kernel
theorem dX3_usedBehind_39 : decode cX3_usedBehind 39 = .ok (.getfield 31, 3) := by decide +kernel
theorem dX3_usedBehind_42 : decode cX3_usedBehind 42 = .ok (.goto 7, 3) := by decide +kernel
theorem dX3_usedBehind_45 : decode cX3_usedBehind 45 = .ok (.aload_n 0, 1) := by decide +kernel
theorem dX3_usedBehind_46 : decode cX3_usedBehind 46 = .ok (.getfield 25, 3) := by decide +kernel
theorem dX3_usedBehind_49 : decode cX3_usedBehind 49 = .ok (.istore 6, 2) := by decide +kernel
theorem dX3_usedBehind_51 : decode cX3_usedBehind 51 = .ok (.iload_n 1, 1) := by decide +kernel
theorem dX3_usedBehind_52 : decode cX3_usedBehind 52 = .ok (.iload 6, 2) := by decide +kernel
theorem dX3_usedBehind_54 : decode cX3_usedBehind 54 = .ok (.iadd, 1) := by decide +kernel
theorem dX3_usedBehind_55 : decode cX3_usedBehind 55 = .ok (.aload_n 3, 1) := by decide +kernel
theorem dX3_usedBehind_56 : decode cX3_usedBehind 56 = .ok (.getfield 52, 3) := by decide +kernel
theorem dX3_usedBehind_59 : decode cX3_usedBehind 59 = .ok (.iload 4, 2) := by decide +kernel
theorem dX3_usedBehind_61 : decode cX3_usedBehind 61 = .ok (.iaload, 1) := by decide +kernel
theorem dX3_usedBehind_62 : decode cX3_usedBehind 62 = .ok (.iadd, 1) := by decide +kernel
theorem dX3_usedBehind_63 : decode cX3_usedBehind 63 = .ok (.ireturn, 1) := by decide +kernel
theorem dX3_dayAt_0 : decode cX3_dayAt 0 = .ok (.aload_n 0, 1) := by decide +kernel
theorem dX3_dayAt_1 : decode cX3_dayAt 1 = .ok (.getfield 11, 3) := by decide +kernel
theorem dX3_dayAt_4 : decode cX3_dayAt 4 = .ok (.iconst 0, 1) := by decide +kernel
theorem dX3_dayAt_5 : decode cX3_dayAt 5 = .ok (.iload_n 1, 1) := by decide +kernel
theorem dX3_dayAt_6 : decode cX3_dayAt 6 = .ok (.bipush 126, 2) := by decide +kernel
theorem dX3_dayAt_8 : decode cX3_dayAt 8 = .ok (.invokestatic 55, 3) := by decide +kernel
theorem dX3_dayAt_11 : decode cX3_dayAt 11 = .ok (.invokestatic 61, 3) := by decide +kernel
theorem dX3_dayAt_14 : decode cX3_dayAt 14 = .ok (.iaload, 1) := by decide +kernel
theorem dX3_dayAt_15 : decode cX3_dayAt 15 = .ok (.ireturn, 1) := by decide +kernel
theorem dX3_follow_0 : decode cX3_follow 0 = .ok (.iconst 0, 1) := by decide +kernel
theorem dX3_follow_1 : decode cX3_follow 1 = .ok (.istore_n 3, 1) := by decide +kernel
theorem dX3_follow_2 : decode cX3_follow 2 = .ok (.iconst 0, 1) := by decide +kernel
theorem dX3_follow_3 : decode cX3_follow 3 = .ok (.istore 4, 2) := by decide +kernel
theorem dX3_follow_5 : decode cX3_follow 5 = .ok (.iconst 0, 1) := by decide +kernel
theorem dX3_follow_6 : decode cX3_follow 6 = .ok (.istore 5, 2) := by decide +kernel
theorem dX3_follow_8 : decode cX3_follow 8 = .ok (.iload 5, 2) := by decide +kernel
theorem dX3_follow_10 : decode cX3_follow 10 = .ok (.aload_n 1, 1) := by decide +kernel
theorem dX3_follow_11 : decode cX3_follow 11 = .ok (.getfield 64, 3) := by decide +kernel
theorem dX3_follow_14 : decode cX3_follow 14 = .ok (.if_icmp .ge 47, 3) := by decide +kernel
theorem dX3_follow_17 : decode cX3_follow 17 = .ok (.aload_n 2, 1) := by decide +kernel
theorem dX3_follow_18 : decode cX3_follow 18 = .ok (.iload 5, 2) := by decide +kernel
theorem dX3_follow_20 : decode cX3_follow 20 = .ok (.iaload, 1) := by decide +kernel
theorem dX3_follow_21 : decode cX3_follow 21 = .ok (.istore 6, 2) := by decide +kernel
theorem dX3_follow_23 : decode cX3_follow 23 = .ok (.aload_n 0, 1) := by decide +kernel
theorem dX3_follow_24 : decode cX3_follow 24 = .ok (.iload_n 3, 1) := by decide +kernel
theorem dX3_follow_25 : decode cX3_follow 25 = .ok (.iload 4, 2) := by decide +kernel
theorem dX3_follow_27 : decode cX3_follow 27 = .ok (.aload_n 1, 1) := by decide +kernel
theorem dX3_follow_28 : decode cX3_follow 28 = .ok (.iload 6, 2) := by decide +kernel
theorem dX3_follow_30 : decode cX3_follow 30 = .ok (.invokevirtual 67, 3) := by decide +kernel
theorem dX3_follow_33 : decode cX3_follow 33 = .ok (.istore_n 3, 1) := by decide +kernel
theorem dX3_follow_34 : decode cX3_follow 34 = .ok (.aload_n 1, 1) := by decide +kernel
theorem dX3_follow_35 : decode cX3_follow 35 = .ok (.getfield 48, 3) := by decide +kernel
theorem dX3_follow_38 : decode cX3_follow 38 = .ok (.iload 6, 2) := by decide +kernel
theorem dX3_follow_40 : decode cX3_follow 40 = .ok (.iaload, 1) := by decide +kernel
theorem dX3_follow_41 : decode cX3_follow 41 = .ok (.istore 4, 2) := by decide +kernel
theorem dX3_follow_43 : decode cX3_follow 43 = .ok (.aload_n 0, 1) := by decide +kernel
theorem dX3_follow_44 : decode cX3_follow 44 = .ok (.getfield 15, 3) := by decide +kernel
theorem dX3_follow_47 : decode cX3_follow 47 = .ok (.iload 6, 2) := by decide +kernel
theorem dX3_follow_49 : decode cX3_follow 49 = .ok (.aload_n 0, 1) := by decide +kernel
theorem dX3_follow_50 : decode cX3_follow 50 = .ok (.iload_n 3, 1) := by decide +kernel
theorem dX3_follow_51 : decode cX3_follow 51 = .ok (.invokevirtual 71, 3) := by decide +kernel
theorem dX3_follow_54 : decode cX3_follow 54 = .ok (.iastore, 1) := by decide +kernel
theorem dX3_follow_55 : decode cX3_follow 55 = .ok (.iinc 5 1, 3) := by decide +kernel
theorem dX3_follow_58 : decode cX3_follow 58 = .ok (.goto (-50), 3) := by decide +kernel
theorem dX3_follow_61 : decode cX3_follow 61 = .ok (.return_, 1) := by decide +kernel
theorem dX4_init_0 : decode cX4_init 0 = .ok (.aload_n 0, 1) := by decide +kernel
theorem dX4_init_1 : decode cX4_init 1 = .ok (.invokespecial 3, 3) := by decide +kernel
theorem dX4_init_4 : decode cX4_init 4 = .ok (.aload_n 0, 1) := by decide +kernel
theorem dX4_init_5 : decode cX4_init 5 = .ok (.iconst 0, 1) := by decide +kernel
theorem dX4_init_6 : decode cX4_init 6 = .ok (.putfield 9, 3) := by decide +kernel
theorem dX4_init_9 : decode cX4_init 9 = .ok (.aload_n 0, 1) := by decide +kernel
theorem dX4_init_10 : decode cX4_init 10 = .ok (.bipush 6, 2) := by decide +kernel
theorem dX4_init_12 : decode cX4_init 12 = .ok (.newarray .int, 2) := by decide +kernel
theorem dX4_init_14 : decode cX4_init 14 = .ok (.putfield 15, 3) := by decide +kernel
theorem dX4_init_17 : decode cX4_init 17 = .ok (.aload_n 0, 1) := by decide +kernel
theorem dX4_init_18 : decode cX4_init 18 = .ok (.bipush 6, 2) := by decide +kernel
theorem dX4_init_20 : decode cX4_init 20 = .ok (.newarray .int, 2) := by decide +kernel
theorem dX4_init_22 : decode cX4_init 22 = .ok (.putfield 19, 3) := by decide +kernel
theorem dX4_init_25 : decode cX4_init 25 = .ok (.aload_n 0, 1) := by decide +kernel
theorem dX4_init_26 : decode cX4_init 26 = .ok (.bipush 6, 2) := by decide +kernel
theorem dX4_init_28 : decode cX4_init 28 = .ok (.newarray .int, 2) := by decide +kernel
theorem dX4_init_30 : decode cX4_init 30 = .ok (.putfield 22, 3) := by decide +kernel
theorem dX4_init_33 : decode cX4_init 33 = .ok (.aload_n 0, 1) := by decide +kernel
theorem dX4_init_34 : decode cX4_init 34 = .ok (.bipush 6, 2) := by decide +kernel
theorem dX4_init_36 : decode cX4_init 36 = .ok (.newarray .int, 2) := by decide +kernel
theorem dX4_init_38 : decode cX4_init 38 = .ok (.putfield 25, 3) := by decide +kernel
theorem dX4_init_41 : decode cX4_init 41 = .ok (.aload_n 0, 1) := by decide +kernel
theorem dX4_init_42 : decode cX4_init 42 = .ok (.bipush 6, 2) := by decide +kernel
theorem dX4_init_44 : decode cX4_init 44 = .ok (.newarray .int, 2) := by decide +kernel
theorem dX4_init_46 : decode cX4_init 46 = .ok (.putfield 28, 3) := by decide +kernel
theorem dX4_init_49 : decode cX4_init 49 = .ok (.return_, 1) := by decide +kernel
theorem dX4_has_0 : decode cX4_has 0 = .ok (.iload_n 1, 1) := by decide +kernel
theorem dX4_has_1 : decode cX4_has 1 = .ok (.ifCond .lt 15, 3) := by decide +kernel
theorem dX4_has_4 : decode cX4_has 4 = .ok (.iload_n 1, 1) := by decide +kernel
theorem dX4_has_5 : decode cX4_has 5 = .ok (.aload_n 0, 1) := by decide +kernel
theorem dX4_has_6 : decode cX4_has 6 = .ok (.getfield 9, 3) := by decide +kernel
theorem dX4_has_9 : decode cX4_has 9 = .ok (.if_icmp .ge 7, 3) := by decide +kernel
theorem dX4_has_12 : decode cX4_has 12 = .ok (.iconst 1, 1) := by decide +kernel
theorem dX4_has_13 : decode cX4_has 13 = .ok (.goto 4, 3) := by decide +kernel
theorem dX4_has_16 : decode cX4_has 16 = .ok (.iconst 0, 1) := by decide +kernel
theorem dX4_has_17 : decode cX4_has 17 = .ok (.ireturn, 1) := by decide +kernel
theorem dX4_add_0 : decode cX4_add 0 = .ok (.aload_n 0, 1) := by decide +kernel
theorem dX4_add_1 : decode cX4_add 1 = .ok (.getfield 9, 3) := by decide +kernel
theorem dX4_add_4 : decode cX4_add 4 = .ok (.bipush 6, 2) := by decide +kernel
theorem dX4_add_6 : decode cX4_add 6 = .ok (.if_icmp .lt 4, 3) := by decide +kernel
theorem dX4_add_9 : decode cX4_add 9 = .ok (.return_, 1) := by decide +kernel
theorem dX4_add_10 : decode cX4_add 10 = .ok (.aload_n 0, 1) := by decide +kernel
theorem dX4_add_11 : decode cX4_add 11 = .ok (.getfield 15, 3) := by decide +kernel
theorem dX4_add_14 : decode cX4_add 14 = .ok (.aload_n 0, 1) := by decide +kernel
theorem dX4_add_15 : decode cX4_add 15 = .ok (.getfield 9, 3) := by decide +kernel
theorem dX4_add_18 : decode cX4_add 18 = .ok (.iload_n 1, 1) := by decide +kernel
theorem dX4_add_19 : decode cX4_add 19 = .ok (.iastore, 1) := by decide +kernel
theorem dX4_add_20 : decode cX4_add 20 = .ok (.aload_n 0, 1) := by decide +kernel
theorem dX4_add_21 : decode cX4_add 21 = .ok (.getfield 19, 3) := by decide +kernel
theorem dX4_add_24 : decode cX4_add 24 = .ok (.aload_n 0, 1) := by decide +kernel
theorem dX4_add_25 : decode cX4_add 25 = .ok (.getfield 9, 3) := by decide +kernel
theorem dX4_add_28 : decode cX4_add 28 = .ok (.iload_n 1, 1) := by decide +kernel
theorem dX4_add_29 : decode cX4_add 29 = .ok (.iconst 5, 1) := by decide +kernel
theorem dX4_add_30 : decode cX4_add 30 = .ok (.if_icmp .ne 11, 3) := by decide +kernel
theorem dX4_add_33 : decode cX4_add 33 = .ok (.iload_n 2, 1) := by decide +kernel
theorem dX4_add_34 : decode cX4_add 34 = .ok (.iconst 1, 1) := by decide +kernel
theorem dX4_add_35 : decode cX4_add 35 = .ok (.iadd, 1) := by decide +kernel
theorem dX4_add_36 : decode cX4_add 36 = .ok (.iconst 2, 1) := by decide +kernel
theorem dX4_add_37 : decode cX4_add 37 = .ok (.idiv, 1) := by decide +kernel
theorem dX4_add_38 : decode cX4_add 38 = .ok (.goto 4, 3) := by decide +kernel
theorem dX4_add_41 : decode cX4_add 41 = .ok (.iload_n 2, 1) := by decide +kernel
theorem dX4_add_42 : decode cX4_add 42 = .ok (.iastore, 1) := by decide +kernel
theorem dX4_add_43 : decode cX4_add 43 = .ok (.aload_n 0, 1) := by decide +kernel
theorem dX4_add_44 : decode cX4_add 44 = .ok (.getfield 22, 3) := by decide +kernel
theorem dX4_add_47 : decode cX4_add 47 = .ok (.aload_n 0, 1) := by decide +kernel
theorem dX4_add_48 : decode cX4_add 48 = .ok (.getfield 9, 3) := by decide +kernel
theorem dX4_add_51 : decode cX4_add 51 = .ok (.iload_n 3, 1) := by decide +kernel
theorem dX4_add_52 : decode cX4_add 52 = .ok (.iastore, 1) := by decide +kernel
theorem dX4_add_53 : decode cX4_add 53 = .ok (.aload_n 0, 1) := by decide +kernel
theorem dX4_add_54 : decode cX4_add 54 = .ok (.getfield 25, 3) := by decide +kernel
theorem dX4_add_57 : decode cX4_add 57 = .ok (.aload_n 0, 1) := by decide +kernel
theorem dX4_add_58 : decode cX4_add 58 = .ok (.getfield 9, 3) := by decide +kernel
theorem dX4_add_61 : decode cX4_add 61 = .ok (.iload 4, 2) := by decide +kernel
theorem dX4_add_63 : decode cX4_add 63 = .ok (.iastore, 1) := by decide +kernel
theorem dX4_add_64 : decode cX4_add 64 = .ok (.aload_n 0, 1) := by decide +kernel
theorem dX4_add_65 : decode cX4_add 65 = .ok (.getfield 28, 3) := by decide +kernel
theorem dX4_add_68 : decode cX4_add 68 = .ok (.aload_n 0, 1) := by decide +kernel
theorem dX4_add_69 : decode cX4_add 69 = .ok (.getfield 9, 3) := by decide +kernel
theorem dX4_add_72 : decode cX4_add 72 = .ok (.iload 5, 2) := by decide +kernel
theorem dX4_add_74 : decode cX4_add 74 = .ok (.iastore, 1) := by decide +kernel
theorem dX4_add_75 : decode cX4_add 75 = .ok (.aload_n 0, 1) := by decide +kernel
theorem dX4_add_76 : decode cX4_add 76 = .ok (.dup, 1) := by decide +kernel
theorem dX4_add_77 : decode cX4_add 77 = .ok (.getfield 9, 3) := by decide +kernel
theorem dX4_add_80 : decode cX4_add 80 = .ok (.iconst 1, 1) := by decide +kernel
theorem dX4_add_81 : decode cX4_add 81 = .ok (.iadd, 1) := by decide +kernel
theorem dX4_add_82 : decode cX4_add 82 = .ok (.putfield 9, 3) := by decide +kernel
theorem dX4_add_85 : decode cX4_add 85 = .ok (.return_, 1) := by decide +kernel
theorem dX4_remove_0 : decode cX4_remove 0 = .ok (.aload_n 0, 1) := by decide +kernel
theorem dX4_remove_1 : decode cX4_remove 1 = .ok (.iload_n 1, 1) := by decide +kernel
theorem dX4_remove_2 : decode cX4_remove 2 = .ok (.invokevirtual 31, 3) := by decide +kernel
theorem dX4_remove_5 : decode cX4_remove 5 = .ok (.ifCond .ne 4, 3) := by decide +kernel
theorem dX4_remove_8 : decode cX4_remove 8 = .ok (.return_, 1) := by decide +kernel
theorem dX4_remove_9 : decode cX4_remove 9 = .ok (.iload_n 1, 1) := by decide +kernel
theorem dX4_remove_10 : decode cX4_remove 10 = .ok (.istore_n 2, 1) := by decide +kernel
theorem dX4_remove_11 : decode cX4_remove 11 = .ok (.iload_n 2, 1) := by decide +kernel
theorem dX4_remove_12 : decode cX4_remove 12 = .ok (.iconst 1, 1) := by decide +kernel
theorem dX4_remove_13 : decode cX4_remove 13 = .ok (.iadd, 1) := by decide +kernel
theorem dX4_remove_14 : decode cX4_remove 14 = .ok (.aload_n 0, 1) := by decide +kernel
theorem dX4_remove_15 : decode cX4_remove 15 = .ok (.getfield 9, 3) := by decide +kernel
theorem dX4_remove_18 : decode cX4_remove 18 = .ok (.if_icmp .ge 79, 3) := by decide +kernel
theorem dX4_remove_21 : decode cX4_remove 21 = .ok (.aload_n 0, 1) := by decide +kernel
theorem dX4_remove_22 : decode cX4_remove 22 = .ok (.getfield 15, 3) := by decide +kernel
theorem dX4_remove_25 : decode cX4_remove 25 = .ok (.iload_n 2, 1) := by decide +kernel
theorem dX4_remove_26 : decode cX4_remove 26 = .ok (.aload_n 0, 1) := by decide +kernel
theorem dX4_remove_27 : decode cX4_remove 27 = .ok (.getfield 15, 3) := by decide +kernel
theorem dX4_remove_30 : decode cX4_remove 30 = .ok (.iload_n 2, 1) := by decide +kernel
theorem dX4_remove_31 : decode cX4_remove 31 = .ok (.iconst 1, 1) := by decide +kernel
theorem dX4_remove_32 : decode cX4_remove 32 = .ok (.iadd, 1) := by decide +kernel
theorem dX4_remove_33 : decode cX4_remove 33 = .ok (.iaload, 1) := by decide +kernel
theorem dX4_remove_34 : decode cX4_remove 34 = .ok (.iastore, 1) := by decide +kernel
theorem dX4_remove_35 : decode cX4_remove 35 = .ok (.aload_n 0, 1) := by decide +kernel
theorem dX4_remove_36 : decode cX4_remove 36 = .ok (.getfield 19, 3) := by decide +kernel
theorem dX4_remove_39 : decode cX4_remove 39 = .ok (.iload_n 2, 1) := by decide +kernel
theorem dX4_remove_40 : decode cX4_remove 40 = .ok (.aload_n 0, 1) := by decide +kernel
theorem dX4_remove_41 : decode cX4_remove 41 = .ok (.getfield 19, 3) := by decide +kernel
theorem dX4_remove_44 : decode cX4_remove 44 = .ok (.iload_n 2, 1) := by decide +kernel
theorem dX4_remove_45 : decode cX4_remove 45 = .ok (.iconst 1, 1) := by decide +kernel
theorem dX4_remove_46 : decode cX4_remove 46 = .ok (.iadd, 1) := by decide +kernel
theorem dX4_remove_47 : decode cX4_remove 47 = .ok (.iaload, 1) := by decide +kernel
theorem dX4_remove_48 : decode cX4_remove 48 = .ok (.iastore, 1) := by decide +kernel
theorem dX4_remove_49 : decode cX4_remove 49 = .ok (.aload_n 0, 1) := by decide +kernel
theorem dX4_remove_50 : decode cX4_remove 50 = .ok (.getfield 22, 3) := by decide +kernel
theorem dX4_remove_53 : decode cX4_remove 53 = .ok (.iload_n 2, 1) := by decide +kernel
theorem dX4_remove_54 : decode cX4_remove 54 = .ok (.aload_n 0, 1) := by decide +kernel
theorem dX4_remove_55 : decode cX4_remove 55 = .ok (.getfield 22, 3) := by decide +kernel
theorem dX4_remove_58 : decode cX4_remove 58 = .ok (.iload_n 2, 1) := by decide +kernel
theorem dX4_remove_59 : decode cX4_remove 59 = .ok (.iconst 1, 1) := by decide +kernel
theorem dX4_remove_60 : decode cX4_remove 60 = .ok (.iadd, 1) := by decide +kernel
theorem dX4_remove_61 : decode cX4_remove 61 = .ok (.iaload, 1) := by decide +kernel
theorem dX4_remove_62 : decode cX4_remove 62 = .ok (.iastore, 1) := by decide +kernel
theorem dX4_remove_63 : decode cX4_remove 63 = .ok (.aload_n 0, 1) := by decide +kernel
theorem dX4_remove_64 : decode cX4_remove 64 = .ok (.getfield 25, 3) := by decide +kernel
theorem dX4_remove_67 : decode cX4_remove 67 = .ok (.iload_n 2, 1) := by decide +kernel
theorem dX4_remove_68 : decode cX4_remove 68 = .ok (.aload_n 0, 1) := by decide +kernel
theorem dX4_remove_69 : decode cX4_remove 69 = .ok (.getfield 25, 3) := by decide +kernel
theorem dX4_remove_72 : decode cX4_remove 72 = .ok (.iload_n 2, 1) := by decide +kernel
theorem dX4_remove_73 : decode cX4_remove 73 = .ok (.iconst 1, 1) := by decide +kernel
theorem dX4_remove_74 : decode cX4_remove 74 = .ok (.iadd, 1) := by decide +kernel
theorem dX4_remove_75 : decode cX4_remove 75 = .ok (.iaload, 1) := by decide +kernel
theorem dX4_remove_76 : decode cX4_remove 76 = .ok (.iastore, 1) := by decide +kernel
theorem dX4_remove_77 : decode cX4_remove 77 = .ok (.aload_n 0, 1) := by decide +kernel
theorem dX4_remove_78 : decode cX4_remove 78 = .ok (.getfield 28, 3) := by decide +kernel
theorem dX4_remove_81 : decode cX4_remove 81 = .ok (.iload_n 2, 1) := by decide +kernel
theorem dX4_remove_82 : decode cX4_remove 82 = .ok (.aload_n 0, 1) := by decide +kernel
theorem dX4_remove_83 : decode cX4_remove 83 = .ok (.getfield 28, 3) := by decide +kernel
theorem dX4_remove_86 : decode cX4_remove 86 = .ok (.iload_n 2, 1) := by decide +kernel
theorem dX4_remove_87 : decode cX4_remove 87 = .ok (.iconst 1, 1) := by decide +kernel
theorem dX4_remove_88 : decode cX4_remove 88 = .ok (.iadd, 1) := by decide +kernel
theorem dX4_remove_89 : decode cX4_remove 89 = .ok (.iaload, 1) := by decide +kernel
theorem dX4_remove_90 : decode cX4_remove 90 = .ok (.iastore, 1) := by decide +kernel
theorem dX4_remove_91 : decode cX4_remove 91 = .ok (.iinc 2 1, 3) := by decide +kernel
theorem dX4_remove_94 : decode cX4_remove 94 = .ok (.goto (-83), 3) := by decide +kernel
theorem dX4_remove_97 : decode cX4_remove 97 = .ok (.aload_n 0, 1) := by decide +kernel
theorem dX4_remove_98 : decode cX4_remove 98 = .ok (.dup, 1) := by decide +kernel
theorem dX4_remove_99 : decode cX4_remove 99 = .ok (.getfield 9, 3) := by decide +kernel
theorem dX4_remove_102 : decode cX4_remove 102 = .ok (.iconst 1, 1) := by decide +kernel
theorem dX4_remove_103 : decode cX4_remove 103 = .ok (.isub, 1) := by decide +kernel
theorem dX4_remove_104 : decode cX4_remove 104 = .ok (.putfield 9, 3) := by decide +kernel
theorem dX4_remove_107 : decode cX4_remove 107 = .ok (.return_, 1) := by decide +kernel
theorem dX4_copy_0 : decode cX4_copy 0 = .ok (.aload_n 0, 1) := by decide +kernel
theorem dX4_copy_1 : decode cX4_copy 1 = .ok (.aload_n 1, 1) := by decide +kernel
theorem dX4_copy_2 : decode cX4_copy 2 = .ok (.getfield 9, 3) := by decide +kernel
theorem dX4_copy_5 : decode cX4_copy 5 = .ok (.putfield 9, 3) := by decide +kernel
theorem dX4_copy_8 : decode cX4_copy 8 = .ok (.iconst 0, 1) := by decide +kernel
theorem dX4_copy_9 : decode cX4_copy 9 = .ok (.istore_n 2, 1) := by decide +kernel
theorem dX4_copy_10 : decode cX4_copy 10 = .ok (.iload_n 2, 1) := by decide +kernel
theorem dX4_copy_11 : decode cX4_copy 11 = .ok (.aload_n 1, 1) := by decide +kernel
theorem dX4_copy_12 : decode cX4_copy 12 = .ok (.getfield 9, 3) := by decide +kernel
theorem dX4_copy_15 : decode cX4_copy 15 = .ok (.if_icmp .ge 69, 3) := by decide +kernel
theorem dX4_copy_18 : decode cX4_copy 18 = .ok (.aload_n 0, 1) := by decide +kernel
theorem dX4_copy_19 : decode cX4_copy 19 = .ok (.getfield 15, 3) := by decide +kernel
theorem dX4_copy_22 : decode cX4_copy 22 = .ok (.iload_n 2, 1) := by decide +kernel
theorem dX4_copy_23 : decode cX4_copy 23 = .ok (.aload_n 1, 1) := by decide +kernel
theorem dX4_copy_24 : decode cX4_copy 24 = .ok (.getfield 15, 3) := by decide +kernel
theorem dX4_copy_27 : decode cX4_copy 27 = .ok (.iload_n 2, 1) := by decide +kernel
theorem dX4_copy_28 : decode cX4_copy 28 = .ok (.iaload, 1) := by decide +kernel
theorem dX4_copy_29 : decode cX4_copy 29 = .ok (.iastore, 1) := by decide +kernel
theorem dX4_copy_30 : decode cX4_copy 30 = .ok (.aload_n 0, 1) := by decide +kernel
theorem dX4_copy_31 : decode cX4_copy 31 = .ok (.getfield 19, 3) := by decide +kernel
theorem dX4_copy_34 : decode cX4_copy 34 = .ok (.iload_n 2, 1) := by decide +kernel
theorem dX4_copy_35 : decode cX4_copy 35 = .ok (.aload_n 1, 1) := by decide +kernel
theorem dX4_copy_36 : decode cX4_copy 36 = .ok (.getfield 19, 3) := by decide +kernel
theorem dX4_copy_39 : decode cX4_copy 39 = .ok (.iload_n 2, 1) := by decide +kernel
theorem dX4_copy_40 : decode cX4_copy 40 = .ok (.iaload, 1) := by decide +kernel
theorem dX4_copy_41 : decode cX4_copy 41 = .ok (.iastore, 1) := by decide +kernel
theorem dX4_copy_42 : decode cX4_copy 42 = .ok (.aload_n 0, 1) := by decide +kernel
theorem dX4_copy_43 : decode cX4_copy 43 = .ok (.getfield 22, 3) := by decide +kernel
theorem dX4_copy_46 : decode cX4_copy 46 = .ok (.iload_n 2, 1) := by decide +kernel
theorem dX4_copy_47 : decode cX4_copy 47 = .ok (.aload_n 1, 1) := by decide +kernel
theorem dX4_copy_48 : decode cX4_copy 48 = .ok (.getfield 22, 3) := by decide +kernel
theorem dX4_copy_51 : decode cX4_copy 51 = .ok (.iload_n 2, 1) := by decide +kernel
theorem dX4_copy_52 : decode cX4_copy 52 = .ok (.iaload, 1) := by decide +kernel
theorem dX4_copy_53 : decode cX4_copy 53 = .ok (.iastore, 1) := by decide +kernel
theorem dX4_copy_54 : decode cX4_copy 54 = .ok (.aload_n 0, 1) := by decide +kernel
theorem dX4_copy_55 : decode cX4_copy 55 = .ok (.getfield 25, 3) := by decide +kernel
theorem dX4_copy_58 : decode cX4_copy 58 = .ok (.iload_n 2, 1) := by decide +kernel
theorem dX4_copy_59 : decode cX4_copy 59 = .ok (.aload_n 1, 1) := by decide +kernel
theorem dX4_copy_60 : decode cX4_copy 60 = .ok (.getfield 25, 3) := by decide +kernel
theorem dX4_copy_63 : decode cX4_copy 63 = .ok (.iload_n 2, 1) := by decide +kernel
theorem dX4_copy_64 : decode cX4_copy 64 = .ok (.iaload, 1) := by decide +kernel
theorem dX4_copy_65 : decode cX4_copy 65 = .ok (.iastore, 1) := by decide +kernel
theorem dX4_copy_66 : decode cX4_copy 66 = .ok (.aload_n 0, 1) := by decide +kernel
theorem dX4_copy_67 : decode cX4_copy 67 = .ok (.getfield 28, 3) := by decide +kernel
theorem dX4_copy_70 : decode cX4_copy 70 = .ok (.iload_n 2, 1) := by decide +kernel
theorem dX4_copy_71 : decode cX4_copy 71 = .ok (.aload_n 1, 1) := by decide +kernel
theorem dX4_copy_72 : decode cX4_copy 72 = .ok (.getfield 28, 3) := by decide +kernel
theorem dX4_copy_75 : decode cX4_copy 75 = .ok (.iload_n 2, 1) := by decide +kernel
theorem dX4_copy_76 : decode cX4_copy 76 = .ok (.iaload, 1) := by decide +kernel
theorem dX4_copy_77 : decode cX4_copy 77 = .ok (.iastore, 1) := by decide +kernel
theorem dX4_copy_78 : decode cX4_copy 78 = .ok (.iinc 2 1, 3) := by decide +kernel
theorem dX4_copy_81 : decode cX4_copy 81 = .ok (.goto (-71), 3) := by decide +kernel
theorem dX4_copy_84 : decode cX4_copy 84 = .ok (.return_, 1) := by decide +kernel
theorem dX4_valueOf_0 : decode cX4_valueOf 0 = .ok (.iload_n 2, 1) := by decide +kernel
theorem dX4_valueOf_1 : decode cX4_valueOf 1 = .ok (.aload_n 0, 1) := by decide +kernel
theorem dX4_valueOf_2 : decode cX4_valueOf 2 = .ok (.getfield 25, 3) := by decide +kernel
theorem dX4_valueOf_5 : decode cX4_valueOf 5 = .ok (.iload_n 1, 1) := by decide +kernel
theorem dX4_valueOf_6 : decode cX4_valueOf 6 = .ok (.iaload, 1) := by decide +kernel
theorem dX4_valueOf_7 : decode cX4_valueOf 7 = .ok (.if_icmp .gt 10, 3) := by decide +kernel
theorem dX4_valueOf_10 : decode cX4_valueOf 10 = .ok (.aload_n 0, 1) := by decide +kernel
theorem dX4_valueOf_11 : decode cX4_valueOf 11 = .ok (.getfield 28, 3) := by decide +kernel
theorem dX4_valueOf_14 : decode cX4_valueOf 14 = .ok (.iload_n 1, 1) := by decide +kernel
theorem dX4_valueOf_15 : decode cX4_valueOf 15 = .ok (.iaload, 1) := by decide +kernel
theorem dX4_valueOf_16 : decode cX4_valueOf 16 = .ok (.ireturn, 1) := by decide +kernel
theorem dX4_valueOf_17 : decode cX4_valueOf 17 = .ok (.aload_n 0, 1) := by decide +kernel
theorem dX4_valueOf_18 : decode cX4_valueOf 18 = .ok (.getfield 15, 3) := by decide +kernel
theorem dX4_valueOf_21 : decode cX4_valueOf 21 = .ok (.iload_n 1, 1) := by decide +kernel
theorem dX4_valueOf_22 : decode cX4_valueOf 22 = .ok (.iaload, 1) := by decide +kernel
theorem dX4_valueOf_23 : decode cX4_valueOf 23 = .ok (.tableswitch 75 1 4 #[29, 34, 43, 54], 29) := by decide +kernel
theorem dX4_valueOf_52 : decode cX4_valueOf 52 = .ok (.bipush (-2), 2) := by decide +kernel
theorem dX4_valueOf_54 : decode cX4_valueOf 54 = .ok (.iload_n 3, 1) := by decide +kernel
theorem dX4_valueOf_55 : decode cX4_valueOf 55 = .ok (.imul, 1) := by decide +kernel
theorem dX4_valueOf_56 : decode cX4_valueOf 56 = .ok (.ireturn, 1) := by decide +kernel
theorem dX4_valueOf_57 : decode cX4_valueOf 57 = .ok (.aload_n 0, 1) := by decide +kernel
theorem dX4_valueOf_58 : decode cX4_valueOf 58 = .ok (.getfield 28, 3) := by decide +kernel
theorem dX4_valueOf_61 : decode cX4_valueOf 61 = .ok (.iload_n 1, 1) := by decide +kernel
theorem dX4_valueOf_62 : decode cX4_valueOf 62 = .ok (.iaload, 1) := by decide +kernel
theorem dX4_valueOf_63 : decode cX4_valueOf 63 = .ok (.iconst 2, 1) := by decide +kernel
theorem dX4_valueOf_64 : decode cX4_valueOf 64 = .ok (.idiv, 1) := by decide +kernel
theorem dX4_valueOf_65 : decode cX4_valueOf 65 = .ok (.ireturn, 1) := by decide +kernel
theorem dX4_valueOf_66 : decode cX4_valueOf 66 = .ok (.aload_n 0, 1) := by decide +kernel
theorem dX4_valueOf_67 : decode cX4_valueOf 67 = .ok (.getfield 28, 3) := by decide +kernel
theorem dX4_valueOf_70 : decode cX4_valueOf 70 = .ok (.iload_n 1, 1) := by decide +kernel
theorem dX4_valueOf_71 : decode cX4_valueOf 71 = .ok (.iaload, 1) := by decide +kernel
theorem dX4_valueOf_72 : decode cX4_valueOf 72 = .ok (.iconst 2, 1) := by decide +kernel
theorem dX4_valueOf_73 : decode cX4_valueOf 73 = .ok (.idiv, 1) := by decide +kernel
theorem dX4_valueOf_74 : decode cX4_valueOf 74 = .ok (.iload_n 3, 1) := by decide +kernel
theorem dX4_valueOf_75 : decode cX4_valueOf 75 = .ok (.isub, 1) := by decide +kernel
theorem dX4_valueOf_76 : decode cX4_valueOf 76 = .ok (.ireturn, 1) := by decide +kernel
theorem dX4_valueOf_77 : decode cX4_valueOf 77 = .ok (.iload_n 2, 1) := by decide +kernel
theorem dX4_valueOf_78 : decode cX4_valueOf 78 = .ok (.aload_n 0, 1) := by decide +kernel
theorem dX4_valueOf_79 : decode cX4_valueOf 79 = .ok (.getfield 25, 3) := by decide +kernel
theorem dX4_valueOf_82 : decode cX4_valueOf 82 = .ok (.iload_n 1, 1) := by decide +kernel
theorem dX4_valueOf_83 : decode cX4_valueOf 83 = .ok (.iaload, 1) := by decide +kernel
theorem dX4_valueOf_84 : decode cX4_valueOf 84 = .ok (.iconst 1, 1) := by decide +kernel
theorem dX4_valueOf_85 : decode cX4_valueOf 85 = .ok (.iadd, 1) := by decide +kernel
theorem dX4_valueOf_86 : decode cX4_valueOf 86 = .ok (.if_icmp .ne 7, 3) := by decide +kernel
theorem dX4_valueOf_89 : decode cX4_valueOf 89 = .ok (.iconst 0, 1) := by decide +kernel
theorem dX4_valueOf_90 : decode cX4_valueOf 90 = .ok (.goto 7, 3) := by decide +kernel
theorem dX4_valueOf_93 : decode cX4_valueOf 93 = .ok (.bipush (-2), 2) := by decide +kernel
theorem dX4_valueOf_95 : decode cX4_valueOf 95 = .ok (.iload_n 3, 1) := by decide +kernel
theorem dX4_valueOf_96 : decode cX4_valueOf 96 = .ok (.imul, 1) := by decide +kernel
theorem dX4_valueOf_97 : decode cX4_valueOf 97 = .ok (.ireturn, 1) := by decide +kernel
theorem dX4_valueOf_98 : decode cX4_valueOf 98 = .ok (.iload_n 3, 1) := by decide +kernel
theorem dX4_valueOf_99 : decode cX4_valueOf 99 = .ok (.ineg, 1) := by decide +kernel
theorem dX4_valueOf_100 : decode cX4_valueOf 100 = .ok (.ireturn, 1) := by decide +kernel
theorem dX5_init_0 : decode cX5_init 0 = .ok (.aload_n 0, 1) := by decide +kernel
theorem dX5_init_1 : decode cX5_init 1 = .ok (.invokespecial 3, 3) := by decide +kernel
theorem dX5_init_4 : decode cX5_init 4 = .ok (.aload_n 0, 1) := by decide +kernel
theorem dX5_init_5 : decode cX5_init 5 = .ok (.bipush 6, 2) := by decide +kernel
theorem dX5_init_7 : decode cX5_init 7 = .ok (.newarray .int, 2) := by decide +kernel
theorem dX5_init_9 : decode cX5_init 9 = .ok (.putfield 9, 3) := by decide +kernel
theorem dX5_init_12 : decode cX5_init 12 = .ok (.aload_n 0, 1) := by decide +kernel
theorem dX5_init_13 : decode cX5_init 13 = .ok (.bipush 6, 2) := by decide +kernel
theorem dX5_init_15 : decode cX5_init 15 = .ok (.newarray .int, 2) := by decide +kernel
theorem dX5_init_17 : decode cX5_init 17 = .ok (.putfield 15, 3) := by decide +kernel
theorem dX5_init_20 : decode cX5_init 20 = .ok (.aload_n 0, 1) := by decide +kernel
theorem dX5_init_21 : decode cX5_init 21 = .ok (.iconst 0, 1) := by decide +kernel
theorem dX5_init_22 : decode cX5_init 22 = .ok (.putfield 18, 3) := by decide +kernel
theorem dX5_init_25 : decode cX5_init 25 = .ok (.aload_n 0, 1) := by decide +kernel
theorem dX5_init_26 : decode cX5_init 26 = .ok (.iconst 0, 1) := by decide +kernel
theorem dX5_init_27 : decode cX5_init 27 = .ok (.putfield 22, 3) := by decide +kernel
theorem dX5_init_30 : decode cX5_init 30 = .ok (.aload_n 0, 1) := by decide +kernel
theorem dX5_init_31 : decode cX5_init 31 = .ok (.ldc 25, 2) := by decide +kernel
theorem dX5_init_33 : decode cX5_init 33 = .ok (.putfield 26, 3) := by decide +kernel
theorem dX5_init_36 : decode cX5_init 36 = .ok (.aload_n 0, 1) := by decide +kernel
theorem dX5_init_37 : decode cX5_init 37 = .ok (.aload_n 1, 1) := by decide +kernel
theorem dX5_init_38 : decode cX5_init 38 = .ok (.putfield 29, 3) := by decide +kernel
theorem dX5_init_41 : decode cX5_init 41 = .ok (.return_, 1) := by decide +kernel
theorem dX5_mostWorth_0 : decode cX5_mostWorth 0 = .ok (.iconst 0, 1) := by decide +kernel
theorem dX5_mostWorth_1 : decode cX5_mostWorth 1 = .ok (.istore_n 3, 1) := by decide +kernel
theorem dX5_mostWorth_2 : decode cX5_mostWorth 2 = .ok (.iconst 0, 1) := by decide +kernel
theorem dX5_mostWorth_3 : decode cX5_mostWorth 3 = .ok (.istore 4, 2) := by decide +kernel
theorem dX5_mostWorth_5 : decode cX5_mostWorth 5 = .ok (.iload 4, 2) := by decide +kernel
theorem dX5_mostWorth_7 : decode cX5_mostWorth 7 = .ok (.aload_n 1, 1) := by decide +kernel
theorem dX5_mostWorth_8 : decode cX5_mostWorth 8 = .ok (.getfield 33, 3) := by decide +kernel
theorem dX5_mostWorth_11 : decode cX5_mostWorth 11 = .ok (.if_icmp .ge 25, 3) := by decide +kernel
theorem dX5_mostWorth_14 : decode cX5_mostWorth 14 = .ok (.iload 4, 2) := by decide +kernel
theorem dX5_mostWorth_16 : decode cX5_mostWorth 16 = .ok (.iload_n 2, 1) := by decide +kernel
theorem dX5_mostWorth_17 : decode cX5_mostWorth 17 = .ok (.if_icmp .eq 13, 3) := by decide +kernel
theorem dX5_mostWorth_20 : decode cX5_mostWorth 20 = .ok (.iload_n 3, 1) := by decide +kernel
theorem dX5_mostWorth_21 : decode cX5_mostWorth 21 = .ok (.aload_n 1, 1) := by decide +kernel
theorem dX5_mostWorth_22 : decode cX5_mostWorth 22 = .ok (.getfield 38, 3) := by decide +kernel
