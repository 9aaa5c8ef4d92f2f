theorem dX12_gain_38 : decode cX12_gain 38 = .ok (.invokevirtual 297, 3) := by decide +kernel
theorem dX12_gain_41 : decode cX12_gain 41 = .ok (.istore 6, 2) := by decide +kernel
theorem dX12_gain_43 : decode cX12_gain 43 = .ok (.aload_n 0, 1) := by decide +kernel
theorem dX12_gain_44 : decode cX12_gain 44 = .ok (.aload_n 0, 1) := by decide +kernel
theorem dX12_gain_45 : decode cX12_gain 45 = .ok (.getfield 96, 3) := by decide +kernel
theorem dX12_gain_48 : decode cX12_gain 48 = .ok (.iload_n 1, 1) := by decide +kernel
theorem dX12_gain_49 : decode cX12_gain 49 = .ok (.iload_n 2, 1) := by decide +kernel
theorem dX12_gain_50 : decode cX12_gain 50 = .ok (.iload_n 3, 1) := by decide +kernel
theorem dX12_gain_51 : decode cX12_gain 51 = .ok (.iload 4, 2) := by decide +kernel
theorem dX12_gain_53 : decode cX12_gain 53 = .ok (.iload 5, 2) := by decide +kernel
theorem dX12_gain_55 : decode cX12_gain 55 = .ok (.invokevirtual 213, 3) := by decide +kernel
theorem dX12_gain_58 : decode cX12_gain 58 = .ok (.aload_n 0, 1) := by decide +kernel
theorem dX12_gain_59 : decode cX12_gain 59 = .ok (.aload_n 0, 1) := by decide +kernel
theorem dX12_gain_60 : decode cX12_gain 60 = .ok (.getfield 96, 3) := by decide +kernel
theorem dX12_gain_63 : decode cX12_gain 63 = .ok (.iconst 1, 1) := by decide +kernel
theorem dX12_gain_64 : decode cX12_gain 64 = .ok (.iadd, 1) := by decide +kernel
theorem dX12_gain_65 : decode cX12_gain 65 = .ok (.iconst (-1), 1) := by decide +kernel
theorem dX12_gain_66 : decode cX12_gain 66 = .ok (.invokevirtual 297, 3) := by decide +kernel
theorem dX12_gain_69 : decode cX12_gain 69 = .ok (.iload 6, 2) := by decide +kernel
theorem dX12_gain_71 : decode cX12_gain 71 = .ok (.isub, 1) := by decide +kernel
theorem dX12_gain_72 : decode cX12_gain 72 = .ok (.ireturn, 1) := by decide +kernel
theorem dX12_across_0 : decode cX12_across 0 = .ok (.iload_n 1, 1) := by decide +kernel
theorem dX12_across_1 : decode cX12_across 1 = .ok (.invokestatic 103, 3) := by decide +kernel
theorem dX12_across_4 : decode cX12_across 4 = .ok (.ifCond .ne 7, 3) := by decide +kernel
theorem dX12_across_7 : decode cX12_across 7 = .ok (.ldc_w 284, 3) := by decide +kernel
theorem dX12_across_10 : decode cX12_across 10 = .ok (.ireturn, 1) := by decide +kernel
theorem dX12_across_11 : decode cX12_across 11 = .ok (.bipush (-9), 2) := by decide +kernel
theorem dX12_across_13 : decode cX12_across 13 = .ok (.istore_n 2, 1) := by decide +kernel
theorem dX12_across_14 : decode cX12_across 14 = .ok (.aload_n 0, 1) := by decide +kernel
theorem dX12_across_15 : decode cX12_across 15 = .ok (.aload_n 0, 1) := by decide +kernel
theorem dX12_across_16 : decode cX12_across 16 = .ok (.getfield 96, 3) := by decide +kernel
theorem dX12_across_19 : decode cX12_across 19 = .ok (.iconst (-1), 1) := by decide +kernel
theorem dX12_across_20 : decode cX12_across 20 = .ok (.invokevirtual 297, 3) := by decide +kernel
theorem dX12_across_23 : decode cX12_across 23 = .ok (.istore_n 3, 1) := by decide +kernel
theorem dX12_across_24 : decode cX12_across 24 = .ok (.iconst 0, 1) := by decide +kernel
theorem dX12_across_25 : decode cX12_across 25 = .ok (.istore 4, 2) := by decide +kernel
theorem dX12_across_27 : decode cX12_across 27 = .ok (.iload 4, 2) := by decide +kernel
theorem dX12_across_29 : decode cX12_across 29 = .ok (.aload_n 0, 1) := by decide +kernel
theorem dX12_across_30 : decode cX12_across 30 = .ok (.getfield 96, 3) := by decide +kernel
theorem dX12_across_33 : decode cX12_across 33 = .ok (.if_icmp .ge 57, 3) := by decide +kernel
theorem dX12_across_36 : decode cX12_across 36 = .ok (.aload_n 0, 1) := by decide +kernel
theorem dX12_across_37 : decode cX12_across 37 = .ok (.aload_n 0, 1) := by decide +kernel
theorem dX12_across_38 : decode cX12_across 38 = .ok (.getfield 96, 3) := by decide +kernel
theorem dX12_across_41 : decode cX12_across 41 = .ok (.iload 4, 2) := by decide +kernel
theorem dX12_across_43 : decode cX12_across 43 = .ok (.invokevirtual 297, 3) := by decide +kernel
theorem dX12_across_46 : decode cX12_across 46 = .ok (.aload_n 0, 1) := by decide +kernel
theorem dX12_across_47 : decode cX12_across 47 = .ok (.iload 4, 2) := by decide +kernel
theorem dX12_across_49 : decode cX12_across 49 = .ok (.iconst 4, 1) := by decide +kernel
theorem dX12_across_50 : decode cX12_across 50 = .ok (.invokevirtual 242, 3) := by decide +kernel
theorem dX12_across_53 : decode cX12_across 53 = .ok (.iconst 2, 1) := by decide +kernel
theorem dX12_across_54 : decode cX12_across 54 = .ok (.idiv, 1) := by decide +kernel
theorem dX12_across_55 : decode cX12_across 55 = .ok (.iadd, 1) := by decide +kernel
theorem dX12_across_56 : decode cX12_across 56 = .ok (.istore 5, 2) := by decide +kernel
theorem dX12_across_58 : decode cX12_across 58 = .ok (.iload 5, 2) := by decide +kernel
theorem dX12_across_60 : decode cX12_across 60 = .ok (.iload_n 3, 1) := by decide +kernel
theorem dX12_across_61 : decode cX12_across 61 = .ok (.if_icmp .le 8, 3) := by decide +kernel
theorem dX12_across_64 : decode cX12_across 64 = .ok (.iload 4, 2) := by decide +kernel
theorem dX12_across_66 : decode cX12_across 66 = .ok (.goto 4, 3) := by decide +kernel
theorem dX12_across_69 : decode cX12_across 69 = .ok (.iload_n 2, 1) := by decide +kernel
theorem dX12_across_70 : decode cX12_across 70 = .ok (.istore_n 2, 1) := by decide +kernel
theorem dX12_across_71 : decode cX12_across 71 = .ok (.iload 5, 2) := by decide +kernel
theorem dX12_across_73 : decode cX12_across 73 = .ok (.iload_n 3, 1) := by decide +kernel
theorem dX12_across_74 : decode cX12_across 74 = .ok (.if_icmp .le 8, 3) := by decide +kernel
theorem dX12_across_77 : decode cX12_across 77 = .ok (.iload 5, 2) := by decide +kernel
theorem dX12_across_79 : decode cX12_across 79 = .ok (.goto 4, 3) := by decide +kernel
theorem dX12_across_82 : decode cX12_across 82 = .ok (.iload_n 3, 1) := by decide +kernel
theorem dX12_across_83 : decode cX12_across 83 = .ok (.istore_n 3, 1) := by decide +kernel
theorem dX12_across_84 : decode cX12_across 84 = .ok (.iinc 4 1, 3) := by decide +kernel
theorem dX12_across_87 : decode cX12_across 87 = .ok (.goto (-60), 3) := by decide +kernel
theorem dX12_across_90 : decode cX12_across 90 = .ok (.iload_n 1, 1) := by decide +kernel
theorem dX12_across_91 : decode cX12_across 91 = .ok (.ifCond .ne 7, 3) := by decide +kernel
theorem dX12_across_94 : decode cX12_across 94 = .ok (.iload_n 2, 1) := by decide +kernel
theorem dX12_across_95 : decode cX12_across 95 = .ok (.goto 4, 3) := by decide +kernel
theorem dX12_across_98 : decode cX12_across 98 = .ok (.iload_n 3, 1) := by decide +kernel
theorem dX12_across_99 : decode cX12_across 99 = .ok (.ireturn, 1) := by decide +kernel
theorem dX12_nights_0 : decode cX12_nights 0 = .ok (.iconst 0, 1) := by decide +kernel
theorem dX12_nights_1 : decode cX12_nights 1 = .ok (.istore_n 1, 1) := by decide +kernel
theorem dX12_nights_2 : decode cX12_nights 2 = .ok (.iload_n 1, 1) := by decide +kernel
theorem dX12_nights_3 : decode cX12_nights 3 = .ok (.bipush 10, 2) := by decide +kernel
theorem dX12_nights_5 : decode cX12_nights 5 = .ok (.if_icmp .ge 51, 3) := by decide +kernel
theorem dX12_nights_8 : decode cX12_nights 8 = .ok (.aload_n 0, 1) := by decide +kernel
theorem dX12_nights_9 : decode cX12_nights 9 = .ok (.aload_n 0, 1) := by decide +kernel
theorem dX12_nights_10 : decode cX12_nights 10 = .ok (.getfield 96, 3) := by decide +kernel
theorem dX12_nights_13 : decode cX12_nights 13 = .ok (.iconst (-1), 1) := by decide +kernel
theorem dX12_nights_14 : decode cX12_nights 14 = .ok (.invokevirtual 281, 3) := by decide +kernel
theorem dX12_nights_17 : decode cX12_nights 17 = .ok (.istore_n 2, 1) := by decide +kernel
theorem dX12_nights_18 : decode cX12_nights 18 = .ok (.iconst 1, 1) := by decide +kernel
theorem dX12_nights_19 : decode cX12_nights 19 = .ok (.istore_n 3, 1) := by decide +kernel
theorem dX12_nights_20 : decode cX12_nights 20 = .ok (.iload_n 3, 1) := by decide +kernel
theorem dX12_nights_21 : decode cX12_nights 21 = .ok (.ifCond .eq 29, 3) := by decide +kernel
theorem dX12_nights_24 : decode cX12_nights 24 = .ok (.aload_n 0, 1) := by decide +kernel
theorem dX12_nights_25 : decode cX12_nights 25 = .ok (.iload_n 2, 1) := by decide +kernel
theorem dX12_nights_26 : decode cX12_nights 26 = .ok (.iconst 0, 1) := by decide +kernel
theorem dX12_nights_27 : decode cX12_nights 27 = .ok (.iload_n 1, 1) := by decide +kernel
theorem dX12_nights_28 : decode cX12_nights 28 = .ok (.invokevirtual 267, 3) := by decide +kernel
theorem dX12_nights_31 : decode cX12_nights 31 = .ok (.aload_n 0, 1) := by decide +kernel
theorem dX12_nights_32 : decode cX12_nights 32 = .ok (.iload_n 2, 1) := by decide +kernel
theorem dX12_nights_33 : decode cX12_nights 33 = .ok (.invokevirtual 303, 3) := by decide +kernel
theorem dX12_nights_36 : decode cX12_nights 36 = .ok (.ifCond .ne 5, 3) := by decide +kernel
theorem dX12_nights_39 : decode cX12_nights 39 = .ok (.iload_n 1, 1) := by decide +kernel
theorem dX12_nights_40 : decode cX12_nights 40 = .ok (.ireturn, 1) := by decide +kernel
theorem dX12_nights_41 : decode cX12_nights 41 = .ok (.aload_n 0, 1) := by decide +kernel
theorem dX12_nights_42 : decode cX12_nights 42 = .ok (.iload_n 2, 1) := by decide +kernel
theorem dX12_nights_43 : decode cX12_nights 43 = .ok (.invokevirtual 288, 3) := by decide +kernel
theorem dX12_nights_46 : decode cX12_nights 46 = .ok (.istore_n 3, 1) := by decide +kernel
theorem dX12_nights_47 : decode cX12_nights 47 = .ok (.goto (-27), 3) := by decide +kernel
theorem dX12_nights_50 : decode cX12_nights 50 = .ok (.iinc 1 1, 3) := by decide +kernel
theorem dX12_nights_53 : decode cX12_nights 53 = .ok (.goto (-51), 3) := by decide +kernel
theorem dX12_nights_56 : decode cX12_nights 56 = .ok (.bipush (-3), 2) := by decide +kernel
theorem dX12_nights_58 : decode cX12_nights 58 = .ok (.ireturn, 1) := by decide +kernel
theorem dX12_lowest_0 : decode cX12_lowest 0 = .ok (.iload_n 1, 1) := by decide +kernel
theorem dX12_lowest_1 : decode cX12_lowest 1 = .ok (.ifCond .ge 8, 3) := by decide +kernel
theorem dX12_lowest_4 : decode cX12_lowest 4 = .ok (.iload_n 1, 1) := by decide +kernel
theorem dX12_lowest_5 : decode cX12_lowest 5 = .ok (.ineg, 1) := by decide +kernel
theorem dX12_lowest_6 : decode cX12_lowest 6 = .ok (.goto 4, 3) := by decide +kernel
theorem dX12_lowest_9 : decode cX12_lowest 9 = .ok (.iload_n 1, 1) := by decide +kernel
theorem dX12_lowest_10 : decode cX12_lowest 10 = .ok (.istore_n 3, 1) := by decide +kernel
theorem dX12_lowest_11 : decode cX12_lowest 11 = .ok (.iload_n 2, 1) := by decide +kernel
theorem dX12_lowest_12 : decode cX12_lowest 12 = .ok (.istore 4, 2) := by decide +kernel
theorem dX12_lowest_14 : decode cX12_lowest 14 = .ok (.iload 4, 2) := by decide +kernel
theorem dX12_lowest_16 : decode cX12_lowest 16 = .ok (.ifCond .eq 19, 3) := by decide +kernel
theorem dX12_lowest_19 : decode cX12_lowest 19 = .ok (.iload_n 3, 1) := by decide +kernel
theorem dX12_lowest_20 : decode cX12_lowest 20 = .ok (.iload 4, 2) := by decide +kernel
theorem dX12_lowest_22 : decode cX12_lowest 22 = .ok (.irem, 1) := by decide +kernel
theorem dX12_lowest_23 : decode cX12_lowest 23 = .ok (.istore 5, 2) := by decide +kernel
theorem dX12_lowest_25 : decode cX12_lowest 25 = .ok (.iload 4, 2) := by decide +kernel
theorem dX12_lowest_27 : decode cX12_lowest 27 = .ok (.istore_n 3, 1) := by decide +kernel
theorem dX12_lowest_28 : decode cX12_lowest 28 = .ok (.iload 5, 2) := by decide +kernel
theorem dX12_lowest_30 : decode cX12_lowest 30 = .ok (.istore 4, 2) := by decide +kernel
theorem dX12_lowest_32 : decode cX12_lowest 32 = .ok (.goto (-18), 3) := by decide +kernel
theorem dX12_lowest_35 : decode cX12_lowest 35 = .ok (.aload_n 0, 1) := by decide +kernel
theorem dX12_lowest_36 : decode cX12_lowest 36 = .ok (.iload_n 1, 1) := by decide +kernel
theorem dX12_lowest_37 : decode cX12_lowest 37 = .ok (.iload_n 3, 1) := by decide +kernel
theorem dX12_lowest_38 : decode cX12_lowest 38 = .ok (.idiv, 1) := by decide +kernel
theorem dX12_lowest_39 : decode cX12_lowest 39 = .ok (.putfield 306, 3) := by decide +kernel
theorem dX12_lowest_42 : decode cX12_lowest 42 = .ok (.aload_n 0, 1) := by decide +kernel
theorem dX12_lowest_43 : decode cX12_lowest 43 = .ok (.iload_n 2, 1) := by decide +kernel
theorem dX12_lowest_44 : decode cX12_lowest 44 = .ok (.iload_n 3, 1) := by decide +kernel
theorem dX12_lowest_45 : decode cX12_lowest 45 = .ok (.idiv, 1) := by decide +kernel
theorem dX12_lowest_46 : decode cX12_lowest 46 = .ok (.putfield 309, 3) := by decide +kernel
theorem dX12_lowest_49 : decode cX12_lowest 49 = .ok (.return_, 1) := by decide +kernel
theorem dX12_oftenOf_0 : decode cX12_oftenOf 0 = .ok (.iconst 1, 1) := by decide +kernel
theorem dX12_oftenOf_1 : decode cX12_oftenOf 1 = .ok (.istore_n 2, 1) := by decide +kernel
theorem dX12_oftenOf_2 : decode cX12_oftenOf 2 = .ok (.iconst 0, 1) := by decide +kernel
theorem dX12_oftenOf_3 : decode cX12_oftenOf 3 = .ok (.istore_n 3, 1) := by decide +kernel
theorem dX12_oftenOf_4 : decode cX12_oftenOf 4 = .ok (.iload_n 3, 1) := by decide +kernel
theorem dX12_oftenOf_5 : decode cX12_oftenOf 5 = .ok (.aload_n 0, 1) := by decide +kernel
theorem dX12_oftenOf_6 : decode cX12_oftenOf 6 = .ok (.getfield 96, 3) := by decide +kernel
theorem dX12_oftenOf_9 : decode cX12_oftenOf 9 = .ok (.if_icmp .ge 38, 3) := by decide +kernel
theorem dX12_oftenOf_12 : decode cX12_oftenOf 12 = .ok (.iload_n 2, 1) := by decide +kernel
theorem dX12_oftenOf_13 : decode cX12_oftenOf 13 = .ok (.iload_n 1, 1) := by decide +kernel
theorem dX12_oftenOf_14 : decode cX12_oftenOf 14 = .ok (.iload_n 3, 1) := by decide +kernel
theorem dX12_oftenOf_15 : decode cX12_oftenOf 15 = .ok (.ishr, 1) := by decide +kernel
theorem dX12_oftenOf_16 : decode cX12_oftenOf 16 = .ok (.iconst 1, 1) := by decide +kernel
theorem dX12_oftenOf_17 : decode cX12_oftenOf 17 = .ok (.iand, 1) := by decide +kernel
theorem dX12_oftenOf_18 : decode cX12_oftenOf 18 = .ok (.iconst 1, 1) := by decide +kernel
theorem dX12_oftenOf_19 : decode cX12_oftenOf 19 = .ok (.if_icmp .ne 12, 3) := by decide +kernel
theorem dX12_oftenOf_22 : decode cX12_oftenOf 22 = .ok (.aload_n 0, 1) := by decide +kernel
theorem dX12_oftenOf_23 : decode cX12_oftenOf 23 = .ok (.getfield 13, 3) := by decide +kernel
theorem dX12_oftenOf_26 : decode cX12_oftenOf 26 = .ok (.iconst 3, 1) := by decide +kernel
theorem dX12_oftenOf_27 : decode cX12_oftenOf 27 = .ok (.iaload, 1) := by decide +kernel
theorem dX12_oftenOf_28 : decode cX12_oftenOf 28 = .ok (.goto 11, 3) := by decide +kernel
theorem dX12_oftenOf_31 : decode cX12_oftenOf 31 = .ok (.iconst 4, 1) := by decide +kernel
theorem dX12_oftenOf_32 : decode cX12_oftenOf 32 = .ok (.aload_n 0, 1) := by decide +kernel
theorem dX12_oftenOf_33 : decode cX12_oftenOf 33 = .ok (.getfield 13, 3) := by decide +kernel
theorem dX12_oftenOf_36 : decode cX12_oftenOf 36 = .ok (.iconst 3, 1) := by decide +kernel
theorem dX12_oftenOf_37 : decode cX12_oftenOf 37 = .ok (.iaload, 1) := by decide +kernel
theorem dX12_oftenOf_38 : decode cX12_oftenOf 38 = .ok (.isub, 1) := by decide +kernel
theorem dX12_oftenOf_39 : decode cX12_oftenOf 39 = .ok (.imul, 1) := by decide +kernel
theorem dX12_oftenOf_40 : decode cX12_oftenOf 40 = .ok (.istore_n 2, 1) := by decide +kernel
theorem dX12_oftenOf_41 : decode cX12_oftenOf 41 = .ok (.iinc 3 1, 3) := by decide +kernel
theorem dX12_oftenOf_44 : decode cX12_oftenOf 44 = .ok (.goto (-40), 3) := by decide +kernel
theorem dX12_oftenOf_47 : decode cX12_oftenOf 47 = .ok (.iload_n 2, 1) := by decide +kernel
theorem dX12_oftenOf_48 : decode cX12_oftenOf 48 = .ok (.ireturn, 1) := by decide +kernel
theorem dX12_sureOf_0 : decode cX12_sureOf 0 = .ok (.iconst 0, 1) := by decide +kernel
theorem dX12_sureOf_1 : decode cX12_sureOf 1 = .ok (.istore_n 1, 1) := by decide +kernel
theorem dX12_sureOf_2 : decode cX12_sureOf 2 = .ok (.iconst 0, 1) := by decide +kernel
theorem dX12_sureOf_3 : decode cX12_sureOf 3 = .ok (.istore_n 2, 1) := by decide +kernel
theorem dX12_sureOf_4 : decode cX12_sureOf 4 = .ok (.iload_n 2, 1) := by decide +kernel
theorem dX12_sureOf_5 : decode cX12_sureOf 5 = .ok (.iconst 1, 1) := by decide +kernel
theorem dX12_sureOf_6 : decode cX12_sureOf 6 = .ok (.aload_n 0, 1) := by decide +kernel
theorem dX12_sureOf_7 : decode cX12_sureOf 7 = .ok (.getfield 96, 3) := by decide +kernel
theorem dX12_sureOf_10 : decode cX12_sureOf 10 = .ok (.ishl, 1) := by decide +kernel
theorem dX12_sureOf_11 : decode cX12_sureOf 11 = .ok (.if_icmp .ge 48, 3) := by decide +kernel
theorem dX12_sureOf_14 : decode cX12_sureOf 14 = .ok (.aload_n 0, 1) := by decide +kernel
theorem dX12_sureOf_15 : decode cX12_sureOf 15 = .ok (.iload_n 2, 1) := by decide +kernel
theorem dX12_sureOf_16 : decode cX12_sureOf 16 = .ok (.invokevirtual 312, 3) := by decide +kernel
theorem dX12_sureOf_19 : decode cX12_sureOf 19 = .ok (.istore_n 3, 1) := by decide +kernel
theorem dX12_sureOf_20 : decode cX12_sureOf 20 = .ok (.iload_n 3, 1) := by decide +kernel
theorem dX12_sureOf_21 : decode cX12_sureOf 21 = .ok (.ifCond .le 32, 3) := by decide +kernel
theorem dX12_sureOf_24 : decode cX12_sureOf 24 = .ok (.aload_n 0, 1) := by decide +kernel
theorem dX12_sureOf_25 : decode cX12_sureOf 25 = .ok (.aload_n 0, 1) := by decide +kernel
theorem dX12_sureOf_26 : decode cX12_sureOf 26 = .ok (.getfield 96, 3) := by decide +kernel
theorem dX12_sureOf_29 : decode cX12_sureOf 29 = .ok (.iload_n 2, 1) := by decide +kernel
theorem dX12_sureOf_30 : decode cX12_sureOf 30 = .ok (.iconst 0, 1) := by decide +kernel
theorem dX12_sureOf_31 : decode cX12_sureOf 31 = .ok (.invokevirtual 267, 3) := by decide +kernel
theorem dX12_sureOf_34 : decode cX12_sureOf 34 = .ok (.iload_n 1, 1) := by decide +kernel
theorem dX12_sureOf_35 : decode cX12_sureOf 35 = .ok (.aload_n 0, 1) := by decide +kernel
theorem dX12_sureOf_36 : decode cX12_sureOf 36 = .ok (.aload_n 0, 1) := by decide +kernel
theorem dX12_sureOf_37 : decode cX12_sureOf 37 = .ok (.getfield 96, 3) := by decide +kernel
theorem dX12_sureOf_40 : decode cX12_sureOf 40 = .ok (.invokevirtual 303, 3) := by decide +kernel
theorem dX12_sureOf_43 : decode cX12_sureOf 43 = .ok (.ifCond .ne 7, 3) := by decide +kernel
theorem dX12_sureOf_46 : decode cX12_sureOf 46 = .ok (.iload_n 3, 1) := by decide +kernel
theorem dX12_sureOf_47 : decode cX12_sureOf 47 = .ok (.goto 4, 3) := by decide +kernel
theorem dX12_sureOf_50 : decode cX12_sureOf 50 = .ok (.iconst 0, 1) := by decide +kernel
theorem dX12_sureOf_51 : decode cX12_sureOf 51 = .ok (.iadd, 1) := by decide +kernel
theorem dX12_sureOf_52 : decode cX12_sureOf 52 = .ok (.istore_n 1, 1) := by decide +kernel
theorem dX12_sureOf_53 : decode cX12_sureOf 53 = .ok (.iinc 2 1, 3) := by decide +kernel
theorem dX12_sureOf_56 : decode cX12_sureOf 56 = .ok (.goto (-52), 3) := by decide +kernel
theorem dX12_sureOf_59 : decode cX12_sureOf 59 = .ok (.iload_n 1, 1) := by decide +kernel
theorem dX12_sureOf_60 : decode cX12_sureOf 60 = .ok (.ireturn, 1) := by decide +kernel
theorem dX12_orderOfPlan_0 : decode cX12_orderOfPlan 0 = .ok (.iconst 0, 1) := by decide +kernel
theorem dX12_orderOfPlan_1 : decode cX12_orderOfPlan 1 = .ok (.istore_n 1, 1) := by decide +kernel
theorem dX12_orderOfPlan_2 : decode cX12_orderOfPlan 2 = .ok (.iload_n 1, 1) := by decide +kernel
theorem dX12_orderOfPlan_3 : decode cX12_orderOfPlan 3 = .ok (.aload_n 0, 1) := by decide +kernel
theorem dX12_orderOfPlan_4 : decode cX12_orderOfPlan 4 = .ok (.getfield 96, 3) := by decide +kernel
theorem dX12_orderOfPlan_7 : decode cX12_orderOfPlan 7 = .ok (.if_icmp .ge 21, 3) := by decide +kernel
theorem dX12_orderOfPlan_10 : decode cX12_orderOfPlan 10 = .ok (.aload_n 0, 1) := by decide +kernel
theorem dX12_orderOfPlan_11 : decode cX12_orderOfPlan 11 = .ok (.getfield 47, 3) := by decide +kernel
theorem dX12_orderOfPlan_14 : decode cX12_orderOfPlan 14 = .ok (.iload_n 1, 1) := by decide +kernel
theorem dX12_orderOfPlan_15 : decode cX12_orderOfPlan 15 = .ok (.aload_n 0, 1) := by decide +kernel
theorem dX12_orderOfPlan_16 : decode cX12_orderOfPlan 16 = .ok (.getfield 28, 3) := by decide +kernel
theorem dX12_orderOfPlan_19 : decode cX12_orderOfPlan 19 = .ok (.iload_n 1, 1) := by decide +kernel
theorem dX12_orderOfPlan_20 : decode cX12_orderOfPlan 20 = .ok (.iaload, 1) := by decide +kernel
theorem dX12_orderOfPlan_21 : decode cX12_orderOfPlan 21 = .ok (.iastore, 1) := by decide +kernel
theorem dX12_orderOfPlan_22 : decode cX12_orderOfPlan 22 = .ok (.iinc 1 1, 3) := by decide +kernel
theorem dX12_orderOfPlan_25 : decode cX12_orderOfPlan 25 = .ok (.goto (-23), 3) := by decide +kernel
theorem dX12_orderOfPlan_28 : decode cX12_orderOfPlan 28 = .ok (.return_, 1) := by decide +kernel
theorem dX12_sure_0 : decode cX12_sure 0 = .ok (.iload_n 1, 1) := by decide +kernel
theorem dX12_sure_1 : decode cX12_sure 1 = .ok (.invokestatic 103, 3) := by decide +kernel
theorem dX12_sure_4 : decode cX12_sure 4 = .ok (.ifCond .ne 5, 3) := by decide +kernel
theorem dX12_sure_7 : decode cX12_sure 7 = .ok (.iconst (-1), 1) := by decide +kernel
theorem dX12_sure_8 : decode cX12_sure 8 = .ok (.ireturn, 1) := by decide +kernel
theorem dX12_sure_9 : decode cX12_sure 9 = .ok (.aload_n 0, 1) := by decide +kernel
theorem dX12_sure_10 : decode cX12_sure 10 = .ok (.invokevirtual 315, 3) := by decide +kernel
theorem dX12_sure_13 : decode cX12_sure 13 = .ok (.aload_n 0, 1) := by decide +kernel
theorem dX12_sure_14 : decode cX12_sure 14 = .ok (.aload_n 0, 1) := by decide +kernel
theorem dX12_sure_15 : decode cX12_sure 15 = .ok (.invokevirtual 318, 3) := by decide +kernel
theorem dX12_sure_18 : decode cX12_sure 18 = .ok (.iconst 1, 1) := by decide +kernel
theorem dX12_sure_19 : decode cX12_sure 19 = .ok (.iconst 2, 1) := by decide +kernel
theorem dX12_sure_20 : decode cX12_sure 20 = .ok (.aload_n 0, 1) := by decide +kernel
theorem dX12_sure_21 : decode cX12_sure 21 = .ok (.getfield 96, 3) := by decide +kernel
theorem dX12_sure_24 : decode cX12_sure 24 = .ok (.imul, 1) := by decide +kernel
theorem dX12_sure_25 : decode cX12_sure 25 = .ok (.ishl, 1) := by decide +kernel
theorem dX12_sure_26 : decode cX12_sure 26 = .ok (.invokevirtual 321, 3) := by decide +kernel
theorem dX12_sure_29 : decode cX12_sure 29 = .ok (.iload_n 1, 1) := by decide +kernel
theorem dX12_sure_30 : decode cX12_sure 30 = .ok (.ifCond .ne 10, 3) := by decide +kernel
theorem dX12_sure_33 : decode cX12_sure 33 = .ok (.aload_n 0, 1) := by decide +kernel
theorem dX12_sure_34 : decode cX12_sure 34 = .ok (.getfield 306, 3) := by decide +kernel
theorem dX12_sure_37 : decode cX12_sure 37 = .ok (.goto 7, 3) := by decide +kernel
theorem dX12_sure_40 : decode cX12_sure 40 = .ok (.aload_n 0, 1) := by decide +kernel
theorem dX12_sure_41 : decode cX12_sure 41 = .ok (.getfield 309, 3) := by decide +kernel
theorem dX12_sure_44 : decode cX12_sure 44 = .ok (.ireturn, 1) := by decide +kernel
theorem dX12_safest_0 : decode cX12_safest 0 = .ok (.iload_n 1, 1) := by decide +kernel
theorem dX12_safest_1 : decode cX12_safest 1 = .ok (.iconst 0, 1) := by decide +kernel
theorem dX12_safest_2 : decode cX12_safest 2 = .ok (.iconst 2, 1) := by decide +kernel
theorem dX12_safest_3 : decode cX12_safest 3 = .ok (.invokestatic 99, 3) := by decide +kernel
theorem dX12_safest_6 : decode cX12_safest 6 = .ok (.ifCond .ne 5, 3) := by decide +kernel
theorem dX12_safest_9 : decode cX12_safest 9 = .ok (.iconst (-1), 1) := by decide +kernel
theorem dX12_safest_10 : decode cX12_safest 10 = .ok (.ireturn, 1) := by decide +kernel
theorem dX12_safest_11 : decode cX12_safest 11 = .ok (.aload_n 0, 1) := by decide +kernel
theorem dX12_safest_12 : decode cX12_safest 12 = .ok (.aload_n 0, 1) := by decide +kernel
theorem dX12_safest_13 : decode cX12_safest 13 = .ok (.getfield 96, 3) := by decide +kernel
theorem dX12_safest_16 : decode cX12_safest 16 = .ok (.iconst (-1), 1) := by decide +kernel
theorem dX12_safest_17 : decode cX12_safest 17 = .ok (.invokevirtual 281, 3) := by decide +kernel
theorem dX12_safest_20 : decode cX12_safest 20 = .ok (.istore_n 2, 1) := by decide +kernel
theorem dX12_safest_21 : decode cX12_safest 21 = .ok (.iconst (-1), 1) := by decide +kernel
theorem dX12_safest_22 : decode cX12_safest 22 = .ok (.istore_n 3, 1) := by decide +kernel
theorem dX12_safest_23 : decode cX12_safest 23 = .ok (.iconst 1, 1) := by decide +kernel
theorem dX12_safest_24 : decode cX12_safest 24 = .ok (.istore 4, 2) := by decide +kernel
theorem dX12_safest_26 : decode cX12_safest 26 = .ok (.iload 4, 2) := by decide +kernel
theorem dX12_safest_28 : decode cX12_safest 28 = .ok (.ifCond .eq 33, 3) := by decide +kernel
theorem dX12_safest_31 : decode cX12_safest 31 = .ok (.aload_n 0, 1) := by decide +kernel
theorem dX12_safest_32 : decode cX12_safest 32 = .ok (.invokevirtual 318, 3) := by decide +kernel
theorem dX12_safest_35 : decode cX12_safest 35 = .ok (.istore 5, 2) := by decide +kernel
theorem dX12_safest_37 : decode cX12_safest 37 = .ok (.iload 5, 2) := by decide +kernel
theorem dX12_safest_39 : decode cX12_safest 39 = .ok (.iload_n 3, 1) := by decide +kernel
theorem dX12_safest_40 : decode cX12_safest 40 = .ok (.if_icmp .le 11, 3) := by decide +kernel
theorem dX12_safest_43 : decode cX12_safest 43 = .ok (.iload 5, 2) := by decide +kernel
theorem dX12_safest_45 : decode cX12_safest 45 = .ok (.istore_n 3, 1) := by decide +kernel
theorem dX12_safest_46 : decode cX12_safest 46 = .ok (.aload_n 0, 1) := by decide +kernel
theorem dX12_safest_47 : decode cX12_safest 47 = .ok (.iload_n 2, 1) := by decide +kernel
theorem dX12_safest_48 : decode cX12_safest 48 = .ok (.invokevirtual 285, 3) := by decide +kernel
theorem dX12_safest_51 : decode cX12_safest 51 = .ok (.aload_n 0, 1) := by decide +kernel
theorem dX12_safest_52 : decode cX12_safest 52 = .ok (.iload_n 2, 1) := by decide +kernel
theorem dX12_safest_53 : decode cX12_safest 53 = .ok (.invokevirtual 288, 3) := by decide +kernel
theorem dX12_safest_56 : decode cX12_safest 56 = .ok (.istore 4, 2) := by decide +kernel
theorem dX12_safest_58 : decode cX12_safest 58 = .ok (.goto (-32), 3) := by decide +kernel
theorem dX12_safest_61 : decode cX12_safest 61 = .ok (.aload_n 0, 1) := by decide +kernel
theorem dX12_safest_62 : decode cX12_safest 62 = .ok (.iload_n 3, 1) := by decide +kernel
theorem dX12_safest_63 : decode cX12_safest 63 = .ok (.iconst 1, 1) := by decide +kernel
theorem dX12_safest_64 : decode cX12_safest 64 = .ok (.iconst 2, 1) := by decide +kernel
theorem dX12_safest_65 : decode cX12_safest 65 = .ok (.aload_n 0, 1) := by decide +kernel
theorem dX12_safest_66 : decode cX12_safest 66 = .ok (.getfield 96, 3) := by decide +kernel
theorem dX12_safest_69 : decode cX12_safest 69 = .ok (.imul, 1) := by decide +kernel
theorem dX12_safest_70 : decode cX12_safest 70 = .ok (.ishl, 1) := by decide +kernel
theorem dX12_safest_71 : decode cX12_safest 71 = .ok (.invokevirtual 321, 3) := by decide +kernel
theorem dX12_safest_74 : decode cX12_safest 74 = .ok (.iload_n 1, 1) := by decide +kernel
theorem dX12_safest_75 : decode cX12_safest 75 = .ok (.ifCond .ne 14, 3) := by decide +kernel
theorem dX12_safest_78 : decode cX12_safest 78 = .ok (.aload_n 0, 1) := by decide +kernel
theorem dX12_safest_79 : decode cX12_safest 79 = .ok (.aload_n 0, 1) := by decide +kernel
theorem dX12_safest_80 : decode cX12_safest 80 = .ok (.getfield 96, 3) := by decide +kernel
theorem dX12_safest_83 : decode cX12_safest 83 = .ok (.invokevirtual 300, 3) := by decide +kernel
theorem dX12_safest_86 : decode cX12_safest 86 = .ok (.goto 19, 3) := by decide +kernel
theorem dX12_safest_89 : decode cX12_safest 89 = .ok (.iload_n 1, 1) := by decide +kernel
theorem dX12_safest_90 : decode cX12_safest 90 = .ok (.iconst 1, 1) := by decide +kernel
theorem dX12_safest_91 : decode cX12_safest 91 = .ok (.if_icmp .ne 10, 3) := by decide +kernel
theorem dX12_safest_94 : decode cX12_safest 94 = .ok (.aload_n 0, 1) := by decide +kernel
theorem dX12_safest_95 : decode cX12_safest 95 = .ok (.getfield 306, 3) := by decide +kernel
theorem dX12_safest_98 : decode cX12_safest 98 = .ok (.goto 7, 3) := by decide +kernel
theorem dX12_safest_101 : decode cX12_safest 101 = .ok (.aload_n 0, 1) := by decide +kernel
theorem dX12_safest_102 : decode cX12_safest 102 = .ok (.getfield 309, 3) := by decide +kernel
theorem dX12_safest_105 : decode cX12_safest 105 = .ok (.ireturn, 1) := by decide +kernel
theorem dX12_mean_0 : decode cX12_mean 0 = .ok (.iload_n 1, 1) := by decide +kernel
theorem dX12_mean_1 : decode cX12_mean 1 = .ok (.invokestatic 103, 3) := by decide +kernel
theorem dX12_mean_4 : decode cX12_mean 4 = .ok (.ifCond .ne 7, 3) := by decide +kernel
theorem dX12_mean_7 : decode cX12_mean 7 = .ok (.ldc_w 284, 3) := by decide +kernel
theorem dX12_mean_10 : decode cX12_mean 10 = .ok (.ireturn, 1) := by decide +kernel
theorem dX12_mean_11 : decode cX12_mean 11 = .ok (.aload_n 0, 1) := by decide +kernel
theorem dX12_mean_12 : decode cX12_mean 12 = .ok (.invokevirtual 315, 3) := by decide +kernel
theorem dX12_mean_15 : decode cX12_mean 15 = .ok (.iconst 0, 1) := by decide +kernel
theorem dX12_mean_16 : decode cX12_mean 16 = .ok (.istore_n 2, 1) := by decide +kernel
theorem dX12_mean_17 : decode cX12_mean 17 = .ok (.iconst 0, 1) := by decide +kernel
theorem dX12_mean_18 : decode cX12_mean 18 = .ok (.istore_n 3, 1) := by decide +kernel
theorem dX12_mean_19 : decode cX12_mean 19 = .ok (.iload_n 3, 1) := by decide +kernel
theorem dX12_mean_20 : decode cX12_mean 20 = .ok (.iconst 1, 1) := by decide +kernel
theorem dX12_mean_21 : decode cX12_mean 21 = .ok (.aload_n 0, 1) := by decide +kernel
theorem dX12_mean_22 : decode cX12_mean 22 = .ok (.getfield 96, 3) := by decide +kernel
theorem dX12_mean_25 : decode cX12_mean 25 = .ok (.ishl, 1) := by decide +kernel
theorem dX12_mean_26 : decode cX12_mean 26 = .ok (.if_icmp .ge 40, 3) := by decide +kernel
theorem dX12_mean_29 : decode cX12_mean 29 = .ok (.aload_n 0, 1) := by decide +kernel
theorem dX12_mean_30 : decode cX12_mean 30 = .ok (.iload_n 3, 1) := by decide +kernel
theorem dX12_mean_31 : decode cX12_mean 31 = .ok (.invokevirtual 312, 3) := by decide +kernel
theorem dX12_mean_34 : decode cX12_mean 34 = .ok (.istore 4, 2) := by decide +kernel
theorem dX12_mean_36 : decode cX12_mean 36 = .ok (.aload_n 0, 1) := by decide +kernel
theorem dX12_mean_37 : decode cX12_mean 37 = .ok (.aload_n 0, 1) := by decide +kernel
theorem dX12_mean_38 : decode cX12_mean 38 = .ok (.getfield 96, 3) := by decide +kernel
theorem dX12_mean_41 : decode cX12_mean 41 = .ok (.iload_n 3, 1) := by decide +kernel
theorem dX12_mean_42 : decode cX12_mean 42 = .ok (.iconst 0, 1) := by decide +kernel
theorem dX12_mean_43 : decode cX12_mean 43 = .ok (.invokevirtual 267, 3) := by decide +kernel
theorem dX12_mean_46 : decode cX12_mean 46 = .ok (.iload_n 2, 1) := by decide +kernel
theorem dX12_mean_47 : decode cX12_mean 47 = .ok (.iload 4, 2) := by decide +kernel
theorem dX12_mean_49 : decode cX12_mean 49 = .ok (.aload_n 0, 1) := by decide +kernel
theorem dX12_mean_50 : decode cX12_mean 50 = .ok (.aload_n 0, 1) := by decide +kernel
theorem dX12_mean_51 : decode cX12_mean 51 = .ok (.getfield 96, 3) := by decide +kernel
theorem dX12_mean_54 : decode cX12_mean 54 = .ok (.invokevirtual 274, 3) := by decide +kernel
theorem dX12_mean_57 : decode cX12_mean 57 = .ok (.imul, 1) := by decide +kernel
theorem dX12_mean_58 : decode cX12_mean 58 = .ok (.iadd, 1) := by decide +kernel
theorem dX12_mean_59 : decode cX12_mean 59 = .ok (.istore_n 2, 1) := by decide +kernel
theorem dX12_mean_60 : decode cX12_mean 60 = .ok (.iinc 3 1, 3) := by decide +kernel
theorem dX12_mean_63 : decode cX12_mean 63 = .ok (.goto (-44), 3) := by decide +kernel
theorem dX12_mean_66 : decode cX12_mean 66 = .ok (.aload_n 0, 1) := by decide +kernel
theorem dX12_mean_67 : decode cX12_mean 67 = .ok (.iload_n 2, 1) := by decide +kernel
theorem dX12_mean_68 : decode cX12_mean 68 = .ok (.iconst 1, 1) := by decide +kernel
theorem dX12_mean_69 : decode cX12_mean 69 = .ok (.iconst 2, 1) := by decide +kernel
theorem dX12_mean_70 : decode cX12_mean 70 = .ok (.aload_n 0, 1) := by decide +kernel
theorem dX12_mean_71 : decode cX12_mean 71 = .ok (.getfield 96, 3) := by decide +kernel
theorem dX12_mean_74 : decode cX12_mean 74 = .ok (.imul, 1) := by decide +kernel
theorem dX12_mean_75 : decode cX12_mean 75 = .ok (.ishl, 1) := by decide +kernel
theorem dX12_mean_76 : decode cX12_mean 76 = .ok (.invokevirtual 321, 3) := by decide +kernel
theorem dX12_mean_79 : decode cX12_mean 79 = .ok (.iload_n 1, 1) := by decide +kernel
theorem dX12_mean_80 : decode cX12_mean 80 = .ok (.ifCond .ne 10, 3) := by decide +kernel
theorem dX12_mean_83 : decode cX12_mean 83 = .ok (.aload_n 0, 1) := by decide +kernel
theorem dX12_mean_84 : decode cX12_mean 84 = .ok (.getfield 306, 3) := by decide +kernel
theorem dX12_mean_87 : decode cX12_mean 87 = .ok (.goto 7, 3) := by decide +kernel
theorem dX12_mean_90 : decode cX12_mean 90 = .ok (.aload_n 0, 1) := by decide +kernel
theorem dX12_mean_91 : decode cX12_mean 91 = .ok (.getfield 309, 3) := by decide +kernel
theorem dX12_mean_94 : decode cX12_mean 94 = .ok (.ireturn, 1) := by decide +kernel
theorem dX12_typeIts_0 : decode cX12_typeIts 0 = .ok (.aload_n 0, 1) := by decide +kernel
theorem dX12_typeIts_1 : decode cX12_typeIts 1 = .ok (.getfield 31, 3) := by decide +kernel
theorem dX12_typeIts_4 : decode cX12_typeIts 4 = .ok (.bipush 6, 2) := by decide +kernel
theorem dX12_typeIts_6 : decode cX12_typeIts 6 = .ok (.iload_n 1, 1) := by decide +kernel
theorem dX12_typeIts_7 : decode cX12_typeIts 7 = .ok (.imul, 1) := by decide +kernel
theorem dX12_typeIts_8 : decode cX12_typeIts 8 = .ok (.iload_n 2, 1) := by decide +kernel
theorem dX12_typeIts_9 : decode cX12_typeIts 9 = .ok (.iadd, 1) := by decide +kernel
theorem dX12_typeIts_10 : decode cX12_typeIts 10 = .ok (.iaload, 1) := by decide +kernel
theorem dX12_typeIts_11 : decode cX12_typeIts 11 = .ok (.ireturn, 1) := by decide +kernel
theorem dX12_oddsOfTypes_0 : decode cX12_oddsOfTypes 0 = .ok (.iconst 0, 1) := by decide +kernel
theorem dX12_oddsOfTypes_1 : decode cX12_oddsOfTypes 1 = .ok (.istore_n 1, 1) := by decide +kernel
theorem dX12_oddsOfTypes_2 : decode cX12_oddsOfTypes 2 = .ok (.iconst 0, 1) := by decide +kernel
theorem dX12_oddsOfTypes_3 : decode cX12_oddsOfTypes 3 = .ok (.istore_n 2, 1) := by decide +kernel
theorem dX12_oddsOfTypes_4 : decode cX12_oddsOfTypes 4 = .ok (.iload_n 2, 1) := by decide +kernel
theorem dX12_oddsOfTypes_5 : decode cX12_oddsOfTypes 5 = .ok (.aload_n 0, 1) := by decide +kernel
theorem dX12_oddsOfTypes_6 : decode cX12_oddsOfTypes 6 = .ok (.getfield 324, 3) := by decide +kernel
theorem dX12_oddsOfTypes_9 : decode cX12_oddsOfTypes 9 = .ok (.if_icmp .ge 18, 3) := by decide +kernel
theorem dX12_oddsOfTypes_12 : decode cX12_oddsOfTypes 12 = .ok (.iload_n 1, 1) := by decide +kernel
theorem dX12_oddsOfTypes_13 : decode cX12_oddsOfTypes 13 = .ok (.aload_n 0, 1) := by decide +kernel
theorem dX12_oddsOfTypes_14 : decode cX12_oddsOfTypes 14 = .ok (.iload_n 2, 1) := by decide +kernel
theorem dX12_oddsOfTypes_15 : decode cX12_oddsOfTypes 15 = .ok (.iconst 5, 1) := by decide +kernel
theorem dX12_oddsOfTypes_16 : decode cX12_oddsOfTypes 16 = .ok (.invokevirtual 327, 3) := by decide +kernel
theorem dX12_oddsOfTypes_19 : decode cX12_oddsOfTypes 19 = .ok (.iadd, 1) := by decide +kernel
theorem dX12_oddsOfTypes_20 : decode cX12_oddsOfTypes 20 = .ok (.istore_n 1, 1) := by decide +kernel
theorem dX12_oddsOfTypes_21 : decode cX12_oddsOfTypes 21 = .ok (.iinc 2 1, 3) := by decide +kernel
theorem dX12_oddsOfTypes_24 : decode cX12_oddsOfTypes 24 = .ok (.goto (-20), 3) := by decide +kernel
theorem dX12_oddsOfTypes_27 : decode cX12_oddsOfTypes 27 = .ok (.iload_n 1, 1) := by decide +kernel
theorem dX12_oddsOfTypes_28 : decode cX12_oddsOfTypes 28 = .ok (.ireturn, 1) := by decide +kernel
theorem dX12_type_0 : decode cX12_type 0 = .ok (.iload_n 1, 1) := by decide +kernel
theorem dX12_type_1 : decode cX12_type 1 = .ok (.iload_n 2, 1) := by decide +kernel
theorem dX12_type_2 : decode cX12_type 2 = .ok (.iload_n 3, 1) := by decide +kernel
theorem dX12_type_3 : decode cX12_type 3 = .ok (.invokestatic 232, 3) := by decide +kernel
theorem dX12_type_6 : decode cX12_type 6 = .ok (.ifCond .eq 35, 3) := by decide +kernel
theorem dX12_type_9 : decode cX12_type 9 = .ok (.iload 4, 2) := by decide +kernel
theorem dX12_type_11 : decode cX12_type 11 = .ok (.iconst 0, 1) := by decide +kernel
theorem dX12_type_12 : decode cX12_type 12 = .ok (.bipush 20, 2) := by decide +kernel
theorem dX12_type_14 : decode cX12_type 14 = .ok (.invokestatic 99, 3) := by decide +kernel
theorem dX12_type_17 : decode cX12_type 17 = .ok (.ifCond .eq 24, 3) := by decide +kernel
theorem dX12_type_20 : decode cX12_type 20 = .ok (.iload 5, 2) := by decide +kernel
theorem dX12_type_22 : decode cX12_type 22 = .ok (.iconst 0, 1) := by decide +kernel
theorem dX12_type_23 : decode cX12_type 23 = .ok (.bipush 99, 2) := by decide +kernel
theorem dX12_type_25 : decode cX12_type 25 = .ok (.invokestatic 99, 3) := by decide +kernel
theorem dX12_type_28 : decode cX12_type 28 = .ok (.ifCond .eq 13, 3) := by decide +kernel
theorem dX12_type_31 : decode cX12_type 31 = .ok (.iload 6, 2) := by decide +kernel
theorem dX12_type_33 : decode cX12_type 33 = .ok (.iconst 1, 1) := by decide +kernel
theorem dX12_type_34 : decode cX12_type 34 = .ok (.iconst 4, 1) := by decide +kernel
theorem dX12_type_35 : decode cX12_type 35 = .ok (.invokestatic 99, 3) := by decide +kernel
theorem dX12_type_38 : decode cX12_type 38 = .ok (.ifCond .ne 5, 3) := by decide +kernel
theorem dX12_type_41 : decode cX12_type 41 = .ok (.iconst (-1), 1) := by decide +kernel
theorem dX12_type_42 : decode cX12_type 42 = .ok (.ireturn, 1) := by decide +kernel
theorem dX12_type_43 : decode cX12_type 43 = .ok (.aload_n 0, 1) := by decide +kernel
theorem dX12_type_44 : decode cX12_type 44 = .ok (.invokevirtual 330, 3) := by decide +kernel
theorem dX12_type_47 : decode cX12_type 47 = .ok (.iload 6, 2) := by decide +kernel
theorem dX12_type_49 : decode cX12_type 49 = .ok (.iadd, 1) := by decide +kernel
theorem dX12_type_50 : decode cX12_type 50 = .ok (.iconst 4, 1) := by decide +kernel
theorem dX12_type_51 : decode cX12_type 51 = .ok (.if_icmp .le 6, 3) := by decide +kernel
theorem dX12_type_54 : decode cX12_type 54 = .ok (.bipush (-4), 2) := by decide +kernel
theorem dX12_type_56 : decode cX12_type 56 = .ok (.ireturn, 1) := by decide +kernel
theorem dX12_type_57 : decode cX12_type 57 = .ok (.aload_n 0, 1) := by decide +kernel
theorem dX12_type_58 : decode cX12_type 58 = .ok (.getfield 324, 3) := by decide +kernel
theorem dX12_type_61 : decode cX12_type 61 = .ok (.iconst 3, 1) := by decide +kernel
theorem dX12_type_62 : decode cX12_type 62 = .ok (.if_icmp .ne 6, 3) := by decide +kernel
theorem dX12_type_65 : decode cX12_type 65 = .ok (.bipush (-2), 2) := by decide +kernel
theorem dX12_type_67 : decode cX12_type 67 = .ok (.ireturn, 1) := by decide +kernel
theorem dX12_type_68 : decode cX12_type 68 = .ok (.bipush 6, 2) := by decide +kernel
theorem dX12_type_70 : decode cX12_type 70 = .ok (.aload_n 0, 1) := by decide +kernel
theorem dX12_type_71 : decode cX12_type 71 = .ok (.getfield 324, 3) := by decide +kernel
theorem dX12_type_74 : decode cX12_type 74 = .ok (.imul, 1) := by decide +kernel
theorem dX12_type_75 : decode cX12_type 75 = .ok (.istore 7, 2) := by decide +kernel
theorem dX12_type_77 : decode cX12_type 77 = .ok (.aload_n 0, 1) := by decide +kernel
theorem dX12_type_78 : decode cX12_type 78 = .ok (.getfield 31, 3) := by decide +kernel
theorem dX12_type_81 : decode cX12_type 81 = .ok (.iload 7, 2) := by decide +kernel
theorem dX12_type_83 : decode cX12_type 83 = .ok (.iload_n 1, 1) := by decide +kernel
theorem dX12_type_84 : decode cX12_type 84 = .ok (.iastore, 1) := by decide +kernel
theorem dX12_type_85 : decode cX12_type 85 = .ok (.aload_n 0, 1) := by decide +kernel
theorem dX12_type_86 : decode cX12_type 86 = .ok (.getfield 31, 3) := by decide +kernel
theorem dX12_type_89 : decode cX12_type 89 = .ok (.iload 7, 2) := by decide +kernel
theorem dX12_type_91 : decode cX12_type 91 = .ok (.iconst 1, 1) := by decide +kernel
theorem dX12_type_92 : decode cX12_type 92 = .ok (.iadd, 1) := by decide +kernel
theorem dX12_type_93 : decode cX12_type 93 = .ok (.iload_n 2, 1) := by decide +kernel
theorem dX12_type_94 : decode cX12_type 94 = .ok (.iastore, 1) := by decide +kernel
theorem dX12_type_95 : decode cX12_type 95 = .ok (.aload_n 0, 1) := by decide +kernel
theorem dX12_type_96 : decode cX12_type 96 = .ok (.getfield 31, 3) := by decide +kernel
theorem dX12_type_99 : decode cX12_type 99 = .ok (.iload 7, 2) := by decide +kernel
theorem dX12_type_101 : decode cX12_type 101 = .ok (.iconst 2, 1) := by decide +kernel
theorem dX12_type_102 : decode cX12_type 102 = .ok (.iadd, 1) := by decide +kernel
theorem dX12_type_103 : decode cX12_type 103 = .ok (.iload_n 3, 1) := by decide +kernel
theorem dX12_type_104 : decode cX12_type 104 = .ok (.iastore, 1) := by decide +kernel
theorem dX12_type_105 : decode cX12_type 105 = .ok (.aload_n 0, 1) := by decide +kernel
theorem dX12_type_106 : decode cX12_type 106 = .ok (.getfield 31, 3) := by decide +kernel
theorem dX12_type_109 : decode cX12_type 109 = .ok (.iload 7, 2) := by decide +kernel
theorem dX12_type_111 : decode cX12_type 111 = .ok (.iconst 3, 1) := by decide +kernel
theorem dX12_type_112 : decode cX12_type 112 = .ok (.iadd, 1) := by decide +kernel
theorem dX12_type_113 : decode cX12_type 113 = .ok (.iload 4, 2) := by decide +kernel
theorem dX12_type_115 : decode cX12_type 115 = .ok (.iastore, 1) := by decide +kernel
theorem dX12_type_116 : decode cX12_type 116 = .ok (.aload_n 0, 1) := by decide +kernel
theorem dX12_type_117 : decode cX12_type 117 = .ok (.getfield 31, 3) := by decide +kernel
theorem dX12_type_120 : decode cX12_type 120 = .ok (.iload 7, 2) := by decide +kernel
theorem dX12_type_122 : decode cX12_type 122 = .ok (.iconst 4, 1) := by decide +kernel
theorem dX12_type_123 : decode cX12_type 123 = .ok (.iadd, 1) := by decide +kernel
theorem dX12_type_124 : decode cX12_type 124 = .ok (.iload 5, 2) := by decide +kernel
theorem dX12_type_126 : decode cX12_type 126 = .ok (.iastore, 1) := by decide +kernel
theorem dX12_type_127 : decode cX12_type 127 = .ok (.aload_n 0, 1) := by decide +kernel
theorem dX12_type_128 : decode cX12_type 128 = .ok (.getfield 31, 3) := by decide +kernel
theorem dX12_type_131 : decode cX12_type 131 = .ok (.iload 7, 2) := by decide +kernel
theorem dX12_type_133 : decode cX12_type 133 = .ok (.iconst 5, 1) := by decide +kernel
theorem dX12_type_134 : decode cX12_type 134 = .ok (.iadd, 1) := by decide +kernel
theorem dX12_type_135 : decode cX12_type 135 = .ok (.iload 6, 2) := by decide +kernel
theorem dX12_type_137 : decode cX12_type 137 = .ok (.iastore, 1) := by decide +kernel
theorem dX12_type_138 : decode cX12_type 138 = .ok (.aload_n 0, 1) := by decide +kernel
theorem dX12_type_139 : decode cX12_type 139 = .ok (.dup, 1) := by decide +kernel
theorem dX12_type_140 : decode cX12_type 140 = .ok (.getfield 324, 3) := by decide +kernel
theorem dX12_type_143 : decode cX12_type 143 = .ok (.iconst 1, 1) := by decide +kernel
theorem dX12_type_144 : decode cX12_type 144 = .ok (.iadd, 1) := by decide +kernel
theorem dX12_type_145 : decode cX12_type 145 = .ok (.putfield 324, 3) := by decide +kernel
theorem dX12_type_148 : decode cX12_type 148 = .ok (.aload_n 0, 1) := by decide +kernel
theorem dX12_type_149 : decode cX12_type 149 = .ok (.getfield 324, 3) := by decide +kernel
theorem dX12_type_152 : decode cX12_type 152 = .ok (.iconst 1, 1) := by decide +kernel
theorem dX12_type_153 : decode cX12_type 153 = .ok (.isub, 1) := by decide +kernel
theorem dX12_type_154 : decode cX12_type 154 = .ok (.ireturn, 1) := by decide +kernel
theorem dX12_typeOf_0 : decode cX12_typeOf 0 = .ok (.iload_n 1, 1) := by decide +kernel
theorem dX12_typeOf_1 : decode cX12_typeOf 1 = .ok (.iconst 0, 1) := by decide +kernel
theorem dX12_typeOf_2 : decode cX12_typeOf 2 = .ok (.aload_n 0, 1) := by decide +kernel
theorem dX12_typeOf_3 : decode cX12_typeOf 3 = .ok (.getfield 324, 3) := by decide +kernel
theorem dX12_typeOf_6 : decode cX12_typeOf 6 = .ok (.iconst 1, 1) := by decide +kernel
theorem dX12_typeOf_7 : decode cX12_typeOf 7 = .ok (.isub, 1) := by decide +kernel
theorem dX12_typeOf_8 : decode cX12_typeOf 8 = .ok (.invokestatic 99, 3) := by decide +kernel
theorem dX12_typeOf_11 : decode cX12_typeOf 11 = .ok (.ifCond .eq 21, 3) := by decide +kernel
theorem dX12_typeOf_14 : decode cX12_typeOf 14 = .ok (.iload_n 2, 1) := by decide +kernel
theorem dX12_typeOf_15 : decode cX12_typeOf 15 = .ok (.iconst 0, 1) := by decide +kernel
theorem dX12_typeOf_16 : decode cX12_typeOf 16 = .ok (.iconst 5, 1) := by decide +kernel
theorem dX12_typeOf_17 : decode cX12_typeOf 17 = .ok (.invokestatic 99, 3) := by decide +kernel
theorem dX12_typeOf_20 : decode cX12_typeOf 20 = .ok (.ifCond .eq 12, 3) := by decide +kernel
theorem dX12_typeOf_23 : decode cX12_typeOf 23 = .ok (.aload_n 0, 1) := by decide +kernel
theorem dX12_typeOf_24 : decode cX12_typeOf 24 = .ok (.iload_n 1, 1) := by decide +kernel
theorem dX12_typeOf_25 : decode cX12_typeOf 25 = .ok (.iload_n 2, 1) := by decide +kernel
theorem dX12_typeOf_26 : decode cX12_typeOf 26 = .ok (.invokevirtual 327, 3) := by decide +kernel
theorem dX12_typeOf_29 : decode cX12_typeOf 29 = .ok (.goto 4, 3) := by decide +kernel
theorem dX12_typeOf_32 : decode cX12_typeOf 32 = .ok (.iconst (-1), 1) := by decide +kernel
theorem dX12_typeOf_33 : decode cX12_typeOf 33 = .ok (.ireturn, 1) := by decide +kernel
theorem dX12_takenMany_0 : decode cX12_takenMany 0 = .ok (.iload_n 1, 1) := by decide +kernel
theorem dX12_takenMany_1 : decode cX12_takenMany 1 = .ok (.ifCond .ne 7, 3) := by decide +kernel
theorem dX12_takenMany_4 : decode cX12_takenMany 4 = .ok (.iconst 0, 1) := by decide +kernel
theorem dX12_takenMany_5 : decode cX12_takenMany 5 = .ok (.goto 23, 3) := by decide +kernel
theorem dX12_takenMany_8 : decode cX12_takenMany 8 = .ok (.iload_n 1, 1) := by decide +kernel
theorem dX12_takenMany_9 : decode cX12_takenMany 9 = .ok (.iconst 4, 1) := by decide +kernel
theorem dX12_takenMany_10 : decode cX12_takenMany 10 = .ok (.if_icmp .ge 7, 3) := by decide +kernel
theorem dX12_takenMany_13 : decode cX12_takenMany 13 = .ok (.iconst 1, 1) := by decide +kernel
theorem dX12_takenMany_14 : decode cX12_takenMany 14 = .ok (.goto 14, 3) := by decide +kernel
theorem dX12_takenMany_17 : decode cX12_takenMany 17 = .ok (.iload_n 1, 1) := by decide +kernel
theorem dX12_takenMany_18 : decode cX12_takenMany 18 = .ok (.bipush 16, 2) := by decide +kernel
theorem dX12_takenMany_20 : decode cX12_takenMany 20 = .ok (.if_icmp .ge 7, 3) := by decide +kernel
theorem dX12_takenMany_23 : decode cX12_takenMany 23 = .ok (.iconst 2, 1) := by decide +kernel
theorem dX12_takenMany_24 : decode cX12_takenMany 24 = .ok (.goto 4, 3) := by decide +kernel
theorem dX12_takenMany_27 : decode cX12_takenMany 27 = .ok (.iconst 3, 1) := by decide +kernel
theorem dX12_takenMany_28 : decode cX12_takenMany 28 = .ok (.ireturn, 1) := by decide +kernel
theorem dX12_isTaken_0 : decode cX12_isTaken 0 = .ok (.iload_n 1, 1) := by decide +kernel
theorem dX12_isTaken_1 : decode cX12_isTaken 1 = .ok (.istore_n 2, 1) := by decide +kernel
theorem dX12_isTaken_2 : decode cX12_isTaken 2 = .ok (.iload_n 2, 1) := by decide +kernel
theorem dX12_isTaken_3 : decode cX12_isTaken 3 = .ok (.ifCond .eq 28, 3) := by decide +kernel
theorem dX12_isTaken_6 : decode cX12_isTaken 6 = .ok (.iload_n 2, 1) := by decide +kernel
theorem dX12_isTaken_7 : decode cX12_isTaken 7 = .ok (.iconst 4, 1) := by decide +kernel
theorem dX12_isTaken_8 : decode cX12_isTaken 8 = .ok (.irem, 1) := by decide +kernel
theorem dX12_isTaken_9 : decode cX12_isTaken 9 = .ok (.ifCond .eq 13, 3) := by decide +kernel
theorem dX12_isTaken_12 : decode cX12_isTaken 12 = .ok (.iload_n 2, 1) := by decide +kernel
theorem dX12_isTaken_13 : decode cX12_isTaken 13 = .ok (.iconst 4, 1) := by decide +kernel
theorem dX12_isTaken_14 : decode cX12_isTaken 14 = .ok (.irem, 1) := by decide +kernel
theorem dX12_isTaken_15 : decode cX12_isTaken 15 = .ok (.aload_n 0, 1) := by decide +kernel
theorem dX12_isTaken_16 : decode cX12_isTaken 16 = .ok (.getfield 324, 3) := by decide +kernel
theorem dX12_isTaken_19 : decode cX12_isTaken 19 = .ok (.if_icmp .le 5, 3) := by decide +kernel
theorem dX12_isTaken_22 : decode cX12_isTaken 22 = .ok (.iconst 0, 1) := by decide +kernel
theorem dX12_isTaken_23 : decode cX12_isTaken 23 = .ok (.ireturn, 1) := by decide +kernel
theorem dX12_isTaken_24 : decode cX12_isTaken 24 = .ok (.iload_n 2, 1) := by decide +kernel
theorem dX12_isTaken_25 : decode cX12_isTaken 25 = .ok (.iconst 4, 1) := by decide +kernel
theorem dX12_isTaken_26 : decode cX12_isTaken 26 = .ok (.idiv, 1) := by decide +kernel
theorem dX12_isTaken_27 : decode cX12_isTaken 27 = .ok (.istore_n 2, 1) := by decide +kernel
theorem dX12_isTaken_28 : decode cX12_isTaken 28 = .ok (.goto (-26), 3) := by decide +kernel
theorem dX12_isTaken_31 : decode cX12_isTaken 31 = .ok (.iconst 1, 1) := by decide +kernel
theorem dX12_isTaken_32 : decode cX12_isTaken 32 = .ok (.ireturn, 1) := by decide +kernel
theorem dX12_worthWith_0 : decode cX12_worthWith 0 = .ok (.aload_n 0, 1) := by decide +kernel
theorem dX12_worthWith_1 : decode cX12_worthWith 1 = .ok (.getfield 96, 3) := by decide +kernel
theorem dX12_worthWith_4 : decode cX12_worthWith 4 = .ok (.istore_n 2, 1) := by decide +kernel
theorem dX12_worthWith_5 : decode cX12_worthWith 5 = .ok (.iload_n 1, 1) := by decide +kernel
theorem dX12_worthWith_6 : decode cX12_worthWith 6 = .ok (.istore_n 3, 1) := by decide +kernel
theorem dX12_worthWith_7 : decode cX12_worthWith 7 = .ok (.iload_n 3, 1) := by decide +kernel
theorem dX12_worthWith_8 : decode cX12_worthWith 8 = .ok (.ifCond .eq 65, 3) := by decide +kernel
theorem dX12_worthWith_11 : decode cX12_worthWith 11 = .ok (.iload_n 3, 1) := by decide +kernel
theorem dX12_worthWith_12 : decode cX12_worthWith 12 = .ok (.iconst 4, 1) := by decide +kernel
theorem dX12_worthWith_13 : decode cX12_worthWith 13 = .ok (.irem, 1) := by decide +kernel
theorem dX12_worthWith_14 : decode cX12_worthWith 14 = .ok (.iconst 1, 1) := by decide +kernel
theorem dX12_worthWith_15 : decode cX12_worthWith 15 = .ok (.isub, 1) := by decide +kernel
theorem dX12_worthWith_16 : decode cX12_worthWith 16 = .ok (.istore 4, 2) := by decide +kernel
theorem dX12_worthWith_18 : decode cX12_worthWith 18 = .ok (.aload_n 0, 1) := by decide +kernel
theorem dX12_worthWith_19 : decode cX12_worthWith 19 = .ok (.iload_n 2, 1) := by decide +kernel
theorem dX12_worthWith_20 : decode cX12_worthWith 20 = .ok (.aload_n 0, 1) := by decide +kernel
theorem dX12_worthWith_21 : decode cX12_worthWith 21 = .ok (.iload 4, 2) := by decide +kernel
theorem dX12_worthWith_23 : decode cX12_worthWith 23 = .ok (.iconst 0, 1) := by decide +kernel
theorem dX12_worthWith_24 : decode cX12_worthWith 24 = .ok (.invokevirtual 327, 3) := by decide +kernel
theorem dX12_worthWith_27 : decode cX12_worthWith 27 = .ok (.aload_n 0, 1) := by decide +kernel
theorem dX12_worthWith_28 : decode cX12_worthWith 28 = .ok (.iload 4, 2) := by decide +kernel
theorem dX12_worthWith_30 : decode cX12_worthWith 30 = .ok (.iconst 1, 1) := by decide +kernel
theorem dX12_worthWith_31 : decode cX12_worthWith 31 = .ok (.invokevirtual 327, 3) := by decide +kernel
theorem dX12_worthWith_34 : decode cX12_worthWith 34 = .ok (.aload_n 0, 1) := by decide +kernel
theorem dX12_worthWith_35 : decode cX12_worthWith 35 = .ok (.iload 4, 2) := by decide +kernel
theorem dX12_worthWith_37 : decode cX12_worthWith 37 = .ok (.iconst 2, 1) := by decide +kernel
theorem dX12_worthWith_38 : decode cX12_worthWith 38 = .ok (.invokevirtual 327, 3) := by decide +kernel
theorem dX12_worthWith_41 : decode cX12_worthWith 41 = .ok (.aload_n 0, 1) := by decide +kernel
theorem dX12_worthWith_42 : decode cX12_worthWith 42 = .ok (.getfield 217, 3) := by decide +kernel
theorem dX12_worthWith_45 : decode cX12_worthWith 45 = .ok (.aload_n 0, 1) := by decide +kernel
theorem dX12_worthWith_46 : decode cX12_worthWith 46 = .ok (.iload 4, 2) := by decide +kernel
theorem dX12_worthWith_48 : decode cX12_worthWith 48 = .ok (.iconst 3, 1) := by decide +kernel
theorem dX12_worthWith_49 : decode cX12_worthWith 49 = .ok (.invokevirtual 327, 3) := by decide +kernel
theorem dX12_worthWith_52 : decode cX12_worthWith 52 = .ok (.iadd, 1) := by decide +kernel
theorem dX12_worthWith_53 : decode cX12_worthWith 53 = .ok (.aload_n 0, 1) := by decide +kernel
theorem dX12_worthWith_54 : decode cX12_worthWith 54 = .ok (.iload 4, 2) := by decide +kernel
theorem dX12_worthWith_56 : decode cX12_worthWith 56 = .ok (.iconst 4, 1) := by decide +kernel
theorem dX12_worthWith_57 : decode cX12_worthWith 57 = .ok (.invokevirtual 327, 3) := by decide +kernel
theorem dX12_worthWith_60 : decode cX12_worthWith 60 = .ok (.invokevirtual 213, 3) := by decide +kernel
theorem dX12_worthWith_63 : decode cX12_worthWith 63 = .ok (.iinc 2 1, 3) := by decide +kernel
theorem dX12_worthWith_66 : decode cX12_worthWith 66 = .ok (.iload_n 3, 1) := by decide +kernel
theorem dX12_worthWith_67 : decode cX12_worthWith 67 = .ok (.iconst 4, 1) := by decide +kernel
theorem dX12_worthWith_68 : decode cX12_worthWith 68 = .ok (.idiv, 1) := by decide +kernel
theorem dX12_worthWith_69 : decode cX12_worthWith 69 = .ok (.istore_n 3, 1) := by decide +kernel
theorem dX12_worthWith_70 : decode cX12_worthWith 70 = .ok (.goto (-63), 3) := by decide +kernel
theorem dX12_worthWith_73 : decode cX12_worthWith 73 = .ok (.aload_n 0, 1) := by decide +kernel
theorem dX12_worthWith_74 : decode cX12_worthWith 74 = .ok (.iload_n 2, 1) := by decide +kernel
theorem dX12_worthWith_75 : decode cX12_worthWith 75 = .ok (.iconst (-1), 1) := by decide +kernel
theorem dX12_worthWith_76 : decode cX12_worthWith 76 = .ok (.invokevirtual 297, 3) := by decide +kernel
theorem dX12_worthWith_79 : decode cX12_worthWith 79 = .ok (.ireturn, 1) := by decide +kernel
theorem dX12_ahead_0 : decode cX12_ahead 0 = .ok (.iload_n 1, 1) := by decide +kernel
theorem dX12_ahead_1 : decode cX12_ahead 1 = .ok (.iconst 0, 1) := by decide +kernel
theorem dX12_ahead_2 : decode cX12_ahead 2 = .ok (.iconst 3, 1) := by decide +kernel
theorem dX12_ahead_3 : decode cX12_ahead 3 = .ok (.invokestatic 99, 3) := by decide +kernel
theorem dX12_ahead_6 : decode cX12_ahead 6 = .ok (.ifCond .eq 20, 3) := by decide +kernel
theorem dX12_ahead_9 : decode cX12_ahead 9 = .ok (.iload_n 2, 1) := by decide +kernel
theorem dX12_ahead_10 : decode cX12_ahead 10 = .ok (.invokestatic 103, 3) := by decide +kernel
theorem dX12_ahead_13 : decode cX12_ahead 13 = .ok (.ifCond .eq 13, 3) := by decide +kernel
theorem dX12_ahead_16 : decode cX12_ahead 16 = .ok (.aload_n 0, 1) := by decide +kernel
theorem dX12_ahead_17 : decode cX12_ahead 17 = .ok (.getfield 96, 3) := by decide +kernel
theorem dX12_ahead_20 : decode cX12_ahead 20 = .ok (.iload_n 1, 1) := by decide +kernel
theorem dX12_ahead_21 : decode cX12_ahead 21 = .ok (.iadd, 1) := by decide +kernel
theorem dX12_ahead_22 : decode cX12_ahead 22 = .ok (.iconst 5, 1) := by decide +kernel
theorem dX12_ahead_23 : decode cX12_ahead 23 = .ok (.if_icmp .le 7, 3) := by decide +kernel
theorem dX12_ahead_26 : decode cX12_ahead 26 = .ok (.ldc_w 284, 3) := by decide +kernel
theorem dX12_ahead_29 : decode cX12_ahead 29 = .ok (.ireturn, 1) := by decide +kernel
theorem dX12_ahead_30 : decode cX12_ahead 30 = .ok (.iload_n 1, 1) := by decide +kernel
theorem dX12_ahead_31 : decode cX12_ahead 31 = .ok (.ifCond .ne 7, 3) := by decide +kernel
theorem dX12_ahead_34 : decode cX12_ahead 34 = .ok (.iconst 1, 1) := by decide +kernel
theorem dX12_ahead_35 : decode cX12_ahead 35 = .ok (.goto 24, 3) := by decide +kernel
theorem dX12_ahead_38 : decode cX12_ahead 38 = .ok (.iload_n 1, 1) := by decide +kernel
theorem dX12_ahead_39 : decode cX12_ahead 39 = .ok (.iconst 1, 1) := by decide +kernel
theorem dX12_ahead_40 : decode cX12_ahead 40 = .ok (.if_icmp .ne 7, 3) := by decide +kernel
theorem dX12_ahead_43 : decode cX12_ahead 43 = .ok (.iconst 4, 1) := by decide +kernel
theorem dX12_ahead_44 : decode cX12_ahead 44 = .ok (.goto 15, 3) := by decide +kernel
theorem dX12_ahead_47 : decode cX12_ahead 47 = .ok (.iload_n 1, 1) := by decide +kernel
theorem dX12_ahead_48 : decode cX12_ahead 48 = .ok (.iconst 2, 1) := by decide +kernel
theorem dX12_ahead_49 : decode cX12_ahead 49 = .ok (.if_icmp .ne 8, 3) := by decide +kernel
theorem dX12_ahead_52 : decode cX12_ahead 52 = .ok (.bipush 16, 2) := by decide +kernel
theorem dX12_ahead_54 : decode cX12_ahead 54 = .ok (.goto 5, 3) := by decide +kernel
theorem dX12_ahead_57 : decode cX12_ahead 57 = .ok (.bipush 64, 2) := by decide +kernel
theorem dX12_ahead_59 : decode cX12_ahead 59 = .ok (.istore_n 3, 1) := by decide +kernel
theorem dX12_ahead_60 : decode cX12_ahead 60 = .ok (.iconst 0, 1) := by decide +kernel
theorem dX12_ahead_61 : decode cX12_ahead 61 = .ok (.istore 4, 2) := by decide +kernel
theorem dX12_ahead_63 : decode cX12_ahead 63 = .ok (.iload 4, 2) := by decide +kernel
theorem dX12_ahead_65 : decode cX12_ahead 65 = .ok (.iload_n 3, 1) := by decide +kernel
theorem dX12_ahead_66 : decode cX12_ahead 66 = .ok (.if_icmp .ge 35, 3) := by decide +kernel
theorem dX12_ahead_69 : decode cX12_ahead 69 = .ok (.aload_n 0, 1) := by decide +kernel
theorem dX12_ahead_70 : decode cX12_ahead 70 = .ok (.getfield 59, 3) := by decide +kernel
theorem dX12_ahead_73 : decode cX12_ahead 73 = .ok (.iload 4, 2) := by decide +kernel
theorem dX12_ahead_75 : decode cX12_ahead 75 = .ok (.aload_n 0, 1) := by decide +kernel
theorem dX12_ahead_76 : decode cX12_ahead 76 = .ok (.iload 4, 2) := by decide +kernel
theorem dX12_ahead_78 : decode cX12_ahead 78 = .ok (.invokevirtual 333, 3) := by decide +kernel
theorem dX12_ahead_81 : decode cX12_ahead 81 = .ok (.ifCond .eq 12, 3) := by decide +kernel
theorem dX12_ahead_84 : decode cX12_ahead 84 = .ok (.aload_n 0, 1) := by decide +kernel
theorem dX12_ahead_85 : decode cX12_ahead 85 = .ok (.iload 4, 2) := by decide +kernel
theorem dX12_ahead_87 : decode cX12_ahead 87 = .ok (.invokevirtual 336, 3) := by decide +kernel
theorem dX12_ahead_90 : decode cX12_ahead 90 = .ok (.goto 4, 3) := by decide +kernel
theorem dX12_ahead_93 : decode cX12_ahead 93 = .ok (.iconst 0, 1) := by decide +kernel
theorem dX12_ahead_94 : decode cX12_ahead 94 = .ok (.iastore, 1) := by decide +kernel
theorem dX12_ahead_95 : decode cX12_ahead 95 = .ok (.iinc 4 1, 3) := by decide +kernel
theorem dX12_ahead_98 : decode cX12_ahead 98 = .ok (.goto (-35), 3) := by decide +kernel
theorem dX12_ahead_101 : decode cX12_ahead 101 = .ok (.iconst 1, 1) := by decide +kernel
theorem dX12_ahead_102 : decode cX12_ahead 102 = .ok (.istore 4, 2) := by decide +kernel
theorem dX12_ahead_104 : decode cX12_ahead 104 = .ok (.iload 4, 2) := by decide +kernel
theorem dX12_ahead_106 : decode cX12_ahead 106 = .ok (.iload_n 1, 1) := by decide +kernel
theorem dX12_ahead_107 : decode cX12_ahead 107 = .ok (.if_icmp .gt 182, 3) := by decide +kernel
theorem dX12_ahead_110 : decode cX12_ahead 110 = .ok (.iconst 0, 1) := by decide +kernel
theorem dX12_ahead_111 : decode cX12_ahead 111 = .ok (.istore 5, 2) := by decide +kernel
theorem dX12_ahead_113 : decode cX12_ahead 113 = .ok (.iload 5, 2) := by decide +kernel
theorem dX12_ahead_115 : decode cX12_ahead 115 = .ok (.iload_n 3, 1) := by decide +kernel
theorem dX12_ahead_116 : decode cX12_ahead 116 = .ok (.if_icmp .ge 138, 3) := by decide +kernel
theorem dX12_ahead_119 : decode cX12_ahead 119 = .ok (.aload_n 0, 1) := by decide +kernel
theorem dX12_ahead_120 : decode cX12_ahead 120 = .ok (.getfield 62, 3) := by decide +kernel
theorem dX12_ahead_123 : decode cX12_ahead 123 = .ok (.iload 5, 2) := by decide +kernel
theorem dX12_ahead_125 : decode cX12_ahead 125 = .ok (.iconst 0, 1) := by decide +kernel
theorem dX12_ahead_126 : decode cX12_ahead 126 = .ok (.iastore, 1) := by decide +kernel
theorem dX12_ahead_127 : decode cX12_ahead 127 = .ok (.aload_n 0, 1) := by decide +kernel
theorem dX12_ahead_128 : decode cX12_ahead 128 = .ok (.iload 5, 2) := by decide +kernel
theorem dX12_ahead_130 : decode cX12_ahead 130 = .ok (.invokevirtual 333, 3) := by decide +kernel
theorem dX12_ahead_133 : decode cX12_ahead 133 = .ok (.ifCond .eq 115, 3) := by decide +kernel
theorem dX12_ahead_136 : decode cX12_ahead 136 = .ok (.aload_n 0, 1) := by decide +kernel
theorem dX12_ahead_137 : decode cX12_ahead 137 = .ok (.iload 5, 2) := by decide +kernel
theorem dX12_ahead_139 : decode cX12_ahead 139 = .ok (.invokevirtual 339, 3) := by decide +kernel
theorem dX12_ahead_142 : decode cX12_ahead 142 = .ok (.iload_n 1, 1) := by decide +kernel
theorem dX12_ahead_143 : decode cX12_ahead 143 = .ok (.iload 4, 2) := by decide +kernel
theorem dX12_ahead_145 : decode cX12_ahead 145 = .ok (.isub, 1) := by decide +kernel
theorem dX12_ahead_146 : decode cX12_ahead 146 = .ok (.if_icmp .le 6, 3) := by decide +kernel
theorem dX12_ahead_149 : decode cX12_ahead 149 = .ok (.goto 99, 3) := by decide +kernel
theorem dX12_ahead_152 : decode cX12_ahead 152 = .ok (.iconst 4, 1) := by decide +kernel
theorem dX12_ahead_153 : decode cX12_ahead 153 = .ok (.aload_n 0, 1) := by decide +kernel
theorem dX12_ahead_154 : decode cX12_ahead 154 = .ok (.invokevirtual 330, 3) := by decide +kernel
theorem dX12_ahead_157 : decode cX12_ahead 157 = .ok (.isub, 1) := by decide +kernel
theorem dX12_ahead_158 : decode cX12_ahead 158 = .ok (.aload_n 0, 1) := by decide +kernel
theorem dX12_ahead_159 : decode cX12_ahead 159 = .ok (.getfield 59, 3) := by decide +kernel
theorem dX12_ahead_162 : decode cX12_ahead 162 = .ok (.iload 5, 2) := by decide +kernel
theorem dX12_ahead_164 : decode cX12_ahead 164 = .ok (.iaload, 1) := by decide +kernel
theorem dX12_ahead_165 : decode cX12_ahead 165 = .ok (.imul, 1) := by decide +kernel
theorem dX12_ahead_166 : decode cX12_ahead 166 = .ok (.istore 6, 2) := by decide +kernel
theorem dX12_ahead_168 : decode cX12_ahead 168 = .ok (.iconst 0, 1) := by decide +kernel
theorem dX12_ahead_169 : decode cX12_ahead 169 = .ok (.istore 7, 2) := by decide +kernel
theorem dX12_ahead_171 : decode cX12_ahead 171 = .ok (.iload 7, 2) := by decide +kernel
theorem dX12_ahead_173 : decode cX12_ahead 173 = .ok (.aload_n 0, 1) := by decide +kernel
theorem dX12_ahead_174 : decode cX12_ahead 174 = .ok (.getfield 324, 3) := by decide +kernel
theorem dX12_ahead_177 : decode cX12_ahead 177 = .ok (.if_icmp .ge 62, 3) := by decide +kernel
theorem dX12_ahead_180 : decode cX12_ahead 180 = .ok (.aload_n 0, 1) := by decide +kernel
theorem dX12_ahead_181 : decode cX12_ahead 181 = .ok (.getfield 59, 3) := by decide +kernel
theorem dX12_ahead_184 : decode cX12_ahead 184 = .ok (.iconst 4, 1) := by decide +kernel
theorem dX12_ahead_185 : decode cX12_ahead 185 = .ok (.iload 5, 2) := by decide +kernel
theorem dX12_ahead_187 : decode cX12_ahead 187 = .ok (.imul, 1) := by decide +kernel
theorem dX12_ahead_188 : decode cX12_ahead 188 = .ok (.iload 7, 2) := by decide +kernel
theorem dX12_ahead_190 : decode cX12_ahead 190 = .ok (.iadd, 1) := by decide +kernel
theorem dX12_ahead_191 : decode cX12_ahead 191 = .ok (.iconst 1, 1) := by decide +kernel
theorem dX12_ahead_192 : decode cX12_ahead 192 = .ok (.iadd, 1) := by decide +kernel
theorem dX12_ahead_193 : decode cX12_ahead 193 = .ok (.iaload, 1) := by decide +kernel
theorem dX12_ahead_194 : decode cX12_ahead 194 = .ok (.istore 8, 2) := by decide +kernel
theorem dX12_ahead_196 : decode cX12_ahead 196 = .ok (.iload 6, 2) := by decide +kernel
theorem dX12_ahead_198 : decode cX12_ahead 198 = .ok (.aload_n 0, 1) := by decide +kernel
theorem dX12_ahead_199 : decode cX12_ahead 199 = .ok (.iload 7, 2) := by decide +kernel
theorem dX12_ahead_201 : decode cX12_ahead 201 = .ok (.iconst 5, 1) := by decide +kernel
theorem dX12_ahead_202 : decode cX12_ahead 202 = .ok (.invokevirtual 327, 3) := by decide +kernel
theorem dX12_ahead_205 : decode cX12_ahead 205 = .ok (.iload 8, 2) := by decide +kernel
theorem dX12_ahead_207 : decode cX12_ahead 207 = .ok (.aload_n 0, 1) := by decide +kernel
theorem dX12_ahead_208 : decode cX12_ahead 208 = .ok (.getfield 59, 3) := by decide +kernel
theorem dX12_ahead_211 : decode cX12_ahead 211 = .ok (.iload 5, 2) := by decide +kernel
theorem dX12_ahead_213 : decode cX12_ahead 213 = .ok (.iaload, 1) := by decide +kernel
theorem dX12_ahead_214 : decode cX12_ahead 214 = .ok (.if_icmp .le 8, 3) := by decide +kernel
theorem dX12_ahead_217 : decode cX12_ahead 217 = .ok (.iload 8, 2) := by decide +kernel
theorem dX12_ahead_219 : decode cX12_ahead 219 = .ok (.goto 10, 3) := by decide +kernel
theorem dX12_ahead_222 : decode cX12_ahead 222 = .ok (.aload_n 0, 1) := by decide +kernel
theorem dX12_ahead_223 : decode cX12_ahead 223 = .ok (.getfield 59, 3) := by decide +kernel
theorem dX12_ahead_226 : decode cX12_ahead 226 = .ok (.iload 5, 2) := by decide +kernel
theorem dX12_ahead_228 : decode cX12_ahead 228 = .ok (.iaload, 1) := by decide +kernel
theorem dX12_ahead_229 : decode cX12_ahead 229 = .ok (.imul, 1) := by decide +kernel
theorem dX12_ahead_230 : decode cX12_ahead 230 = .ok (.iadd, 1) := by decide +kernel
theorem dX12_ahead_231 : decode cX12_ahead 231 = .ok (.istore 6, 2) := by decide +kernel
theorem dX12_ahead_233 : decode cX12_ahead 233 = .ok (.iinc 7 1, 3) := by decide +kernel
theorem dX12_ahead_236 : decode cX12_ahead 236 = .ok (.goto (-65), 3) := by decide +kernel
theorem dX12_ahead_239 : decode cX12_ahead 239 = .ok (.aload_n 0, 1) := by decide +kernel
theorem dX12_ahead_240 : decode cX12_ahead 240 = .ok (.getfield 62, 3) := by decide +kernel
theorem dX12_ahead_243 : decode cX12_ahead 243 = .ok (.iload 5, 2) := by decide +kernel
theorem dX12_ahead_245 : decode cX12_ahead 245 = .ok (.iload 6, 2) := by decide +kernel
theorem dX12_ahead_247 : decode cX12_ahead 247 = .ok (.iastore, 1) := by decide +kernel
theorem dX12_ahead_248 : decode cX12_ahead 248 = .ok (.iinc 5 1, 3) := by decide +kernel
theorem dX12_ahead_251 : decode cX12_ahead 251 = .ok (.goto (-138), 3) := by decide +kernel
theorem dX12_ahead_254 : decode cX12_ahead 254 = .ok (.iconst 0, 1) := by decide +kernel
theorem dX12_ahead_255 : decode cX12_ahead 255 = .ok (.istore 5, 2) := by decide +kernel
theorem dX12_ahead_257 : decode cX12_ahead 257 = .ok (.iload 5, 2) := by decide +kernel
theorem dX12_ahead_259 : decode cX12_ahead 259 = .ok (.iload_n 3, 1) := by decide +kernel
theorem dX12_ahead_260 : decode cX12_ahead 260 = .ok (.if_icmp .ge 23, 3) := by decide +kernel
theorem dX12_ahead_263 : decode cX12_ahead 263 = .ok (.aload_n 0, 1) := by decide +kernel
theorem dX12_ahead_264 : decode cX12_ahead 264 = .ok (.getfield 59, 3) := by decide +kernel
theorem dX12_ahead_267 : decode cX12_ahead 267 = .ok (.iload 5, 2) := by decide +kernel
theorem dX12_ahead_269 : decode cX12_ahead 269 = .ok (.aload_n 0, 1) := by decide +kernel
theorem dX12_ahead_270 : decode cX12_ahead 270 = .ok (.getfield 62, 3) := by decide +kernel
theorem dX12_ahead_273 : decode cX12_ahead 273 = .ok (.iload 5, 2) := by decide +kernel
theorem dX12_ahead_275 : decode cX12_ahead 275 = .ok (.iaload, 1) := by decide +kernel
theorem dX12_ahead_276 : decode cX12_ahead 276 = .ok (.iastore, 1) := by decide +kernel
theorem dX12_ahead_277 : decode cX12_ahead 277 = .ok (.iinc 5 1, 3) := by decide +kernel
theorem dX12_ahead_280 : decode cX12_ahead 280 = .ok (.goto (-23), 3) := by decide +kernel
theorem dX12_ahead_283 : decode cX12_ahead 283 = .ok (.iinc 4 1, 3) := by decide +kernel
theorem dX12_ahead_286 : decode cX12_ahead 286 = .ok (.goto (-182), 3) := by decide +kernel
theorem dX12_ahead_289 : decode cX12_ahead 289 = .ok (.aload_n 0, 1) := by decide +kernel
theorem dX12_ahead_290 : decode cX12_ahead 290 = .ok (.aload_n 0, 1) := by decide +kernel
theorem dX12_ahead_291 : decode cX12_ahead 291 = .ok (.getfield 59, 3) := by decide +kernel
theorem dX12_ahead_294 : decode cX12_ahead 294 = .ok (.iconst 0, 1) := by decide +kernel
theorem dX12_ahead_295 : decode cX12_ahead 295 = .ok (.iaload, 1) := by decide +kernel
theorem dX12_ahead_296 : decode cX12_ahead 296 = .ok (.iconst 1, 1) := by decide +kernel
theorem dX12_ahead_297 : decode cX12_ahead 297 = .ok (.iconst 2, 1) := by decide +kernel
theorem dX12_ahead_298 : decode cX12_ahead 298 = .ok (.iload_n 1, 1) := by decide +kernel
theorem dX12_ahead_299 : decode cX12_ahead 299 = .ok (.imul, 1) := by decide +kernel
theorem dX12_ahead_300 : decode cX12_ahead 300 = .ok (.ishl, 1) := by decide +kernel
theorem dX12_ahead_301 : decode cX12_ahead 301 = .ok (.invokevirtual 321, 3) := by decide +kernel
theorem dX12_ahead_304 : decode cX12_ahead 304 = .ok (.iload_n 2, 1) := by decide +kernel
theorem dX12_ahead_305 : decode cX12_ahead 305 = .ok (.ifCond .ne 10, 3) := by decide +kernel
theorem dX12_ahead_308 : decode cX12_ahead 308 = .ok (.aload_n 0, 1) := by decide +kernel
theorem dX12_ahead_309 : decode cX12_ahead 309 = .ok (.getfield 306, 3) := by decide +kernel
theorem dX12_ahead_312 : decode cX12_ahead 312 = .ok (.goto 7, 3) := by decide +kernel
theorem dX12_ahead_315 : decode cX12_ahead 315 = .ok (.aload_n 0, 1) := by decide +kernel
theorem dX12_ahead_316 : decode cX12_ahead 316 = .ok (.getfield 309, 3) := by decide +kernel
theorem dX12_ahead_319 : decode cX12_ahead 319 = .ok (.ireturn, 1) := by decide +kernel
theorem dX12_comes_0 : decode cX12_comes 0 = .ok (.aload_n 0, 1) := by decide +kernel
theorem dX12_comes_1 : decode cX12_comes 1 = .ok (.aload_n 0, 1) := by decide +kernel
theorem dX12_comes_2 : decode cX12_comes 2 = .ok (.getfield 34, 3) := by decide +kernel
theorem dX12_comes_5 : decode cX12_comes 5 = .ok (.ldc_w 342, 3) := by decide +kernel
theorem dX12_comes_8 : decode cX12_comes 8 = .ok (.imul, 1) := by decide +kernel
theorem dX12_comes_9 : decode cX12_comes 9 = .ok (.sipush 12345, 3) := by decide +kernel
theorem dX12_comes_12 : decode cX12_comes 12 = .ok (.iadd, 1) := by decide +kernel
theorem dX12_comes_13 : decode cX12_comes 13 = .ok (.putfield 34, 3) := by decide +kernel
theorem dX12_comes_16 : decode cX12_comes 16 = .ok (.aload_n 0, 1) := by decide +kernel
theorem dX12_comes_17 : decode cX12_comes 17 = .ok (.getfield 34, 3) := by decide +kernel
theorem dX12_comes_20 : decode cX12_comes 20 = .ok (.bipush 16, 2) := by decide +kernel
theorem dX12_comes_22 : decode cX12_comes 22 = .ok (.iushr, 1) := by decide +kernel
theorem dX12_comes_23 : decode cX12_comes 23 = .ok (.iconst 4, 1) := by decide +kernel
theorem dX12_comes_24 : decode cX12_comes 24 = .ok (.irem, 1) := by decide +kernel
theorem dX12_comes_25 : decode cX12_comes 25 = .ok (.istore_n 1, 1) := by decide +kernel
theorem dX12_comes_26 : decode cX12_comes 26 = .ok (.iconst 0, 1) := by decide +kernel
theorem dX12_comes_27 : decode cX12_comes 27 = .ok (.istore_n 2, 1) := by decide +kernel
theorem dX12_comes_28 : decode cX12_comes 28 = .ok (.iconst 0, 1) := by decide +kernel
theorem dX12_comes_29 : decode cX12_comes 29 = .ok (.istore_n 3, 1) := by decide +kernel
theorem dX12_comes_30 : decode cX12_comes 30 = .ok (.iload_n 3, 1) := by decide +kernel
theorem dX12_comes_31 : decode cX12_comes 31 = .ok (.aload_n 0, 1) := by decide +kernel
theorem dX12_comes_32 : decode cX12_comes 32 = .ok (.getfield 324, 3) := by decide +kernel
theorem dX12_comes_35 : decode cX12_comes 35 = .ok (.if_icmp .ge 25, 3) := by decide +kernel
theorem dX12_comes_38 : decode cX12_comes 38 = .ok (.iload_n 2, 1) := by decide +kernel
theorem dX12_comes_39 : decode cX12_comes 39 = .ok (.aload_n 0, 1) := by decide +kernel
theorem dX12_comes_40 : decode cX12_comes 40 = .ok (.iload_n 3, 1) := by decide +kernel
theorem dX12_comes_41 : decode cX12_comes 41 = .ok (.iconst 5, 1) := by decide +kernel
theorem dX12_comes_42 : decode cX12_comes 42 = .ok (.invokevirtual 327, 3) := by decide +kernel
theorem dX12_comes_45 : decode cX12_comes 45 = .ok (.iadd, 1) := by decide +kernel
theorem dX12_comes_46 : decode cX12_comes 46 = .ok (.istore_n 2, 1) := by decide +kernel
theorem dX12_comes_47 : decode cX12_comes 47 = .ok (.iload_n 1, 1) := by decide +kernel
theorem dX12_comes_48 : decode cX12_comes 48 = .ok (.iload_n 2, 1) := by decide +kernel
theorem dX12_comes_49 : decode cX12_comes 49 = .ok (.if_icmp .ge 5, 3) := by decide +kernel
theorem dX12_comes_52 : decode cX12_comes 52 = .ok (.iload_n 3, 1) := by decide +kernel
theorem dX12_comes_53 : decode cX12_comes 53 = .ok (.ireturn, 1) := by decide +kernel
theorem dX12_comes_54 : decode cX12_comes 54 = .ok (.iinc 3 1, 3) := by decide +kernel
theorem dX12_comes_57 : decode cX12_comes 57 = .ok (.goto (-27), 3) := by decide +kernel
theorem dX12_comes_60 : decode cX12_comes 60 = .ok (.bipush (-9), 2) := by decide +kernel
theorem dX12_comes_62 : decode cX12_comes 62 = .ok (.ireturn, 1) := by decide +kernel
theorem dX12_seed_0 : decode cX12_seed 0 = .ok (.aload_n 0, 1) := by decide +kernel
theorem dX12_seed_1 : decode cX12_seed 1 = .ok (.getfield 34, 3) := by decide +kernel
theorem dX12_seed_4 : decode cX12_seed 4 = .ok (.istore_n 2, 1) := by decide +kernel
theorem dX12_seed_5 : decode cX12_seed 5 = .ok (.aload_n 0, 1) := by decide +kernel
theorem dX12_seed_6 : decode cX12_seed 6 = .ok (.iload_n 1, 1) := by decide +kernel
theorem dX12_seed_7 : decode cX12_seed 7 = .ok (.putfield 34, 3) := by decide +kernel
theorem dX12_seed_10 : decode cX12_seed 10 = .ok (.iload_n 2, 1) := by decide +kernel
theorem dX12_seed_11 : decode cX12_seed 11 = .ok (.ireturn, 1) := by decide +kernel
theorem dX12_goes_0 : decode cX12_goes 0 = .ok (.aload_n 0, 1) := by decide +kernel
theorem dX12_goes_1 : decode cX12_goes 1 = .ok (.getfield 217, 3) := by decide +kernel
theorem dX12_goes_4 : decode cX12_goes 4 = .ok (.bipush 60, 2) := by decide +kernel
theorem dX12_goes_6 : decode cX12_goes 6 = .ok (.if_icmp .ne 6, 3) := by decide +kernel
theorem dX12_goes_9 : decode cX12_goes 9 = .ok (.bipush (-4), 2) := by decide +kernel
theorem dX12_goes_11 : decode cX12_goes 11 = .ok (.ireturn, 1) := by decide +kernel
theorem dX12_goes_12 : decode cX12_goes 12 = .ok (.aload_n 0, 1) := by decide +kernel
theorem dX12_goes_13 : decode cX12_goes 13 = .ok (.aload_n 0, 1) := by decide +kernel
theorem dX12_goes_14 : decode cX12_goes 14 = .ok (.getfield 96, 3) := by decide +kernel
theorem dX12_goes_17 : decode cX12_goes 17 = .ok (.iconst 0, 1) := by decide +kernel
theorem dX12_goes_18 : decode cX12_goes 18 = .ok (.invokevirtual 291, 3) := by decide +kernel
theorem dX12_goes_21 : decode cX12_goes 21 = .ok (.aload_n 0, 1) := by decide +kernel
theorem dX12_goes_22 : decode cX12_goes 22 = .ok (.aload_n 0, 1) := by decide +kernel
theorem dX12_goes_23 : decode cX12_goes 23 = .ok (.getfield 217, 3) := by decide +kernel
theorem dX12_goes_26 : decode cX12_goes 26 = .ok (.invokevirtual 248, 3) := by decide +kernel
theorem dX12_goes_29 : decode cX12_goes 29 = .ok (.istore_n 1, 1) := by decide +kernel
theorem dX12_goes_30 : decode cX12_goes 30 = .ok (.iconst 0, 1) := by decide +kernel
theorem dX12_goes_31 : decode cX12_goes 31 = .ok (.istore_n 2, 1) := by decide +kernel
theorem dX12_goes_32 : decode cX12_goes 32 = .ok (.iconst 0, 1) := by decide +kernel
theorem dX12_goes_33 : decode cX12_goes 33 = .ok (.istore_n 3, 1) := by decide +kernel
theorem dX12_goes_34 : decode cX12_goes 34 = .ok (.iload_n 1, 1) := by decide +kernel
theorem dX12_goes_35 : decode cX12_goes 35 = .ok (.ifCond .le 70, 3) := by decide +kernel
theorem dX12_goes_38 : decode cX12_goes 38 = .ok (.iload_n 2, 1) := by decide +kernel
theorem dX12_goes_39 : decode cX12_goes 39 = .ok (.aload_n 0, 1) := by decide +kernel
theorem dX12_goes_40 : decode cX12_goes 40 = .ok (.getfield 96, 3) := by decide +kernel
theorem dX12_goes_43 : decode cX12_goes 43 = .ok (.if_icmp .ge 62, 3) := by decide +kernel
theorem dX12_goes_46 : decode cX12_goes 46 = .ok (.iinc 1 (-1), 3) := by decide +kernel
theorem dX12_goes_49 : decode cX12_goes 49 = .ok (.aload_n 0, 1) := by decide +kernel
theorem dX12_goes_50 : decode cX12_goes 50 = .ok (.aload_n 0, 1) := by decide +kernel
theorem dX12_goes_51 : decode cX12_goes 51 = .ok (.getfield 28, 3) := by decide +kernel
theorem dX12_goes_54 : decode cX12_goes 54 = .ok (.iload_n 2, 1) := by decide +kernel
theorem dX12_goes_55 : decode cX12_goes 55 = .ok (.iaload, 1) := by decide +kernel
theorem dX12_goes_56 : decode cX12_goes 56 = .ok (.invokevirtual 294, 3) := by decide +kernel
theorem dX12_goes_59 : decode cX12_goes 59 = .ok (.ifCond .eq (-25), 3) := by decide +kernel
theorem dX12_goes_62 : decode cX12_goes 62 = .ok (.aload_n 0, 1) := by decide +kernel
theorem dX12_goes_63 : decode cX12_goes 63 = .ok (.getfield 53, 3) := by decide +kernel
theorem dX12_goes_66 : decode cX12_goes 66 = .ok (.aload_n 0, 1) := by decide +kernel
theorem dX12_goes_67 : decode cX12_goes 67 = .ok (.getfield 28, 3) := by decide +kernel
theorem dX12_goes_70 : decode cX12_goes 70 = .ok (.iload_n 2, 1) := by decide +kernel
theorem dX12_goes_71 : decode cX12_goes 71 = .ok (.iaload, 1) := by decide +kernel
theorem dX12_goes_72 : decode cX12_goes 72 = .ok (.aload_n 0, 1) := by decide +kernel
theorem dX12_goes_73 : decode cX12_goes 73 = .ok (.getfield 217, 3) := by decide +kernel
theorem dX12_goes_76 : decode cX12_goes 76 = .ok (.iastore, 1) := by decide +kernel
theorem dX12_goes_77 : decode cX12_goes 77 = .ok (.aload_n 0, 1) := by decide +kernel
theorem dX12_goes_78 : decode cX12_goes 78 = .ok (.dup, 1) := by decide +kernel
theorem dX12_goes_79 : decode cX12_goes 79 = .ok (.getfield 226, 3) := by decide +kernel
theorem dX12_goes_82 : decode cX12_goes 82 = .ok (.aload_n 0, 1) := by decide +kernel
theorem dX12_goes_83 : decode cX12_goes 83 = .ok (.aload_n 0, 1) := by decide +kernel
theorem dX12_goes_84 : decode cX12_goes 84 = .ok (.getfield 28, 3) := by decide +kernel
theorem dX12_goes_87 : decode cX12_goes 87 = .ok (.iload_n 2, 1) := by decide +kernel
theorem dX12_goes_88 : decode cX12_goes 88 = .ok (.iaload, 1) := by decide +kernel
theorem dX12_goes_89 : decode cX12_goes 89 = .ok (.invokevirtual 264, 3) := by decide +kernel
theorem dX12_goes_92 : decode cX12_goes 92 = .ok (.iadd, 1) := by decide +kernel
theorem dX12_goes_93 : decode cX12_goes 93 = .ok (.putfield 226, 3) := by decide +kernel
theorem dX12_goes_96 : decode cX12_goes 96 = .ok (.iinc 3 1, 3) := by decide +kernel
theorem dX12_goes_99 : decode cX12_goes 99 = .ok (.iinc 2 1, 3) := by decide +kernel
theorem dX12_goes_102 : decode cX12_goes 102 = .ok (.goto (-68), 3) := by decide +kernel
theorem dX12_goes_105 : decode cX12_goes 105 = .ok (.aload_n 0, 1) := by decide +kernel
theorem dX12_goes_106 : decode cX12_goes 106 = .ok (.aload_n 0, 1) := by decide +kernel
theorem dX12_goes_107 : decode cX12_goes 107 = .ok (.getfield 251, 3) := by decide +kernel
theorem dX12_goes_110 : decode cX12_goes 110 = .ok (.putfield 220, 3) := by decide +kernel
theorem dX12_goes_113 : decode cX12_goes 113 = .ok (.aload_n 0, 1) := by decide +kernel
theorem dX12_goes_114 : decode cX12_goes 114 = .ok (.aload_n 0, 1) := by decide +kernel
theorem dX12_goes_115 : decode cX12_goes 115 = .ok (.getfield 254, 3) := by decide +kernel
theorem dX12_goes_118 : decode cX12_goes 118 = .ok (.putfield 223, 3) := by decide +kernel
theorem dX12_goes_121 : decode cX12_goes 121 = .ok (.iconst 0, 1) := by decide +kernel
theorem dX12_goes_122 : decode cX12_goes 122 = .ok (.istore 4, 2) := by decide +kernel
theorem dX12_goes_124 : decode cX12_goes 124 = .ok (.iload 4, 2) := by decide +kernel
theorem dX12_goes_126 : decode cX12_goes 126 = .ok (.aload_n 0, 1) := by decide +kernel
theorem dX12_goes_127 : decode cX12_goes 127 = .ok (.getfield 96, 3) := by decide +kernel
theorem dX12_goes_130 : decode cX12_goes 130 = .ok (.if_icmp .ge 27, 3) := by decide +kernel
theorem dX12_goes_133 : decode cX12_goes 133 = .ok (.aload_n 0, 1) := by decide +kernel
theorem dX12_goes_134 : decode cX12_goes 134 = .ok (.getfield 7, 3) := by decide +kernel
theorem dX12_goes_137 : decode cX12_goes 137 = .ok (.iconst 5, 1) := by decide +kernel
theorem dX12_goes_138 : decode cX12_goes 138 = .ok (.iload 4, 2) := by decide +kernel
theorem dX12_goes_140 : decode cX12_goes 140 = .ok (.imul, 1) := by decide +kernel
theorem dX12_goes_141 : decode cX12_goes 141 = .ok (.iconst 1, 1) := by decide +kernel
theorem dX12_goes_142 : decode cX12_goes 142 = .ok (.iadd, 1) := by decide +kernel
theorem dX12_goes_143 : decode cX12_goes 143 = .ok (.aload_n 0, 1) := by decide +kernel
theorem dX12_goes_144 : decode cX12_goes 144 = .ok (.getfield 50, 3) := by decide +kernel
theorem dX12_goes_147 : decode cX12_goes 147 = .ok (.iload 4, 2) := by decide +kernel
theorem dX12_goes_149 : decode cX12_goes 149 = .ok (.iaload, 1) := by decide +kernel
theorem dX12_goes_150 : decode cX12_goes 150 = .ok (.iastore, 1) := by decide +kernel
theorem dX12_goes_151 : decode cX12_goes 151 = .ok (.iinc 4 1, 3) := by decide +kernel
theorem dX12_goes_154 : decode cX12_goes 154 = .ok (.goto (-30), 3) := by decide +kernel
theorem dX12_goes_157 : decode cX12_goes 157 = .ok (.aload_n 0, 1) := by decide +kernel
theorem dX12_goes_158 : decode cX12_goes 158 = .ok (.getfield 96, 3) := by decide +kernel
theorem dX12_goes_161 : decode cX12_goes 161 = .ok (.iconst 1, 1) := by decide +kernel
theorem dX12_goes_162 : decode cX12_goes 162 = .ok (.isub, 1) := by decide +kernel
theorem dX12_goes_163 : decode cX12_goes 163 = .ok (.istore 4, 2) := by decide +kernel
theorem dX12_goes_165 : decode cX12_goes 165 = .ok (.iload 4, 2) := by decide +kernel
theorem dX12_goes_167 : decode cX12_goes 167 = .ok (.ifCond .lt 25, 3) := by decide +kernel
theorem dX12_goes_170 : decode cX12_goes 170 = .ok (.aload_n 0, 1) := by decide +kernel
theorem dX12_goes_171 : decode cX12_goes 171 = .ok (.iload 4, 2) := by decide +kernel
theorem dX12_goes_173 : decode cX12_goes 173 = .ok (.iconst 1, 1) := by decide +kernel
theorem dX12_goes_174 : decode cX12_goes 174 = .ok (.invokevirtual 242, 3) := by decide +kernel
theorem dX12_goes_177 : decode cX12_goes 177 = .ok (.ifCond .ne 9, 3) := by decide +kernel
theorem dX12_goes_180 : decode cX12_goes 180 = .ok (.aload_n 0, 1) := by decide +kernel
theorem dX12_goes_181 : decode cX12_goes 181 = .ok (.iload 4, 2) := by decide +kernel
theorem dX12_goes_183 : decode cX12_goes 183 = .ok (.invokevirtual 245, 3) := by decide +kernel
theorem dX12_goes_186 : decode cX12_goes 186 = .ok (.iinc 4 (-1), 3) := by decide +kernel
theorem dX12_goes_189 : decode cX12_goes 189 = .ok (.goto (-24), 3) := by decide +kernel
theorem dX12_goes_192 : decode cX12_goes 192 = .ok (.aload_n 0, 1) := by decide +kernel
theorem dX12_goes_193 : decode cX12_goes 193 = .ok (.dup, 1) := by decide +kernel
theorem dX12_goes_194 : decode cX12_goes 194 = .ok (.getfield 217, 3) := by decide +kernel
theorem dX12_goes_197 : decode cX12_goes 197 = .ok (.iconst 1, 1) := by decide +kernel
theorem dX12_goes_198 : decode cX12_goes 198 = .ok (.iadd, 1) := by decide +kernel
theorem dX12_goes_199 : decode cX12_goes 199 = .ok (.putfield 217, 3) := by decide +kernel
theorem dX12_goes_202 : decode cX12_goes 202 = .ok (.iload_n 3, 1) := by decide +kernel
theorem dX12_goes_203 : decode cX12_goes 203 = .ok (.ireturn, 1) := by decide +kernel
theorem dX12_till_0 : decode cX12_till 0 = .ok (.aload_n 0, 1) := by decide +kernel
theorem dX12_till_1 : decode cX12_till 1 = .ok (.getfield 226, 3) := by decide +kernel
theorem dX12_till_4 : decode cX12_till 4 = .ok (.ireturn, 1) := by decide +kernel
theorem dX12_prove_0 : decode cX12_prove 0 = .ok (.aload_n 0, 1) := by decide +kernel
theorem dX12_prove_1 : decode cX12_prove 1 = .ok (.aload_n 0, 1) := by decide +kernel
theorem dX12_prove_2 : decode cX12_prove 2 = .ok (.getfield 96, 3) := by decide +kernel
theorem dX12_prove_5 : decode cX12_prove 5 = .ok (.iconst (-1), 1) := by decide +kernel
theorem dX12_prove_6 : decode cX12_prove 6 = .ok (.invokevirtual 297, 3) := by decide +kernel
theorem dX12_prove_9 : decode cX12_prove 9 = .ok (.pop, 1) := by decide +kernel
theorem dX12_prove_10 : decode cX12_prove 10 = .ok (.iconst 0, 1) := by decide +kernel
theorem dX12_prove_11 : decode cX12_prove 11 = .ok (.istore_n 1, 1) := by decide +kernel
theorem dX12_prove_12 : decode cX12_prove 12 = .ok (.iload_n 1, 1) := by decide +kernel
theorem dX12_prove_13 : decode cX12_prove 13 = .ok (.aload_n 0, 1) := by decide +kernel
theorem dX12_prove_14 : decode cX12_prove 14 = .ok (.getfield 96, 3) := by decide +kernel
theorem dX12_prove_17 : decode cX12_prove 17 = .ok (.if_icmp .ge 21, 3) := by decide +kernel
theorem dX12_prove_20 : decode cX12_prove 20 = .ok (.aload_n 0, 1) := by decide +kernel
theorem dX12_prove_21 : decode cX12_prove 21 = .ok (.getfield 47, 3) := by decide +kernel
theorem dX12_prove_24 : decode cX12_prove 24 = .ok (.iload_n 1, 1) := by decide +kernel
theorem dX12_prove_25 : decode cX12_prove 25 = .ok (.aload_n 0, 1) := by decide +kernel
theorem dX12_prove_26 : decode cX12_prove 26 = .ok (.getfield 56, 3) := by decide +kernel
theorem dX12_prove_29 : decode cX12_prove 29 = .ok (.iload_n 1, 1) := by decide +kernel
theorem dX12_prove_30 : decode cX12_prove 30 = .ok (.iaload, 1) := by decide +kernel
theorem dX12_prove_31 : decode cX12_prove 31 = .ok (.iastore, 1) := by decide +kernel
theorem dX12_prove_32 : decode cX12_prove 32 = .ok (.iinc 1 1, 3) := by decide +kernel
theorem dX12_prove_35 : decode cX12_prove 35 = .ok (.goto (-23), 3) := by decide +kernel
theorem dX12_prove_38 : decode cX12_prove 38 = .ok (.aload_n 0, 1) := by decide +kernel
theorem dX12_prove_39 : decode cX12_prove 39 = .ok (.aload_n 0, 1) := by decide +kernel
theorem dX12_prove_40 : decode cX12_prove 40 = .ok (.getfield 96, 3) := by decide +kernel
theorem dX12_prove_43 : decode cX12_prove 43 = .ok (.iconst 0, 1) := by decide +kernel
theorem dX12_prove_44 : decode cX12_prove 44 = .ok (.iconst 0, 1) := by decide +kernel
theorem dX12_prove_45 : decode cX12_prove 45 = .ok (.invokevirtual 267, 3) := by decide +kernel
theorem dX12_prove_48 : decode cX12_prove 48 = .ok (.aload_n 0, 1) := by decide +kernel
theorem dX12_prove_49 : decode cX12_prove 49 = .ok (.aload_n 0, 1) := by decide +kernel
theorem dX12_prove_50 : decode cX12_prove 50 = .ok (.getfield 96, 3) := by decide +kernel
theorem dX12_prove_53 : decode cX12_prove 53 = .ok (.putfield 229, 3) := by decide +kernel
theorem dX12_prove_56 : decode cX12_prove 56 = .ok (.iconst 0, 1) := by decide +kernel
theorem dX12_prove_57 : decode cX12_prove 57 = .ok (.istore_n 1, 1) := by decide +kernel
theorem dX12_prove_58 : decode cX12_prove 58 = .ok (.iload_n 1, 1) := by decide +kernel
theorem dX12_prove_59 : decode cX12_prove 59 = .ok (.aload_n 0, 1) := by decide +kernel
theorem dX12_prove_60 : decode cX12_prove 60 = .ok (.getfield 96, 3) := by decide +kernel
theorem dX12_prove_63 : decode cX12_prove 63 = .ok (.if_icmp .ge 64, 3) := by decide +kernel
theorem dX12_prove_66 : decode cX12_prove 66 = .ok (.aload_n 0, 1) := by decide +kernel
theorem dX12_prove_67 : decode cX12_prove 67 = .ok (.getfield 65, 3) := by decide +kernel
theorem dX12_prove_70 : decode cX12_prove 70 = .ok (.iconst 3, 1) := by decide +kernel
theorem dX12_prove_71 : decode cX12_prove 71 = .ok (.iload_n 1, 1) := by decide +kernel
theorem dX12_prove_72 : decode cX12_prove 72 = .ok (.imul, 1) := by decide +kernel
theorem dX12_prove_73 : decode cX12_prove 73 = .ok (.aload_n 0, 1) := by decide +kernel
theorem dX12_prove_74 : decode cX12_prove 74 = .ok (.getfield 47, 3) := by decide +kernel
theorem dX12_prove_77 : decode cX12_prove 77 = .ok (.iload_n 1, 1) := by decide +kernel
theorem dX12_prove_78 : decode cX12_prove 78 = .ok (.iaload, 1) := by decide +kernel
theorem dX12_prove_79 : decode cX12_prove 79 = .ok (.iastore, 1) := by decide +kernel
theorem dX12_prove_80 : decode cX12_prove 80 = .ok (.aload_n 0, 1) := by decide +kernel
theorem dX12_prove_81 : decode cX12_prove 81 = .ok (.getfield 65, 3) := by decide +kernel
theorem dX12_prove_84 : decode cX12_prove 84 = .ok (.iconst 3, 1) := by decide +kernel
theorem dX12_prove_85 : decode cX12_prove 85 = .ok (.iload_n 1, 1) := by decide +kernel
theorem dX12_prove_86 : decode cX12_prove 86 = .ok (.imul, 1) := by decide +kernel
theorem dX12_prove_87 : decode cX12_prove 87 = .ok (.iconst 1, 1) := by decide +kernel
theorem dX12_prove_88 : decode cX12_prove 88 = .ok (.iadd, 1) := by decide +kernel
theorem dX12_prove_89 : decode cX12_prove 89 = .ok (.aload_n 0, 1) := by decide +kernel
theorem dX12_prove_90 : decode cX12_prove 90 = .ok (.getfield 53, 3) := by decide +kernel
theorem dX12_prove_93 : decode cX12_prove 93 = .ok (.aload_n 0, 1) := by decide +kernel
theorem dX12_prove_94 : decode cX12_prove 94 = .ok (.getfield 47, 3) := by decide +kernel
theorem dX12_prove_97 : decode cX12_prove 97 = .ok (.iload_n 1, 1) := by decide +kernel
theorem dX12_prove_98 : decode cX12_prove 98 = .ok (.iaload, 1) := by decide +kernel
theorem dX12_prove_99 : decode cX12_prove 99 = .ok (.iaload, 1) := by decide +kernel
theorem dX12_prove_100 : decode cX12_prove 100 = .ok (.iastore, 1) := by decide +kernel
theorem dX12_prove_101 : decode cX12_prove 101 = .ok (.aload_n 0, 1) := by decide +kernel
theorem dX12_prove_102 : decode cX12_prove 102 = .ok (.getfield 65, 3) := by decide +kernel
theorem dX12_prove_105 : decode cX12_prove 105 = .ok (.iconst 3, 1) := by decide +kernel
theorem dX12_prove_106 : decode cX12_prove 106 = .ok (.iload_n 1, 1) := by decide +kernel
theorem dX12_prove_107 : decode cX12_prove 107 = .ok (.imul, 1) := by decide +kernel
theorem dX12_prove_108 : decode cX12_prove 108 = .ok (.iconst 2, 1) := by decide +kernel
theorem dX12_prove_109 : decode cX12_prove 109 = .ok (.iadd, 1) := by decide +kernel
theorem dX12_prove_110 : decode cX12_prove 110 = .ok (.aload_n 0, 1) := by decide +kernel
theorem dX12_prove_111 : decode cX12_prove 111 = .ok (.aload_n 0, 1) := by decide +kernel
theorem dX12_prove_112 : decode cX12_prove 112 = .ok (.getfield 47, 3) := by decide +kernel
theorem dX12_prove_115 : decode cX12_prove 115 = .ok (.iload_n 1, 1) := by decide +kernel
theorem dX12_prove_116 : decode cX12_prove 116 = .ok (.iaload, 1) := by decide +kernel
theorem dX12_prove_117 : decode cX12_prove 117 = .ok (.invokevirtual 264, 3) := by decide +kernel
theorem dX12_prove_120 : decode cX12_prove 120 = .ok (.iastore, 1) := by decide +kernel
theorem dX12_prove_121 : decode cX12_prove 121 = .ok (.iinc 1 1, 3) := by decide +kernel
theorem dX12_prove_124 : decode cX12_prove 124 = .ok (.goto (-66), 3) := by decide +kernel
theorem dX12_prove_127 : decode cX12_prove 127 = .ok (.aload_n 0, 1) := by decide +kernel
theorem dX12_prove_128 : decode cX12_prove 128 = .ok (.getfield 229, 3) := by decide +kernel
theorem dX12_prove_131 : decode cX12_prove 131 = .ok (.ireturn, 1) := by decide +kernel
theorem dX12_isRow_0 : decode cX12_isRow 0 = .ok (.iload_n 1, 1) := by decide +kernel
theorem dX12_isRow_1 : decode cX12_isRow 1 = .ok (.iconst 0, 1) := by decide +kernel
theorem dX12_isRow_2 : decode cX12_isRow 2 = .ok (.aload_n 0, 1) := by decide +kernel
theorem dX12_isRow_3 : decode cX12_isRow 3 = .ok (.getfield 229, 3) := by decide +kernel
theorem dX12_isRow_6 : decode cX12_isRow 6 = .ok (.iconst 1, 1) := by decide +kernel
theorem dX12_isRow_7 : decode cX12_isRow 7 = .ok (.isub, 1) := by decide +kernel
theorem dX12_isRow_8 : decode cX12_isRow 8 = .ok (.invokestatic 99, 3) := by decide +kernel
theorem dX12_isRow_11 : decode cX12_isRow 11 = .ok (.ifCond .eq 16, 3) := by decide +kernel
theorem dX12_isRow_14 : decode cX12_isRow 14 = .ok (.iload_n 2, 1) := by decide +kernel
theorem dX12_isRow_15 : decode cX12_isRow 15 = .ok (.iconst 0, 1) := by decide +kernel
theorem dX12_isRow_16 : decode cX12_isRow 16 = .ok (.iconst 2, 1) := by decide +kernel
theorem dX12_isRow_17 : decode cX12_isRow 17 = .ok (.invokestatic 99, 3) := by decide +kernel
theorem dX12_isRow_20 : decode cX12_isRow 20 = .ok (.ifCond .eq 7, 3) := by decide +kernel
theorem dX12_isRow_23 : decode cX12_isRow 23 = .ok (.iconst 1, 1) := by decide +kernel
theorem dX12_isRow_24 : decode cX12_isRow 24 = .ok (.goto 4, 3) := by decide +kernel
theorem dX12_isRow_27 : decode cX12_isRow 27 = .ok (.iconst 0, 1) := by decide +kernel
theorem dX12_isRow_28 : decode cX12_isRow 28 = .ok (.ireturn, 1) := by decide +kernel
theorem dX12_row_0 : decode cX12_row 0 = .ok (.aload_n 0, 1) := by decide +kernel
theorem dX12_row_1 : decode cX12_row 1 = .ok (.iload_n 1, 1) := by decide +kernel
theorem dX12_row_2 : decode cX12_row 2 = .ok (.iload_n 2, 1) := by decide +kernel
theorem dX12_row_3 : decode cX12_row 3 = .ok (.invokevirtual 343, 3) := by decide +kernel
theorem dX12_row_6 : decode cX12_row 6 = .ok (.ifCond .eq 16, 3) := by decide +kernel
theorem dX12_row_9 : decode cX12_row 9 = .ok (.aload_n 0, 1) := by decide +kernel
theorem dX12_row_10 : decode cX12_row 10 = .ok (.getfield 65, 3) := by decide +kernel
theorem dX12_row_13 : decode cX12_row 13 = .ok (.iconst 3, 1) := by decide +kernel
theorem dX12_row_14 : decode cX12_row 14 = .ok (.iload_n 1, 1) := by decide +kernel
theorem dX12_row_15 : decode cX12_row 15 = .ok (.imul, 1) := by decide +kernel
theorem dX12_row_16 : decode cX12_row 16 = .ok (.iload_n 2, 1) := by decide +kernel
theorem dX12_row_17 : decode cX12_row 17 = .ok (.iadd, 1) := by decide +kernel
theorem dX12_row_18 : decode cX12_row 18 = .ok (.iaload, 1) := by decide +kernel
theorem dX12_row_19 : decode cX12_row 19 = .ok (.goto 6, 3) := by decide +kernel
theorem dX12_row_22 : decode cX12_row 22 = .ok (.ldc_w 284, 3) := by decide +kernel
theorem dX12_row_25 : decode cX12_row 25 = .ok (.ireturn, 1) := by decide +kernel
theorem dX12_alterRow_0 : decode cX12_alterRow 0 = .ok (.aload_n 0, 1) := by decide +kernel
theorem dX12_alterRow_1 : decode cX12_alterRow 1 = .ok (.iload_n 1, 1) := by decide +kernel
theorem dX12_alterRow_2 : decode cX12_alterRow 2 = .ok (.iload_n 2, 1) := by decide +kernel
theorem dX12_alterRow_3 : decode cX12_alterRow 3 = .ok (.invokevirtual 343, 3) := by decide +kernel
theorem dX12_alterRow_6 : decode cX12_alterRow 6 = .ok (.ifCond .ne 7, 3) := by decide +kernel
theorem dX12_alterRow_9 : decode cX12_alterRow 9 = .ok (.ldc_w 284, 3) := by decide +kernel
theorem dX12_alterRow_12 : decode cX12_alterRow 12 = .ok (.ireturn, 1) := by decide +kernel
theorem dX12_alterRow_13 : decode cX12_alterRow 13 = .ok (.aload_n 0, 1) := by decide +kernel
theorem dX12_alterRow_14 : decode cX12_alterRow 14 = .ok (.getfield 65, 3) := by decide +kernel
theorem dX12_alterRow_17 : decode cX12_alterRow 17 = .ok (.iconst 3, 1) := by decide +kernel
theorem dX12_alterRow_18 : decode cX12_alterRow 18 = .ok (.iload_n 1, 1) := by decide +kernel
theorem dX12_alterRow_19 : decode cX12_alterRow 19 = .ok (.imul, 1) := by decide +kernel
theorem dX12_alterRow_20 : decode cX12_alterRow 20 = .ok (.iload_n 2, 1) := by decide +kernel
theorem dX12_alterRow_21 : decode cX12_alterRow 21 = .ok (.iadd, 1) := by decide +kernel
theorem dX12_alterRow_22 : decode cX12_alterRow 22 = .ok (.iaload, 1) := by decide +kernel
theorem dX12_alterRow_23 : decode cX12_alterRow 23 = .ok (.istore 4, 2) := by decide +kernel
theorem dX12_alterRow_25 : decode cX12_alterRow 25 = .ok (.aload_n 0, 1) := by decide +kernel
theorem dX12_alterRow_26 : decode cX12_alterRow 26 = .ok (.getfield 65, 3) := by decide +kernel
theorem dX12_alterRow_29 : decode cX12_alterRow 29 = .ok (.iconst 3, 1) := by decide +kernel
theorem dX12_alterRow_30 : decode cX12_alterRow 30 = .ok (.iload_n 1, 1) := by decide +kernel
theorem dX12_alterRow_31 : decode cX12_alterRow 31 = .ok (.imul, 1) := by decide +kernel
theorem dX12_alterRow_32 : decode cX12_alterRow 32 = .ok (.iload_n 2, 1) := by decide +kernel
theorem dX12_alterRow_33 : decode cX12_alterRow 33 = .ok (.iadd, 1) := by decide +kernel
theorem dX12_alterRow_34 : decode cX12_alterRow 34 = .ok (.iload_n 3, 1) := by decide +kernel
theorem dX12_alterRow_35 : decode cX12_alterRow 35 = .ok (.iastore, 1) := by decide +kernel
theorem dX12_alterRow_36 : decode cX12_alterRow 36 = .ok (.iload 4, 2) := by decide +kernel
theorem dX12_alterRow_38 : decode cX12_alterRow 38 = .ok (.ireturn, 1) := by decide +kernel
theorem dX12_judge_0 : decode cX12_judge 0 = .ok (.iconst 0, 1) := by decide +kernel
theorem dX12_judge_1 : decode cX12_judge 1 = .ok (.istore_n 1, 1) := by decide +kernel
theorem dX12_judge_2 : decode cX12_judge 2 = .ok (.iconst 0, 1) := by decide +kernel
theorem dX12_judge_3 : decode cX12_judge 3 = .ok (.istore_n 2, 1) := by decide +kernel
theorem dX12_judge_4 : decode cX12_judge 4 = .ok (.iload_n 2, 1) := by decide +kernel
theorem dX12_judge_5 : decode cX12_judge 5 = .ok (.aload_n 0, 1) := by decide +kernel
theorem dX12_judge_6 : decode cX12_judge 6 = .ok (.getfield 229, 3) := by decide +kernel
theorem dX12_judge_9 : decode cX12_judge 9 = .ok (.if_icmp .ge 106, 3) := by decide +kernel
theorem dX12_judge_12 : decode cX12_judge 12 = .ok (.aload_n 0, 1) := by decide +kernel
theorem dX12_judge_13 : decode cX12_judge 13 = .ok (.getfield 65, 3) := by decide +kernel
theorem dX12_judge_16 : decode cX12_judge 16 = .ok (.iconst 3, 1) := by decide +kernel
theorem dX12_judge_17 : decode cX12_judge 17 = .ok (.iload_n 2, 1) := by decide +kernel
theorem dX12_judge_18 : decode cX12_judge 18 = .ok (.imul, 1) := by decide +kernel
theorem dX12_judge_19 : decode cX12_judge 19 = .ok (.iaload, 1) := by decide +kernel
theorem dX12_judge_20 : decode cX12_judge 20 = .ok (.istore_n 3, 1) := by decide +kernel
theorem dX12_judge_21 : decode cX12_judge 21 = .ok (.aload_n 0, 1) := by decide +kernel
theorem dX12_judge_22 : decode cX12_judge 22 = .ok (.iload_n 3, 1) := by decide +kernel
theorem dX12_judge_23 : decode cX12_judge 23 = .ok (.invokevirtual 239, 3) := by decide +kernel
theorem dX12_judge_26 : decode cX12_judge 26 = .ok (.ifCond .eq 12, 3) := by decide +kernel
theorem dX12_judge_29 : decode cX12_judge 29 = .ok (.iload_n 1, 1) := by decide +kernel
theorem dX12_judge_30 : decode cX12_judge 30 = .ok (.iload_n 3, 1) := by decide +kernel
theorem dX12_judge_31 : decode cX12_judge 31 = .ok (.ishr, 1) := by decide +kernel
theorem dX12_judge_32 : decode cX12_judge 32 = .ok (.iconst 1, 1) := by decide +kernel
theorem dX12_judge_33 : decode cX12_judge 33 = .ok (.iand, 1) := by decide +kernel
theorem dX12_judge_34 : decode cX12_judge 34 = .ok (.iconst 1, 1) := by decide +kernel
theorem dX12_judge_35 : decode cX12_judge 35 = .ok (.if_icmp .ne 7, 3) := by decide +kernel
theorem dX12_judge_38 : decode cX12_judge 38 = .ok (.iload_n 2, 1) := by decide +kernel
theorem dX12_judge_39 : decode cX12_judge 39 = .ok (.iconst 1, 1) := by decide +kernel
theorem dX12_judge_40 : decode cX12_judge 40 = .ok (.iadd, 1) := by decide +kernel
theorem dX12_judge_41 : decode cX12_judge 41 = .ok (.ireturn, 1) := by decide +kernel
theorem dX12_judge_42 : decode cX12_judge 42 = .ok (.iload_n 1, 1) := by decide +kernel
theorem dX12_judge_43 : decode cX12_judge 43 = .ok (.iconst 1, 1) := by decide +kernel
theorem dX12_judge_44 : decode cX12_judge 44 = .ok (.iload_n 3, 1) := by decide +kernel
theorem dX12_judge_45 : decode cX12_judge 45 = .ok (.ishl, 1) := by decide +kernel
theorem dX12_judge_46 : decode cX12_judge 46 = .ok (.ior, 1) := by decide +kernel
theorem dX12_judge_47 : decode cX12_judge 47 = .ok (.istore_n 1, 1) := by decide +kernel
theorem dX12_judge_48 : decode cX12_judge 48 = .ok (.aload_n 0, 1) := by decide +kernel
theorem dX12_judge_49 : decode cX12_judge 49 = .ok (.getfield 47, 3) := by decide +kernel
theorem dX12_judge_52 : decode cX12_judge 52 = .ok (.iload_n 2, 1) := by decide +kernel
theorem dX12_judge_53 : decode cX12_judge 53 = .ok (.iload_n 3, 1) := by decide +kernel
theorem dX12_judge_54 : decode cX12_judge 54 = .ok (.iastore, 1) := by decide +kernel
theorem dX12_judge_55 : decode cX12_judge 55 = .ok (.aload_n 0, 1) := by decide +kernel
theorem dX12_judge_56 : decode cX12_judge 56 = .ok (.iload_n 2, 1) := by decide +kernel
theorem dX12_judge_57 : decode cX12_judge 57 = .ok (.iconst 1, 1) := by decide +kernel
theorem dX12_judge_58 : decode cX12_judge 58 = .ok (.iadd, 1) := by decide +kernel
theorem dX12_judge_59 : decode cX12_judge 59 = .ok (.aload_n 0, 1) := by decide +kernel
theorem dX12_judge_60 : decode cX12_judge 60 = .ok (.getfield 96, 3) := by decide +kernel
theorem dX12_judge_63 : decode cX12_judge 63 = .ok (.iconst 0, 1) := by decide +kernel
theorem dX12_judge_64 : decode cX12_judge 64 = .ok (.iconst 0, 1) := by decide +kernel
theorem dX12_judge_65 : decode cX12_judge 65 = .ok (.invokevirtual 257, 3) := by decide +kernel
theorem dX12_judge_68 : decode cX12_judge 68 = .ok (.aload_n 0, 1) := by decide +kernel
theorem dX12_judge_69 : decode cX12_judge 69 = .ok (.getfield 65, 3) := by decide +kernel
theorem dX12_judge_72 : decode cX12_judge 72 = .ok (.iconst 3, 1) := by decide +kernel
theorem dX12_judge_73 : decode cX12_judge 73 = .ok (.iload_n 2, 1) := by decide +kernel
theorem dX12_judge_74 : decode cX12_judge 74 = .ok (.imul, 1) := by decide +kernel
theorem dX12_judge_75 : decode cX12_judge 75 = .ok (.iconst 1, 1) := by decide +kernel
theorem dX12_judge_76 : decode cX12_judge 76 = .ok (.iadd, 1) := by decide +kernel
theorem dX12_judge_77 : decode cX12_judge 77 = .ok (.iaload, 1) := by decide +kernel
theorem dX12_judge_78 : decode cX12_judge 78 = .ok (.aload_n 0, 1) := by decide +kernel
theorem dX12_judge_79 : decode cX12_judge 79 = .ok (.getfield 53, 3) := by decide +kernel
theorem dX12_judge_82 : decode cX12_judge 82 = .ok (.iload_n 3, 1) := by decide +kernel
theorem dX12_judge_83 : decode cX12_judge 83 = .ok (.iaload, 1) := by decide +kernel
theorem dX12_judge_84 : decode cX12_judge 84 = .ok (.if_icmp .ne 21, 3) := by decide +kernel
theorem dX12_judge_87 : decode cX12_judge 87 = .ok (.aload_n 0, 1) := by decide +kernel
theorem dX12_judge_88 : decode cX12_judge 88 = .ok (.getfield 65, 3) := by decide +kernel
theorem dX12_judge_91 : decode cX12_judge 91 = .ok (.iconst 3, 1) := by decide +kernel
theorem dX12_judge_92 : decode cX12_judge 92 = .ok (.iload_n 2, 1) := by decide +kernel
theorem dX12_judge_93 : decode cX12_judge 93 = .ok (.imul, 1) := by decide +kernel
theorem dX12_judge_94 : decode cX12_judge 94 = .ok (.iconst 2, 1) := by decide +kernel
theorem dX12_judge_95 : decode cX12_judge 95 = .ok (.iadd, 1) := by decide +kernel
theorem dX12_judge_96 : decode cX12_judge 96 = .ok (.iaload, 1) := by decide +kernel
theorem dX12_judge_97 : decode cX12_judge 97 = .ok (.aload_n 0, 1) := by decide +kernel
theorem dX12_judge_98 : decode cX12_judge 98 = .ok (.iload_n 3, 1) := by decide +kernel
theorem dX12_judge_99 : decode cX12_judge 99 = .ok (.invokevirtual 264, 3) := by decide +kernel
theorem dX12_judge_102 : decode cX12_judge 102 = .ok (.if_icmp .eq 7, 3) := by decide +kernel
theorem dX12_judge_105 : decode cX12_judge 105 = .ok (.iload_n 2, 1) := by decide +kernel
theorem dX12_judge_106 : decode cX12_judge 106 = .ok (.iconst 1, 1) := by decide +kernel
theorem dX12_judge_107 : decode cX12_judge 107 = .ok (.iadd, 1) := by decide +kernel
theorem dX12_judge_108 : decode cX12_judge 108 = .ok (.ireturn, 1) := by decide +kernel
theorem dX12_judge_109 : decode cX12_judge 109 = .ok (.iinc 2 1, 3) := by decide +kernel
theorem dX12_judge_112 : decode cX12_judge 112 = .ok (.goto (-108), 3) := by decide +kernel
theorem dX12_judge_115 : decode cX12_judge 115 = .ok (.aload_n 0, 1) := by decide +kernel
theorem dX12_judge_116 : decode cX12_judge 116 = .ok (.getfield 229, 3) := by decide +kernel
theorem dX12_judge_119 : decode cX12_judge 119 = .ok (.aload_n 0, 1) := by decide +kernel
theorem dX12_judge_120 : decode cX12_judge 120 = .ok (.getfield 96, 3) := by decide +kernel
theorem dX12_judge_123 : decode cX12_judge 123 = .ok (.if_icmp .ge 9, 3) := by decide +kernel
theorem dX12_judge_126 : decode cX12_judge 126 = .ok (.sipush 222, 3) := by decide +kernel
theorem dX12_judge_129 : decode cX12_judge 129 = .ok (.goto 4, 3) := by decide +kernel
theorem dX12_judge_132 : decode cX12_judge 132 = .ok (.iconst 0, 1) := by decide +kernel
theorem dX12_judge_133 : decode cX12_judge 133 = .ok (.ireturn, 1) := by decide +kernel
theorem dX12_isShelf_0 : decode cX12_isShelf 0 = .ok (.iload_n 0, 1) := by decide +kernel
theorem dX12_isShelf_1 : decode cX12_isShelf 1 = .ok (.iconst 0, 1) := by decide +kernel
theorem dX12_isShelf_2 : decode cX12_isShelf 2 = .ok (.iconst 3, 1) := by decide +kernel
theorem dX12_isShelf_3 : decode cX12_isShelf 3 = .ok (.invokestatic 99, 3) := by decide +kernel
theorem dX12_isShelf_6 : decode cX12_isShelf 6 = .ok (.ireturn, 1) := by decide +kernel
theorem dX12_sheet_0 : decode cX12_sheet 0 = .ok (.iload_n 1, 1) := by decide +kernel
theorem dX12_sheet_1 : decode cX12_sheet 1 = .ok (.invokestatic 346, 3) := by decide +kernel
theorem dX12_sheet_4 : decode cX12_sheet 4 = .ok (.ifCond .eq 22, 3) := by decide +kernel
theorem dX12_sheet_7 : decode cX12_sheet 7 = .ok (.iload_n 2, 1) := by decide +kernel
theorem dX12_sheet_8 : decode cX12_sheet 8 = .ok (.iconst (-1), 1) := by decide +kernel
theorem dX12_sheet_9 : decode cX12_sheet 9 = .ok (.iconst 3, 1) := by decide +kernel
theorem dX12_sheet_10 : decode cX12_sheet 10 = .ok (.invokestatic 99, 3) := by decide +kernel
theorem dX12_sheet_13 : decode cX12_sheet 13 = .ok (.ifCond .eq 13, 3) := by decide +kernel
theorem dX12_sheet_16 : decode cX12_sheet 16 = .ok (.iload_n 2, 1) := by decide +kernel
theorem dX12_sheet_17 : decode cX12_sheet 17 = .ok (.ifCond .lt 11, 3) := by decide +kernel
theorem dX12_sheet_20 : decode cX12_sheet 20 = .ok (.iload_n 3, 1) := by decide +kernel
theorem dX12_sheet_21 : decode cX12_sheet 21 = .ok (.bipush 40, 2) := by decide +kernel
theorem dX12_sheet_23 : decode cX12_sheet 23 = .ok (.if_icmp .le 5, 3) := by decide +kernel
theorem dX12_sheet_26 : decode cX12_sheet 26 = .ok (.iconst (-1), 1) := by decide +kernel
theorem dX12_sheet_27 : decode cX12_sheet 27 = .ok (.ireturn, 1) := by decide +kernel
theorem dX12_sheet_28 : decode cX12_sheet 28 = .ok (.iload_n 2, 1) := by decide +kernel
theorem dX12_sheet_29 : decode cX12_sheet 29 = .ok (.ifCond .lt 10, 3) := by decide +kernel
theorem dX12_sheet_32 : decode cX12_sheet 32 = .ok (.iload_n 3, 1) := by decide +kernel
theorem dX12_sheet_33 : decode cX12_sheet 33 = .ok (.ifCond .ge 6, 3) := by decide +kernel
theorem dX12_sheet_36 : decode cX12_sheet 36 = .ok (.bipush (-14), 2) := by decide +kernel
theorem dX12_sheet_38 : decode cX12_sheet 38 = .ok (.ireturn, 1) := by decide +kernel
theorem dX12_sheet_39 : decode cX12_sheet 39 = .ok (.aload_n 0, 1) := by decide +kernel
theorem dX12_sheet_40 : decode cX12_sheet 40 = .ok (.getfield 68, 3) := by decide +kernel
theorem dX12_sheet_43 : decode cX12_sheet 43 = .ok (.iload_n 1, 1) := by decide +kernel
theorem dX12_sheet_44 : decode cX12_sheet 44 = .ok (.iload_n 2, 1) := by decide +kernel
theorem dX12_sheet_45 : decode cX12_sheet 45 = .ok (.iastore, 1) := by decide +kernel
theorem dX12_sheet_46 : decode cX12_sheet 46 = .ok (.aload_n 0, 1) := by decide +kernel
theorem dX12_sheet_47 : decode cX12_sheet 47 = .ok (.getfield 71, 3) := by decide +kernel
theorem dX12_sheet_50 : decode cX12_sheet 50 = .ok (.iload_n 1, 1) := by decide +kernel
theorem dX12_sheet_51 : decode cX12_sheet 51 = .ok (.iload_n 2, 1) := by decide +kernel
theorem dX12_sheet_52 : decode cX12_sheet 52 = .ok (.ifCond .ge 7, 3) := by decide +kernel
theorem dX12_sheet_55 : decode cX12_sheet 55 = .ok (.iconst 0, 1) := by decide +kernel
theorem dX12_sheet_56 : decode cX12_sheet 56 = .ok (.goto 4, 3) := by decide +kernel
theorem dX12_sheet_59 : decode cX12_sheet 59 = .ok (.iload_n 3, 1) := by decide +kernel
theorem dX12_sheet_60 : decode cX12_sheet 60 = .ok (.iastore, 1) := by decide +kernel
theorem dX12_sheet_61 : decode cX12_sheet 61 = .ok (.iconst 0, 1) := by decide +kernel
theorem dX12_sheet_62 : decode cX12_sheet 62 = .ok (.istore 4, 2) := by decide +kernel
theorem dX12_sheet_64 : decode cX12_sheet 64 = .ok (.iload 4, 2) := by decide +kernel
theorem dX12_sheet_66 : decode cX12_sheet 66 = .ok (.bipush 40, 2) := by decide +kernel
theorem dX12_sheet_68 : decode cX12_sheet 68 = .ok (.if_icmp .ge 22, 3) := by decide +kernel
theorem dX12_sheet_71 : decode cX12_sheet 71 = .ok (.aload_n 0, 1) := by decide +kernel
theorem dX12_sheet_72 : decode cX12_sheet 72 = .ok (.getfield 74, 3) := by decide +kernel
theorem dX12_sheet_75 : decode cX12_sheet 75 = .ok (.bipush 40, 2) := by decide +kernel
theorem dX12_sheet_77 : decode cX12_sheet 77 = .ok (.iload_n 1, 1) := by decide +kernel
theorem dX12_sheet_78 : decode cX12_sheet 78 = .ok (.imul, 1) := by decide +kernel
theorem dX12_sheet_79 : decode cX12_sheet 79 = .ok (.iload 4, 2) := by decide +kernel
theorem dX12_sheet_81 : decode cX12_sheet 81 = .ok (.iadd, 1) := by decide +kernel
theorem dX12_sheet_82 : decode cX12_sheet 82 = .ok (.lconst 0, 1) := by decide +kernel
theorem dX12_sheet_83 : decode cX12_sheet 83 = .ok (.lastore, 1) := by decide +kernel
theorem dX12_sheet_84 : decode cX12_sheet 84 = .ok (.iinc 4 1, 3) := by decide +kernel
theorem dX12_sheet_87 : decode cX12_sheet 87 = .ok (.goto (-23), 3) := by decide +kernel
theorem dX12_sheet_90 : decode cX12_sheet 90 = .ok (.iconst 1, 1) := by decide +kernel
theorem dX12_sheet_91 : decode cX12_sheet 91 = .ok (.ireturn, 1) := by decide +kernel
theorem dX12_put_0 : decode cX12_put 0 = .ok (.iload_n 1, 1) := by decide +kernel
theorem dX12_put_1 : decode cX12_put 1 = .ok (.invokestatic 346, 3) := by decide +kernel
theorem dX12_put_4 : decode cX12_put 4 = .ok (.ifCond .ne 5, 3) := by decide +kernel
theorem dX12_put_7 : decode cX12_put 7 = .ok (.iconst (-1), 1) := by decide +kernel
theorem dX12_put_8 : decode cX12_put 8 = .ok (.ireturn, 1) := by decide +kernel
theorem dX12_put_9 : decode cX12_put 9 = .ok (.aload_n 0, 1) := by decide +kernel
theorem dX12_put_10 : decode cX12_put 10 = .ok (.getfield 68, 3) := by decide +kernel
theorem dX12_put_13 : decode cX12_put 13 = .ok (.iload_n 1, 1) := by decide +kernel
theorem dX12_put_14 : decode cX12_put 14 = .ok (.iaload, 1) := by decide +kernel
theorem dX12_put_15 : decode cX12_put 15 = .ok (.ifCond .ge 6, 3) := by decide +kernel
theorem dX12_put_18 : decode cX12_put 18 = .ok (.bipush (-11), 2) := by decide +kernel
theorem dX12_put_20 : decode cX12_put 20 = .ok (.ireturn, 1) := by decide +kernel
theorem dX12_put_21 : decode cX12_put 21 = .ok (.iload_n 2, 1) := by decide +kernel
theorem dX12_put_22 : decode cX12_put 22 = .ok (.iconst 0, 1) := by decide +kernel
theorem dX12_put_23 : decode cX12_put 23 = .ok (.aload_n 0, 1) := by decide +kernel
theorem dX12_put_24 : decode cX12_put 24 = .ok (.getfield 71, 3) := by decide +kernel
theorem dX12_put_27 : decode cX12_put 27 = .ok (.iload_n 1, 1) := by decide +kernel
theorem dX12_put_28 : decode cX12_put 28 = .ok (.iaload, 1) := by decide +kernel
theorem dX12_put_29 : decode cX12_put 29 = .ok (.iconst 1, 1) := by decide +kernel
theorem dX12_put_30 : decode cX12_put 30 = .ok (.isub, 1) := by decide +kernel
theorem dX12_put_31 : decode cX12_put 31 = .ok (.invokestatic 99, 3) := by decide +kernel
theorem dX12_put_34 : decode cX12_put 34 = .ok (.ifCond .ne 6, 3) := by decide +kernel
theorem dX12_put_37 : decode cX12_put 37 = .ok (.bipush (-12), 2) := by decide +kernel
theorem dX12_put_39 : decode cX12_put 39 = .ok (.ireturn, 1) := by decide +kernel
theorem dX12_put_40 : decode cX12_put 40 = .ok (.aload_n 0, 1) := by decide +kernel
theorem dX12_put_41 : decode cX12_put 41 = .ok (.getfield 74, 3) := by decide +kernel
theorem dX12_put_44 : decode cX12_put 44 = .ok (.bipush 40, 2) := by decide +kernel
theorem dX12_put_46 : decode cX12_put 46 = .ok (.iload_n 1, 1) := by decide +kernel
theorem dX12_put_47 : decode cX12_put 47 = .ok (.imul, 1) := by decide +kernel
theorem dX12_put_48 : decode cX12_put 48 = .ok (.iload_n 2, 1) := by decide +kernel
theorem dX12_put_49 : decode cX12_put 49 = .ok (.iadd, 1) := by decide +kernel
theorem dX12_put_50 : decode cX12_put 50 = .ok (.aload_n 0, 1) := by decide +kernel
theorem dX12_put_51 : decode cX12_put 51 = .ok (.getfield 68, 3) := by decide +kernel
theorem dX12_put_54 : decode cX12_put 54 = .ok (.iload_n 1, 1) := by decide +kernel
theorem dX12_put_55 : decode cX12_put 55 = .ok (.iaload, 1) := by decide +kernel
theorem dX12_put_56 : decode cX12_put 56 = .ok (.ifCond .ne 9, 3) := by decide +kernel
theorem dX12_put_59 : decode cX12_put 59 = .ok (.iload_n 3, 1) := by decide +kernel
theorem dX12_put_60 : decode cX12_put 60 = .ok (.i2b, 1) := by decide +kernel
theorem dX12_put_61 : decode cX12_put 61 = .ok (.i2l, 1) := by decide +kernel
theorem dX12_put_62 : decode cX12_put 62 = .ok (.goto 21, 3) := by decide +kernel
theorem dX12_put_65 : decode cX12_put 65 = .ok (.aload_n 0, 1) := by decide +kernel
theorem dX12_put_66 : decode cX12_put 66 = .ok (.getfield 68, 3) := by decide +kernel
theorem dX12_put_69 : decode cX12_put 69 = .ok (.iload_n 1, 1) := by decide +kernel
theorem dX12_put_70 : decode cX12_put 70 = .ok (.iaload, 1) := by decide +kernel
theorem dX12_put_71 : decode cX12_put 71 = .ok (.iconst 1, 1) := by decide +kernel
theorem dX12_put_72 : decode cX12_put 72 = .ok (.if_icmp .ne 9, 3) := by decide +kernel
theorem dX12_put_75 : decode cX12_put 75 = .ok (.iload_n 3, 1) := by decide +kernel
theorem dX12_put_76 : decode cX12_put 76 = .ok (.i2s, 1) := by decide +kernel
theorem dX12_put_77 : decode cX12_put 77 = .ok (.i2l, 1) := by decide +kernel
theorem dX12_put_78 : decode cX12_put 78 = .ok (.goto 5, 3) := by decide +kernel
theorem dX12_put_81 : decode cX12_put 81 = .ok (.iload_n 3, 1) := by decide +kernel
theorem dX12_put_82 : decode cX12_put 82 = .ok (.i2l, 1) := by decide +kernel
theorem dX12_put_83 : decode cX12_put 83 = .ok (.lastore, 1) := by decide +kernel
theorem dX12_put_84 : decode cX12_put 84 = .ok (.iconst 1, 1) := by decide +kernel
theorem dX12_put_85 : decode cX12_put 85 = .ok (.ireturn, 1) := by decide +kernel
theorem dX12_lacksSort_0 : decode cX12_lacksSort 0 = .ok (.aload_n 0, 1) := by decide +kernel
theorem dX12_lacksSort_1 : decode cX12_lacksSort 1 = .ok (.getfield 68, 3) := by decide +kernel
theorem dX12_lacksSort_4 : decode cX12_lacksSort 4 = .ok (.iload_n 1, 1) := by decide +kernel
theorem dX12_lacksSort_5 : decode cX12_lacksSort 5 = .ok (.iaload, 1) := by decide +kernel
theorem dX12_lacksSort_6 : decode cX12_lacksSort 6 = .ok (.ifCond .ge 8, 3) := by decide +kernel
theorem dX12_lacksSort_9 : decode cX12_lacksSort 9 = .ok (.bipush (-11), 2) := by decide +kernel
theorem dX12_lacksSort_11 : decode cX12_lacksSort 11 = .ok (.goto 19, 3) := by decide +kernel
theorem dX12_lacksSort_14 : decode cX12_lacksSort 14 = .ok (.aload_n 0, 1) := by decide +kernel
theorem dX12_lacksSort_15 : decode cX12_lacksSort 15 = .ok (.getfield 68, 3) := by decide +kernel
theorem dX12_lacksSort_18 : decode cX12_lacksSort 18 = .ok (.iload_n 1, 1) := by decide +kernel
theorem dX12_lacksSort_19 : decode cX12_lacksSort 19 = .ok (.iaload, 1) := by decide +kernel
theorem dX12_lacksSort_20 : decode cX12_lacksSort 20 = .ok (.iload_n 2, 1) := by decide +kernel
theorem dX12_lacksSort_21 : decode cX12_lacksSort 21 = .ok (.if_icmp .eq 8, 3) := by decide +kernel
theorem dX12_lacksSort_24 : decode cX12_lacksSort 24 = .ok (.bipush (-13), 2) := by decide +kernel
theorem dX12_lacksSort_26 : decode cX12_lacksSort 26 = .ok (.goto 4, 3) := by decide +kernel
theorem dX12_lacksSort_29 : decode cX12_lacksSort 29 = .ok (.iconst 0, 1) := by decide +kernel
theorem dX12_lacksSort_30 : decode cX12_lacksSort 30 = .ok (.ireturn, 1) := by decide +kernel
theorem dX12_item_0 : decode cX12_item 0 = .ok (.iload_n 1, 1) := by decide +kernel
theorem dX12_item_1 : decode cX12_item 1 = .ok (.invokestatic 346, 3) := by decide +kernel
theorem dX12_item_4 : decode cX12_item 4 = .ok (.ifCond .eq 12, 3) := by decide +kernel
theorem dX12_item_7 : decode cX12_item 7 = .ok (.iload_n 2, 1) := by decide +kernel
theorem dX12_item_8 : decode cX12_item 8 = .ok (.iconst 0, 1) := by decide +kernel
theorem dX12_item_9 : decode cX12_item 9 = .ok (.iconst 3, 1) := by decide +kernel
theorem dX12_item_10 : decode cX12_item 10 = .ok (.invokestatic 99, 3) := by decide +kernel
theorem dX12_item_13 : decode cX12_item 13 = .ok (.ifCond .ne 5, 3) := by decide +kernel
theorem dX12_item_16 : decode cX12_item 16 = .ok (.iconst (-1), 1) := by decide +kernel
theorem dX12_item_17 : decode cX12_item 17 = .ok (.ireturn, 1) := by decide +kernel
theorem dX12_item_18 : decode cX12_item 18 = .ok (.aload_n 0, 1) := by decide +kernel
theorem dX12_item_19 : decode cX12_item 19 = .ok (.iload_n 1, 1) := by decide +kernel
theorem dX12_item_20 : decode cX12_item 20 = .ok (.iload_n 2, 1) := by decide +kernel
theorem dX12_item_21 : decode cX12_item 21 = .ok (.invokevirtual 349, 3) := by decide +kernel
theorem dX12_item_24 : decode cX12_item 24 = .ok (.istore 4, 2) := by decide +kernel
theorem dX12_item_26 : decode cX12_item 26 = .ok (.iload 4, 2) := by decide +kernel
theorem dX12_item_28 : decode cX12_item 28 = .ok (.ifCond .eq 6, 3) := by decide +kernel
theorem dX12_item_31 : decode cX12_item 31 = .ok (.iload 4, 2) := by decide +kernel
theorem dX12_item_33 : decode cX12_item 33 = .ok (.ireturn, 1) := by decide +kernel
theorem dX12_item_34 : decode cX12_item 34 = .ok (.iload_n 3, 1) := by decide +kernel
theorem dX12_item_35 : decode cX12_item 35 = .ok (.iconst 0, 1) := by decide +kernel
theorem dX12_item_36 : decode cX12_item 36 = .ok (.aload_n 0, 1) := by decide +kernel
theorem dX12_item_37 : decode cX12_item 37 = .ok (.getfield 71, 3) := by decide +kernel
theorem dX12_item_40 : decode cX12_item 40 = .ok (.iload_n 1, 1) := by decide +kernel
theorem dX12_item_41 : decode cX12_item 41 = .ok (.iaload, 1) := by decide +kernel
theorem dX12_item_42 : decode cX12_item 42 = .ok (.iconst 1, 1) := by decide +kernel
theorem dX12_item_43 : decode cX12_item 43 = .ok (.isub, 1) := by decide +kernel
theorem dX12_item_44 : decode cX12_item 44 = .ok (.invokestatic 99, 3) := by decide +kernel
theorem dX12_item_47 : decode cX12_item 47 = .ok (.ifCond .eq 18, 3) := by decide +kernel
theorem dX12_item_50 : decode cX12_item 50 = .ok (.aload_n 0, 1) := by decide +kernel
theorem dX12_item_51 : decode cX12_item 51 = .ok (.getfield 74, 3) := by decide +kernel
theorem dX12_item_54 : decode cX12_item 54 = .ok (.bipush 40, 2) := by decide +kernel
theorem dX12_item_56 : decode cX12_item 56 = .ok (.iload_n 1, 1) := by decide +kernel
theorem dX12_item_57 : decode cX12_item 57 = .ok (.imul, 1) := by decide +kernel
theorem dX12_item_58 : decode cX12_item 58 = .ok (.iload_n 3, 1) := by decide +kernel
theorem dX12_item_59 : decode cX12_item 59 = .ok (.iadd, 1) := by decide +kernel
theorem dX12_item_60 : decode cX12_item 60 = .ok (.laload, 1) := by decide +kernel
theorem dX12_item_61 : decode cX12_item 61 = .ok (.l2i, 1) := by decide +kernel
theorem dX12_item_62 : decode cX12_item 62 = .ok (.goto 5, 3) := by decide +kernel
theorem dX12_item_65 : decode cX12_item 65 = .ok (.bipush (-12), 2) := by decide +kernel
theorem dX12_item_67 : decode cX12_item 67 = .ok (.ireturn, 1) := by decide +kernel
theorem dX12_isHeld_0 : decode cX12_isHeld 0 = .ok (.iload_n 1, 1) := by decide +kernel
theorem dX12_isHeld_1 : decode cX12_isHeld 1 = .ok (.ifCond .ne 11, 3) := by decide +kernel
theorem dX12_isHeld_4 : decode cX12_isHeld 4 = .ok (.aload_n 0, 1) := by decide +kernel
theorem dX12_isHeld_5 : decode cX12_isHeld 5 = .ok (.iload_n 2, 1) := by decide +kernel
theorem dX12_isHeld_6 : decode cX12_isHeld 6 = .ok (.invokevirtual 239, 3) := by decide +kernel
theorem dX12_isHeld_9 : decode cX12_isHeld 9 = .ok (.goto 25, 3) := by decide +kernel
theorem dX12_isHeld_12 : decode cX12_isHeld 12 = .ok (.iload_n 1, 1) := by decide +kernel
theorem dX12_isHeld_13 : decode cX12_isHeld 13 = .ok (.iconst 1, 1) := by decide +kernel
theorem dX12_isHeld_14 : decode cX12_isHeld 14 = .ok (.if_icmp .ne 10, 3) := by decide +kernel
theorem dX12_isHeld_17 : decode cX12_isHeld 17 = .ok (.iload_n 2, 1) := by decide +kernel
theorem dX12_isHeld_18 : decode cX12_isHeld 18 = .ok (.invokestatic 346, 3) := by decide +kernel
theorem dX12_isHeld_21 : decode cX12_isHeld 21 = .ok (.goto 13, 3) := by decide +kernel
theorem dX12_isHeld_24 : decode cX12_isHeld 24 = .ok (.iload_n 1, 1) := by decide +kernel
theorem dX12_isHeld_25 : decode cX12_isHeld 25 = .ok (.iconst 2, 1) := by decide +kernel
theorem dX12_isHeld_26 : decode cX12_isHeld 26 = .ok (.if_icmp .ne 7, 3) := by decide +kernel
theorem dX12_isHeld_29 : decode cX12_isHeld 29 = .ok (.iconst 1, 1) := by decide +kernel
theorem dX12_isHeld_30 : decode cX12_isHeld 30 = .ok (.goto 4, 3) := by decide +kernel
theorem dX12_isHeld_33 : decode cX12_isHeld 33 = .ok (.iconst 0, 1) := by decide +kernel
theorem dX12_isHeld_34 : decode cX12_isHeld 34 = .ok (.ireturn, 1) := by decide +kernel
theorem dX12_shelf_0 : decode cX12_shelf 0 = .ok (.iload_n 1, 1) := by decide +kernel
theorem dX12_shelf_1 : decode cX12_shelf 1 = .ok (.invokestatic 346, 3) := by decide +kernel
theorem dX12_shelf_4 : decode cX12_shelf 4 = .ok (.ifCond .eq 12, 3) := by decide +kernel
theorem dX12_shelf_7 : decode cX12_shelf 7 = .ok (.aload_n 0, 1) := by decide +kernel
theorem dX12_shelf_8 : decode cX12_shelf 8 = .ok (.iload_n 2, 1) := by decide +kernel
theorem dX12_shelf_9 : decode cX12_shelf 9 = .ok (.iload_n 3, 1) := by decide +kernel
theorem dX12_shelf_10 : decode cX12_shelf 10 = .ok (.invokevirtual 352, 3) := by decide +kernel
theorem dX12_shelf_13 : decode cX12_shelf 13 = .ok (.ifCond .ne 5, 3) := by decide +kernel
theorem dX12_shelf_16 : decode cX12_shelf 16 = .ok (.iconst (-1), 1) := by decide +kernel
theorem dX12_shelf_17 : decode cX12_shelf 17 = .ok (.ireturn, 1) := by decide +kernel
theorem dX12_shelf_18 : decode cX12_shelf 18 = .ok (.aload_n 0, 1) := by decide +kernel
theorem dX12_shelf_19 : decode cX12_shelf 19 = .ok (.getfield 78, 3) := by decide +kernel
theorem dX12_shelf_22 : decode cX12_shelf 22 = .ok (.iload_n 1, 1) := by decide +kernel
theorem dX12_shelf_23 : decode cX12_shelf 23 = .ok (.iload_n 2, 1) := by decide +kernel
theorem dX12_shelf_24 : decode cX12_shelf 24 = .ok (.iconst 2, 1) := by decide +kernel
theorem dX12_shelf_25 : decode cX12_shelf 25 = .ok (.if_icmp .eq 17, 3) := by decide +kernel
theorem dX12_shelf_28 : decode cX12_shelf 28 = .ok (.iload_n 2, 1) := by decide +kernel
theorem dX12_shelf_29 : decode cX12_shelf 29 = .ok (.iconst 1, 1) := by decide +kernel
theorem dX12_shelf_30 : decode cX12_shelf 30 = .ok (.if_icmp .ne 16, 3) := by decide +kernel
theorem dX12_shelf_33 : decode cX12_shelf 33 = .ok (.aload_n 0, 1) := by decide +kernel
theorem dX12_shelf_34 : decode cX12_shelf 34 = .ok (.getfield 68, 3) := by decide +kernel
theorem dX12_shelf_37 : decode cX12_shelf 37 = .ok (.iload_n 3, 1) := by decide +kernel
theorem dX12_shelf_38 : decode cX12_shelf 38 = .ok (.iaload, 1) := by decide +kernel
theorem dX12_shelf_39 : decode cX12_shelf 39 = .ok (.ifCond .ge 7, 3) := by decide +kernel
theorem dX12_shelf_42 : decode cX12_shelf 42 = .ok (.iconst (-1), 1) := by decide +kernel
theorem dX12_shelf_43 : decode cX12_shelf 43 = .ok (.goto 4, 3) := by decide +kernel
theorem dX12_shelf_46 : decode cX12_shelf 46 = .ok (.iload_n 2, 1) := by decide +kernel
theorem dX12_shelf_47 : decode cX12_shelf 47 = .ok (.iastore, 1) := by decide +kernel
theorem dX12_shelf_48 : decode cX12_shelf 48 = .ok (.aload_n 0, 1) := by decide +kernel
theorem dX12_shelf_49 : decode cX12_shelf 49 = .ok (.getfield 81, 3) := by decide +kernel
theorem dX12_shelf_52 : decode cX12_shelf 52 = .ok (.iload_n 1, 1) := by decide +kernel
theorem dX12_shelf_53 : decode cX12_shelf 53 = .ok (.iload_n 2, 1) := by decide +kernel
theorem dX12_shelf_54 : decode cX12_shelf 54 = .ok (.iconst 1, 1) := by decide +kernel
theorem dX12_shelf_55 : decode cX12_shelf 55 = .ok (.if_icmp .ne 12, 3) := by decide +kernel
theorem dX12_shelf_58 : decode cX12_shelf 58 = .ok (.aload_n 0, 1) := by decide +kernel
theorem dX12_shelf_59 : decode cX12_shelf 59 = .ok (.getfield 68, 3) := by decide +kernel
theorem dX12_shelf_62 : decode cX12_shelf 62 = .ok (.iload_n 3, 1) := by decide +kernel
theorem dX12_shelf_63 : decode cX12_shelf 63 = .ok (.iaload, 1) := by decide +kernel
theorem dX12_shelf_64 : decode cX12_shelf 64 = .ok (.goto 4, 3) := by decide +kernel
theorem dX12_shelf_67 : decode cX12_shelf 67 = .ok (.iload_n 3, 1) := by decide +kernel
theorem dX12_shelf_68 : decode cX12_shelf 68 = .ok (.iastore, 1) := by decide +kernel
theorem dX12_shelf_69 : decode cX12_shelf 69 = .ok (.aload_n 0, 1) := by decide +kernel
theorem dX12_shelf_70 : decode cX12_shelf 70 = .ok (.getfield 84, 3) := by decide +kernel
theorem dX12_shelf_73 : decode cX12_shelf 73 = .ok (.iload_n 1, 1) := by decide +kernel
theorem dX12_shelf_74 : decode cX12_shelf 74 = .ok (.iload_n 2, 1) := by decide +kernel
theorem dX12_shelf_75 : decode cX12_shelf 75 = .ok (.iconst 1, 1) := by decide +kernel
theorem dX12_shelf_76 : decode cX12_shelf 76 = .ok (.if_icmp .ne 12, 3) := by decide +kernel
theorem dX12_shelf_79 : decode cX12_shelf 79 = .ok (.aload_n 0, 1) := by decide +kernel
theorem dX12_shelf_80 : decode cX12_shelf 80 = .ok (.getfield 71, 3) := by decide +kernel
theorem dX12_shelf_83 : decode cX12_shelf 83 = .ok (.iload_n 3, 1) := by decide +kernel
theorem dX12_shelf_84 : decode cX12_shelf 84 = .ok (.iaload, 1) := by decide +kernel
theorem dX12_shelf_85 : decode cX12_shelf 85 = .ok (.goto 4, 3) := by decide +kernel
theorem dX12_shelf_88 : decode cX12_shelf 88 = .ok (.iconst 0, 1) := by decide +kernel
theorem dX12_shelf_89 : decode cX12_shelf 89 = .ok (.iastore, 1) := by decide +kernel
theorem dX12_shelf_90 : decode cX12_shelf 90 = .ok (.iconst 1, 1) := by decide +kernel
theorem dX12_shelf_91 : decode cX12_shelf 91 = .ok (.ireturn, 1) := by decide +kernel
theorem dX12_kindOn_0 : decode cX12_kindOn 0 = .ok (.aload_n 0, 1) := by decide +kernel
theorem dX12_kindOn_1 : decode cX12_kindOn 1 = .ok (.getfield 78, 3) := by decide +kernel
theorem dX12_kindOn_4 : decode cX12_kindOn 4 = .ok (.iload_n 1, 1) := by decide +kernel
theorem dX12_kindOn_5 : decode cX12_kindOn 5 = .ok (.iaload, 1) := by decide +kernel
theorem dX12_kindOn_6 : decode cX12_kindOn 6 = .ok (.ifCond .eq 19, 3) := by decide +kernel
theorem dX12_kindOn_9 : decode cX12_kindOn 9 = .ok (.aload_n 0, 1) := by decide +kernel
theorem dX12_kindOn_10 : decode cX12_kindOn 10 = .ok (.getfield 78, 3) := by decide +kernel
theorem dX12_kindOn_13 : decode cX12_kindOn 13 = .ok (.iload_n 1, 1) := by decide +kernel
theorem dX12_kindOn_14 : decode cX12_kindOn 14 = .ok (.iaload, 1) := by decide +kernel
theorem dX12_kindOn_15 : decode cX12_kindOn 15 = .ok (.ifCond .ge 7, 3) := by decide +kernel
theorem dX12_kindOn_18 : decode cX12_kindOn 18 = .ok (.iconst (-1), 1) := by decide +kernel
theorem dX12_kindOn_19 : decode cX12_kindOn 19 = .ok (.goto 5, 3) := by decide +kernel
theorem dX12_kindOn_22 : decode cX12_kindOn 22 = .ok (.bipush 9, 2) := by decide +kernel
theorem dX12_kindOn_24 : decode cX12_kindOn 24 = .ok (.ireturn, 1) := by decide +kernel
theorem dX12_kindOn_25 : decode cX12_kindOn 25 = .ok (.aload_n 0, 1) := by decide +kernel
theorem dX12_kindOn_26 : decode cX12_kindOn 26 = .ok (.aload_n 0, 1) := by decide +kernel
theorem dX12_kindOn_27 : decode cX12_kindOn 27 = .ok (.getfield 81, 3) := by decide +kernel
theorem dX12_kindOn_30 : decode cX12_kindOn 30 = .ok (.iload_n 1, 1) := by decide +kernel
theorem dX12_kindOn_31 : decode cX12_kindOn 31 = .ok (.iaload, 1) := by decide +kernel
theorem dX12_kindOn_32 : decode cX12_kindOn 32 = .ok (.invokevirtual 239, 3) := by decide +kernel
theorem dX12_kindOn_35 : decode cX12_kindOn 35 = .ok (.ifCond .eq 17, 3) := by decide +kernel
theorem dX12_kindOn_38 : decode cX12_kindOn 38 = .ok (.aload_n 0, 1) := by decide +kernel
theorem dX12_kindOn_39 : decode cX12_kindOn 39 = .ok (.aload_n 0, 1) := by decide +kernel
theorem dX12_kindOn_40 : decode cX12_kindOn 40 = .ok (.getfield 81, 3) := by decide +kernel
theorem dX12_kindOn_43 : decode cX12_kindOn 43 = .ok (.iload_n 1, 1) := by decide +kernel
theorem dX12_kindOn_44 : decode cX12_kindOn 44 = .ok (.iaload, 1) := by decide +kernel
theorem dX12_kindOn_45 : decode cX12_kindOn 45 = .ok (.iconst 0, 1) := by decide +kernel
theorem dX12_kindOn_46 : decode cX12_kindOn 46 = .ok (.invokevirtual 242, 3) := by decide +kernel
theorem dX12_kindOn_49 : decode cX12_kindOn 49 = .ok (.goto 4, 3) := by decide +kernel
theorem dX12_kindOn_52 : decode cX12_kindOn 52 = .ok (.iconst (-1), 1) := by decide +kernel
theorem dX12_kindOn_53 : decode cX12_kindOn 53 = .ok (.ireturn, 1) := by decide +kernel
theorem dX12_isUnder_0 : decode cX12_isUnder 0 = .ok (.iload_n 1, 1) := by decide +kernel
theorem dX12_isUnder_1 : decode cX12_isUnder 1 = .ok (.ifCond .eq 28, 3) := by decide +kernel
theorem dX12_isUnder_4 : decode cX12_isUnder 4 = .ok (.iload_n 1, 1) := by decide +kernel
theorem dX12_isUnder_5 : decode cX12_isUnder 5 = .ok (.iload_n 0, 1) := by decide +kernel
theorem dX12_isUnder_6 : decode cX12_isUnder 6 = .ok (.if_icmp .eq 23, 3) := by decide +kernel
theorem dX12_isUnder_9 : decode cX12_isUnder 9 = .ok (.iload_n 1, 1) := by decide +kernel
theorem dX12_isUnder_10 : decode cX12_isUnder 10 = .ok (.iconst 1, 1) := by decide +kernel
theorem dX12_isUnder_11 : decode cX12_isUnder 11 = .ok (.if_icmp .ne 8, 3) := by decide +kernel
theorem dX12_isUnder_14 : decode cX12_isUnder 14 = .ok (.iload_n 0, 1) := by decide +kernel
theorem dX12_isUnder_15 : decode cX12_isUnder 15 = .ok (.iconst 4, 1) := by decide +kernel
theorem dX12_isUnder_16 : decode cX12_isUnder 16 = .ok (.if_icmp .eq 13, 3) := by decide +kernel
theorem dX12_isUnder_19 : decode cX12_isUnder 19 = .ok (.iload_n 1, 1) := by decide +kernel
theorem dX12_isUnder_20 : decode cX12_isUnder 20 = .ok (.iconst 2, 1) := by decide +kernel
theorem dX12_isUnder_21 : decode cX12_isUnder 21 = .ok (.if_icmp .ne 12, 3) := by decide +kernel
theorem dX12_isUnder_24 : decode cX12_isUnder 24 = .ok (.iload_n 0, 1) := by decide +kernel
theorem dX12_isUnder_25 : decode cX12_isUnder 25 = .ok (.iconst 3, 1) := by decide +kernel
theorem dX12_isUnder_26 : decode cX12_isUnder 26 = .ok (.if_icmp .ne 7, 3) := by decide +kernel
theorem dX12_isUnder_29 : decode cX12_isUnder 29 = .ok (.iconst 1, 1) := by decide +kernel
theorem dX12_isUnder_30 : decode cX12_isUnder 30 = .ok (.goto 4, 3) := by decide +kernel
theorem dX12_isUnder_33 : decode cX12_isUnder 33 = .ok (.iconst 0, 1) := by decide +kernel
theorem dX12_isUnder_34 : decode cX12_isUnder 34 = .ok (.ireturn, 1) := by decide +kernel
theorem dX12_taken_0 : decode cX12_taken 0 = .ok (.iload_n 1, 1) := by decide +kernel
theorem dX12_taken_1 : decode cX12_taken 1 = .ok (.invokestatic 346, 3) := by decide +kernel
theorem dX12_taken_4 : decode cX12_taken 4 = .ok (.ifCond .eq 23, 3) := by decide +kernel
theorem dX12_taken_7 : decode cX12_taken 7 = .ok (.iload_n 2, 1) := by decide +kernel
theorem dX12_taken_8 : decode cX12_taken 8 = .ok (.iconst 0, 1) := by decide +kernel
theorem dX12_taken_9 : decode cX12_taken 9 = .ok (.iconst 5, 1) := by decide +kernel
theorem dX12_taken_10 : decode cX12_taken 10 = .ok (.invokestatic 99, 3) := by decide +kernel
theorem dX12_taken_13 : decode cX12_taken 13 = .ok (.ifCond .ne 16, 3) := by decide +kernel
theorem dX12_taken_16 : decode cX12_taken 16 = .ok (.iload_n 2, 1) := by decide +kernel
theorem dX12_taken_17 : decode cX12_taken 17 = .ok (.bipush 10, 2) := by decide +kernel
theorem dX12_taken_19 : decode cX12_taken 19 = .ok (.bipush 13, 2) := by decide +kernel
theorem dX12_taken_21 : decode cX12_taken 21 = .ok (.invokestatic 99, 3) := by decide +kernel
theorem dX12_taken_24 : decode cX12_taken 24 = .ok (.ifCond .ne 5, 3) := by decide +kernel
theorem dX12_taken_27 : decode cX12_taken 27 = .ok (.iconst (-1), 1) := by decide +kernel
theorem dX12_taken_28 : decode cX12_taken 28 = .ok (.ireturn, 1) := by decide +kernel
theorem dX12_taken_29 : decode cX12_taken 29 = .ok (.aload_n 0, 1) := by decide +kernel
theorem dX12_taken_30 : decode cX12_taken 30 = .ok (.iload_n 1, 1) := by decide +kernel
theorem dX12_taken_31 : decode cX12_taken 31 = .ok (.invokevirtual 355, 3) := by decide +kernel
theorem dX12_taken_34 : decode cX12_taken 34 = .ok (.istore_n 3, 1) := by decide +kernel
theorem dX12_taken_35 : decode cX12_taken 35 = .ok (.iload_n 3, 1) := by decide +kernel
theorem dX12_taken_36 : decode cX12_taken 36 = .ok (.ifCond .ge 6, 3) := by decide +kernel
theorem dX12_taken_39 : decode cX12_taken 39 = .ok (.bipush (-11), 2) := by decide +kernel
theorem dX12_taken_41 : decode cX12_taken 41 = .ok (.ireturn, 1) := by decide +kernel
theorem dX12_taken_42 : decode cX12_taken 42 = .ok (.iload_n 3, 1) := by decide +kernel
theorem dX12_taken_43 : decode cX12_taken 43 = .ok (.bipush 9, 2) := by decide +kernel
theorem dX12_taken_45 : decode cX12_taken 45 = .ok (.if_icmp .ne 28, 3) := by decide +kernel
theorem dX12_taken_48 : decode cX12_taken 48 = .ok (.iload_n 2, 1) := by decide +kernel
theorem dX12_taken_49 : decode cX12_taken 49 = .ok (.bipush 10, 2) := by decide +kernel
theorem dX12_taken_51 : decode cX12_taken 51 = .ok (.aload_n 0, 1) := by decide +kernel
theorem dX12_taken_52 : decode cX12_taken 52 = .ok (.getfield 81, 3) := by decide +kernel
theorem dX12_taken_55 : decode cX12_taken 55 = .ok (.iload_n 1, 1) := by decide +kernel
theorem dX12_taken_56 : decode cX12_taken 56 = .ok (.iaload, 1) := by decide +kernel
theorem dX12_taken_57 : decode cX12_taken 57 = .ok (.iadd, 1) := by decide +kernel
theorem dX12_taken_58 : decode cX12_taken 58 = .ok (.if_icmp .ne 12, 3) := by decide +kernel
theorem dX12_taken_61 : decode cX12_taken 61 = .ok (.aload_n 0, 1) := by decide +kernel
theorem dX12_taken_62 : decode cX12_taken 62 = .ok (.getfield 84, 3) := by decide +kernel
theorem dX12_taken_65 : decode cX12_taken 65 = .ok (.iload_n 1, 1) := by decide +kernel
theorem dX12_taken_66 : decode cX12_taken 66 = .ok (.iaload, 1) := by decide +kernel
theorem dX12_taken_67 : decode cX12_taken 67 = .ok (.goto 5, 3) := by decide +kernel
theorem dX12_taken_70 : decode cX12_taken 70 = .ok (.bipush (-13), 2) := by decide +kernel
theorem dX12_taken_72 : decode cX12_taken 72 = .ok (.ireturn, 1) := by decide +kernel
theorem dX12_taken_73 : decode cX12_taken 73 = .ok (.iload_n 2, 1) := by decide +kernel
theorem dX12_taken_74 : decode cX12_taken 74 = .ok (.bipush 10, 2) := by decide +kernel
theorem dX12_taken_76 : decode cX12_taken 76 = .ok (.if_icmp .ge 20, 3) := by decide +kernel
theorem dX12_taken_79 : decode cX12_taken 79 = .ok (.iload_n 3, 1) := by decide +kernel
theorem dX12_taken_80 : decode cX12_taken 80 = .ok (.iload_n 2, 1) := by decide +kernel
theorem dX12_taken_81 : decode cX12_taken 81 = .ok (.invokestatic 358, 3) := by decide +kernel
theorem dX12_taken_84 : decode cX12_taken 84 = .ok (.ifCond .eq 12, 3) := by decide +kernel
theorem dX12_taken_87 : decode cX12_taken 87 = .ok (.aload_n 0, 1) := by decide +kernel
theorem dX12_taken_88 : decode cX12_taken 88 = .ok (.getfield 81, 3) := by decide +kernel
theorem dX12_taken_91 : decode cX12_taken 91 = .ok (.iload_n 1, 1) := by decide +kernel
theorem dX12_taken_92 : decode cX12_taken 92 = .ok (.iaload, 1) := by decide +kernel
theorem dX12_taken_93 : decode cX12_taken 93 = .ok (.goto 5, 3) := by decide +kernel
theorem dX12_taken_96 : decode cX12_taken 96 = .ok (.bipush (-13), 2) := by decide +kernel
theorem dX12_taken_98 : decode cX12_taken 98 = .ok (.ireturn, 1) := by decide +kernel
theorem dX12_ran_0 : decode cX12_ran 0 = .ok (.aload_n 0, 1) := by decide +kernel
theorem dX12_ran_1 : decode cX12_ran 1 = .ok (.getfield 361, 3) := by decide +kernel
theorem dX12_ran_4 : decode cX12_ran 4 = .ok (.bipush 30, 2) := by decide +kernel
theorem dX12_ran_6 : decode cX12_ran 6 = .ok (.if_icmp .ge 23, 3) := by decide +kernel
theorem dX12_ran_9 : decode cX12_ran 9 = .ok (.aload_n 0, 1) := by decide +kernel
theorem dX12_ran_10 : decode cX12_ran 10 = .ok (.getfield 87, 3) := by decide +kernel
theorem dX12_ran_13 : decode cX12_ran 13 = .ok (.aload_n 0, 1) := by decide +kernel
theorem dX12_ran_14 : decode cX12_ran 14 = .ok (.getfield 361, 3) := by decide +kernel
theorem dX12_ran_17 : decode cX12_ran 17 = .ok (.iload_n 1, 1) := by decide +kernel
theorem dX12_ran_18 : decode cX12_ran 18 = .ok (.iastore, 1) := by decide +kernel
theorem dX12_ran_19 : decode cX12_ran 19 = .ok (.aload_n 0, 1) := by decide +kernel
theorem dX12_ran_20 : decode cX12_ran 20 = .ok (.dup, 1) := by decide +kernel
theorem dX12_ran_21 : decode cX12_ran 21 = .ok (.getfield 361, 3) := by decide +kernel
theorem dX12_ran_24 : decode cX12_ran 24 = .ok (.iconst 1, 1) := by decide +kernel
theorem dX12_ran_25 : decode cX12_ran 25 = .ok (.iadd, 1) := by decide +kernel
theorem dX12_ran_26 : decode cX12_ran 26 = .ok (.putfield 361, 3) := by decide +kernel
theorem dX12_ran_29 : decode cX12_ran 29 = .ok (.return_, 1) := by decide +kernel
theorem dX12_plainPrints_0 : decode cX12_plainPrints 0 = .ok (.aload_n 0, 1) := by decide +kernel
theorem dX12_plainPrints_1 : decode cX12_plainPrints 1 = .ok (.bipush 10, 2) := by decide +kernel
theorem dX12_plainPrints_3 : decode cX12_plainPrints 3 = .ok (.invokevirtual 364, 3) := by decide +kernel
theorem dX12_plainPrints_6 : decode cX12_plainPrints 6 = .ok (.iload_n 1, 1) := by decide +kernel
theorem dX12_plainPrints_7 : decode cX12_plainPrints 7 = .ok (.aload_n 0, 1) := by decide +kernel
theorem dX12_plainPrints_8 : decode cX12_plainPrints 8 = .ok (.getfield 367, 3) := by decide +kernel
theorem dX12_plainPrints_11 : decode cX12_plainPrints 11 = .ok (.iadd, 1) := by decide +kernel
theorem dX12_plainPrints_12 : decode cX12_plainPrints 12 = .ok (.ireturn, 1) := by decide +kernel
theorem dX12_posterPrints_0 : decode cX12_posterPrints 0 = .ok (.aload_n 0, 1) := by decide +kernel
theorem dX12_posterPrints_1 : decode cX12_posterPrints 1 = .ok (.bipush 30, 2) := by decide +kernel
theorem dX12_posterPrints_3 : decode cX12_posterPrints 3 = .ok (.invokevirtual 364, 3) := by decide +kernel
theorem dX12_posterPrints_6 : decode cX12_posterPrints 6 = .ok (.aload_n 0, 1) := by decide +kernel
theorem dX12_posterPrints_7 : decode cX12_posterPrints 7 = .ok (.iload_n 1, 1) := by decide +kernel
theorem dX12_posterPrints_8 : decode cX12_posterPrints 8 = .ok (.invokevirtual 370, 3) := by decide +kernel
theorem dX12_posterPrints_11 : decode cX12_posterPrints 11 = .ok (.iconst 3, 1) := by decide +kernel
theorem dX12_posterPrints_12 : decode cX12_posterPrints 12 = .ok (.imul, 1) := by decide +kernel
theorem dX12_posterPrints_13 : decode cX12_posterPrints 13 = .ok (.ireturn, 1) := by decide +kernel
theorem dX12_printsIt_0 : decode cX12_printsIt 0 = .ok (.aload_n 0, 1) := by decide +kernel
theorem dX12_printsIt_1 : decode cX12_printsIt 1 = .ok (.getfield 373, 3) := by decide +kernel
theorem dX12_printsIt_4 : decode cX12_printsIt 4 = .ok (.tableswitch 65 2 4 #[28, 34, 51], 28) := by decide +kernel
theorem dX12_printsIt_32 : decode cX12_printsIt 32 = .ok (.aload_n 0, 1) := by decide +kernel
theorem dX12_printsIt_33 : decode cX12_printsIt 33 = .ok (.iload_n 1, 1) := by decide +kernel
theorem dX12_printsIt_34 : decode cX12_printsIt 34 = .ok (.invokevirtual 376, 3) := by decide +kernel
theorem dX12_printsIt_37 : decode cX12_printsIt 37 = .ok (.ireturn, 1) := by decide +kernel
theorem dX12_printsIt_38 : decode cX12_printsIt 38 = .ok (.aload_n 0, 1) := by decide +kernel
theorem dX12_printsIt_39 : decode cX12_printsIt 39 = .ok (.bipush 41, 2) := by decide +kernel
theorem dX12_printsIt_41 : decode cX12_printsIt 41 = .ok (.invokevirtual 364, 3) := by decide +kernel
theorem dX12_printsIt_44 : decode cX12_printsIt 44 = .ok (.aload_n 0, 1) := by decide +kernel
theorem dX12_printsIt_45 : decode cX12_printsIt 45 = .ok (.iload_n 1, 1) := by decide +kernel
theorem dX12_printsIt_46 : decode cX12_printsIt 46 = .ok (.invokevirtual 376, 3) := by decide +kernel
theorem dX12_printsIt_49 : decode cX12_printsIt 49 = .ok (.aload_n 0, 1) := by decide +kernel
theorem dX12_printsIt_50 : decode cX12_printsIt 50 = .ok (.getfield 367, 3) := by decide +kernel
theorem dX12_printsIt_53 : decode cX12_printsIt 53 = .ok (.isub, 1) := by decide +kernel
theorem dX12_printsIt_54 : decode cX12_printsIt 54 = .ok (.ireturn, 1) := by decide +kernel
theorem dX12_printsIt_55 : decode cX12_printsIt 55 = .ok (.aload_n 0, 1) := by decide +kernel
theorem dX12_printsIt_56 : decode cX12_printsIt 56 = .ok (.bipush 50, 2) := by decide +kernel
theorem dX12_printsIt_58 : decode cX12_printsIt 58 = .ok (.invokevirtual 364, 3) := by decide +kernel
theorem dX12_printsIt_61 : decode cX12_printsIt 61 = .ok (.iconst 0, 1) := by decide +kernel
theorem dX12_printsIt_62 : decode cX12_printsIt 62 = .ok (.aload_n 0, 1) := by decide +kernel
theorem dX12_printsIt_63 : decode cX12_printsIt 63 = .ok (.iload_n 1, 1) := by decide +kernel
theorem dX12_printsIt_64 : decode cX12_printsIt 64 = .ok (.invokevirtual 370, 3) := by decide +kernel
theorem dX12_printsIt_67 : decode cX12_printsIt 67 = .ok (.isub, 1) := by decide +kernel
theorem dX12_printsIt_68 : decode cX12_printsIt 68 = .ok (.ireturn, 1) := by decide +kernel
theorem dX12_printsIt_69 : decode cX12_printsIt 69 = .ok (.aload_n 0, 1) := by decide +kernel
theorem dX12_printsIt_70 : decode cX12_printsIt 70 = .ok (.iload_n 1, 1) := by decide +kernel
theorem dX12_printsIt_71 : decode cX12_printsIt 71 = .ok (.invokevirtual 370, 3) := by decide +kernel
theorem dX12_printsIt_74 : decode cX12_printsIt 74 = .ok (.ireturn, 1) := by decide +kernel
theorem dX12_plainSets_0 : decode cX12_plainSets 0 = .ok (.aload_n 0, 1) := by decide +kernel
theorem dX12_plainSets_1 : decode cX12_plainSets 1 = .ok (.bipush 11, 2) := by decide +kernel
theorem dX12_plainSets_3 : decode cX12_plainSets 3 = .ok (.invokevirtual 364, 3) := by decide +kernel
theorem dX12_plainSets_6 : decode cX12_plainSets 6 = .ok (.aload_n 0, 1) := by decide +kernel
theorem dX12_plainSets_7 : decode cX12_plainSets 7 = .ok (.iload_n 1, 1) := by decide +kernel
theorem dX12_plainSets_8 : decode cX12_plainSets 8 = .ok (.invokevirtual 379, 3) := by decide +kernel
theorem dX12_plainSets_11 : decode cX12_plainSets 11 = .ok (.iconst 2, 1) := by decide +kernel
theorem dX12_plainSets_12 : decode cX12_plainSets 12 = .ok (.imul, 1) := by decide +kernel
theorem dX12_plainSets_13 : decode cX12_plainSets 13 = .ok (.ireturn, 1) := by decide +kernel
theorem dX12_weddingSets_0 : decode cX12_weddingSets 0 = .ok (.aload_n 0, 1) := by decide +kernel
theorem dX12_weddingSets_1 : decode cX12_weddingSets 1 = .ok (.bipush 20, 2) := by decide +kernel
theorem dX12_weddingSets_3 : decode cX12_weddingSets 3 = .ok (.invokevirtual 364, 3) := by decide +kernel
theorem dX12_weddingSets_6 : decode cX12_weddingSets 6 = .ok (.aload_n 0, 1) := by decide +kernel
theorem dX12_weddingSets_7 : decode cX12_weddingSets 7 = .ok (.iload_n 1, 1) := by decide +kernel
theorem dX12_weddingSets_8 : decode cX12_weddingSets 8 = .ok (.invokevirtual 382, 3) := by decide +kernel
theorem dX12_weddingSets_11 : decode cX12_weddingSets 11 = .ok (.aload_n 0, 1) := by decide +kernel
theorem dX12_weddingSets_12 : decode cX12_weddingSets 12 = .ok (.getfield 385, 3) := by decide +kernel
theorem dX12_weddingSets_15 : decode cX12_weddingSets 15 = .ok (.isub, 1) := by decide +kernel
theorem dX12_weddingSets_16 : decode cX12_weddingSets 16 = .ok (.ireturn, 1) := by decide +kernel
theorem dX12_setsIt_0 : decode cX12_setsIt 0 = .ok (.aload_n 0, 1) := by decide +kernel
theorem dX12_setsIt_1 : decode cX12_setsIt 1 = .ok (.getfield 373, 3) := by decide +kernel
theorem dX12_setsIt_4 : decode cX12_setsIt 4 = .ok (.iconst 4, 1) := by decide +kernel
theorem dX12_setsIt_5 : decode cX12_setsIt 5 = .ok (.if_icmp .ne 26, 3) := by decide +kernel
theorem dX12_setsIt_8 : decode cX12_setsIt 8 = .ok (.aload_n 0, 1) := by decide +kernel
theorem dX12_setsIt_9 : decode cX12_setsIt 9 = .ok (.bipush 51, 2) := by decide +kernel
theorem dX12_setsIt_11 : decode cX12_setsIt 11 = .ok (.invokevirtual 364, 3) := by decide +kernel
theorem dX12_setsIt_14 : decode cX12_setsIt 14 = .ok (.aload_n 0, 1) := by decide +kernel
theorem dX12_setsIt_15 : decode cX12_setsIt 15 = .ok (.iload_n 1, 1) := by decide +kernel
theorem dX12_setsIt_16 : decode cX12_setsIt 16 = .ok (.invokevirtual 388, 3) := by decide +kernel
theorem dX12_setsIt_19 : decode cX12_setsIt 19 = .ok (.istore_n 2, 1) := by decide +kernel
theorem dX12_setsIt_20 : decode cX12_setsIt 20 = .ok (.iload_n 2, 1) := by decide +kernel
theorem dX12_setsIt_21 : decode cX12_setsIt 21 = .ok (.aload_n 0, 1) := by decide +kernel
theorem dX12_setsIt_22 : decode cX12_setsIt 22 = .ok (.aload_n 0, 1) := by decide +kernel
theorem dX12_setsIt_23 : decode cX12_setsIt 23 = .ok (.getfield 367, 3) := by decide +kernel
theorem dX12_setsIt_26 : decode cX12_setsIt 26 = .ok (.invokevirtual 379, 3) := by decide +kernel
theorem dX12_setsIt_29 : decode cX12_setsIt 29 = .ok (.iadd, 1) := by decide +kernel
theorem dX12_setsIt_30 : decode cX12_setsIt 30 = .ok (.ireturn, 1) := by decide +kernel
theorem dX12_setsIt_31 : decode cX12_setsIt 31 = .ok (.aload_n 0, 1) := by decide +kernel
theorem dX12_setsIt_32 : decode cX12_setsIt 32 = .ok (.getfield 373, 3) := by decide +kernel
theorem dX12_setsIt_35 : decode cX12_setsIt 35 = .ok (.iconst 1, 1) := by decide +kernel
theorem dX12_setsIt_36 : decode cX12_setsIt 36 = .ok (.if_icmp .ne 11, 3) := by decide +kernel
theorem dX12_setsIt_39 : decode cX12_setsIt 39 = .ok (.aload_n 0, 1) := by decide +kernel
theorem dX12_setsIt_40 : decode cX12_setsIt 40 = .ok (.iload_n 1, 1) := by decide +kernel
theorem dX12_setsIt_41 : decode cX12_setsIt 41 = .ok (.invokevirtual 388, 3) := by decide +kernel
theorem dX12_setsIt_44 : decode cX12_setsIt 44 = .ok (.goto 8, 3) := by decide +kernel
theorem dX12_setsIt_47 : decode cX12_setsIt 47 = .ok (.aload_n 0, 1) := by decide +kernel
theorem dX12_setsIt_48 : decode cX12_setsIt 48 = .ok (.iload_n 1, 1) := by decide +kernel
theorem dX12_setsIt_49 : decode cX12_setsIt 49 = .ok (.invokevirtual 382, 3) := by decide +kernel
theorem dX12_setsIt_52 : decode cX12_setsIt 52 = .ok (.ireturn, 1) := by decide +kernel
theorem dX12_plainShares_0 : decode cX12_plainShares 0 = .ok (.aload_n 0, 1) := by decide +kernel
theorem dX12_plainShares_1 : decode cX12_plainShares 1 = .ok (.bipush 12, 2) := by decide +kernel
theorem dX12_plainShares_3 : decode cX12_plainShares 3 = .ok (.invokevirtual 364, 3) := by decide +kernel
theorem dX12_plainShares_6 : decode cX12_plainShares 6 = .ok (.aload_n 0, 1) := by decide +kernel
theorem dX12_plainShares_7 : decode cX12_plainShares 7 = .ok (.getfield 385, 3) := by decide +kernel
theorem dX12_plainShares_10 : decode cX12_plainShares 10 = .ok (.aload_n 0, 1) := by decide +kernel
theorem dX12_plainShares_11 : decode cX12_plainShares 11 = .ok (.getfield 367, 3) := by decide +kernel
theorem dX12_plainShares_14 : decode cX12_plainShares 14 = .ok (.if_icmp .ne 10, 3) := by decide +kernel
theorem dX12_plainShares_17 : decode cX12_plainShares 17 = .ok (.aload_n 0, 1) := by decide +kernel
theorem dX12_plainShares_18 : decode cX12_plainShares 18 = .ok (.iconst 1, 1) := by decide +kernel
theorem dX12_plainShares_19 : decode cX12_plainShares 19 = .ok (.putfield 391, 3) := by decide +kernel
theorem dX12_plainShares_22 : decode cX12_plainShares 22 = .ok (.iconst 0, 1) := by decide +kernel
theorem dX12_plainShares_23 : decode cX12_plainShares 23 = .ok (.ireturn, 1) := by decide +kernel
theorem dX12_plainShares_24 : decode cX12_plainShares 24 = .ok (.iload_n 1, 1) := by decide +kernel
theorem dX12_plainShares_25 : decode cX12_plainShares 25 = .ok (.aload_n 0, 1) := by decide +kernel
theorem dX12_plainShares_26 : decode cX12_plainShares 26 = .ok (.getfield 385, 3) := by decide +kernel
theorem dX12_plainShares_29 : decode cX12_plainShares 29 = .ok (.aload_n 0, 1) := by decide +kernel
theorem dX12_plainShares_30 : decode cX12_plainShares 30 = .ok (.getfield 367, 3) := by decide +kernel
theorem dX12_plainShares_33 : decode cX12_plainShares 33 = .ok (.isub, 1) := by decide +kernel
theorem dX12_plainShares_34 : decode cX12_plainShares 34 = .ok (.idiv, 1) := by decide +kernel
theorem dX12_plainShares_35 : decode cX12_plainShares 35 = .ok (.ireturn, 1) := by decide +kernel
theorem dX12_sharesIt_0 : decode cX12_sharesIt 0 = .ok (.aload_n 0, 1) := by decide +kernel
theorem dX12_sharesIt_1 : decode cX12_sharesIt 1 = .ok (.getfield 373, 3) := by decide +kernel
theorem dX12_sharesIt_4 : decode cX12_sharesIt 4 = .ok (.iconst 3, 1) := by decide +kernel
theorem dX12_sharesIt_5 : decode cX12_sharesIt 5 = .ok (.if_icmp .ne 19, 3) := by decide +kernel
theorem dX12_sharesIt_8 : decode cX12_sharesIt 8 = .ok (.aload_n 0, 1) := by decide +kernel
theorem dX12_sharesIt_9 : decode cX12_sharesIt 9 = .ok (.bipush 40, 2) := by decide +kernel
theorem dX12_sharesIt_11 : decode cX12_sharesIt 11 = .ok (.invokevirtual 364, 3) := by decide +kernel
theorem dX12_sharesIt_14 : decode cX12_sharesIt 14 = .ok (.aload_n 0, 1) := by decide +kernel
theorem dX12_sharesIt_15 : decode cX12_sharesIt 15 = .ok (.iload_n 1, 1) := by decide +kernel
theorem dX12_sharesIt_16 : decode cX12_sharesIt 16 = .ok (.iconst 2, 1) := by decide +kernel
theorem dX12_sharesIt_17 : decode cX12_sharesIt 17 = .ok (.iadd, 1) := by decide +kernel
theorem dX12_sharesIt_18 : decode cX12_sharesIt 18 = .ok (.invokevirtual 394, 3) := by decide +kernel
theorem dX12_sharesIt_21 : decode cX12_sharesIt 21 = .ok (.iconst 1, 1) := by decide +kernel
theorem dX12_sharesIt_22 : decode cX12_sharesIt 22 = .ok (.ixor, 1) := by decide +kernel
theorem dX12_sharesIt_23 : decode cX12_sharesIt 23 = .ok (.ireturn, 1) := by decide +kernel
theorem dX12_sharesIt_24 : decode cX12_sharesIt 24 = .ok (.aload_n 0, 1) := by decide +kernel
theorem dX12_sharesIt_25 : decode cX12_sharesIt 25 = .ok (.getfield 373, 3) := by decide +kernel
theorem dX12_sharesIt_28 : decode cX12_sharesIt 28 = .ok (.iconst 5, 1) := by decide +kernel
theorem dX12_sharesIt_29 : decode cX12_sharesIt 29 = .ok (.if_icmp .ne 37, 3) := by decide +kernel
theorem dX12_sharesIt_32 : decode cX12_sharesIt 32 = .ok (.aload_n 0, 1) := by decide +kernel
theorem dX12_sharesIt_33 : decode cX12_sharesIt 33 = .ok (.bipush 61, 2) := by decide +kernel
theorem dX12_sharesIt_35 : decode cX12_sharesIt 35 = .ok (.invokevirtual 364, 3) := by decide +kernel
theorem dX12_sharesIt_38 : decode cX12_sharesIt 38 = .ok (.aload_n 0, 1) := by decide +kernel
theorem dX12_sharesIt_39 : decode cX12_sharesIt 39 = .ok (.iload_n 1, 1) := by decide +kernel
theorem dX12_sharesIt_40 : decode cX12_sharesIt 40 = .ok (.invokevirtual 394, 3) := by decide +kernel
theorem dX12_sharesIt_43 : decode cX12_sharesIt 43 = .ok (.istore_n 2, 1) := by decide +kernel
theorem dX12_sharesIt_44 : decode cX12_sharesIt 44 = .ok (.aload_n 0, 1) := by decide +kernel
theorem dX12_sharesIt_45 : decode cX12_sharesIt 45 = .ok (.getfield 391, 3) := by decide +kernel
theorem dX12_sharesIt_48 : decode cX12_sharesIt 48 = .ok (.ifCond .eq 7, 3) := by decide +kernel
theorem dX12_sharesIt_51 : decode cX12_sharesIt 51 = .ok (.iconst 0, 1) := by decide +kernel
theorem dX12_sharesIt_52 : decode cX12_sharesIt 52 = .ok (.goto 13, 3) := by decide +kernel
theorem dX12_sharesIt_55 : decode cX12_sharesIt 55 = .ok (.iload_n 2, 1) := by decide +kernel
theorem dX12_sharesIt_56 : decode cX12_sharesIt 56 = .ok (.aload_n 0, 1) := by decide +kernel
theorem dX12_sharesIt_57 : decode cX12_sharesIt 57 = .ok (.aload_n 0, 1) := by decide +kernel
theorem dX12_sharesIt_58 : decode cX12_sharesIt 58 = .ok (.getfield 385, 3) := by decide +kernel
theorem dX12_sharesIt_61 : decode cX12_sharesIt 61 = .ok (.invokevirtual 379, 3) := by decide +kernel
theorem dX12_sharesIt_64 : decode cX12_sharesIt 64 = .ok (.iadd, 1) := by decide +kernel
theorem dX12_sharesIt_65 : decode cX12_sharesIt 65 = .ok (.ireturn, 1) := by decide +kernel
theorem dX12_sharesIt_66 : decode cX12_sharesIt 66 = .ok (.aload_n 0, 1) := by decide +kernel
theorem dX12_sharesIt_67 : decode cX12_sharesIt 67 = .ok (.iload_n 1, 1) := by decide +kernel
theorem dX12_sharesIt_68 : decode cX12_sharesIt 68 = .ok (.invokevirtual 394, 3) := by decide +kernel
theorem dX12_sharesIt_71 : decode cX12_sharesIt 71 = .ok (.ireturn, 1) := by decide +kernel
theorem dX12_plainTells_0 : decode cX12_plainTells 0 = .ok (.aload_n 0, 1) := by decide +kernel
theorem dX12_plainTells_1 : decode cX12_plainTells 1 = .ok (.bipush 13, 2) := by decide +kernel
theorem dX12_plainTells_3 : decode cX12_plainTells 3 = .ok (.invokevirtual 364, 3) := by decide +kernel
theorem dX12_plainTells_6 : decode cX12_plainTells 6 = .ok (.aload_n 0, 1) := by decide +kernel
theorem dX12_plainTells_7 : decode cX12_plainTells 7 = .ok (.iload_n 1, 1) := by decide +kernel
theorem dX12_plainTells_8 : decode cX12_plainTells 8 = .ok (.invokevirtual 397, 3) := by decide +kernel
theorem dX12_plainTells_11 : decode cX12_plainTells 11 = .ok (.aload_n 0, 1) := by decide +kernel
theorem dX12_plainTells_12 : decode cX12_plainTells 12 = .ok (.getfield 385, 3) := by decide +kernel
theorem dX12_plainTells_15 : decode cX12_plainTells 15 = .ok (.ixor, 1) := by decide +kernel
theorem dX12_plainTells_16 : decode cX12_plainTells 16 = .ok (.ireturn, 1) := by decide +kernel
theorem dX12_tellsIt_0 : decode cX12_tellsIt 0 = .ok (.aload_n 0, 1) := by decide +kernel
theorem dX12_tellsIt_1 : decode cX12_tellsIt 1 = .ok (.getfield 373, 3) := by decide +kernel
theorem dX12_tellsIt_4 : decode cX12_tellsIt 4 = .ok (.iconst 2, 1) := by decide +kernel
theorem dX12_tellsIt_5 : decode cX12_tellsIt 5 = .ok (.if_icmp .eq 11, 3) := by decide +kernel
theorem dX12_tellsIt_8 : decode cX12_tellsIt 8 = .ok (.aload_n 0, 1) := by decide +kernel
theorem dX12_tellsIt_9 : decode cX12_tellsIt 9 = .ok (.getfield 373, 3) := by decide +kernel
theorem dX12_tellsIt_12 : decode cX12_tellsIt 12 = .ok (.iconst 3, 1) := by decide +kernel
theorem dX12_tellsIt_13 : decode cX12_tellsIt 13 = .ok (.if_icmp .ne 26, 3) := by decide +kernel
theorem dX12_tellsIt_16 : decode cX12_tellsIt 16 = .ok (.aload_n 0, 1) := by decide +kernel
theorem dX12_tellsIt_17 : decode cX12_tellsIt 17 = .ok (.bipush 31, 2) := by decide +kernel
theorem dX12_tellsIt_19 : decode cX12_tellsIt 19 = .ok (.invokevirtual 364, 3) := by decide +kernel
theorem dX12_tellsIt_22 : decode cX12_tellsIt 22 = .ok (.aload_n 0, 1) := by decide +kernel
theorem dX12_tellsIt_23 : decode cX12_tellsIt 23 = .ok (.iload_n 1, 1) := by decide +kernel
theorem dX12_tellsIt_24 : decode cX12_tellsIt 24 = .ok (.invokevirtual 400, 3) := by decide +kernel
theorem dX12_tellsIt_27 : decode cX12_tellsIt 27 = .ok (.istore_n 2, 1) := by decide +kernel
theorem dX12_tellsIt_28 : decode cX12_tellsIt 28 = .ok (.iload_n 2, 1) := by decide +kernel
theorem dX12_tellsIt_29 : decode cX12_tellsIt 29 = .ok (.aload_n 0, 1) := by decide +kernel
theorem dX12_tellsIt_30 : decode cX12_tellsIt 30 = .ok (.aload_n 0, 1) := by decide +kernel
theorem dX12_tellsIt_31 : decode cX12_tellsIt 31 = .ok (.getfield 367, 3) := by decide +kernel
theorem dX12_tellsIt_34 : decode cX12_tellsIt 34 = .ok (.invokevirtual 403, 3) := by decide +kernel
theorem dX12_tellsIt_37 : decode cX12_tellsIt 37 = .ok (.iadd, 1) := by decide +kernel
theorem dX12_tellsIt_38 : decode cX12_tellsIt 38 = .ok (.ireturn, 1) := by decide +kernel
theorem dX12_tellsIt_39 : decode cX12_tellsIt 39 = .ok (.aload_n 0, 1) := by decide +kernel
theorem dX12_tellsIt_40 : decode cX12_tellsIt 40 = .ok (.getfield 373, 3) := by decide +kernel
theorem dX12_tellsIt_43 : decode cX12_tellsIt 43 = .ok (.iconst 5, 1) := by decide +kernel
theorem dX12_tellsIt_44 : decode cX12_tellsIt 44 = .ok (.if_icmp .ne 17, 3) := by decide +kernel
theorem dX12_tellsIt_47 : decode cX12_tellsIt 47 = .ok (.aload_n 0, 1) := by decide +kernel
theorem dX12_tellsIt_48 : decode cX12_tellsIt 48 = .ok (.bipush 60, 2) := by decide +kernel
theorem dX12_tellsIt_50 : decode cX12_tellsIt 50 = .ok (.invokevirtual 364, 3) := by decide +kernel
theorem dX12_tellsIt_53 : decode cX12_tellsIt 53 = .ok (.aload_n 0, 1) := by decide +kernel
theorem dX12_tellsIt_54 : decode cX12_tellsIt 54 = .ok (.iload_n 1, 1) := by decide +kernel
theorem dX12_tellsIt_55 : decode cX12_tellsIt 55 = .ok (.invokevirtual 400, 3) := by decide +kernel
theorem dX12_tellsIt_58 : decode cX12_tellsIt 58 = .ok (.iconst 2, 1) := by decide +kernel
theorem dX12_tellsIt_59 : decode cX12_tellsIt 59 = .ok (.imul, 1) := by decide +kernel
theorem dX12_tellsIt_60 : decode cX12_tellsIt 60 = .ok (.ireturn, 1) := by decide +kernel
theorem dX12_tellsIt_61 : decode cX12_tellsIt 61 = .ok (.aload_n 0, 1) := by decide +kernel
theorem dX12_tellsIt_62 : decode cX12_tellsIt 62 = .ok (.iload_n 1, 1) := by decide +kernel
theorem dX12_tellsIt_63 : decode cX12_tellsIt 63 = .ok (.invokevirtual 400, 3) := by decide +kernel
theorem dX12_tellsIt_66 : decode cX12_tellsIt 66 = .ok (.ireturn, 1) := by decide +kernel
theorem dX12_act_0 : decode cX12_act 0 = .ok (.aload_n 0, 1) := by decide +kernel
theorem dX12_act_1 : decode cX12_act 1 = .ok (.iconst 0, 1) := by decide +kernel
theorem dX12_act_2 : decode cX12_act 2 = .ok (.putfield 361, 3) := by decide +kernel
theorem dX12_act_5 : decode cX12_act 5 = .ok (.iload_n 1, 1) := by decide +kernel
theorem dX12_act_6 : decode cX12_act 6 = .ok (.invokestatic 346, 3) := by decide +kernel
theorem dX12_act_9 : decode cX12_act 9 = .ok (.ifCond .eq 11, 3) := by decide +kernel
theorem dX12_act_12 : decode cX12_act 12 = .ok (.aload_n 0, 1) := by decide +kernel
theorem dX12_act_13 : decode cX12_act 13 = .ok (.iload_n 1, 1) := by decide +kernel
theorem dX12_act_14 : decode cX12_act 14 = .ok (.invokevirtual 355, 3) := by decide +kernel
theorem dX12_act_17 : decode cX12_act 17 = .ok (.goto 4, 3) := by decide +kernel
theorem dX12_act_20 : decode cX12_act 20 = .ok (.iconst (-1), 1) := by decide +kernel
theorem dX12_act_21 : decode cX12_act 21 = .ok (.istore 4, 2) := by decide +kernel
theorem dX12_act_23 : decode cX12_act 23 = .ok (.iload_n 2, 1) := by decide +kernel
theorem dX12_act_24 : decode cX12_act 24 = .ok (.iconst 0, 1) := by decide +kernel
theorem dX12_act_25 : decode cX12_act 25 = .ok (.iconst 3, 1) := by decide +kernel
theorem dX12_act_26 : decode cX12_act 26 = .ok (.invokestatic 99, 3) := by decide +kernel
theorem dX12_act_29 : decode cX12_act 29 = .ok (.ifCond .eq 13, 3) := by decide +kernel
theorem dX12_act_32 : decode cX12_act 32 = .ok (.iload 4, 2) := by decide +kernel
theorem dX12_act_34 : decode cX12_act 34 = .ok (.iconst 0, 1) := by decide +kernel
theorem dX12_act_35 : decode cX12_act 35 = .ok (.iconst 5, 1) := by decide +kernel
theorem dX12_act_36 : decode cX12_act 36 = .ok (.invokestatic 99, 3) := by decide +kernel
theorem dX12_act_39 : decode cX12_act 39 = .ok (.ifCond .ne 5, 3) := by decide +kernel
theorem dX12_act_42 : decode cX12_act 42 = .ok (.iconst 0, 1) := by decide +kernel
theorem dX12_act_43 : decode cX12_act 43 = .ok (.ireturn, 1) := by decide +kernel
theorem dX12_act_44 : decode cX12_act 44 = .ok (.aload_n 0, 1) := by decide +kernel
theorem dX12_act_45 : decode cX12_act 45 = .ok (.iload 4, 2) := by decide +kernel
theorem dX12_act_47 : decode cX12_act 47 = .ok (.putfield 373, 3) := by decide +kernel
theorem dX12_act_50 : decode cX12_act 50 = .ok (.aload_n 0, 1) := by decide +kernel
theorem dX12_act_51 : decode cX12_act 51 = .ok (.aload_n 0, 1) := by decide +kernel
theorem dX12_act_52 : decode cX12_act 52 = .ok (.getfield 81, 3) := by decide +kernel
theorem dX12_act_55 : decode cX12_act 55 = .ok (.iload_n 1, 1) := by decide +kernel
theorem dX12_act_56 : decode cX12_act 56 = .ok (.iaload, 1) := by decide +kernel
theorem dX12_act_57 : decode cX12_act 57 = .ok (.putfield 367, 3) := by decide +kernel
theorem dX12_act_60 : decode cX12_act 60 = .ok (.aload_n 0, 1) := by decide +kernel
theorem dX12_act_61 : decode cX12_act 61 = .ok (.aload_n 0, 1) := by decide +kernel
theorem dX12_act_62 : decode cX12_act 62 = .ok (.aload_n 0, 1) := by decide +kernel
theorem dX12_act_63 : decode cX12_act 63 = .ok (.getfield 367, 3) := by decide +kernel
theorem dX12_act_66 : decode cX12_act 66 = .ok (.iconst 4, 1) := by decide +kernel
theorem dX12_act_67 : decode cX12_act 67 = .ok (.invokevirtual 242, 3) := by decide +kernel
theorem dX12_act_70 : decode cX12_act 70 = .ok (.putfield 385, 3) := by decide +kernel
theorem dX12_act_73 : decode cX12_act 73 = .ok (.aload_n 0, 1) := by decide +kernel
theorem dX12_act_74 : decode cX12_act 74 = .ok (.iconst 0, 1) := by decide +kernel
theorem dX12_act_75 : decode cX12_act 75 = .ok (.putfield 391, 3) := by decide +kernel
theorem dX12_act_78 : decode cX12_act 78 = .ok (.iload_n 2, 1) := by decide +kernel
theorem dX12_act_79 : decode cX12_act 79 = .ok (.ifCond .ne 11, 3) := by decide +kernel
theorem dX12_act_82 : decode cX12_act 82 = .ok (.aload_n 0, 1) := by decide +kernel
theorem dX12_act_83 : decode cX12_act 83 = .ok (.iload_n 3, 1) := by decide +kernel
theorem dX12_act_84 : decode cX12_act 84 = .ok (.invokevirtual 379, 3) := by decide +kernel
theorem dX12_act_87 : decode cX12_act 87 = .ok (.goto 34, 3) := by decide +kernel
theorem dX12_act_90 : decode cX12_act 90 = .ok (.iload_n 2, 1) := by decide +kernel
theorem dX12_act_91 : decode cX12_act 91 = .ok (.iconst 1, 1) := by decide +kernel
theorem dX12_act_92 : decode cX12_act 92 = .ok (.if_icmp .ne 11, 3) := by decide +kernel
theorem dX12_act_95 : decode cX12_act 95 = .ok (.aload_n 0, 1) := by decide +kernel
theorem dX12_act_96 : decode cX12_act 96 = .ok (.iload_n 3, 1) := by decide +kernel
theorem dX12_act_97 : decode cX12_act 97 = .ok (.invokevirtual 397, 3) := by decide +kernel
theorem dX12_act_100 : decode cX12_act 100 = .ok (.goto 21, 3) := by decide +kernel
theorem dX12_act_103 : decode cX12_act 103 = .ok (.iload_n 2, 1) := by decide +kernel
theorem dX12_act_104 : decode cX12_act 104 = .ok (.iconst 2, 1) := by decide +kernel
theorem dX12_act_105 : decode cX12_act 105 = .ok (.if_icmp .ne 11, 3) := by decide +kernel
theorem dX12_act_108 : decode cX12_act 108 = .ok (.aload_n 0, 1) := by decide +kernel
theorem dX12_act_109 : decode cX12_act 109 = .ok (.iload_n 3, 1) := by decide +kernel
theorem dX12_act_110 : decode cX12_act 110 = .ok (.invokevirtual 403, 3) := by decide +kernel
theorem dX12_act_113 : decode cX12_act 113 = .ok (.goto 8, 3) := by decide +kernel
theorem dX12_act_116 : decode cX12_act 116 = .ok (.aload_n 0, 1) := by decide +kernel
theorem dX12_act_117 : decode cX12_act 117 = .ok (.iload_n 3, 1) := by decide +kernel
theorem dX12_act_118 : decode cX12_act 118 = .ok (.invokevirtual 406, 3) := by decide +kernel
theorem dX12_act_121 : decode cX12_act 121 = .ok (.istore 5, 2) := by decide +kernel
theorem dX12_act_123 : decode cX12_act 123 = .ok (.aload_n 0, 1) := by decide +kernel
theorem dX12_act_124 : decode cX12_act 124 = .ok (.getfield 391, 3) := by decide +kernel
theorem dX12_act_127 : decode cX12_act 127 = .ok (.ifCond .eq 8, 3) := by decide +kernel
theorem dX12_act_130 : decode cX12_act 130 = .ok (.bipush (-15), 2) := by decide +kernel
theorem dX12_act_132 : decode cX12_act 132 = .ok (.goto 5, 3) := by decide +kernel
theorem dX12_act_135 : decode cX12_act 135 = .ok (.iload 5, 2) := by decide +kernel
theorem dX12_act_137 : decode cX12_act 137 = .ok (.ireturn, 1) := by decide +kernel
theorem dX12_trace_0 : decode cX12_trace 0 = .ok (.iload_n 1, 1) := by decide +kernel
theorem dX12_trace_1 : decode cX12_trace 1 = .ok (.iconst 0, 1) := by decide +kernel
theorem dX12_trace_2 : decode cX12_trace 2 = .ok (.aload_n 0, 1) := by decide +kernel
theorem dX12_trace_3 : decode cX12_trace 3 = .ok (.getfield 361, 3) := by decide +kernel
theorem dX12_trace_6 : decode cX12_trace 6 = .ok (.iconst 1, 1) := by decide +kernel
theorem dX12_trace_7 : decode cX12_trace 7 = .ok (.isub, 1) := by decide +kernel
theorem dX12_trace_8 : decode cX12_trace 8 = .ok (.invokestatic 99, 3) := by decide +kernel
theorem dX12_trace_11 : decode cX12_trace 11 = .ok (.ifCond .eq 12, 3) := by decide +kernel
theorem dX12_trace_14 : decode cX12_trace 14 = .ok (.aload_n 0, 1) := by decide +kernel
theorem dX12_trace_15 : decode cX12_trace 15 = .ok (.getfield 87, 3) := by decide +kernel
theorem dX12_trace_18 : decode cX12_trace 18 = .ok (.iload_n 1, 1) := by decide +kernel
theorem dX12_trace_19 : decode cX12_trace 19 = .ok (.iaload, 1) := by decide +kernel
theorem dX12_trace_20 : decode cX12_trace 20 = .ok (.goto 5, 3) := by decide +kernel
theorem dX12_trace_23 : decode cX12_trace 23 = .ok (.bipush (-3), 2) := by decide +kernel
theorem dX12_trace_25 : decode cX12_trace 25 = .ok (.ireturn, 1) := by decide +kernel
theorem dX12_many_0 : decode cX12_many 0 = .ok (.iload_n 1, 1) := by decide +kernel
theorem dX12_many_1 : decode cX12_many 1 = .ok (.tableswitch 60 0 4 #[35, 40, 45, 50, 55], 35) := by decide +kernel
theorem dX12_many_36 : decode cX12_many 36 = .ok (.aload_n 0, 1) := by decide +kernel
theorem dX12_many_37 : decode cX12_many 37 = .ok (.getfield 96, 3) := by decide +kernel
theorem dX12_many_40 : decode cX12_many 40 = .ok (.ireturn, 1) := by decide +kernel
theorem dX12_many_41 : decode cX12_many 41 = .ok (.aload_n 0, 1) := by decide +kernel
theorem dX12_many_42 : decode cX12_many 42 = .ok (.getfield 324, 3) := by decide +kernel
theorem dX12_many_45 : decode cX12_many 45 = .ok (.ireturn, 1) := by decide +kernel
theorem dX12_many_46 : decode cX12_many 46 = .ok (.aload_n 0, 1) := by decide +kernel
theorem dX12_many_47 : decode cX12_many 47 = .ok (.getfield 229, 3) := by decide +kernel
theorem dX12_many_50 : decode cX12_many 50 = .ok (.ireturn, 1) := by decide +kernel
theorem dX12_many_51 : decode cX12_many 51 = .ok (.aload_n 0, 1) := by decide +kernel
theorem dX12_many_52 : decode cX12_many 52 = .ok (.getfield 111, 3) := by decide +kernel
theorem dX12_many_55 : decode cX12_many 55 = .ok (.ireturn, 1) := by decide +kernel
theorem dX12_many_56 : decode cX12_many 56 = .ok (.aload_n 0, 1) := by decide +kernel
theorem dX12_many_57 : decode cX12_many 57 = .ok (.getfield 361, 3) := by decide +kernel
theorem dX12_many_60 : decode cX12_many 60 = .ok (.ireturn, 1) := by decide +kernel
theorem dX12_many_61 : decode cX12_many 61 = .ok (.iconst (-1), 1) := by decide +kernel
theorem dX12_many_62 : decode cX12_many 62 = .ok (.ireturn, 1) := by decide +kernel
theorem dX12_move_0 : decode cX12_move 0 = .ok (.iconst 0, 1) := by decide +kernel
theorem dX12_move_1 : decode cX12_move 1 = .ok (.istore 4, 2) := by decide +kernel
theorem dX12_move_3 : decode cX12_move 3 = .ok (.iload 4, 2) := by decide +kernel
theorem dX12_move_5 : decode cX12_move 5 = .ok (.iload_n 2, 1) := by decide +kernel
theorem dX12_move_6 : decode cX12_move 6 = .ok (.if_icmp .ge 52, 3) := by decide +kernel
theorem dX12_move_9 : decode cX12_move 9 = .ok (.iload_n 3, 1) := by decide +kernel
theorem dX12_move_10 : decode cX12_move 10 = .ok (.ifCond .eq 19, 3) := by decide +kernel
theorem dX12_move_13 : decode cX12_move 13 = .ok (.aload_n 0, 1) := by decide +kernel
theorem dX12_move_14 : decode cX12_move 14 = .ok (.getfield 90, 3) := by decide +kernel
theorem dX12_move_17 : decode cX12_move 17 = .ok (.aload_n 0, 1) := by decide +kernel
theorem dX12_move_18 : decode cX12_move 18 = .ok (.getfield 409, 3) := by decide +kernel
theorem dX12_move_21 : decode cX12_move 21 = .ok (.aload_n 1, 1) := by decide +kernel
theorem dX12_move_22 : decode cX12_move 22 = .ok (.iload 4, 2) := by decide +kernel
theorem dX12_move_24 : decode cX12_move 24 = .ok (.iaload, 1) := by decide +kernel
theorem dX12_move_25 : decode cX12_move 25 = .ok (.iastore, 1) := by decide +kernel
theorem dX12_move_26 : decode cX12_move 26 = .ok (.goto 16, 3) := by decide +kernel
theorem dX12_move_29 : decode cX12_move 29 = .ok (.aload_n 1, 1) := by decide +kernel
theorem dX12_move_30 : decode cX12_move 30 = .ok (.iload 4, 2) := by decide +kernel
theorem dX12_move_32 : decode cX12_move 32 = .ok (.aload_n 0, 1) := by decide +kernel
theorem dX12_move_33 : decode cX12_move 33 = .ok (.getfield 90, 3) := by decide +kernel
theorem dX12_move_36 : decode cX12_move 36 = .ok (.aload_n 0, 1) := by decide +kernel
theorem dX12_move_37 : decode cX12_move 37 = .ok (.getfield 409, 3) := by decide +kernel
theorem dX12_move_40 : decode cX12_move 40 = .ok (.iaload, 1) := by decide +kernel
theorem dX12_move_41 : decode cX12_move 41 = .ok (.iastore, 1) := by decide +kernel
theorem dX12_move_42 : decode cX12_move 42 = .ok (.aload_n 0, 1) := by decide +kernel
theorem dX12_move_43 : decode cX12_move 43 = .ok (.dup, 1) := by decide +kernel
theorem dX12_move_44 : decode cX12_move 44 = .ok (.getfield 409, 3) := by decide +kernel
theorem dX12_move_47 : decode cX12_move 47 = .ok (.iconst 1, 1) := by decide +kernel
theorem dX12_move_48 : decode cX12_move 48 = .ok (.iadd, 1) := by decide +kernel
theorem dX12_move_49 : decode cX12_move 49 = .ok (.putfield 409, 3) := by decide +kernel
theorem dX12_move_52 : decode cX12_move 52 = .ok (.iinc 4 1, 3) := by decide +kernel
theorem dX12_move_55 : decode cX12_move 55 = .ok (.goto (-52), 3) := by decide +kernel
theorem dX12_move_58 : decode cX12_move 58 = .ok (.return_, 1) := by decide +kernel
theorem dX12_moveAll_0 : decode cX12_moveAll 0 = .ok (.aload_n 0, 1) := by decide +kernel
theorem dX12_moveAll_1 : decode cX12_moveAll 1 = .ok (.iconst 0, 1) := by decide +kernel
theorem dX12_moveAll_2 : decode cX12_moveAll 2 = .ok (.putfield 409, 3) := by decide +kernel
theorem dX12_moveAll_5 : decode cX12_moveAll 5 = .ok (.aload_n 0, 1) := by decide +kernel
theorem dX12_moveAll_6 : decode cX12_moveAll 6 = .ok (.getfield 93, 3) := by decide +kernel
theorem dX12_moveAll_9 : decode cX12_moveAll 9 = .ok (.iconst 0, 1) := by decide +kernel
theorem dX12_moveAll_10 : decode cX12_moveAll 10 = .ok (.aload_n 0, 1) := by decide +kernel
theorem dX12_moveAll_11 : decode cX12_moveAll 11 = .ok (.getfield 96, 3) := by decide +kernel
theorem dX12_moveAll_14 : decode cX12_moveAll 14 = .ok (.iastore, 1) := by decide +kernel
theorem dX12_moveAll_15 : decode cX12_moveAll 15 = .ok (.aload_n 0, 1) := by decide +kernel
theorem dX12_moveAll_16 : decode cX12_moveAll 16 = .ok (.getfield 93, 3) := by decide +kernel
theorem dX12_moveAll_19 : decode cX12_moveAll 19 = .ok (.iconst 1, 1) := by decide +kernel
theorem dX12_moveAll_20 : decode cX12_moveAll 20 = .ok (.aload_n 0, 1) := by decide +kernel
theorem dX12_moveAll_21 : decode cX12_moveAll 21 = .ok (.getfield 217, 3) := by decide +kernel
theorem dX12_moveAll_24 : decode cX12_moveAll 24 = .ok (.iastore, 1) := by decide +kernel
theorem dX12_moveAll_25 : decode cX12_moveAll 25 = .ok (.aload_n 0, 1) := by decide +kernel
theorem dX12_moveAll_26 : decode cX12_moveAll 26 = .ok (.getfield 93, 3) := by decide +kernel
theorem dX12_moveAll_29 : decode cX12_moveAll 29 = .ok (.iconst 2, 1) := by decide +kernel
theorem dX12_moveAll_30 : decode cX12_moveAll 30 = .ok (.aload_n 0, 1) := by decide +kernel
theorem dX12_moveAll_31 : decode cX12_moveAll 31 = .ok (.getfield 220, 3) := by decide +kernel
theorem dX12_moveAll_34 : decode cX12_moveAll 34 = .ok (.iastore, 1) := by decide +kernel
theorem dX12_moveAll_35 : decode cX12_moveAll 35 = .ok (.aload_n 0, 1) := by decide +kernel
theorem dX12_moveAll_36 : decode cX12_moveAll 36 = .ok (.getfield 93, 3) := by decide +kernel
theorem dX12_moveAll_39 : decode cX12_moveAll 39 = .ok (.iconst 3, 1) := by decide +kernel
theorem dX12_moveAll_40 : decode cX12_moveAll 40 = .ok (.aload_n 0, 1) := by decide +kernel
theorem dX12_moveAll_41 : decode cX12_moveAll 41 = .ok (.getfield 223, 3) := by decide +kernel
theorem dX12_moveAll_44 : decode cX12_moveAll 44 = .ok (.iastore, 1) := by decide +kernel
theorem dX12_moveAll_45 : decode cX12_moveAll 45 = .ok (.aload_n 0, 1) := by decide +kernel
theorem dX12_moveAll_46 : decode cX12_moveAll 46 = .ok (.getfield 93, 3) := by decide +kernel
theorem dX12_moveAll_49 : decode cX12_moveAll 49 = .ok (.iconst 4, 1) := by decide +kernel
theorem dX12_moveAll_50 : decode cX12_moveAll 50 = .ok (.aload_n 0, 1) := by decide +kernel
theorem dX12_moveAll_51 : decode cX12_moveAll 51 = .ok (.getfield 226, 3) := by decide +kernel
theorem dX12_moveAll_54 : decode cX12_moveAll 54 = .ok (.iastore, 1) := by decide +kernel
theorem dX12_moveAll_55 : decode cX12_moveAll 55 = .ok (.aload_n 0, 1) := by decide +kernel
theorem dX12_moveAll_56 : decode cX12_moveAll 56 = .ok (.getfield 93, 3) := by decide +kernel
theorem dX12_moveAll_59 : decode cX12_moveAll 59 = .ok (.iconst 5, 1) := by decide +kernel
theorem dX12_moveAll_60 : decode cX12_moveAll 60 = .ok (.aload_n 0, 1) := by decide +kernel
theorem dX12_moveAll_61 : decode cX12_moveAll 61 = .ok (.getfield 324, 3) := by decide +kernel
theorem dX12_moveAll_64 : decode cX12_moveAll 64 = .ok (.iastore, 1) := by decide +kernel
theorem dX12_moveAll_65 : decode cX12_moveAll 65 = .ok (.aload_n 0, 1) := by decide +kernel
theorem dX12_moveAll_66 : decode cX12_moveAll 66 = .ok (.getfield 93, 3) := by decide +kernel
theorem dX12_moveAll_69 : decode cX12_moveAll 69 = .ok (.bipush 6, 2) := by decide +kernel
theorem dX12_moveAll_71 : decode cX12_moveAll 71 = .ok (.aload_n 0, 1) := by decide +kernel
theorem dX12_moveAll_72 : decode cX12_moveAll 72 = .ok (.getfield 34, 3) := by decide +kernel
theorem dX12_moveAll_75 : decode cX12_moveAll 75 = .ok (.iastore, 1) := by decide +kernel
theorem dX12_moveAll_76 : decode cX12_moveAll 76 = .ok (.aload_n 0, 1) := by decide +kernel
theorem dX12_moveAll_77 : decode cX12_moveAll 77 = .ok (.aload_n 0, 1) := by decide +kernel
theorem dX12_moveAll_78 : decode cX12_moveAll 78 = .ok (.getfield 93, 3) := by decide +kernel
theorem dX12_moveAll_81 : decode cX12_moveAll 81 = .ok (.bipush 7, 2) := by decide +kernel
theorem dX12_moveAll_83 : decode cX12_moveAll 83 = .ok (.iload_n 1, 1) := by decide +kernel
theorem dX12_moveAll_84 : decode cX12_moveAll 84 = .ok (.invokevirtual 412, 3) := by decide +kernel
theorem dX12_moveAll_87 : decode cX12_moveAll 87 = .ok (.aload_n 0, 1) := by decide +kernel
theorem dX12_moveAll_88 : decode cX12_moveAll 88 = .ok (.aload_n 0, 1) := by decide +kernel
theorem dX12_moveAll_89 : decode cX12_moveAll 89 = .ok (.getfield 7, 3) := by decide +kernel
theorem dX12_moveAll_92 : decode cX12_moveAll 92 = .ok (.bipush 50, 2) := by decide +kernel
theorem dX12_moveAll_94 : decode cX12_moveAll 94 = .ok (.iload_n 1, 1) := by decide +kernel
theorem dX12_moveAll_95 : decode cX12_moveAll 95 = .ok (.invokevirtual 412, 3) := by decide +kernel
theorem dX12_moveAll_98 : decode cX12_moveAll 98 = .ok (.aload_n 0, 1) := by decide +kernel
theorem dX12_moveAll_99 : decode cX12_moveAll 99 = .ok (.aload_n 0, 1) := by decide +kernel
theorem dX12_moveAll_100 : decode cX12_moveAll 100 = .ok (.getfield 13, 3) := by decide +kernel
theorem dX12_moveAll_103 : decode cX12_moveAll 103 = .ok (.iconst 4, 1) := by decide +kernel
theorem dX12_moveAll_104 : decode cX12_moveAll 104 = .ok (.iload_n 1, 1) := by decide +kernel
theorem dX12_moveAll_105 : decode cX12_moveAll 105 = .ok (.invokevirtual 412, 3) := by decide +kernel
theorem dX12_moveAll_108 : decode cX12_moveAll 108 = .ok (.aload_n 0, 1) := by decide +kernel
theorem dX12_moveAll_109 : decode cX12_moveAll 109 = .ok (.aload_n 0, 1) := by decide +kernel
theorem dX12_moveAll_110 : decode cX12_moveAll 110 = .ok (.getfield 22, 3) := by decide +kernel
theorem dX12_moveAll_113 : decode cX12_moveAll 113 = .ok (.bipush 61, 2) := by decide +kernel
theorem dX12_moveAll_115 : decode cX12_moveAll 115 = .ok (.iload_n 1, 1) := by decide +kernel
theorem dX12_moveAll_116 : decode cX12_moveAll 116 = .ok (.invokevirtual 412, 3) := by decide +kernel
theorem dX12_moveAll_119 : decode cX12_moveAll 119 = .ok (.aload_n 0, 1) := by decide +kernel
theorem dX12_moveAll_120 : decode cX12_moveAll 120 = .ok (.aload_n 0, 1) := by decide +kernel
theorem dX12_moveAll_121 : decode cX12_moveAll 121 = .ok (.getfield 25, 3) := by decide +kernel
theorem dX12_moveAll_124 : decode cX12_moveAll 124 = .ok (.bipush 61, 2) := by decide +kernel
theorem dX12_moveAll_126 : decode cX12_moveAll 126 = .ok (.iload_n 1, 1) := by decide +kernel
theorem dX12_moveAll_127 : decode cX12_moveAll 127 = .ok (.invokevirtual 412, 3) := by decide +kernel
theorem dX12_moveAll_130 : decode cX12_moveAll 130 = .ok (.aload_n 0, 1) := by decide +kernel
theorem dX12_moveAll_131 : decode cX12_moveAll 131 = .ok (.aload_n 0, 1) := by decide +kernel
theorem dX12_moveAll_132 : decode cX12_moveAll 132 = .ok (.getfield 28, 3) := by decide +kernel
theorem dX12_moveAll_135 : decode cX12_moveAll 135 = .ok (.bipush 8, 2) := by decide +kernel
theorem dX12_moveAll_137 : decode cX12_moveAll 137 = .ok (.iload_n 1, 1) := by decide +kernel
theorem dX12_moveAll_138 : decode cX12_moveAll 138 = .ok (.invokevirtual 412, 3) := by decide +kernel
theorem dX12_moveAll_141 : decode cX12_moveAll 141 = .ok (.aload_n 0, 1) := by decide +kernel
theorem dX12_moveAll_142 : decode cX12_moveAll 142 = .ok (.aload_n 0, 1) := by decide +kernel
theorem dX12_moveAll_143 : decode cX12_moveAll 143 = .ok (.getfield 31, 3) := by decide +kernel
theorem dX12_moveAll_146 : decode cX12_moveAll 146 = .ok (.bipush 18, 2) := by decide +kernel
theorem dX12_moveAll_148 : decode cX12_moveAll 148 = .ok (.iload_n 1, 1) := by decide +kernel
theorem dX12_moveAll_149 : decode cX12_moveAll 149 = .ok (.invokevirtual 412, 3) := by decide +kernel
theorem dX12_moveAll_152 : decode cX12_moveAll 152 = .ok (.return_, 1) := by decide +kernel
theorem dX12_keep_0 : decode cX12_keep 0 = .ok (.aload_n 0, 1) := by decide +kernel
theorem dX12_keep_1 : decode cX12_keep 1 = .ok (.iconst 1, 1) := by decide +kernel
theorem dX12_keep_2 : decode cX12_keep 2 = .ok (.invokevirtual 416, 3) := by decide +kernel
theorem dX12_keep_5 : decode cX12_keep 5 = .ok (.aload_n 0, 1) := by decide +kernel
theorem dX12_keep_6 : decode cX12_keep 6 = .ok (.iconst 1, 1) := by decide +kernel
theorem dX12_keep_7 : decode cX12_keep 7 = .ok (.putfield 420, 3) := by decide +kernel
theorem dX12_keep_10 : decode cX12_keep 10 = .ok (.iconst 1, 1) := by decide +kernel
theorem dX12_keep_11 : decode cX12_keep 11 = .ok (.ireturn, 1) := by decide +kernel
theorem dX12_again_0 : decode cX12_again 0 = .ok (.aload_n 0, 1) := by decide +kernel
theorem dX12_again_1 : decode cX12_again 1 = .ok (.getfield 420, 3) := by decide +kernel
theorem dX12_again_4 : decode cX12_again 4 = .ok (.ifCond .ne 6, 3) := by decide +kernel
theorem dX12_again_7 : decode cX12_again 7 = .ok (.bipush (-3), 2) := by decide +kernel
theorem dX12_again_9 : decode cX12_again 9 = .ok (.ireturn, 1) := by decide +kernel
theorem dX12_again_10 : decode cX12_again 10 = .ok (.aload_n 0, 1) := by decide +kernel
theorem dX12_again_11 : decode cX12_again 11 = .ok (.iconst 0, 1) := by decide +kernel
theorem dX12_again_12 : decode cX12_again 12 = .ok (.invokevirtual 416, 3) := by decide +kernel
theorem dX12_again_15 : decode cX12_again 15 = .ok (.aload_n 0, 1) := by decide +kernel
theorem dX12_again_16 : decode cX12_again 16 = .ok (.aload_n 0, 1) := by decide +kernel
theorem dX12_again_17 : decode cX12_again 17 = .ok (.getfield 93, 3) := by decide +kernel
theorem dX12_again_20 : decode cX12_again 20 = .ok (.iconst 0, 1) := by decide +kernel
theorem dX12_again_21 : decode cX12_again 21 = .ok (.iaload, 1) := by decide +kernel
theorem dX12_again_22 : decode cX12_again 22 = .ok (.putfield 96, 3) := by decide +kernel
theorem dX12_again_25 : decode cX12_again 25 = .ok (.aload_n 0, 1) := by decide +kernel
theorem dX12_again_26 : decode cX12_again 26 = .ok (.aload_n 0, 1) := by decide +kernel
theorem dX12_again_27 : decode cX12_again 27 = .ok (.getfield 93, 3) := by decide +kernel
theorem dX12_again_30 : decode cX12_again 30 = .ok (.iconst 1, 1) := by decide +kernel
theorem dX12_again_31 : decode cX12_again 31 = .ok (.iaload, 1) := by decide +kernel
theorem dX12_again_32 : decode cX12_again 32 = .ok (.putfield 217, 3) := by decide +kernel
theorem dX12_again_35 : decode cX12_again 35 = .ok (.aload_n 0, 1) := by decide +kernel
theorem dX12_again_36 : decode cX12_again 36 = .ok (.aload_n 0, 1) := by decide +kernel
theorem dX12_again_37 : decode cX12_again 37 = .ok (.getfield 93, 3) := by decide +kernel
theorem dX12_again_40 : decode cX12_again 40 = .ok (.iconst 2, 1) := by decide +kernel
theorem dX12_again_41 : decode cX12_again 41 = .ok (.iaload, 1) := by decide +kernel
theorem dX12_again_42 : decode cX12_again 42 = .ok (.putfield 220, 3) := by decide +kernel
theorem dX12_again_45 : decode cX12_again 45 = .ok (.aload_n 0, 1) := by decide +kernel
theorem dX12_again_46 : decode cX12_again 46 = .ok (.aload_n 0, 1) := by decide +kernel
theorem dX12_again_47 : decode cX12_again 47 = .ok (.getfield 93, 3) := by decide +kernel
theorem dX12_again_50 : decode cX12_again 50 = .ok (.iconst 3, 1) := by decide +kernel
theorem dX12_again_51 : decode cX12_again 51 = .ok (.iaload, 1) := by decide +kernel
theorem dX12_again_52 : decode cX12_again 52 = .ok (.putfield 223, 3) := by decide +kernel
theorem dX12_again_55 : decode cX12_again 55 = .ok (.aload_n 0, 1) := by decide +kernel
theorem dX12_again_56 : decode cX12_again 56 = .ok (.aload_n 0, 1) := by decide +kernel
theorem dX12_again_57 : decode cX12_again 57 = .ok (.getfield 93, 3) := by decide +kernel
theorem dX12_again_60 : decode cX12_again 60 = .ok (.iconst 4, 1) := by decide +kernel
theorem dX12_again_61 : decode cX12_again 61 = .ok (.iaload, 1) := by decide +kernel
theorem dX12_again_62 : decode cX12_again 62 = .ok (.putfield 226, 3) := by decide +kernel
theorem dX12_again_65 : decode cX12_again 65 = .ok (.aload_n 0, 1) := by decide +kernel
theorem dX12_again_66 : decode cX12_again 66 = .ok (.aload_n 0, 1) := by decide +kernel
theorem dX12_again_67 : decode cX12_again 67 = .ok (.getfield 93, 3) := by decide +kernel
theorem dX12_again_70 : decode cX12_again 70 = .ok (.iconst 5, 1) := by decide +kernel
theorem dX12_again_71 : decode cX12_again 71 = .ok (.iaload, 1) := by decide +kernel
theorem dX12_again_72 : decode cX12_again 72 = .ok (.putfield 324, 3) := by decide +kernel
theorem dX12_again_75 : decode cX12_again 75 = .ok (.aload_n 0, 1) := by decide +kernel
theorem dX12_again_76 : decode cX12_again 76 = .ok (.aload_n 0, 1) := by decide +kernel
theorem dX12_again_77 : decode cX12_again 77 = .ok (.getfield 93, 3) := by decide +kernel
theorem dX12_again_80 : decode cX12_again 80 = .ok (.bipush 6, 2) := by decide +kernel
theorem dX12_again_82 : decode cX12_again 82 = .ok (.iaload, 1) := by decide +kernel
theorem dX12_again_83 : decode cX12_again 83 = .ok (.putfield 34, 3) := by decide +kernel
theorem dX12_again_86 : decode cX12_again 86 = .ok (.aload_n 0, 1) := by decide +kernel
theorem dX12_again_87 : decode cX12_again 87 = .ok (.getfield 96, 3) := by decide +kernel
theorem dX12_again_90 : decode cX12_again 90 = .ok (.ireturn, 1) := by decide +kernel
theorem dJ9_max_7cf53_0 : decode cJ9_max_7cf53 0 = .ok (.iload_n 0, 1) := by decide +kernel
theorem dJ9_max_7cf53_1 : decode cJ9_max_7cf53 1 = .ok (.iload_n 1, 1) := by decide +kernel
theorem dJ9_max_7cf53_2 : decode cJ9_max_7cf53 2 = .ok (.if_icmp .lt 7, 3) := by decide +kernel
theorem dJ9_max_7cf53_5 : decode cJ9_max_7cf53 5 = .ok (.iload_n 0, 1) := by decide +kernel
theorem dJ9_max_7cf53_6 : decode cJ9_max_7cf53 6 = .ok (.goto 4, 3) := by decide +kernel
theorem dJ9_max_7cf53_9 : decode cJ9_max_7cf53 9 = .ok (.iload_n 1, 1) := by decide +kernel
theorem dJ9_max_7cf53_10 : decode cJ9_max_7cf53 10 = .ok (.ireturn, 1) := by decide +kernel
theorem dJ9_min_7cf53_0 : decode cJ9_min_7cf53 0 = .ok (.iload_n 0, 1) := by decide +kernel
theorem dJ9_min_7cf53_1 : decode cJ9_min_7cf53 1 = .ok (.iload_n 1, 1) := by decide +kernel
theorem dJ9_min_7cf53_2 : decode cJ9_min_7cf53 2 = .ok (.if_icmp .gt 7, 3) := by decide +kernel
theorem dJ9_min_7cf53_5 : decode cJ9_min_7cf53 5 = .ok (.iload_n 0, 1) := by decide +kernel
theorem dJ9_min_7cf53_6 : decode cJ9_min_7cf53 6 = .ok (.goto 4, 3) := by decide +kernel
theorem dJ9_min_7cf53_9 : decode cJ9_min_7cf53 9 = .ok (.iload_n 1, 1) := by decide +kernel
theorem dJ9_min_7cf53_10 : decode cJ9_min_7cf53 10 = .ok (.ireturn, 1) := by decide +kernel
theorem dJ0_length_8abf5_0 : decode cJ0_length_8abf5 0 = .ok (.aload_n 0, 1) := by decide +kernel
theorem dJ0_length_8abf5_1 : decode cJ0_length_8abf5 1 = .ok (.getfield 9, 3) := by decide +kernel
theorem dJ0_length_8abf5_4 : decode cJ0_length_8abf5 4 = .ok (.arraylength, 1) := by decide +kernel
theorem dJ0_length_8abf5_5 : decode cJ0_length_8abf5 5 = .ok (.aload_n 0, 1) := by decide +kernel
theorem dJ0_length_8abf5_6 : decode cJ0_length_8abf5 6 = .ok (.invokevirtual 335, 3) := by decide +kernel
theorem dJ0_length_8abf5_9 : decode cJ0_length_8abf5 9 = .ok (.ishr, 1) := by decide +kernel
theorem dJ0_length_8abf5_10 : decode cJ0_length_8abf5 10 = .ok (.ireturn, 1) := by decide +kernel
theorem dJ0_charAt_5068e_0 : decode cJ0_charAt_5068e 0 = .ok (.aload_n 0, 1) := by decide +kernel
theorem dJ0_charAt_5068e_1 : decode cJ0_charAt_5068e 1 = .ok (.invokevirtual 492, 3) := by decide +kernel
theorem dJ0_charAt_5068e_4 : decode cJ0_charAt_5068e 4 = .ok (.ifCond .eq 12, 3) := by decide +kernel
theorem dJ0_charAt_5068e_7 : decode cJ0_charAt_5068e 7 = .ok (.aload_n 0, 1) := by decide +kernel
theorem dJ0_charAt_5068e_8 : decode cJ0_charAt_5068e 8 = .ok (.getfield 9, 3) := by decide +kernel
theorem dJ0_charAt_5068e_11 : decode cJ0_charAt_5068e 11 = .ok (.iload_n 1, 1) := by decide +kernel
theorem dJ0_charAt_5068e_12 : decode cJ0_charAt_5068e 12 = .ok (.invokestatic 495, 3) := by decide +kernel
theorem dJ0_charAt_5068e_15 : decode cJ0_charAt_5068e 15 = .ok (.ireturn, 1) := by decide +kernel
theorem dJ0_charAt_5068e_16 : decode cJ0_charAt_5068e 16 = .ok (.aload_n 0, 1) := by decide +kernel
theorem dJ0_charAt_5068e_17 : decode cJ0_charAt_5068e 17 = .ok (.getfield 9, 3) := by decide +kernel
theorem dJ0_charAt_5068e_20 : decode cJ0_charAt_5068e 20 = .ok (.iload_n 1, 1) := by decide +kernel
theorem dJ0_charAt_5068e_21 : decode cJ0_charAt_5068e 21 = .ok (.invokestatic 498, 3) := by decide +kernel
theorem dJ0_charAt_5068e_24 : decode cJ0_charAt_5068e 24 = .ok (.ireturn, 1) := by decide +kernel
theorem dJ0_coder_7d493_0 : decode cJ0_coder_7d493 0 = .ok (.getstatic 38, 3) := by decide +kernel
theorem dJ0_coder_7d493_3 : decode cJ0_coder_7d493 3 = .ok (.ifCond .eq 10, 3) := by decide +kernel
theorem dJ0_coder_7d493_6 : decode cJ0_coder_7d493 6 = .ok (.aload_n 0, 1) := by decide +kernel
theorem dJ0_coder_7d493_7 : decode cJ0_coder_7d493 7 = .ok (.getfield 15, 3) := by decide +kernel
theorem dJ0_coder_7d493_10 : decode cJ0_coder_7d493 10 = .ok (.goto 4, 3) := by decide +kernel
theorem dJ0_coder_7d493_13 : decode cJ0_coder_7d493 13 = .ok (.iconst 1, 1) := by decide +kernel
theorem dJ0_coder_7d493_14 : decode cJ0_coder_7d493 14 = .ok (.ireturn, 1) := by decide +kernel
theorem dJ0_isLatin1_aae02_0 : decode cJ0_isLatin1_aae02 0 = .ok (.getstatic 38, 3) := by decide +kernel
theorem dJ0_isLatin1_aae02_3 : decode cJ0_isLatin1_aae02 3 = .ok (.ifCond .eq 14, 3) := by decide +kernel
theorem dJ0_isLatin1_aae02_6 : decode cJ0_isLatin1_aae02 6 = .ok (.aload_n 0, 1) := by decide +kernel
theorem dJ0_isLatin1_aae02_7 : decode cJ0_isLatin1_aae02 7 = .ok (.getfield 15, 3) := by decide +kernel
theorem dJ0_isLatin1_aae02_10 : decode cJ0_isLatin1_aae02 10 = .ok (.ifCond .ne 7, 3) := by decide +kernel
theorem dJ0_isLatin1_aae02_13 : decode cJ0_isLatin1_aae02 13 = .ok (.iconst 1, 1) := by decide +kernel
theorem dJ0_isLatin1_aae02_14 : decode cJ0_isLatin1_aae02 14 = .ok (.goto 4, 3) := by decide +kernel
theorem dJ0_isLatin1_aae02_17 : decode cJ0_isLatin1_aae02 17 = .ok (.iconst 0, 1) := by decide +kernel
theorem dJ0_isLatin1_aae02_18 : decode cJ0_isLatin1_aae02 18 = .ok (.ireturn, 1) := by decide +kernel
theorem dJ0_checkIndex_df160_0 : decode cJ0_checkIndex_df160 0 = .ok (.iload_n 0, 1) := by decide +kernel
theorem dJ0_checkIndex_df160_1 : decode cJ0_checkIndex_df160 1 = .ok (.iload_n 1, 1) := by decide +kernel
theorem dJ0_checkIndex_df160_2 : decode cJ0_checkIndex_df160 2 = .ok (.getstatic 1053, 3) := by decide +kernel
theorem dJ0_checkIndex_df160_5 : decode cJ0_checkIndex_df160 5 = .ok (.invokestatic 1059, 3) := by decide +kernel
theorem dJ0_checkIndex_df160_8 : decode cJ0_checkIndex_df160 8 = .ok (.pop, 1) := by decide +kernel
theorem dJ0_checkIndex_df160_9 : decode cJ0_checkIndex_df160 9 = .ok (.return_, 1) := by decide +kernel
theorem dJ1_charAt_3b067_0 : decode cJ1_charAt_3b067 0 = .ok (.iload_n 1, 1) := by decide +kernel
theorem dJ1_charAt_3b067_1 : decode cJ1_charAt_3b067 1 = .ok (.aload_n 0, 1) := by decide +kernel
theorem dJ1_charAt_3b067_2 : decode cJ1_charAt_3b067 2 = .ok (.arraylength, 1) := by decide +kernel
theorem dJ1_charAt_3b067_3 : decode cJ1_charAt_3b067 3 = .ok (.invokestatic 9, 3) := by decide +kernel
theorem dJ1_charAt_3b067_6 : decode cJ1_charAt_3b067 6 = .ok (.aload_n 0, 1) := by decide +kernel
theorem dJ1_charAt_3b067_7 : decode cJ1_charAt_3b067 7 = .ok (.iload_n 1, 1) := by decide +kernel
theorem dJ1_charAt_3b067_8 : decode cJ1_charAt_3b067 8 = .ok (.baload, 1) := by decide +kernel
theorem dJ1_charAt_3b067_9 : decode cJ1_charAt_3b067 9 = .ok (.sipush 255, 3) := by decide +kernel
theorem dJ1_charAt_3b067_12 : decode cJ1_charAt_3b067 12 = .ok (.iand, 1) := by decide +kernel
theorem dJ1_charAt_3b067_13 : decode cJ1_charAt_3b067 13 = .ok (.i2c, 1) := by decide +kernel
theorem dJ1_charAt_3b067_14 : decode cJ1_charAt_3b067 14 = .ok (.ireturn, 1) := by decide +kernel
theorem dJ2_getChar_3b067_0 : decode cJ2_getChar_3b067 0 = .ok (.getstatic 44, 3) := by decide +kernel
theorem dJ2_getChar_3b067_3 : decode cJ2_getChar_3b067 3 = .ok (.ifCond .ne 25, 3) := by decide +kernel
theorem dJ2_getChar_3b067_6 : decode cJ2_getChar_3b067 6 = .ok (.iload_n 1, 1) := by decide +kernel
theorem dJ2_getChar_3b067_7 : decode cJ2_getChar_3b067 7 = .ok (.ifCond .lt 11, 3) := by decide +kernel
theorem dJ2_getChar_3b067_10 : decode cJ2_getChar_3b067 10 = .ok (.iload_n 1, 1) := by decide +kernel
theorem dJ2_getChar_3b067_11 : decode cJ2_getChar_3b067 11 = .ok (.aload_n 0, 1) := by decide +kernel
theorem dJ2_getChar_3b067_12 : decode cJ2_getChar_3b067 12 = .ok (.invokestatic 48, 3) := by decide +kernel
theorem dJ2_getChar_3b067_15 : decode cJ2_getChar_3b067 15 = .ok (.if_icmp .lt 13, 3) := by decide +kernel
theorem dJ2_getChar_3b067_18 : decode cJ2_getChar_3b067 18 = .ok (.new 52, 3) := by decide +kernel
theorem dJ2_getChar_3b067_21 : decode cJ2_getChar_3b067 21 = .ok (.dup, 1) := by decide +kernel
theorem dJ2_getChar_3b067_22 : decode cJ2_getChar_3b067 22 = .ok (.ldc 54, 2) := by decide +kernel
theorem dJ2_getChar_3b067_24 : decode cJ2_getChar_3b067 24 = .ok (.invokespecial 56, 3) := by decide +kernel
theorem dJ2_getChar_3b067_27 : decode cJ2_getChar_3b067 27 = .ok (.athrow, 1) := by decide +kernel
theorem dJ2_getChar_3b067_28 : decode cJ2_getChar_3b067 28 = .ok (.iload_n 1, 1) := by decide +kernel
theorem dJ2_getChar_3b067_29 : decode cJ2_getChar_3b067 29 = .ok (.iconst 1, 1) := by decide +kernel
theorem dJ2_getChar_3b067_30 : decode cJ2_getChar_3b067 30 = .ok (.ishl, 1) := by decide +kernel
theorem dJ2_getChar_3b067_31 : decode cJ2_getChar_3b067 31 = .ok (.istore_n 1, 1) := by decide +kernel
theorem dJ2_getChar_3b067_32 : decode cJ2_getChar_3b067 32 = .ok (.aload_n 0, 1) := by decide +kernel
theorem dJ2_getChar_3b067_33 : decode cJ2_getChar_3b067 33 = .ok (.iload_n 1, 1) := by decide +kernel
theorem dJ2_getChar_3b067_34 : decode cJ2_getChar_3b067 34 = .ok (.iinc 1 1, 3) := by decide +kernel
theorem dJ2_getChar_3b067_37 : decode cJ2_getChar_3b067 37 = .ok (.baload, 1) := by decide +kernel
theorem dJ2_getChar_3b067_38 : decode cJ2_getChar_3b067 38 = .ok (.sipush 255, 3) := by decide +kernel
theorem dJ2_getChar_3b067_41 : decode cJ2_getChar_3b067 41 = .ok (.iand, 1) := by decide +kernel
theorem dJ2_getChar_3b067_42 : decode cJ2_getChar_3b067 42 = .ok (.getstatic 59, 3) := by decide +kernel
theorem dJ2_getChar_3b067_45 : decode cJ2_getChar_3b067 45 = .ok (.ishl, 1) := by decide +kernel
theorem dJ2_getChar_3b067_46 : decode cJ2_getChar_3b067 46 = .ok (.aload_n 0, 1) := by decide +kernel
theorem dJ2_getChar_3b067_47 : decode cJ2_getChar_3b067 47 = .ok (.iload_n 1, 1) := by decide +kernel
theorem dJ2_getChar_3b067_48 : decode cJ2_getChar_3b067 48 = .ok (.baload, 1) := by decide +kernel
theorem dJ2_getChar_3b067_49 : decode cJ2_getChar_3b067 49 = .ok (.sipush 255, 3) := by decide +kernel
theorem dJ2_getChar_3b067_52 : decode cJ2_getChar_3b067 52 = .ok (.iand, 1) := by decide +kernel
theorem dJ2_getChar_3b067_53 : decode cJ2_getChar_3b067 53 = .ok (.getstatic 63, 3) := by decide +kernel
theorem dJ2_getChar_3b067_56 : decode cJ2_getChar_3b067 56 = .ok (.ishl, 1) := by decide +kernel
theorem dJ2_getChar_3b067_57 : decode cJ2_getChar_3b067 57 = .ok (.ior, 1) := by decide +kernel
theorem dJ2_getChar_3b067_58 : decode cJ2_getChar_3b067 58 = .ok (.i2c, 1) := by decide +kernel
theorem dJ2_getChar_3b067_59 : decode cJ2_getChar_3b067 59 = .ok (.ireturn, 1) := by decide +kernel
theorem dJ2_length_9d52b_0 : decode cJ2_length_9d52b 0 = .ok (.aload_n 0, 1) := by decide +kernel
theorem dJ2_length_9d52b_1 : decode cJ2_length_9d52b 1 = .ok (.arraylength, 1) := by decide +kernel
theorem dJ2_length_9d52b_2 : decode cJ2_length_9d52b 2 = .ok (.iconst 1, 1) := by decide +kernel
theorem dJ2_length_9d52b_3 : decode cJ2_length_9d52b 3 = .ok (.ishr, 1) := by decide +kernel
theorem dJ2_length_9d52b_4 : decode cJ2_length_9d52b 4 = .ok (.ireturn, 1) := by decide +kernel
theorem dJ2_charAt_3b067_0 : decode cJ2_charAt_3b067 0 = .ok (.iload_n 1, 1) := by decide +kernel
theorem dJ2_charAt_3b067_1 : decode cJ2_charAt_3b067 1 = .ok (.aload_n 0, 1) := by decide +kernel
theorem dJ2_charAt_3b067_2 : decode cJ2_charAt_3b067 2 = .ok (.invokestatic 67, 3) := by decide +kernel
theorem dJ2_charAt_3b067_5 : decode cJ2_charAt_3b067 5 = .ok (.aload_n 0, 1) := by decide +kernel
theorem dJ2_charAt_3b067_6 : decode cJ2_charAt_3b067 6 = .ok (.iload_n 1, 1) := by decide +kernel
theorem dJ2_charAt_3b067_7 : decode cJ2_charAt_3b067 7 = .ok (.invokestatic 71, 3) := by decide +kernel
theorem dJ2_charAt_3b067_10 : decode cJ2_charAt_3b067 10 = .ok (.ireturn, 1) := by decide +kernel
theorem dJ2_checkIndex_2214a_0 : decode cJ2_checkIndex_2214a 0 = .ok (.iload_n 0, 1) := by decide +kernel
theorem dJ2_checkIndex_2214a_1 : decode cJ2_checkIndex_2214a 1 = .ok (.aload_n 1, 1) := by decide +kernel
theorem dJ2_checkIndex_2214a_2 : decode cJ2_checkIndex_2214a 2 = .ok (.invokestatic 48, 3) := by decide +kernel
theorem dJ2_checkIndex_2214a_5 : decode cJ2_checkIndex_2214a 5 = .ok (.invokestatic 414, 3) := by decide +kernel
theorem dJ2_checkIndex_2214a_8 : decode cJ2_checkIndex_2214a 8 = .ok (.return_, 1) := by decide +kernel
theorem dJ3_checkIndex_8e157_0 : decode cJ3_checkIndex_8e157 0 = .ok (.iload_n 0, 1) := by decide +kernel
theorem dJ3_checkIndex_8e157_1 : decode cJ3_checkIndex_8e157 1 = .ok (.ifCond .lt 8, 3) := by decide +kernel
theorem dJ3_checkIndex_8e157_4 : decode cJ3_checkIndex_8e157 4 = .ok (.iload_n 0, 1) := by decide +kernel
theorem dJ3_checkIndex_8e157_5 : decode cJ3_checkIndex_8e157 5 = .ok (.iload_n 1, 1) := by decide +kernel
theorem dJ3_checkIndex_8e157_6 : decode cJ3_checkIndex_8e157 6 = .ok (.if_icmp .lt 10, 3) := by decide +kernel
theorem dJ3_checkIndex_8e157_9 : decode cJ3_checkIndex_8e157 9 = .ok (.aload_n 2, 1) := by decide +kernel
theorem dJ3_checkIndex_8e157_10 : decode cJ3_checkIndex_8e157 10 = .ok (.iload_n 0, 1) := by decide +kernel
theorem dJ3_checkIndex_8e157_11 : decode cJ3_checkIndex_8e157 11 = .ok (.iload_n 1, 1) := by decide +kernel
theorem dJ3_checkIndex_8e157_12 : decode cJ3_checkIndex_8e157 12 = .ok (.invokestatic 95, 3) := by decide +kernel
theorem dJ3_checkIndex_8e157_15 : decode cJ3_checkIndex_8e157 15 = .ok (.athrow, 1) := by decide +kernel
theorem dJ3_checkIndex_8e157_16 : decode cJ3_checkIndex_8e157 16 = .ok (.iload_n 0, 1) := by decide +kernel
theorem dJ3_checkIndex_8e157_17 : decode cJ3_checkIndex_8e157 17 = .ok (.ireturn, 1) := by decide +kernel
theorem dL_law_0 : decode cL_law 0 = .ok (.new 7, 3) := by decide +kernel
theorem dL_law_3 : decode cL_law 3 = .ok (.dup, 1) := by decide +kernel
theorem dL_law_4 : decode cL_law 4 = .ok (.invokespecial 9, 3) := by decide +kernel
theorem dL_law_7 : decode cL_law 7 = .ok (.astore_n 1, 1) := by decide +kernel
theorem dL_law_8 : decode cL_law 8 = .ok (.new 10, 3) := by decide +kernel
theorem dL_law_11 : decode cL_law 11 = .ok (.dup, 1) := by decide +kernel
theorem dL_law_12 : decode cL_law 12 = .ok (.invokespecial 12, 3) := by decide +kernel
theorem dL_law_15 : decode cL_law 15 = .ok (.astore_n 2, 1) := by decide +kernel
theorem dL_law_16 : decode cL_law 16 = .ok (.iconst 0, 1) := by decide +kernel
theorem dL_law_17 : decode cL_law 17 = .ok (.istore_n 3, 1) := by decide +kernel
theorem dL_law_18 : decode cL_law 18 = .ok (.iload_n 3, 1) := by decide +kernel
theorem dL_law_19 : decode cL_law 19 = .ok (.aload_n 0, 1) := by decide +kernel
theorem dL_law_20 : decode cL_law 20 = .ok (.arraylength, 1) := by decide +kernel
theorem dL_law_21 : decode cL_law 21 = .ok (.bipush 7, 2) := by decide +kernel
theorem dL_law_23 : decode cL_law 23 = .ok (.isub, 1) := by decide +kernel
theorem dL_law_24 : decode cL_law 24 = .ok (.if_icmp .gt 1517, 3) := by decide +kernel
theorem dL_law_27 : decode cL_law 27 = .ok (.aload_n 0, 1) := by decide +kernel
theorem dL_law_28 : decode cL_law 28 = .ok (.iload_n 3, 1) := by decide +kernel
theorem dL_law_29 : decode cL_law 29 = .ok (.iaload, 1) := by decide +kernel
theorem dL_law_30 : decode cL_law 30 = .ok (.bipush 63, 2) := by decide +kernel
theorem dL_law_32 : decode cL_law 32 = .ok (.iand, 1) := by decide +kernel
theorem dL_law_33 : decode cL_law 33 = .ok (.tableswitch 1502 0 44 #[195, 258, 271, 334, 367, 390, 423, 456, 489, 512, 535, 558, 581, 604, 617, 630, 653, 666, 709, 772, 795, 808, 831, 854, 877, 952, 985, 1018, 1031, 1054, 1067, 1080, 1093, 1126, 1169, 1182, 1225, 1268, 1311, 1354, 1387, 1430, 1453, 1476, 1489], 195) := by decide +kernel
theorem dL_law_228 : decode cL_law 228 = .ok (.aload_n 1, 1) := by decide +kernel
theorem dL_law_229 : decode cL_law 229 = .ok (.aload_n 0, 1) := by decide +kernel
theorem dL_law_230 : decode cL_law 230 = .ok (.iload_n 3, 1) := by decide +kernel
theorem dL_law_231 : decode cL_law 231 = .ok (.iconst 1, 1) := by decide +kernel
theorem dL_law_232 : decode cL_law 232 = .ok (.iadd, 1) := by decide +kernel
theorem dL_law_233 : decode cL_law 233 = .ok (.iaload, 1) := by decide +kernel
theorem dL_law_234 : decode cL_law 234 = .ok (.i2l, 1) := by decide +kernel
theorem dL_law_235 : decode cL_law 235 = .ok (.bipush 32, 2) := by decide +kernel
theorem dL_law_237 : decode cL_law 237 = .ok (.lshl, 1) := by decide +kernel
theorem dL_law_238 : decode cL_law 238 = .ok (.aload_n 0, 1) := by decide +kernel
theorem dL_law_239 : decode cL_law 239 = .ok (.iload_n 3, 1) := by decide +kernel
theorem dL_law_240 : decode cL_law 240 = .ok (.iconst 2, 1) := by decide +kernel
theorem dL_law_241 : decode cL_law 241 = .ok (.iadd, 1) := by decide +kernel
theorem dL_law_242 : decode cL_law 242 = .ok (.iaload, 1) := by decide +kernel
theorem dL_law_243 : decode cL_law 243 = .ok (.i2l, 1) := by decide +kernel
theorem dL_law_244 : decode cL_law 244 = .ok (.ldc2_w 13, 3) := by decide +kernel
theorem dL_law_247 : decode cL_law 247 = .ok (.land, 1) := by decide +kernel
theorem dL_law_248 : decode cL_law 248 = .ok (.lor, 1) := by decide +kernel
theorem dL_law_249 : decode cL_law 249 = .ok (.aload_n 0, 1) := by decide +kernel
theorem dL_law_250 : decode cL_law 250 = .ok (.iload_n 3, 1) := by decide +kernel
theorem dL_law_251 : decode cL_law 251 = .ok (.iconst 3, 1) := by decide +kernel
theorem dL_law_252 : decode cL_law 252 = .ok (.iadd, 1) := by decide +kernel
theorem dL_law_253 : decode cL_law 253 = .ok (.iaload, 1) := by decide +kernel
theorem dL_law_254 : decode cL_law 254 = .ok (.invokevirtual 15, 3) := by decide +kernel
theorem dL_law_257 : decode cL_law 257 = .ok (.aload_n 2, 1) := by decide +kernel
theorem dL_law_258 : decode cL_law 258 = .ok (.aload_n 0, 1) := by decide +kernel
theorem dL_law_259 : decode cL_law 259 = .ok (.iload_n 3, 1) := by decide +kernel
theorem dL_law_260 : decode cL_law 260 = .ok (.iconst 1, 1) := by decide +kernel
theorem dL_law_261 : decode cL_law 261 = .ok (.iadd, 1) := by decide +kernel
theorem dL_law_262 : decode cL_law 262 = .ok (.iaload, 1) := by decide +kernel
theorem dL_law_263 : decode cL_law 263 = .ok (.i2l, 1) := by decide +kernel
theorem dL_law_264 : decode cL_law 264 = .ok (.bipush 32, 2) := by decide +kernel
theorem dL_law_266 : decode cL_law 266 = .ok (.lshl, 1) := by decide +kernel
theorem dL_law_267 : decode cL_law 267 = .ok (.aload_n 0, 1) := by decide +kernel
theorem dL_law_268 : decode cL_law 268 = .ok (.iload_n 3, 1) := by decide +kernel
theorem dL_law_269 : decode cL_law 269 = .ok (.iconst 2, 1) := by decide +kernel
theorem dL_law_270 : decode cL_law 270 = .ok (.iadd, 1) := by decide +kernel
theorem dL_law_271 : decode cL_law 271 = .ok (.iaload, 1) := by decide +kernel
theorem dL_law_272 : decode cL_law 272 = .ok (.i2l, 1) := by decide +kernel
theorem dL_law_273 : decode cL_law 273 = .ok (.ldc2_w 13, 3) := by decide +kernel
theorem dL_law_276 : decode cL_law 276 = .ok (.land, 1) := by decide +kernel
theorem dL_law_277 : decode cL_law 277 = .ok (.lor, 1) := by decide +kernel
theorem dL_law_278 : decode cL_law 278 = .ok (.aload_n 0, 1) := by decide +kernel
theorem dL_law_279 : decode cL_law 279 = .ok (.iload_n 3, 1) := by decide +kernel
theorem dL_law_280 : decode cL_law 280 = .ok (.iconst 3, 1) := by decide +kernel
theorem dL_law_281 : decode cL_law 281 = .ok (.iadd, 1) := by decide +kernel
theorem dL_law_282 : decode cL_law 282 = .ok (.iaload, 1) := by decide +kernel
theorem dL_law_283 : decode cL_law 283 = .ok (.invokevirtual 19, 3) := by decide +kernel
theorem dL_law_286 : decode cL_law 286 = .ok (.if_icmp .eq 1249, 3) := by decide +kernel
theorem dL_law_289 : decode cL_law 289 = .ok (.iconst 0, 1) := by decide +kernel
theorem dL_law_290 : decode cL_law 290 = .ok (.ireturn, 1) := by decide +kernel
theorem dL_law_291 : decode cL_law 291 = .ok (.aload_n 1, 1) := by decide +kernel
theorem dL_law_292 : decode cL_law 292 = .ok (.invokevirtual 20, 3) := by decide +kernel
theorem dL_law_295 : decode cL_law 295 = .ok (.aload_n 2, 1) := by decide +kernel
theorem dL_law_296 : decode cL_law 296 = .ok (.invokevirtual 24, 3) := by decide +kernel
theorem dL_law_299 : decode cL_law 299 = .ok (.if_icmp .eq 1236, 3) := by decide +kernel
theorem dL_law_302 : decode cL_law 302 = .ok (.iconst 0, 1) := by decide +kernel
theorem dL_law_303 : decode cL_law 303 = .ok (.ireturn, 1) := by decide +kernel
theorem dL_law_304 : decode cL_law 304 = .ok (.aload_n 1, 1) := by decide +kernel
theorem dL_law_305 : decode cL_law 305 = .ok (.aload_n 0, 1) := by decide +kernel
theorem dL_law_306 : decode cL_law 306 = .ok (.iload_n 3, 1) := by decide +kernel
theorem dL_law_307 : decode cL_law 307 = .ok (.iconst 1, 1) := by decide +kernel
theorem dL_law_308 : decode cL_law 308 = .ok (.iadd, 1) := by decide +kernel
theorem dL_law_309 : decode cL_law 309 = .ok (.iaload, 1) := by decide +kernel
theorem dL_law_310 : decode cL_law 310 = .ok (.aload_n 0, 1) := by decide +kernel
theorem dL_law_311 : decode cL_law 311 = .ok (.iload_n 3, 1) := by decide +kernel
theorem dL_law_312 : decode cL_law 312 = .ok (.iconst 2, 1) := by decide +kernel
theorem dL_law_313 : decode cL_law 313 = .ok (.iadd, 1) := by decide +kernel
theorem dL_law_314 : decode cL_law 314 = .ok (.iaload, 1) := by decide +kernel
theorem dL_law_315 : decode cL_law 315 = .ok (.aload_n 0, 1) := by decide +kernel
theorem dL_law_316 : decode cL_law 316 = .ok (.iload_n 3, 1) := by decide +kernel
theorem dL_law_317 : decode cL_law 317 = .ok (.iconst 3, 1) := by decide +kernel
theorem dL_law_318 : decode cL_law 318 = .ok (.iadd, 1) := by decide +kernel
theorem dL_law_319 : decode cL_law 319 = .ok (.iaload, 1) := by decide +kernel
theorem dL_law_320 : decode cL_law 320 = .ok (.aload_n 0, 1) := by decide +kernel
theorem dL_law_321 : decode cL_law 321 = .ok (.iload_n 3, 1) := by decide +kernel
theorem dL_law_322 : decode cL_law 322 = .ok (.iconst 4, 1) := by decide +kernel
theorem dL_law_323 : decode cL_law 323 = .ok (.iadd, 1) := by decide +kernel
theorem dL_law_324 : decode cL_law 324 = .ok (.iaload, 1) := by decide +kernel
theorem dL_law_325 : decode cL_law 325 = .ok (.aload_n 0, 1) := by decide +kernel
theorem dL_law_326 : decode cL_law 326 = .ok (.iload_n 3, 1) := by decide +kernel
theorem dL_law_327 : decode cL_law 327 = .ok (.iconst 5, 1) := by decide +kernel
theorem dL_law_328 : decode cL_law 328 = .ok (.iadd, 1) := by decide +kernel
theorem dL_law_329 : decode cL_law 329 = .ok (.iaload, 1) := by decide +kernel
theorem dL_law_330 : decode cL_law 330 = .ok (.invokevirtual 25, 3) := by decide +kernel
theorem dL_law_333 : decode cL_law 333 = .ok (.aload_n 2, 1) := by decide +kernel
theorem dL_law_334 : decode cL_law 334 = .ok (.aload_n 0, 1) := by decide +kernel
theorem dL_law_335 : decode cL_law 335 = .ok (.iload_n 3, 1) := by decide +kernel
theorem dL_law_336 : decode cL_law 336 = .ok (.iconst 1, 1) := by decide +kernel
theorem dL_law_337 : decode cL_law 337 = .ok (.iadd, 1) := by decide +kernel
theorem dL_law_338 : decode cL_law 338 = .ok (.iaload, 1) := by decide +kernel
theorem dL_law_339 : decode cL_law 339 = .ok (.aload_n 0, 1) := by decide +kernel
theorem dL_law_340 : decode cL_law 340 = .ok (.iload_n 3, 1) := by decide +kernel
theorem dL_law_341 : decode cL_law 341 = .ok (.iconst 2, 1) := by decide +kernel
theorem dL_law_342 : decode cL_law 342 = .ok (.iadd, 1) := by decide +kernel
theorem dL_law_343 : decode cL_law 343 = .ok (.iaload, 1) := by decide +kernel
theorem dL_law_344 : decode cL_law 344 = .ok (.aload_n 0, 1) := by decide +kernel
theorem dL_law_345 : decode cL_law 345 = .ok (.iload_n 3, 1) := by decide +kernel
theorem dL_law_346 : decode cL_law 346 = .ok (.iconst 3, 1) := by decide +kernel
theorem dL_law_347 : decode cL_law 347 = .ok (.iadd, 1) := by decide +kernel
theorem dL_law_348 : decode cL_law 348 = .ok (.iaload, 1) := by decide +kernel
theorem dL_law_349 : decode cL_law 349 = .ok (.aload_n 0, 1) := by decide +kernel
theorem dL_law_350 : decode cL_law 350 = .ok (.iload_n 3, 1) := by decide +kernel
theorem dL_law_351 : decode cL_law 351 = .ok (.iconst 4, 1) := by decide +kernel
theorem dL_law_352 : decode cL_law 352 = .ok (.iadd, 1) := by decide +kernel
theorem dL_law_353 : decode cL_law 353 = .ok (.iaload, 1) := by decide +kernel
theorem dL_law_354 : decode cL_law 354 = .ok (.aload_n 0, 1) := by decide +kernel
theorem dL_law_355 : decode cL_law 355 = .ok (.iload_n 3, 1) := by decide +kernel
theorem dL_law_356 : decode cL_law 356 = .ok (.iconst 5, 1) := by decide +kernel
theorem dL_law_357 : decode cL_law 357 = .ok (.iadd, 1) := by decide +kernel
theorem dL_law_358 : decode cL_law 358 = .ok (.iaload, 1) := by decide +kernel
theorem dL_law_359 : decode cL_law 359 = .ok (.invokevirtual 29, 3) := by decide +kernel
theorem dL_law_362 : decode cL_law 362 = .ok (.if_icmp .eq 1173, 3) := by decide +kernel
theorem dL_law_365 : decode cL_law 365 = .ok (.iconst 0, 1) := by decide +kernel
theorem dL_law_366 : decode cL_law 366 = .ok (.ireturn, 1) := by decide +kernel
theorem dL_law_367 : decode cL_law 367 = .ok (.aload_n 1, 1) := by decide +kernel
theorem dL_law_368 : decode cL_law 368 = .ok (.aload_n 0, 1) := by decide +kernel
theorem dL_law_369 : decode cL_law 369 = .ok (.iload_n 3, 1) := by decide +kernel
theorem dL_law_370 : decode cL_law 370 = .ok (.iconst 1, 1) := by decide +kernel
theorem dL_law_371 : decode cL_law 371 = .ok (.iadd, 1) := by decide +kernel
theorem dL_law_372 : decode cL_law 372 = .ok (.iaload, 1) := by decide +kernel
theorem dL_law_373 : decode cL_law 373 = .ok (.aload_n 0, 1) := by decide +kernel
theorem dL_law_374 : decode cL_law 374 = .ok (.iload_n 3, 1) := by decide +kernel
theorem dL_law_375 : decode cL_law 375 = .ok (.iconst 2, 1) := by decide +kernel
theorem dL_law_376 : decode cL_law 376 = .ok (.iadd, 1) := by decide +kernel
theorem dL_law_377 : decode cL_law 377 = .ok (.iaload, 1) := by decide +kernel
theorem dL_law_378 : decode cL_law 378 = .ok (.invokevirtual 30, 3) := by decide +kernel
theorem dL_law_381 : decode cL_law 381 = .ok (.aload_n 2, 1) := by decide +kernel
theorem dL_law_382 : decode cL_law 382 = .ok (.aload_n 0, 1) := by decide +kernel
theorem dL_law_383 : decode cL_law 383 = .ok (.iload_n 3, 1) := by decide +kernel
theorem dL_law_384 : decode cL_law 384 = .ok (.iconst 1, 1) := by decide +kernel
theorem dL_law_385 : decode cL_law 385 = .ok (.iadd, 1) := by decide +kernel
theorem dL_law_386 : decode cL_law 386 = .ok (.iaload, 1) := by decide +kernel
theorem dL_law_387 : decode cL_law 387 = .ok (.aload_n 0, 1) := by decide +kernel
theorem dL_law_388 : decode cL_law 388 = .ok (.iload_n 3, 1) := by decide +kernel
theorem dL_law_389 : decode cL_law 389 = .ok (.iconst 2, 1) := by decide +kernel
theorem dL_law_390 : decode cL_law 390 = .ok (.iadd, 1) := by decide +kernel
theorem dL_law_391 : decode cL_law 391 = .ok (.iaload, 1) := by decide +kernel
theorem dL_law_392 : decode cL_law 392 = .ok (.invokevirtual 34, 3) := by decide +kernel
theorem dL_law_395 : decode cL_law 395 = .ok (.if_icmp .eq 1140, 3) := by decide +kernel
theorem dL_law_398 : decode cL_law 398 = .ok (.iconst 0, 1) := by decide +kernel
theorem dL_law_399 : decode cL_law 399 = .ok (.ireturn, 1) := by decide +kernel
theorem dL_law_400 : decode cL_law 400 = .ok (.aload_n 1, 1) := by decide +kernel
theorem dL_law_401 : decode cL_law 401 = .ok (.aload_n 0, 1) := by decide +kernel
theorem dL_law_402 : decode cL_law 402 = .ok (.iload_n 3, 1) := by decide +kernel
theorem dL_law_403 : decode cL_law 403 = .ok (.iconst 1, 1) := by decide +kernel
theorem dL_law_404 : decode cL_law 404 = .ok (.iadd, 1) := by decide +kernel
theorem dL_law_405 : decode cL_law 405 = .ok (.iaload, 1) := by decide +kernel
theorem dL_law_406 : decode cL_law 406 = .ok (.invokevirtual 35, 3) := by decide +kernel
theorem dL_law_409 : decode cL_law 409 = .ok (.aload_n 2, 1) := by decide +kernel
theorem dL_law_410 : decode cL_law 410 = .ok (.aload_n 0, 1) := by decide +kernel
theorem dL_law_411 : decode cL_law 411 = .ok (.iload_n 3, 1) := by decide +kernel
theorem dL_law_412 : decode cL_law 412 = .ok (.iconst 1, 1) := by decide +kernel
theorem dL_law_413 : decode cL_law 413 = .ok (.iadd, 1) := by decide +kernel
theorem dL_law_414 : decode cL_law 414 = .ok (.iaload, 1) := by decide +kernel
theorem dL_law_415 : decode cL_law 415 = .ok (.invokevirtual 39, 3) := by decide +kernel
theorem dL_law_418 : decode cL_law 418 = .ok (.if_icmp .eq 1117, 3) := by decide +kernel
theorem dL_law_421 : decode cL_law 421 = .ok (.iconst 0, 1) := by decide +kernel
theorem dL_law_422 : decode cL_law 422 = .ok (.ireturn, 1) := by decide +kernel
theorem dL_law_423 : decode cL_law 423 = .ok (.aload_n 1, 1) := by decide +kernel
theorem dL_law_424 : decode cL_law 424 = .ok (.aload_n 0, 1) := by decide +kernel
theorem dL_law_425 : decode cL_law 425 = .ok (.iload_n 3, 1) := by decide +kernel
theorem dL_law_426 : decode cL_law 426 = .ok (.iconst 1, 1) := by decide +kernel
theorem dL_law_427 : decode cL_law 427 = .ok (.iadd, 1) := by decide +kernel
theorem dL_law_428 : decode cL_law 428 = .ok (.iaload, 1) := by decide +kernel
theorem dL_law_429 : decode cL_law 429 = .ok (.aload_n 0, 1) := by decide +kernel
theorem dL_law_430 : decode cL_law 430 = .ok (.iload_n 3, 1) := by decide +kernel
theorem dL_law_431 : decode cL_law 431 = .ok (.iconst 2, 1) := by decide +kernel
theorem dL_law_432 : decode cL_law 432 = .ok (.iadd, 1) := by decide +kernel
theorem dL_law_433 : decode cL_law 433 = .ok (.iaload, 1) := by decide +kernel
theorem dL_law_434 : decode cL_law 434 = .ok (.invokevirtual 40, 3) := by decide +kernel
theorem dL_law_437 : decode cL_law 437 = .ok (.aload_n 2, 1) := by decide +kernel
theorem dL_law_438 : decode cL_law 438 = .ok (.aload_n 0, 1) := by decide +kernel
theorem dL_law_439 : decode cL_law 439 = .ok (.iload_n 3, 1) := by decide +kernel
theorem dL_law_440 : decode cL_law 440 = .ok (.iconst 1, 1) := by decide +kernel
theorem dL_law_441 : decode cL_law 441 = .ok (.iadd, 1) := by decide +kernel
theorem dL_law_442 : decode cL_law 442 = .ok (.iaload, 1) := by decide +kernel
theorem dL_law_443 : decode cL_law 443 = .ok (.aload_n 0, 1) := by decide +kernel
theorem dL_law_444 : decode cL_law 444 = .ok (.iload_n 3, 1) := by decide +kernel
theorem dL_law_445 : decode cL_law 445 = .ok (.iconst 2, 1) := by decide +kernel
theorem dL_law_446 : decode cL_law 446 = .ok (.iadd, 1) := by decide +kernel
theorem dL_law_447 : decode cL_law 447 = .ok (.iaload, 1) := by decide +kernel
theorem dL_law_448 : decode cL_law 448 = .ok (.invokevirtual 43, 3) := by decide +kernel
theorem dL_law_451 : decode cL_law 451 = .ok (.if_icmp .eq 1084, 3) := by decide +kernel
theorem dL_law_454 : decode cL_law 454 = .ok (.iconst 0, 1) := by decide +kernel
theorem dL_law_455 : decode cL_law 455 = .ok (.ireturn, 1) := by decide +kernel
theorem dL_law_456 : decode cL_law 456 = .ok (.aload_n 1, 1) := by decide +kernel
theorem dL_law_457 : decode cL_law 457 = .ok (.aload_n 0, 1) := by decide +kernel
theorem dL_law_458 : decode cL_law 458 = .ok (.iload_n 3, 1) := by decide +kernel
theorem dL_law_459 : decode cL_law 459 = .ok (.iconst 1, 1) := by decide +kernel
theorem dL_law_460 : decode cL_law 460 = .ok (.iadd, 1) := by decide +kernel
theorem dL_law_461 : decode cL_law 461 = .ok (.iaload, 1) := by decide +kernel
theorem dL_law_462 : decode cL_law 462 = .ok (.aload_n 0, 1) := by decide +kernel
theorem dL_law_463 : decode cL_law 463 = .ok (.iload_n 3, 1) := by decide +kernel
theorem dL_law_464 : decode cL_law 464 = .ok (.iconst 2, 1) := by decide +kernel
theorem dL_law_465 : decode cL_law 465 = .ok (.iadd, 1) := by decide +kernel
theorem dL_law_466 : decode cL_law 466 = .ok (.iaload, 1) := by decide +kernel
theorem dL_law_467 : decode cL_law 467 = .ok (.invokevirtual 44, 3) := by decide +kernel
theorem dL_law_470 : decode cL_law 470 = .ok (.aload_n 2, 1) := by decide +kernel
theorem dL_law_471 : decode cL_law 471 = .ok (.aload_n 0, 1) := by decide +kernel
theorem dL_law_472 : decode cL_law 472 = .ok (.iload_n 3, 1) := by decide +kernel
theorem dL_law_473 : decode cL_law 473 = .ok (.iconst 1, 1) := by decide +kernel
theorem dL_law_474 : decode cL_law 474 = .ok (.iadd, 1) := by decide +kernel
theorem dL_law_475 : decode cL_law 475 = .ok (.iaload, 1) := by decide +kernel
theorem dL_law_476 : decode cL_law 476 = .ok (.aload_n 0, 1) := by decide +kernel
theorem dL_law_477 : decode cL_law 477 = .ok (.iload_n 3, 1) := by decide +kernel
theorem dL_law_478 : decode cL_law 478 = .ok (.iconst 2, 1) := by decide +kernel
theorem dL_law_479 : decode cL_law 479 = .ok (.iadd, 1) := by decide +kernel
theorem dL_law_480 : decode cL_law 480 = .ok (.iaload, 1) := by decide +kernel
theorem dL_law_481 : decode cL_law 481 = .ok (.invokevirtual 47, 3) := by decide +kernel
theorem dL_law_484 : decode cL_law 484 = .ok (.if_icmp .eq 1051, 3) := by decide +kernel
theorem dL_law_487 : decode cL_law 487 = .ok (.iconst 0, 1) := by decide +kernel
theorem dL_law_488 : decode cL_law 488 = .ok (.ireturn, 1) := by decide +kernel
theorem dL_law_489 : decode cL_law 489 = .ok (.aload_n 1, 1) := by decide +kernel
theorem dL_law_490 : decode cL_law 490 = .ok (.aload_n 0, 1) := by decide +kernel
theorem dL_law_491 : decode cL_law 491 = .ok (.iload_n 3, 1) := by decide +kernel
theorem dL_law_492 : decode cL_law 492 = .ok (.iconst 1, 1) := by decide +kernel
theorem dL_law_493 : decode cL_law 493 = .ok (.iadd, 1) := by decide +kernel
theorem dL_law_494 : decode cL_law 494 = .ok (.iaload, 1) := by decide +kernel
theorem dL_law_495 : decode cL_law 495 = .ok (.aload_n 0, 1) := by decide +kernel
theorem dL_law_496 : decode cL_law 496 = .ok (.iload_n 3, 1) := by decide +kernel
theorem dL_law_497 : decode cL_law 497 = .ok (.iconst 2, 1) := by decide +kernel
theorem dL_law_498 : decode cL_law 498 = .ok (.iadd, 1) := by decide +kernel
theorem dL_law_499 : decode cL_law 499 = .ok (.iaload, 1) := by decide +kernel
theorem dL_law_500 : decode cL_law 500 = .ok (.invokevirtual 48, 3) := by decide +kernel
theorem dL_law_503 : decode cL_law 503 = .ok (.aload_n 2, 1) := by decide +kernel
theorem dL_law_504 : decode cL_law 504 = .ok (.aload_n 0, 1) := by decide +kernel
theorem dL_law_505 : decode cL_law 505 = .ok (.iload_n 3, 1) := by decide +kernel
theorem dL_law_506 : decode cL_law 506 = .ok (.iconst 1, 1) := by decide +kernel
theorem dL_law_507 : decode cL_law 507 = .ok (.iadd, 1) := by decide +kernel
theorem dL_law_508 : decode cL_law 508 = .ok (.iaload, 1) := by decide +kernel
theorem dL_law_509 : decode cL_law 509 = .ok (.aload_n 0, 1) := by decide +kernel
theorem dL_law_510 : decode cL_law 510 = .ok (.iload_n 3, 1) := by decide +kernel
theorem dL_law_511 : decode cL_law 511 = .ok (.iconst 2, 1) := by decide +kernel
theorem dL_law_512 : decode cL_law 512 = .ok (.iadd, 1) := by decide +kernel
theorem dL_law_513 : decode cL_law 513 = .ok (.iaload, 1) := by decide +kernel
theorem dL_law_514 : decode cL_law 514 = .ok (.invokevirtual 51, 3) := by decide +kernel
theorem dL_law_517 : decode cL_law 517 = .ok (.if_icmp .eq 1018, 3) := by decide +kernel
theorem dL_law_520 : decode cL_law 520 = .ok (.iconst 0, 1) := by decide +kernel
theorem dL_law_521 : decode cL_law 521 = .ok (.ireturn, 1) := by decide +kernel
theorem dL_law_522 : decode cL_law 522 = .ok (.aload_n 1, 1) := by decide +kernel
theorem dL_law_523 : decode cL_law 523 = .ok (.aload_n 0, 1) := by decide +kernel
theorem dL_law_524 : decode cL_law 524 = .ok (.iload_n 3, 1) := by decide +kernel
theorem dL_law_525 : decode cL_law 525 = .ok (.iconst 1, 1) := by decide +kernel
theorem dL_law_526 : decode cL_law 526 = .ok (.iadd, 1) := by decide +kernel
theorem dL_law_527 : decode cL_law 527 = .ok (.iaload, 1) := by decide +kernel
theorem dL_law_528 : decode cL_law 528 = .ok (.invokevirtual 52, 3) := by decide +kernel
theorem dL_law_531 : decode cL_law 531 = .ok (.aload_n 2, 1) := by decide +kernel
theorem dL_law_532 : decode cL_law 532 = .ok (.aload_n 0, 1) := by decide +kernel
theorem dL_law_533 : decode cL_law 533 = .ok (.iload_n 3, 1) := by decide +kernel
theorem dL_law_534 : decode cL_law 534 = .ok (.iconst 1, 1) := by decide +kernel
theorem dL_law_535 : decode cL_law 535 = .ok (.iadd, 1) := by decide +kernel
theorem dL_law_536 : decode cL_law 536 = .ok (.iaload, 1) := by decide +kernel
theorem dL_law_537 : decode cL_law 537 = .ok (.invokevirtual 55, 3) := by decide +kernel
theorem dL_law_540 : decode cL_law 540 = .ok (.if_icmp .eq 995, 3) := by decide +kernel
theorem dL_law_543 : decode cL_law 543 = .ok (.iconst 0, 1) := by decide +kernel
theorem dL_law_544 : decode cL_law 544 = .ok (.ireturn, 1) := by decide +kernel
theorem dL_law_545 : decode cL_law 545 = .ok (.aload_n 1, 1) := by decide +kernel
theorem dL_law_546 : decode cL_law 546 = .ok (.aload_n 0, 1) := by decide +kernel
theorem dL_law_547 : decode cL_law 547 = .ok (.iload_n 3, 1) := by decide +kernel
theorem dL_law_548 : decode cL_law 548 = .ok (.iconst 1, 1) := by decide +kernel
theorem dL_law_549 : decode cL_law 549 = .ok (.iadd, 1) := by decide +kernel
theorem dL_law_550 : decode cL_law 550 = .ok (.iaload, 1) := by decide +kernel
theorem dL_law_551 : decode cL_law 551 = .ok (.invokevirtual 56, 3) := by decide +kernel
theorem dL_law_554 : decode cL_law 554 = .ok (.aload_n 2, 1) := by decide +kernel
theorem dL_law_555 : decode cL_law 555 = .ok (.aload_n 0, 1) := by decide +kernel
theorem dL_law_556 : decode cL_law 556 = .ok (.iload_n 3, 1) := by decide +kernel
theorem dL_law_557 : decode cL_law 557 = .ok (.iconst 1, 1) := by decide +kernel
theorem dL_law_558 : decode cL_law 558 = .ok (.iadd, 1) := by decide +kernel
theorem dL_law_559 : decode cL_law 559 = .ok (.iaload, 1) := by decide +kernel
theorem dL_law_560 : decode cL_law 560 = .ok (.invokevirtual 59, 3) := by decide +kernel
theorem dL_law_563 : decode cL_law 563 = .ok (.if_icmp .eq 972, 3) := by decide +kernel
theorem dL_law_566 : decode cL_law 566 = .ok (.iconst 0, 1) := by decide +kernel
theorem dL_law_567 : decode cL_law 567 = .ok (.ireturn, 1) := by decide +kernel
theorem dL_law_568 : decode cL_law 568 = .ok (.aload_n 1, 1) := by decide +kernel
theorem dL_law_569 : decode cL_law 569 = .ok (.aload_n 0, 1) := by decide +kernel
theorem dL_law_570 : decode cL_law 570 = .ok (.iload_n 3, 1) := by decide +kernel
theorem dL_law_571 : decode cL_law 571 = .ok (.iconst 1, 1) := by decide +kernel
theorem dL_law_572 : decode cL_law 572 = .ok (.iadd, 1) := by decide +kernel
theorem dL_law_573 : decode cL_law 573 = .ok (.iaload, 1) := by decide +kernel
theorem dL_law_574 : decode cL_law 574 = .ok (.invokevirtual 60, 3) := by decide +kernel
theorem dL_law_577 : decode cL_law 577 = .ok (.aload_n 2, 1) := by decide +kernel
theorem dL_law_578 : decode cL_law 578 = .ok (.aload_n 0, 1) := by decide +kernel
theorem dL_law_579 : decode cL_law 579 = .ok (.iload_n 3, 1) := by decide +kernel
theorem dL_law_580 : decode cL_law 580 = .ok (.iconst 1, 1) := by decide +kernel
theorem dL_law_581 : decode cL_law 581 = .ok (.iadd, 1) := by decide +kernel
theorem dL_law_582 : decode cL_law 582 = .ok (.iaload, 1) := by decide +kernel
theorem dL_law_583 : decode cL_law 583 = .ok (.invokevirtual 63, 3) := by decide +kernel
theorem dL_law_586 : decode cL_law 586 = .ok (.if_icmp .eq 949, 3) := by decide +kernel
theorem dL_law_589 : decode cL_law 589 = .ok (.iconst 0, 1) := by decide +kernel
theorem dL_law_590 : decode cL_law 590 = .ok (.ireturn, 1) := by decide +kernel
theorem dL_law_591 : decode cL_law 591 = .ok (.aload_n 1, 1) := by decide +kernel
theorem dL_law_592 : decode cL_law 592 = .ok (.aload_n 0, 1) := by decide +kernel
theorem dL_law_593 : decode cL_law 593 = .ok (.iload_n 3, 1) := by decide +kernel
theorem dL_law_594 : decode cL_law 594 = .ok (.iconst 1, 1) := by decide +kernel
theorem dL_law_595 : decode cL_law 595 = .ok (.iadd, 1) := by decide +kernel
theorem dL_law_596 : decode cL_law 596 = .ok (.iaload, 1) := by decide +kernel
theorem dL_law_597 : decode cL_law 597 = .ok (.invokevirtual 64, 3) := by decide +kernel
theorem dL_law_600 : decode cL_law 600 = .ok (.aload_n 2, 1) := by decide +kernel
theorem dL_law_601 : decode cL_law 601 = .ok (.aload_n 0, 1) := by decide +kernel
theorem dL_law_602 : decode cL_law 602 = .ok (.iload_n 3, 1) := by decide +kernel
theorem dL_law_603 : decode cL_law 603 = .ok (.iconst 1, 1) := by decide +kernel
theorem dL_law_604 : decode cL_law 604 = .ok (.iadd, 1) := by decide +kernel
theorem dL_law_605 : decode cL_law 605 = .ok (.iaload, 1) := by decide +kernel
theorem dL_law_606 : decode cL_law 606 = .ok (.invokevirtual 67, 3) := by decide +kernel
theorem dL_law_609 : decode cL_law 609 = .ok (.if_icmp .eq 926, 3) := by decide +kernel
theorem dL_law_612 : decode cL_law 612 = .ok (.iconst 0, 1) := by decide +kernel
theorem dL_law_613 : decode cL_law 613 = .ok (.ireturn, 1) := by decide +kernel
theorem dL_law_614 : decode cL_law 614 = .ok (.aload_n 1, 1) := by decide +kernel
theorem dL_law_615 : decode cL_law 615 = .ok (.aload_n 0, 1) := by decide +kernel
theorem dL_law_616 : decode cL_law 616 = .ok (.iload_n 3, 1) := by decide +kernel
theorem dL_law_617 : decode cL_law 617 = .ok (.iconst 1, 1) := by decide +kernel
theorem dL_law_618 : decode cL_law 618 = .ok (.iadd, 1) := by decide +kernel
theorem dL_law_619 : decode cL_law 619 = .ok (.iaload, 1) := by decide +kernel
theorem dL_law_620 : decode cL_law 620 = .ok (.invokevirtual 68, 3) := by decide +kernel
theorem dL_law_623 : decode cL_law 623 = .ok (.aload_n 2, 1) := by decide +kernel
theorem dL_law_624 : decode cL_law 624 = .ok (.aload_n 0, 1) := by decide +kernel
theorem dL_law_625 : decode cL_law 625 = .ok (.iload_n 3, 1) := by decide +kernel
theorem dL_law_626 : decode cL_law 626 = .ok (.iconst 1, 1) := by decide +kernel
theorem dL_law_627 : decode cL_law 627 = .ok (.iadd, 1) := by decide +kernel
theorem dL_law_628 : decode cL_law 628 = .ok (.iaload, 1) := by decide +kernel
theorem dL_law_629 : decode cL_law 629 = .ok (.invokevirtual 71, 3) := by decide +kernel
theorem dL_law_632 : decode cL_law 632 = .ok (.if_icmp .eq 903, 3) := by decide +kernel
theorem dL_law_635 : decode cL_law 635 = .ok (.iconst 0, 1) := by decide +kernel
theorem dL_law_636 : decode cL_law 636 = .ok (.ireturn, 1) := by decide +kernel
theorem dL_law_637 : decode cL_law 637 = .ok (.aload_n 1, 1) := by decide +kernel
theorem dL_law_638 : decode cL_law 638 = .ok (.invokevirtual 72, 3) := by decide +kernel
theorem dL_law_641 : decode cL_law 641 = .ok (.aload_n 2, 1) := by decide +kernel
theorem dL_law_642 : decode cL_law 642 = .ok (.invokevirtual 75, 3) := by decide +kernel
theorem dL_law_645 : decode cL_law 645 = .ok (.if_icmp .eq 890, 3) := by decide +kernel
theorem dL_law_648 : decode cL_law 648 = .ok (.iconst 0, 1) := by decide +kernel
theorem dL_law_649 : decode cL_law 649 = .ok (.ireturn, 1) := by decide +kernel
theorem dL_law_650 : decode cL_law 650 = .ok (.aload_n 1, 1) := by decide +kernel
theorem dL_law_651 : decode cL_law 651 = .ok (.invokevirtual 76, 3) := by decide +kernel
theorem dL_law_654 : decode cL_law 654 = .ok (.aload_n 2, 1) := by decide +kernel
theorem dL_law_655 : decode cL_law 655 = .ok (.invokevirtual 79, 3) := by decide +kernel
theorem dL_law_658 : decode cL_law 658 = .ok (.if_icmp .eq 877, 3) := by decide +kernel
theorem dL_law_661 : decode cL_law 661 = .ok (.iconst 0, 1) := by decide +kernel
theorem dL_law_662 : decode cL_law 662 = .ok (.ireturn, 1) := by decide +kernel
theorem dL_law_663 : decode cL_law 663 = .ok (.aload_n 1, 1) := by decide +kernel
theorem dL_law_664 : decode cL_law 664 = .ok (.aload_n 0, 1) := by decide +kernel
theorem dL_law_665 : decode cL_law 665 = .ok (.iload_n 3, 1) := by decide +kernel
theorem dL_law_666 : decode cL_law 666 = .ok (.iconst 1, 1) := by decide +kernel
theorem dL_law_667 : decode cL_law 667 = .ok (.iadd, 1) := by decide +kernel
theorem dL_law_668 : decode cL_law 668 = .ok (.iaload, 1) := by decide +kernel
theorem dL_law_669 : decode cL_law 669 = .ok (.invokevirtual 80, 3) := by decide +kernel
theorem dL_law_672 : decode cL_law 672 = .ok (.aload_n 2, 1) := by decide +kernel
theorem dL_law_673 : decode cL_law 673 = .ok (.aload_n 0, 1) := by decide +kernel
theorem dL_law_674 : decode cL_law 674 = .ok (.iload_n 3, 1) := by decide +kernel
theorem dL_law_675 : decode cL_law 675 = .ok (.iconst 1, 1) := by decide +kernel
theorem dL_law_676 : decode cL_law 676 = .ok (.iadd, 1) := by decide +kernel
theorem dL_law_677 : decode cL_law 677 = .ok (.iaload, 1) := by decide +kernel
theorem dL_law_678 : decode cL_law 678 = .ok (.invokevirtual 83, 3) := by decide +kernel
theorem dL_law_681 : decode cL_law 681 = .ok (.if_icmp .eq 854, 3) := by decide +kernel
theorem dL_law_684 : decode cL_law 684 = .ok (.iconst 0, 1) := by decide +kernel
theorem dL_law_685 : decode cL_law 685 = .ok (.ireturn, 1) := by decide +kernel
theorem dL_law_686 : decode cL_law 686 = .ok (.aload_n 1, 1) := by decide +kernel
theorem dL_law_687 : decode cL_law 687 = .ok (.invokevirtual 84, 3) := by decide +kernel
theorem dL_law_690 : decode cL_law 690 = .ok (.aload_n 2, 1) := by decide +kernel
theorem dL_law_691 : decode cL_law 691 = .ok (.invokevirtual 87, 3) := by decide +kernel
theorem dL_law_694 : decode cL_law 694 = .ok (.if_icmp .eq 841, 3) := by decide +kernel
theorem dL_law_697 : decode cL_law 697 = .ok (.iconst 0, 1) := by decide +kernel
theorem dL_law_698 : decode cL_law 698 = .ok (.ireturn, 1) := by decide +kernel
theorem dL_law_699 : decode cL_law 699 = .ok (.aload_n 1, 1) := by decide +kernel
theorem dL_law_700 : decode cL_law 700 = .ok (.aload_n 0, 1) := by decide +kernel
theorem dL_law_701 : decode cL_law 701 = .ok (.iload_n 3, 1) := by decide +kernel
theorem dL_law_702 : decode cL_law 702 = .ok (.iconst 1, 1) := by decide +kernel
theorem dL_law_703 : decode cL_law 703 = .ok (.iadd, 1) := by decide +kernel
theorem dL_law_704 : decode cL_law 704 = .ok (.iaload, 1) := by decide +kernel
theorem dL_law_705 : decode cL_law 705 = .ok (.aload_n 0, 1) := by decide +kernel
theorem dL_law_706 : decode cL_law 706 = .ok (.iload_n 3, 1) := by decide +kernel
theorem dL_law_707 : decode cL_law 707 = .ok (.iconst 2, 1) := by decide +kernel
theorem dL_law_708 : decode cL_law 708 = .ok (.iadd, 1) := by decide +kernel
theorem dL_law_709 : decode cL_law 709 = .ok (.iaload, 1) := by decide +kernel
theorem dL_law_710 : decode cL_law 710 = .ok (.aload_n 0, 1) := by decide +kernel
theorem dL_law_711 : decode cL_law 711 = .ok (.iload_n 3, 1) := by decide +kernel
theorem dL_law_712 : decode cL_law 712 = .ok (.iconst 3, 1) := by decide +kernel
theorem dL_law_713 : decode cL_law 713 = .ok (.iadd, 1) := by decide +kernel
theorem dL_law_714 : decode cL_law 714 = .ok (.iaload, 1) := by decide +kernel
theorem dL_law_715 : decode cL_law 715 = .ok (.invokevirtual 88, 3) := by decide +kernel
theorem dL_law_718 : decode cL_law 718 = .ok (.aload_n 2, 1) := by decide +kernel
theorem dL_law_719 : decode cL_law 719 = .ok (.aload_n 0, 1) := by decide +kernel
theorem dL_law_720 : decode cL_law 720 = .ok (.iload_n 3, 1) := by decide +kernel
theorem dL_law_721 : decode cL_law 721 = .ok (.iconst 1, 1) := by decide +kernel
theorem dL_law_722 : decode cL_law 722 = .ok (.iadd, 1) := by decide +kernel
theorem dL_law_723 : decode cL_law 723 = .ok (.iaload, 1) := by decide +kernel
theorem dL_law_724 : decode cL_law 724 = .ok (.aload_n 0, 1) := by decide +kernel
theorem dL_law_725 : decode cL_law 725 = .ok (.iload_n 3, 1) := by decide +kernel
theorem dL_law_726 : decode cL_law 726 = .ok (.iconst 2, 1) := by decide +kernel
theorem dL_law_727 : decode cL_law 727 = .ok (.iadd, 1) := by decide +kernel
theorem dL_law_728 : decode cL_law 728 = .ok (.iaload, 1) := by decide +kernel
theorem dL_law_729 : decode cL_law 729 = .ok (.aload_n 0, 1) := by decide +kernel
theorem dL_law_730 : decode cL_law 730 = .ok (.iload_n 3, 1) := by decide +kernel
theorem dL_law_731 : decode cL_law 731 = .ok (.iconst 3, 1) := by decide +kernel
theorem dL_law_732 : decode cL_law 732 = .ok (.iadd, 1) := by decide +kernel
theorem dL_law_733 : decode cL_law 733 = .ok (.iaload, 1) := by decide +kernel
theorem dL_law_734 : decode cL_law 734 = .ok (.invokevirtual 92, 3) := by decide +kernel
theorem dL_law_737 : decode cL_law 737 = .ok (.if_icmp .eq 798, 3) := by decide +kernel
theorem dL_law_740 : decode cL_law 740 = .ok (.iconst 0, 1) := by decide +kernel
theorem dL_law_741 : decode cL_law 741 = .ok (.ireturn, 1) := by decide +kernel
theorem dL_law_742 : decode cL_law 742 = .ok (.aload_n 1, 1) := by decide +kernel
theorem dL_law_743 : decode cL_law 743 = .ok (.aload_n 0, 1) := by decide +kernel
theorem dL_law_744 : decode cL_law 744 = .ok (.iload_n 3, 1) := by decide +kernel
theorem dL_law_745 : decode cL_law 745 = .ok (.iconst 1, 1) := by decide +kernel
theorem dL_law_746 : decode cL_law 746 = .ok (.iadd, 1) := by decide +kernel
theorem dL_law_747 : decode cL_law 747 = .ok (.iaload, 1) := by decide +kernel
theorem dL_law_748 : decode cL_law 748 = .ok (.aload_n 0, 1) := by decide +kernel
theorem dL_law_749 : decode cL_law 749 = .ok (.iload_n 3, 1) := by decide +kernel
theorem dL_law_750 : decode cL_law 750 = .ok (.iconst 2, 1) := by decide +kernel
theorem dL_law_751 : decode cL_law 751 = .ok (.iadd, 1) := by decide +kernel
theorem dL_law_752 : decode cL_law 752 = .ok (.iaload, 1) := by decide +kernel
theorem dL_law_753 : decode cL_law 753 = .ok (.aload_n 0, 1) := by decide +kernel
theorem dL_law_754 : decode cL_law 754 = .ok (.iload_n 3, 1) := by decide +kernel
theorem dL_law_755 : decode cL_law 755 = .ok (.iconst 3, 1) := by decide +kernel
theorem dL_law_756 : decode cL_law 756 = .ok (.iadd, 1) := by decide +kernel
theorem dL_law_757 : decode cL_law 757 = .ok (.iaload, 1) := by decide +kernel
theorem dL_law_758 : decode cL_law 758 = .ok (.aload_n 0, 1) := by decide +kernel
theorem dL_law_759 : decode cL_law 759 = .ok (.iload_n 3, 1) := by decide +kernel
theorem dL_law_760 : decode cL_law 760 = .ok (.iconst 4, 1) := by decide +kernel
theorem dL_law_761 : decode cL_law 761 = .ok (.iadd, 1) := by decide +kernel
theorem dL_law_762 : decode cL_law 762 = .ok (.iaload, 1) := by decide +kernel
theorem dL_law_763 : decode cL_law 763 = .ok (.aload_n 0, 1) := by decide +kernel
theorem dL_law_764 : decode cL_law 764 = .ok (.iload_n 3, 1) := by decide +kernel
theorem dL_law_765 : decode cL_law 765 = .ok (.iconst 5, 1) := by decide +kernel
theorem dL_law_766 : decode cL_law 766 = .ok (.iadd, 1) := by decide +kernel
theorem dL_law_767 : decode cL_law 767 = .ok (.iaload, 1) := by decide +kernel
theorem dL_law_768 : decode cL_law 768 = .ok (.invokevirtual 93, 3) := by decide +kernel
theorem dL_law_771 : decode cL_law 771 = .ok (.aload_n 2, 1) := by decide +kernel
theorem dL_law_772 : decode cL_law 772 = .ok (.aload_n 0, 1) := by decide +kernel
theorem dL_law_773 : decode cL_law 773 = .ok (.iload_n 3, 1) := by decide +kernel
theorem dL_law_774 : decode cL_law 774 = .ok (.iconst 1, 1) := by decide +kernel
theorem dL_law_775 : decode cL_law 775 = .ok (.iadd, 1) := by decide +kernel
theorem dL_law_776 : decode cL_law 776 = .ok (.iaload, 1) := by decide +kernel
theorem dL_law_777 : decode cL_law 777 = .ok (.aload_n 0, 1) := by decide +kernel
theorem dL_law_778 : decode cL_law 778 = .ok (.iload_n 3, 1) := by decide +kernel
theorem dL_law_779 : decode cL_law 779 = .ok (.iconst 2, 1) := by decide +kernel
theorem dL_law_780 : decode cL_law 780 = .ok (.iadd, 1) := by decide +kernel
theorem dL_law_781 : decode cL_law 781 = .ok (.iaload, 1) := by decide +kernel
theorem dL_law_782 : decode cL_law 782 = .ok (.aload_n 0, 1) := by decide +kernel
theorem dL_law_783 : decode cL_law 783 = .ok (.iload_n 3, 1) := by decide +kernel
theorem dL_law_784 : decode cL_law 784 = .ok (.iconst 3, 1) := by decide +kernel
theorem dL_law_785 : decode cL_law 785 = .ok (.iadd, 1) := by decide +kernel
theorem dL_law_786 : decode cL_law 786 = .ok (.iaload, 1) := by decide +kernel
theorem dL_law_787 : decode cL_law 787 = .ok (.aload_n 0, 1) := by decide +kernel
theorem dL_law_788 : decode cL_law 788 = .ok (.iload_n 3, 1) := by decide +kernel
theorem dL_law_789 : decode cL_law 789 = .ok (.iconst 4, 1) := by decide +kernel
theorem dL_law_790 : decode cL_law 790 = .ok (.iadd, 1) := by decide +kernel
theorem dL_law_791 : decode cL_law 791 = .ok (.iaload, 1) := by decide +kernel
theorem dL_law_792 : decode cL_law 792 = .ok (.aload_n 0, 1) := by decide +kernel
theorem dL_law_793 : decode cL_law 793 = .ok (.iload_n 3, 1) := by decide +kernel
theorem dL_law_794 : decode cL_law 794 = .ok (.iconst 5, 1) := by decide +kernel
theorem dL_law_795 : decode cL_law 795 = .ok (.iadd, 1) := by decide +kernel
theorem dL_law_796 : decode cL_law 796 = .ok (.iaload, 1) := by decide +kernel
theorem dL_law_797 : decode cL_law 797 = .ok (.invokevirtual 96, 3) := by decide +kernel
theorem dL_law_800 : decode cL_law 800 = .ok (.if_icmp .eq 735, 3) := by decide +kernel
theorem dL_law_803 : decode cL_law 803 = .ok (.iconst 0, 1) := by decide +kernel
theorem dL_law_804 : decode cL_law 804 = .ok (.ireturn, 1) := by decide +kernel
theorem dL_law_805 : decode cL_law 805 = .ok (.aload_n 1, 1) := by decide +kernel
theorem dL_law_806 : decode cL_law 806 = .ok (.aload_n 0, 1) := by decide +kernel
theorem dL_law_807 : decode cL_law 807 = .ok (.iload_n 3, 1) := by decide +kernel
theorem dL_law_808 : decode cL_law 808 = .ok (.iconst 1, 1) := by decide +kernel
theorem dL_law_809 : decode cL_law 809 = .ok (.iadd, 1) := by decide +kernel
theorem dL_law_810 : decode cL_law 810 = .ok (.iaload, 1) := by decide +kernel
theorem dL_law_811 : decode cL_law 811 = .ok (.invokevirtual 97, 3) := by decide +kernel
theorem dL_law_814 : decode cL_law 814 = .ok (.aload_n 2, 1) := by decide +kernel
theorem dL_law_815 : decode cL_law 815 = .ok (.aload_n 0, 1) := by decide +kernel
theorem dL_law_816 : decode cL_law 816 = .ok (.iload_n 3, 1) := by decide +kernel
theorem dL_law_817 : decode cL_law 817 = .ok (.iconst 1, 1) := by decide +kernel
theorem dL_law_818 : decode cL_law 818 = .ok (.iadd, 1) := by decide +kernel
theorem dL_law_819 : decode cL_law 819 = .ok (.iaload, 1) := by decide +kernel
theorem dL_law_820 : decode cL_law 820 = .ok (.invokevirtual 100, 3) := by decide +kernel
theorem dL_law_823 : decode cL_law 823 = .ok (.if_icmp .eq 712, 3) := by decide +kernel
theorem dL_law_826 : decode cL_law 826 = .ok (.iconst 0, 1) := by decide +kernel
theorem dL_law_827 : decode cL_law 827 = .ok (.ireturn, 1) := by decide +kernel
theorem dL_law_828 : decode cL_law 828 = .ok (.aload_n 1, 1) := by decide +kernel
theorem dL_law_829 : decode cL_law 829 = .ok (.invokevirtual 101, 3) := by decide +kernel
theorem dL_law_832 : decode cL_law 832 = .ok (.aload_n 2, 1) := by decide +kernel
theorem dL_law_833 : decode cL_law 833 = .ok (.invokevirtual 104, 3) := by decide +kernel
theorem dL_law_836 : decode cL_law 836 = .ok (.if_icmp .eq 699, 3) := by decide +kernel
theorem dL_law_839 : decode cL_law 839 = .ok (.iconst 0, 1) := by decide +kernel
theorem dL_law_840 : decode cL_law 840 = .ok (.ireturn, 1) := by decide +kernel
theorem dL_law_841 : decode cL_law 841 = .ok (.aload_n 1, 1) := by decide +kernel
theorem dL_law_842 : decode cL_law 842 = .ok (.aload_n 0, 1) := by decide +kernel
theorem dL_law_843 : decode cL_law 843 = .ok (.iload_n 3, 1) := by decide +kernel
theorem dL_law_844 : decode cL_law 844 = .ok (.iconst 1, 1) := by decide +kernel
theorem dL_law_845 : decode cL_law 845 = .ok (.iadd, 1) := by decide +kernel
theorem dL_law_846 : decode cL_law 846 = .ok (.iaload, 1) := by decide +kernel
theorem dL_law_847 : decode cL_law 847 = .ok (.invokevirtual 105, 3) := by decide +kernel
theorem dL_law_850 : decode cL_law 850 = .ok (.aload_n 2, 1) := by decide +kernel
theorem dL_law_851 : decode cL_law 851 = .ok (.aload_n 0, 1) := by decide +kernel
theorem dL_law_852 : decode cL_law 852 = .ok (.iload_n 3, 1) := by decide +kernel
theorem dL_law_853 : decode cL_law 853 = .ok (.iconst 1, 1) := by decide +kernel
theorem dL_law_854 : decode cL_law 854 = .ok (.iadd, 1) := by decide +kernel
theorem dL_law_855 : decode cL_law 855 = .ok (.iaload, 1) := by decide +kernel
theorem dL_law_856 : decode cL_law 856 = .ok (.invokevirtual 108, 3) := by decide +kernel
theorem dL_law_859 : decode cL_law 859 = .ok (.if_icmp .eq 676, 3) := by decide +kernel
theorem dL_law_862 : decode cL_law 862 = .ok (.iconst 0, 1) := by decide +kernel
theorem dL_law_863 : decode cL_law 863 = .ok (.ireturn, 1) := by decide +kernel
theorem dL_law_864 : decode cL_law 864 = .ok (.aload_n 1, 1) := by decide +kernel
theorem dL_law_865 : decode cL_law 865 = .ok (.aload_n 0, 1) := by decide +kernel
theorem dL_law_866 : decode cL_law 866 = .ok (.iload_n 3, 1) := by decide +kernel
theorem dL_law_867 : decode cL_law 867 = .ok (.iconst 1, 1) := by decide +kernel
theorem dL_law_868 : decode cL_law 868 = .ok (.iadd, 1) := by decide +kernel
theorem dL_law_869 : decode cL_law 869 = .ok (.iaload, 1) := by decide +kernel
theorem dL_law_870 : decode cL_law 870 = .ok (.invokevirtual 109, 3) := by decide +kernel
theorem dL_law_873 : decode cL_law 873 = .ok (.aload_n 2, 1) := by decide +kernel
theorem dL_law_874 : decode cL_law 874 = .ok (.aload_n 0, 1) := by decide +kernel
theorem dL_law_875 : decode cL_law 875 = .ok (.iload_n 3, 1) := by decide +kernel
theorem dL_law_876 : decode cL_law 876 = .ok (.iconst 1, 1) := by decide +kernel
theorem dL_law_877 : decode cL_law 877 = .ok (.iadd, 1) := by decide +kernel
theorem dL_law_878 : decode cL_law 878 = .ok (.iaload, 1) := by decide +kernel
theorem dL_law_879 : decode cL_law 879 = .ok (.invokevirtual 112, 3) := by decide +kernel
theorem dL_law_882 : decode cL_law 882 = .ok (.if_icmp .eq 653, 3) := by decide +kernel
theorem dL_law_885 : decode cL_law 885 = .ok (.iconst 0, 1) := by decide +kernel
theorem dL_law_886 : decode cL_law 886 = .ok (.ireturn, 1) := by decide +kernel
theorem dL_law_887 : decode cL_law 887 = .ok (.aload_n 1, 1) := by decide +kernel
theorem dL_law_888 : decode cL_law 888 = .ok (.aload_n 0, 1) := by decide +kernel
theorem dL_law_889 : decode cL_law 889 = .ok (.iload_n 3, 1) := by decide +kernel
theorem dL_law_890 : decode cL_law 890 = .ok (.iconst 1, 1) := by decide +kernel
theorem dL_law_891 : decode cL_law 891 = .ok (.iadd, 1) := by decide +kernel
theorem dL_law_892 : decode cL_law 892 = .ok (.iaload, 1) := by decide +kernel
theorem dL_law_893 : decode cL_law 893 = .ok (.invokevirtual 113, 3) := by decide +kernel
theorem dL_law_896 : decode cL_law 896 = .ok (.aload_n 2, 1) := by decide +kernel
theorem dL_law_897 : decode cL_law 897 = .ok (.aload_n 0, 1) := by decide +kernel
theorem dL_law_898 : decode cL_law 898 = .ok (.iload_n 3, 1) := by decide +kernel
theorem dL_law_899 : decode cL_law 899 = .ok (.iconst 1, 1) := by decide +kernel
theorem dL_law_900 : decode cL_law 900 = .ok (.iadd, 1) := by decide +kernel
theorem dL_law_901 : decode cL_law 901 = .ok (.iaload, 1) := by decide +kernel
theorem dL_law_902 : decode cL_law 902 = .ok (.invokevirtual 116, 3) := by decide +kernel
theorem dL_law_905 : decode cL_law 905 = .ok (.if_icmp .eq 630, 3) := by decide +kernel
theorem dL_law_908 : decode cL_law 908 = .ok (.iconst 0, 1) := by decide +kernel
theorem dL_law_909 : decode cL_law 909 = .ok (.ireturn, 1) := by decide +kernel
theorem dL_law_910 : decode cL_law 910 = .ok (.aload_n 1, 1) := by decide +kernel
theorem dL_law_911 : decode cL_law 911 = .ok (.aload_n 0, 1) := by decide +kernel
theorem dL_law_912 : decode cL_law 912 = .ok (.iload_n 3, 1) := by decide +kernel
theorem dL_law_913 : decode cL_law 913 = .ok (.iconst 1, 1) := by decide +kernel
theorem dL_law_914 : decode cL_law 914 = .ok (.iadd, 1) := by decide +kernel
theorem dL_law_915 : decode cL_law 915 = .ok (.iaload, 1) := by decide +kernel
theorem dL_law_916 : decode cL_law 916 = .ok (.aload_n 0, 1) := by decide +kernel
theorem dL_law_917 : decode cL_law 917 = .ok (.iload_n 3, 1) := by decide +kernel
theorem dL_law_918 : decode cL_law 918 = .ok (.iconst 2, 1) := by decide +kernel
theorem dL_law_919 : decode cL_law 919 = .ok (.iadd, 1) := by decide +kernel
theorem dL_law_920 : decode cL_law 920 = .ok (.iaload, 1) := by decide +kernel
theorem dL_law_921 : decode cL_law 921 = .ok (.aload_n 0, 1) := by decide +kernel
theorem dL_law_922 : decode cL_law 922 = .ok (.iload_n 3, 1) := by decide +kernel
theorem dL_law_923 : decode cL_law 923 = .ok (.iconst 3, 1) := by decide +kernel
theorem dL_law_924 : decode cL_law 924 = .ok (.iadd, 1) := by decide +kernel
theorem dL_law_925 : decode cL_law 925 = .ok (.iaload, 1) := by decide +kernel
theorem dL_law_926 : decode cL_law 926 = .ok (.aload_n 0, 1) := by decide +kernel
theorem dL_law_927 : decode cL_law 927 = .ok (.iload_n 3, 1) := by decide +kernel
theorem dL_law_928 : decode cL_law 928 = .ok (.iconst 4, 1) := by decide +kernel
theorem dL_law_929 : decode cL_law 929 = .ok (.iadd, 1) := by decide +kernel
theorem dL_law_930 : decode cL_law 930 = .ok (.iaload, 1) := by decide +kernel
theorem dL_law_931 : decode cL_law 931 = .ok (.aload_n 0, 1) := by decide +kernel
theorem dL_law_932 : decode cL_law 932 = .ok (.iload_n 3, 1) := by decide +kernel
theorem dL_law_933 : decode cL_law 933 = .ok (.iconst 5, 1) := by decide +kernel
theorem dL_law_934 : decode cL_law 934 = .ok (.iadd, 1) := by decide +kernel
theorem dL_law_935 : decode cL_law 935 = .ok (.iaload, 1) := by decide +kernel
theorem dL_law_936 : decode cL_law 936 = .ok (.aload_n 0, 1) := by decide +kernel
theorem dL_law_937 : decode cL_law 937 = .ok (.iload_n 3, 1) := by decide +kernel
theorem dL_law_938 : decode cL_law 938 = .ok (.bipush 6, 2) := by decide +kernel
theorem dL_law_940 : decode cL_law 940 = .ok (.iadd, 1) := by decide +kernel
theorem dL_law_941 : decode cL_law 941 = .ok (.iaload, 1) := by decide +kernel
theorem dL_law_942 : decode cL_law 942 = .ok (.invokevirtual 117, 3) := by decide +kernel
theorem dL_law_945 : decode cL_law 945 = .ok (.aload_n 2, 1) := by decide +kernel
theorem dL_law_946 : decode cL_law 946 = .ok (.aload_n 0, 1) := by decide +kernel
theorem dL_law_947 : decode cL_law 947 = .ok (.iload_n 3, 1) := by decide +kernel
theorem dL_law_948 : decode cL_law 948 = .ok (.iconst 1, 1) := by decide +kernel
theorem dL_law_949 : decode cL_law 949 = .ok (.iadd, 1) := by decide +kernel
theorem dL_law_950 : decode cL_law 950 = .ok (.iaload, 1) := by decide +kernel
theorem dL_law_951 : decode cL_law 951 = .ok (.aload_n 0, 1) := by decide +kernel
theorem dL_law_952 : decode cL_law 952 = .ok (.iload_n 3, 1) := by decide +kernel
theorem dL_law_953 : decode cL_law 953 = .ok (.iconst 2, 1) := by decide +kernel
theorem dL_law_954 : decode cL_law 954 = .ok (.iadd, 1) := by decide +kernel
theorem dL_law_955 : decode cL_law 955 = .ok (.iaload, 1) := by decide +kernel
theorem dL_law_956 : decode cL_law 956 = .ok (.aload_n 0, 1) := by decide +kernel
theorem dL_law_957 : decode cL_law 957 = .ok (.iload_n 3, 1) := by decide +kernel
theorem dL_law_958 : decode cL_law 958 = .ok (.iconst 3, 1) := by decide +kernel
theorem dL_law_959 : decode cL_law 959 = .ok (.iadd, 1) := by decide +kernel
theorem dL_law_960 : decode cL_law 960 = .ok (.iaload, 1) := by decide +kernel
theorem dL_law_961 : decode cL_law 961 = .ok (.aload_n 0, 1) := by decide +kernel
theorem dL_law_962 : decode cL_law 962 = .ok (.iload_n 3, 1) := by decide +kernel
theorem dL_law_963 : decode cL_law 963 = .ok (.iconst 4, 1) := by decide +kernel
theorem dL_law_964 : decode cL_law 964 = .ok (.iadd, 1) := by decide +kernel
theorem dL_law_965 : decode cL_law 965 = .ok (.iaload, 1) := by decide +kernel
theorem dL_law_966 : decode cL_law 966 = .ok (.aload_n 0, 1) := by decide +kernel
theorem dL_law_967 : decode cL_law 967 = .ok (.iload_n 3, 1) := by decide +kernel
theorem dL_law_968 : decode cL_law 968 = .ok (.iconst 5, 1) := by decide +kernel
theorem dL_law_969 : decode cL_law 969 = .ok (.iadd, 1) := by decide +kernel
theorem dL_law_970 : decode cL_law 970 = .ok (.iaload, 1) := by decide +kernel
theorem dL_law_971 : decode cL_law 971 = .ok (.aload_n 0, 1) := by decide +kernel
theorem dL_law_972 : decode cL_law 972 = .ok (.iload_n 3, 1) := by decide +kernel
theorem dL_law_973 : decode cL_law 973 = .ok (.bipush 6, 2) := by decide +kernel
theorem dL_law_975 : decode cL_law 975 = .ok (.iadd, 1) := by decide +kernel
theorem dL_law_976 : decode cL_law 976 = .ok (.iaload, 1) := by decide +kernel
theorem dL_law_977 : decode cL_law 977 = .ok (.invokevirtual 121, 3) := by decide +kernel
theorem dL_law_980 : decode cL_law 980 = .ok (.if_icmp .eq 555, 3) := by decide +kernel
theorem dL_law_983 : decode cL_law 983 = .ok (.iconst 0, 1) := by decide +kernel
theorem dL_law_984 : decode cL_law 984 = .ok (.ireturn, 1) := by decide +kernel
theorem dL_law_985 : decode cL_law 985 = .ok (.aload_n 1, 1) := by decide +kernel
theorem dL_law_986 : decode cL_law 986 = .ok (.aload_n 0, 1) := by decide +kernel
theorem dL_law_987 : decode cL_law 987 = .ok (.iload_n 3, 1) := by decide +kernel
theorem dL_law_988 : decode cL_law 988 = .ok (.iconst 1, 1) := by decide +kernel
theorem dL_law_989 : decode cL_law 989 = .ok (.iadd, 1) := by decide +kernel
theorem dL_law_990 : decode cL_law 990 = .ok (.iaload, 1) := by decide +kernel
theorem dL_law_991 : decode cL_law 991 = .ok (.aload_n 0, 1) := by decide +kernel
theorem dL_law_992 : decode cL_law 992 = .ok (.iload_n 3, 1) := by decide +kernel
theorem dL_law_993 : decode cL_law 993 = .ok (.iconst 2, 1) := by decide +kernel
theorem dL_law_994 : decode cL_law 994 = .ok (.iadd, 1) := by decide +kernel
theorem dL_law_995 : decode cL_law 995 = .ok (.iaload, 1) := by decide +kernel
theorem dL_law_996 : decode cL_law 996 = .ok (.invokevirtual 122, 3) := by decide +kernel
theorem dL_law_999 : decode cL_law 999 = .ok (.aload_n 2, 1) := by decide +kernel
theorem dL_law_1000 : decode cL_law 1000 = .ok (.aload_n 0, 1) := by decide +kernel
theorem dL_law_1001 : decode cL_law 1001 = .ok (.iload_n 3, 1) := by decide +kernel
theorem dL_law_1002 : decode cL_law 1002 = .ok (.iconst 1, 1) := by decide +kernel
theorem dL_law_1003 : decode cL_law 1003 = .ok (.iadd, 1) := by decide +kernel
theorem dL_law_1004 : decode cL_law 1004 = .ok (.iaload, 1) := by decide +kernel
theorem dL_law_1005 : decode cL_law 1005 = .ok (.aload_n 0, 1) := by decide +kernel
theorem dL_law_1006 : decode cL_law 1006 = .ok (.iload_n 3, 1) := by decide +kernel
theorem dL_law_1007 : decode cL_law 1007 = .ok (.iconst 2, 1) := by decide +kernel
theorem dL_law_1008 : decode cL_law 1008 = .ok (.iadd, 1) := by decide +kernel
theorem dL_law_1009 : decode cL_law 1009 = .ok (.iaload, 1) := by decide +kernel
theorem dL_law_1010 : decode cL_law 1010 = .ok (.invokevirtual 125, 3) := by decide +kernel
theorem dL_law_1013 : decode cL_law 1013 = .ok (.if_icmp .eq 522, 3) := by decide +kernel
theorem dL_law_1016 : decode cL_law 1016 = .ok (.iconst 0, 1) := by decide +kernel
theorem dL_law_1017 : decode cL_law 1017 = .ok (.ireturn, 1) := by decide +kernel
theorem dL_law_1018 : decode cL_law 1018 = .ok (.aload_n 1, 1) := by decide +kernel
theorem dL_law_1019 : decode cL_law 1019 = .ok (.aload_n 0, 1) := by decide +kernel
theorem dL_law_1020 : decode cL_law 1020 = .ok (.iload_n 3, 1) := by decide +kernel
theorem dL_law_1021 : decode cL_law 1021 = .ok (.iconst 1, 1) := by decide +kernel
theorem dL_law_1022 : decode cL_law 1022 = .ok (.iadd, 1) := by decide +kernel
theorem dL_law_1023 : decode cL_law 1023 = .ok (.iaload, 1) := by decide +kernel
theorem dL_law_1024 : decode cL_law 1024 = .ok (.aload_n 0, 1) := by decide +kernel
theorem dL_law_1025 : decode cL_law 1025 = .ok (.iload_n 3, 1) := by decide +kernel
theorem dL_law_1026 : decode cL_law 1026 = .ok (.iconst 2, 1) := by decide +kernel
theorem dL_law_1027 : decode cL_law 1027 = .ok (.iadd, 1) := by decide +kernel
theorem dL_law_1028 : decode cL_law 1028 = .ok (.iaload, 1) := by decide +kernel
theorem dL_law_1029 : decode cL_law 1029 = .ok (.invokevirtual 126, 3) := by decide +kernel
theorem dL_law_1032 : decode cL_law 1032 = .ok (.aload_n 2, 1) := by decide +kernel
theorem dL_law_1033 : decode cL_law 1033 = .ok (.aload_n 0, 1) := by decide +kernel
theorem dL_law_1034 : decode cL_law 1034 = .ok (.iload_n 3, 1) := by decide +kernel
theorem dL_law_1035 : decode cL_law 1035 = .ok (.iconst 1, 1) := by decide +kernel
theorem dL_law_1036 : decode cL_law 1036 = .ok (.iadd, 1) := by decide +kernel
theorem dL_law_1037 : decode cL_law 1037 = .ok (.iaload, 1) := by decide +kernel
theorem dL_law_1038 : decode cL_law 1038 = .ok (.aload_n 0, 1) := by decide +kernel
theorem dL_law_1039 : decode cL_law 1039 = .ok (.iload_n 3, 1) := by decide +kernel
theorem dL_law_1040 : decode cL_law 1040 = .ok (.iconst 2, 1) := by decide +kernel
theorem dL_law_1041 : decode cL_law 1041 = .ok (.iadd, 1) := by decide +kernel
theorem dL_law_1042 : decode cL_law 1042 = .ok (.iaload, 1) := by decide +kernel
theorem dL_law_1043 : decode cL_law 1043 = .ok (.invokevirtual 129, 3) := by decide +kernel
theorem dL_law_1046 : decode cL_law 1046 = .ok (.if_icmp .eq 489, 3) := by decide +kernel
theorem dL_law_1049 : decode cL_law 1049 = .ok (.iconst 0, 1) := by decide +kernel
theorem dL_law_1050 : decode cL_law 1050 = .ok (.ireturn, 1) := by decide +kernel
theorem dL_law_1051 : decode cL_law 1051 = .ok (.aload_n 1, 1) := by decide +kernel
theorem dL_law_1052 : decode cL_law 1052 = .ok (.invokevirtual 130, 3) := by decide +kernel
theorem dL_law_1055 : decode cL_law 1055 = .ok (.aload_n 2, 1) := by decide +kernel
theorem dL_law_1056 : decode cL_law 1056 = .ok (.invokevirtual 133, 3) := by decide +kernel
theorem dL_law_1059 : decode cL_law 1059 = .ok (.if_icmp .eq 476, 3) := by decide +kernel
theorem dL_law_1062 : decode cL_law 1062 = .ok (.iconst 0, 1) := by decide +kernel
theorem dL_law_1063 : decode cL_law 1063 = .ok (.ireturn, 1) := by decide +kernel
theorem dL_law_1064 : decode cL_law 1064 = .ok (.aload_n 1, 1) := by decide +kernel
theorem dL_law_1065 : decode cL_law 1065 = .ok (.aload_n 0, 1) := by decide +kernel
theorem dL_law_1066 : decode cL_law 1066 = .ok (.iload_n 3, 1) := by decide +kernel
theorem dL_law_1067 : decode cL_law 1067 = .ok (.iconst 1, 1) := by decide +kernel
theorem dL_law_1068 : decode cL_law 1068 = .ok (.iadd, 1) := by decide +kernel
theorem dL_law_1069 : decode cL_law 1069 = .ok (.iaload, 1) := by decide +kernel
theorem dL_law_1070 : decode cL_law 1070 = .ok (.invokevirtual 134, 3) := by decide +kernel
theorem dL_law_1073 : decode cL_law 1073 = .ok (.aload_n 2, 1) := by decide +kernel
theorem dL_law_1074 : decode cL_law 1074 = .ok (.aload_n 0, 1) := by decide +kernel
theorem dL_law_1075 : decode cL_law 1075 = .ok (.iload_n 3, 1) := by decide +kernel
theorem dL_law_1076 : decode cL_law 1076 = .ok (.iconst 1, 1) := by decide +kernel
theorem dL_law_1077 : decode cL_law 1077 = .ok (.iadd, 1) := by decide +kernel
theorem dL_law_1078 : decode cL_law 1078 = .ok (.iaload, 1) := by decide +kernel
theorem dL_law_1079 : decode cL_law 1079 = .ok (.invokevirtual 137, 3) := by decide +kernel
theorem dL_law_1082 : decode cL_law 1082 = .ok (.if_icmp .eq 453, 3) := by decide +kernel
theorem dL_law_1085 : decode cL_law 1085 = .ok (.iconst 0, 1) := by decide +kernel
theorem dL_law_1086 : decode cL_law 1086 = .ok (.ireturn, 1) := by decide +kernel
theorem dL_law_1087 : decode cL_law 1087 = .ok (.aload_n 1, 1) := by decide +kernel
theorem dL_law_1088 : decode cL_law 1088 = .ok (.invokevirtual 138, 3) := by decide +kernel
theorem dL_law_1091 : decode cL_law 1091 = .ok (.aload_n 2, 1) := by decide +kernel
theorem dL_law_1092 : decode cL_law 1092 = .ok (.invokevirtual 141, 3) := by decide +kernel
theorem dL_law_1095 : decode cL_law 1095 = .ok (.if_icmp .eq 440, 3) := by decide +kernel
theorem dL_law_1098 : decode cL_law 1098 = .ok (.iconst 0, 1) := by decide +kernel
theorem dL_law_1099 : decode cL_law 1099 = .ok (.ireturn, 1) := by decide +kernel
theorem dL_law_1100 : decode cL_law 1100 = .ok (.aload_n 1, 1) := by decide +kernel
theorem dL_law_1101 : decode cL_law 1101 = .ok (.invokevirtual 142, 3) := by decide +kernel
theorem dL_law_1104 : decode cL_law 1104 = .ok (.aload_n 2, 1) := by decide +kernel
theorem dL_law_1105 : decode cL_law 1105 = .ok (.invokevirtual 145, 3) := by decide +kernel
theorem dL_law_1108 : decode cL_law 1108 = .ok (.if_icmp .eq 427, 3) := by decide +kernel
theorem dL_law_1111 : decode cL_law 1111 = .ok (.iconst 0, 1) := by decide +kernel
theorem dL_law_1112 : decode cL_law 1112 = .ok (.ireturn, 1) := by decide +kernel
theorem dL_law_1113 : decode cL_law 1113 = .ok (.aload_n 1, 1) := by decide +kernel
theorem dL_law_1114 : decode cL_law 1114 = .ok (.invokevirtual 146, 3) := by decide +kernel
theorem dL_law_1117 : decode cL_law 1117 = .ok (.aload_n 2, 1) := by decide +kernel
theorem dL_law_1118 : decode cL_law 1118 = .ok (.invokevirtual 149, 3) := by decide +kernel
theorem dL_law_1121 : decode cL_law 1121 = .ok (.if_icmp .eq 414, 3) := by decide +kernel
theorem dL_law_1124 : decode cL_law 1124 = .ok (.iconst 0, 1) := by decide +kernel
theorem dL_law_1125 : decode cL_law 1125 = .ok (.ireturn, 1) := by decide +kernel
theorem dL_law_1126 : decode cL_law 1126 = .ok (.aload_n 1, 1) := by decide +kernel
theorem dL_law_1127 : decode cL_law 1127 = .ok (.aload_n 0, 1) := by decide +kernel
theorem dL_law_1128 : decode cL_law 1128 = .ok (.iload_n 3, 1) := by decide +kernel
theorem dL_law_1129 : decode cL_law 1129 = .ok (.iconst 1, 1) := by decide +kernel
theorem dL_law_1130 : decode cL_law 1130 = .ok (.iadd, 1) := by decide +kernel
theorem dL_law_1131 : decode cL_law 1131 = .ok (.iaload, 1) := by decide +kernel
theorem dL_law_1132 : decode cL_law 1132 = .ok (.aload_n 0, 1) := by decide +kernel
theorem dL_law_1133 : decode cL_law 1133 = .ok (.iload_n 3, 1) := by decide +kernel
theorem dL_law_1134 : decode cL_law 1134 = .ok (.iconst 2, 1) := by decide +kernel
theorem dL_law_1135 : decode cL_law 1135 = .ok (.iadd, 1) := by decide +kernel
theorem dL_law_1136 : decode cL_law 1136 = .ok (.iaload, 1) := by decide +kernel
theorem dL_law_1137 : decode cL_law 1137 = .ok (.invokevirtual 150, 3) := by decide +kernel
theorem dL_law_1140 : decode cL_law 1140 = .ok (.aload_n 2, 1) := by decide +kernel
theorem dL_law_1141 : decode cL_law 1141 = .ok (.aload_n 0, 1) := by decide +kernel
theorem dL_law_1142 : decode cL_law 1142 = .ok (.iload_n 3, 1) := by decide +kernel
theorem dL_law_1143 : decode cL_law 1143 = .ok (.iconst 1, 1) := by decide +kernel
theorem dL_law_1144 : decode cL_law 1144 = .ok (.iadd, 1) := by decide +kernel
theorem dL_law_1145 : decode cL_law 1145 = .ok (.iaload, 1) := by decide +kernel
theorem dL_law_1146 : decode cL_law 1146 = .ok (.aload_n 0, 1) := by decide +kernel
theorem dL_law_1147 : decode cL_law 1147 = .ok (.iload_n 3, 1) := by decide +kernel
theorem dL_law_1148 : decode cL_law 1148 = .ok (.iconst 2, 1) := by decide +kernel
theorem dL_law_1149 : decode cL_law 1149 = .ok (.iadd, 1) := by decide +kernel
theorem dL_law_1150 : decode cL_law 1150 = .ok (.iaload, 1) := by decide +kernel
theorem dL_law_1151 : decode cL_law 1151 = .ok (.invokevirtual 153, 3) := by decide +kernel
theorem dL_law_1154 : decode cL_law 1154 = .ok (.if_icmp .eq 381, 3) := by decide +kernel
theorem dL_law_1157 : decode cL_law 1157 = .ok (.iconst 0, 1) := by decide +kernel
theorem dL_law_1158 : decode cL_law 1158 = .ok (.ireturn, 1) := by decide +kernel
theorem dL_law_1159 : decode cL_law 1159 = .ok (.aload_n 1, 1) := by decide +kernel
theorem dL_law_1160 : decode cL_law 1160 = .ok (.aload_n 0, 1) := by decide +kernel
theorem dL_law_1161 : decode cL_law 1161 = .ok (.iload_n 3, 1) := by decide +kernel
theorem dL_law_1162 : decode cL_law 1162 = .ok (.iconst 1, 1) := by decide +kernel
theorem dL_law_1163 : decode cL_law 1163 = .ok (.iadd, 1) := by decide +kernel
theorem dL_law_1164 : decode cL_law 1164 = .ok (.iaload, 1) := by decide +kernel
theorem dL_law_1165 : decode cL_law 1165 = .ok (.aload_n 0, 1) := by decide +kernel
theorem dL_law_1166 : decode cL_law 1166 = .ok (.iload_n 3, 1) := by decide +kernel
theorem dL_law_1167 : decode cL_law 1167 = .ok (.iconst 2, 1) := by decide +kernel
theorem dL_law_1168 : decode cL_law 1168 = .ok (.iadd, 1) := by decide +kernel
theorem dL_law_1169 : decode cL_law 1169 = .ok (.iaload, 1) := by decide +kernel
theorem dL_law_1170 : decode cL_law 1170 = .ok (.aload_n 0, 1) := by decide +kernel
theorem dL_law_1171 : decode cL_law 1171 = .ok (.iload_n 3, 1) := by decide +kernel
theorem dL_law_1172 : decode cL_law 1172 = .ok (.iconst 3, 1) := by decide +kernel
theorem dL_law_1173 : decode cL_law 1173 = .ok (.iadd, 1) := by decide +kernel
theorem dL_law_1174 : decode cL_law 1174 = .ok (.iaload, 1) := by decide +kernel
theorem dL_law_1175 : decode cL_law 1175 = .ok (.invokevirtual 154, 3) := by decide +kernel
theorem dL_law_1178 : decode cL_law 1178 = .ok (.aload_n 2, 1) := by decide +kernel
theorem dL_law_1179 : decode cL_law 1179 = .ok (.aload_n 0, 1) := by decide +kernel
theorem dL_law_1180 : decode cL_law 1180 = .ok (.iload_n 3, 1) := by decide +kernel
theorem dL_law_1181 : decode cL_law 1181 = .ok (.iconst 1, 1) := by decide +kernel
theorem dL_law_1182 : decode cL_law 1182 = .ok (.iadd, 1) := by decide +kernel
theorem dL_law_1183 : decode cL_law 1183 = .ok (.iaload, 1) := by decide +kernel
theorem dL_law_1184 : decode cL_law 1184 = .ok (.aload_n 0, 1) := by decide +kernel
theorem dL_law_1185 : decode cL_law 1185 = .ok (.iload_n 3, 1) := by decide +kernel
theorem dL_law_1186 : decode cL_law 1186 = .ok (.iconst 2, 1) := by decide +kernel
theorem dL_law_1187 : decode cL_law 1187 = .ok (.iadd, 1) := by decide +kernel
theorem dL_law_1188 : decode cL_law 1188 = .ok (.iaload, 1) := by decide +kernel
theorem dL_law_1189 : decode cL_law 1189 = .ok (.aload_n 0, 1) := by decide +kernel
theorem dL_law_1190 : decode cL_law 1190 = .ok (.iload_n 3, 1) := by decide +kernel
theorem dL_law_1191 : decode cL_law 1191 = .ok (.iconst 3, 1) := by decide +kernel
theorem dL_law_1192 : decode cL_law 1192 = .ok (.iadd, 1) := by decide +kernel
theorem dL_law_1193 : decode cL_law 1193 = .ok (.iaload, 1) := by decide +kernel
theorem dL_law_1194 : decode cL_law 1194 = .ok (.invokevirtual 157, 3) := by decide +kernel
theorem dL_law_1197 : decode cL_law 1197 = .ok (.if_icmp .eq 338, 3) := by decide +kernel
theorem dL_law_1200 : decode cL_law 1200 = .ok (.iconst 0, 1) := by decide +kernel
theorem dL_law_1201 : decode cL_law 1201 = .ok (.ireturn, 1) := by decide +kernel
theorem dL_law_1202 : decode cL_law 1202 = .ok (.aload_n 1, 1) := by decide +kernel
theorem dL_law_1203 : decode cL_law 1203 = .ok (.invokevirtual 158, 3) := by decide +kernel
theorem dL_law_1206 : decode cL_law 1206 = .ok (.aload_n 2, 1) := by decide +kernel
theorem dL_law_1207 : decode cL_law 1207 = .ok (.invokevirtual 161, 3) := by decide +kernel
theorem dL_law_1210 : decode cL_law 1210 = .ok (.if_icmp .eq 325, 3) := by decide +kernel
theorem dL_law_1213 : decode cL_law 1213 = .ok (.iconst 0, 1) := by decide +kernel
theorem dL_law_1214 : decode cL_law 1214 = .ok (.ireturn, 1) := by decide +kernel
theorem dL_law_1215 : decode cL_law 1215 = .ok (.aload_n 1, 1) := by decide +kernel
theorem dL_law_1216 : decode cL_law 1216 = .ok (.aload_n 0, 1) := by decide +kernel
theorem dL_law_1217 : decode cL_law 1217 = .ok (.iload_n 3, 1) := by decide +kernel
theorem dL_law_1218 : decode cL_law 1218 = .ok (.iconst 1, 1) := by decide +kernel
theorem dL_law_1219 : decode cL_law 1219 = .ok (.iadd, 1) := by decide +kernel
theorem dL_law_1220 : decode cL_law 1220 = .ok (.iaload, 1) := by decide +kernel
theorem dL_law_1221 : decode cL_law 1221 = .ok (.aload_n 0, 1) := by decide +kernel
theorem dL_law_1222 : decode cL_law 1222 = .ok (.iload_n 3, 1) := by decide +kernel
theorem dL_law_1223 : decode cL_law 1223 = .ok (.iconst 2, 1) := by decide +kernel
theorem dL_law_1224 : decode cL_law 1224 = .ok (.iadd, 1) := by decide +kernel
theorem dL_law_1225 : decode cL_law 1225 = .ok (.iaload, 1) := by decide +kernel
theorem dL_law_1226 : decode cL_law 1226 = .ok (.aload_n 0, 1) := by decide +kernel
theorem dL_law_1227 : decode cL_law 1227 = .ok (.iload_n 3, 1) := by decide +kernel
theorem dL_law_1228 : decode cL_law 1228 = .ok (.iconst 3, 1) := by decide +kernel
theorem dL_law_1229 : decode cL_law 1229 = .ok (.iadd, 1) := by decide +kernel
theorem dL_law_1230 : decode cL_law 1230 = .ok (.iaload, 1) := by decide +kernel
theorem dL_law_1231 : decode cL_law 1231 = .ok (.invokevirtual 162, 3) := by decide +kernel
theorem dL_law_1234 : decode cL_law 1234 = .ok (.aload_n 2, 1) := by decide +kernel
theorem dL_law_1235 : decode cL_law 1235 = .ok (.aload_n 0, 1) := by decide +kernel
theorem dL_law_1236 : decode cL_law 1236 = .ok (.iload_n 3, 1) := by decide +kernel
theorem dL_law_1237 : decode cL_law 1237 = .ok (.iconst 1, 1) := by decide +kernel
theorem dL_law_1238 : decode cL_law 1238 = .ok (.iadd, 1) := by decide +kernel
theorem dL_law_1239 : decode cL_law 1239 = .ok (.iaload, 1) := by decide +kernel
theorem dL_law_1240 : decode cL_law 1240 = .ok (.aload_n 0, 1) := by decide +kernel
theorem dL_law_1241 : decode cL_law 1241 = .ok (.iload_n 3, 1) := by decide +kernel
theorem dL_law_1242 : decode cL_law 1242 = .ok (.iconst 2, 1) := by decide +kernel
theorem dL_law_1243 : decode cL_law 1243 = .ok (.iadd, 1) := by decide +kernel
theorem dL_law_1244 : decode cL_law 1244 = .ok (.iaload, 1) := by decide +kernel
theorem dL_law_1245 : decode cL_law 1245 = .ok (.aload_n 0, 1) := by decide +kernel
theorem dL_law_1246 : decode cL_law 1246 = .ok (.iload_n 3, 1) := by decide +kernel
theorem dL_law_1247 : decode cL_law 1247 = .ok (.iconst 3, 1) := by decide +kernel
theorem dL_law_1248 : decode cL_law 1248 = .ok (.iadd, 1) := by decide +kernel
theorem dL_law_1249 : decode cL_law 1249 = .ok (.iaload, 1) := by decide +kernel
theorem dL_law_1250 : decode cL_law 1250 = .ok (.invokevirtual 165, 3) := by decide +kernel
theorem dL_law_1253 : decode cL_law 1253 = .ok (.if_icmp .eq 282, 3) := by decide +kernel
theorem dL_law_1256 : decode cL_law 1256 = .ok (.iconst 0, 1) := by decide +kernel
theorem dL_law_1257 : decode cL_law 1257 = .ok (.ireturn, 1) := by decide +kernel
theorem dL_law_1258 : decode cL_law 1258 = .ok (.aload_n 1, 1) := by decide +kernel
theorem dL_law_1259 : decode cL_law 1259 = .ok (.aload_n 0, 1) := by decide +kernel
theorem dL_law_1260 : decode cL_law 1260 = .ok (.iload_n 3, 1) := by decide +kernel
theorem dL_law_1261 : decode cL_law 1261 = .ok (.iconst 1, 1) := by decide +kernel
theorem dL_law_1262 : decode cL_law 1262 = .ok (.iadd, 1) := by decide +kernel
theorem dL_law_1263 : decode cL_law 1263 = .ok (.iaload, 1) := by decide +kernel
theorem dL_law_1264 : decode cL_law 1264 = .ok (.aload_n 0, 1) := by decide +kernel
theorem dL_law_1265 : decode cL_law 1265 = .ok (.iload_n 3, 1) := by decide +kernel
theorem dL_law_1266 : decode cL_law 1266 = .ok (.iconst 2, 1) := by decide +kernel
theorem dL_law_1267 : decode cL_law 1267 = .ok (.iadd, 1) := by decide +kernel
theorem dL_law_1268 : decode cL_law 1268 = .ok (.iaload, 1) := by decide +kernel
theorem dL_law_1269 : decode cL_law 1269 = .ok (.aload_n 0, 1) := by decide +kernel
theorem dL_law_1270 : decode cL_law 1270 = .ok (.iload_n 3, 1) := by decide +kernel
theorem dL_law_1271 : decode cL_law 1271 = .ok (.iconst 3, 1) := by decide +kernel
theorem dL_law_1272 : decode cL_law 1272 = .ok (.iadd, 1) := by decide +kernel
theorem dL_law_1273 : decode cL_law 1273 = .ok (.iaload, 1) := by decide +kernel
theorem dL_law_1274 : decode cL_law 1274 = .ok (.invokevirtual 166, 3) := by decide +kernel
theorem dL_law_1277 : decode cL_law 1277 = .ok (.aload_n 2, 1) := by decide +kernel
theorem dL_law_1278 : decode cL_law 1278 = .ok (.aload_n 0, 1) := by decide +kernel
theorem dL_law_1279 : decode cL_law 1279 = .ok (.iload_n 3, 1) := by decide +kernel
theorem dL_law_1280 : decode cL_law 1280 = .ok (.iconst 1, 1) := by decide +kernel
theorem dL_law_1281 : decode cL_law 1281 = .ok (.iadd, 1) := by decide +kernel
theorem dL_law_1282 : decode cL_law 1282 = .ok (.iaload, 1) := by decide +kernel
theorem dL_law_1283 : decode cL_law 1283 = .ok (.aload_n 0, 1) := by decide +kernel
theorem dL_law_1284 : decode cL_law 1284 = .ok (.iload_n 3, 1) := by decide +kernel
theorem dL_law_1285 : decode cL_law 1285 = .ok (.iconst 2, 1) := by decide +kernel
theorem dL_law_1286 : decode cL_law 1286 = .ok (.iadd, 1) := by decide +kernel
theorem dL_law_1287 : decode cL_law 1287 = .ok (.iaload, 1) := by decide +kernel
theorem dL_law_1288 : decode cL_law 1288 = .ok (.aload_n 0, 1) := by decide +kernel
theorem dL_law_1289 : decode cL_law 1289 = .ok (.iload_n 3, 1) := by decide +kernel
theorem dL_law_1290 : decode cL_law 1290 = .ok (.iconst 3, 1) := by decide +kernel
theorem dL_law_1291 : decode cL_law 1291 = .ok (.iadd, 1) := by decide +kernel
theorem dL_law_1292 : decode cL_law 1292 = .ok (.iaload, 1) := by decide +kernel
theorem dL_law_1293 : decode cL_law 1293 = .ok (.invokevirtual 169, 3) := by decide +kernel
theorem dL_law_1296 : decode cL_law 1296 = .ok (.if_icmp .eq 239, 3) := by decide +kernel
theorem dL_law_1299 : decode cL_law 1299 = .ok (.iconst 0, 1) := by decide +kernel
theorem dL_law_1300 : decode cL_law 1300 = .ok (.ireturn, 1) := by decide +kernel
theorem dL_law_1301 : decode cL_law 1301 = .ok (.aload_n 1, 1) := by decide +kernel
theorem dL_law_1302 : decode cL_law 1302 = .ok (.aload_n 0, 1) := by decide +kernel
theorem dL_law_1303 : decode cL_law 1303 = .ok (.iload_n 3, 1) := by decide +kernel
theorem dL_law_1304 : decode cL_law 1304 = .ok (.iconst 1, 1) := by decide +kernel
theorem dL_law_1305 : decode cL_law 1305 = .ok (.iadd, 1) := by decide +kernel
theorem dL_law_1306 : decode cL_law 1306 = .ok (.iaload, 1) := by decide +kernel
theorem dL_law_1307 : decode cL_law 1307 = .ok (.aload_n 0, 1) := by decide +kernel
theorem dL_law_1308 : decode cL_law 1308 = .ok (.iload_n 3, 1) := by decide +kernel
theorem dL_law_1309 : decode cL_law 1309 = .ok (.iconst 2, 1) := by decide +kernel
theorem dL_law_1310 : decode cL_law 1310 = .ok (.iadd, 1) := by decide +kernel
theorem dL_law_1311 : decode cL_law 1311 = .ok (.iaload, 1) := by decide +kernel
theorem dL_law_1312 : decode cL_law 1312 = .ok (.aload_n 0, 1) := by decide +kernel
theorem dL_law_1313 : decode cL_law 1313 = .ok (.iload_n 3, 1) := by decide +kernel
theorem dL_law_1314 : decode cL_law 1314 = .ok (.iconst 3, 1) := by decide +kernel
theorem dL_law_1315 : decode cL_law 1315 = .ok (.iadd, 1) := by decide +kernel
theorem dL_law_1316 : decode cL_law 1316 = .ok (.iaload, 1) := by decide +kernel
theorem dL_law_1317 : decode cL_law 1317 = .ok (.invokevirtual 170, 3) := by decide +kernel
theorem dL_law_1320 : decode cL_law 1320 = .ok (.aload_n 2, 1) := by decide +kernel
theorem dL_law_1321 : decode cL_law 1321 = .ok (.aload_n 0, 1) := by decide +kernel
theorem dL_law_1322 : decode cL_law 1322 = .ok (.iload_n 3, 1) := by decide +kernel
theorem dL_law_1323 : decode cL_law 1323 = .ok (.iconst 1, 1) := by decide +kernel
theorem dL_law_1324 : decode cL_law 1324 = .ok (.iadd, 1) := by decide +kernel
theorem dL_law_1325 : decode cL_law 1325 = .ok (.iaload, 1) := by decide +kernel
theorem dL_law_1326 : decode cL_law 1326 = .ok (.aload_n 0, 1) := by decide +kernel
theorem dL_law_1327 : decode cL_law 1327 = .ok (.iload_n 3, 1) := by decide +kernel
theorem dL_law_1328 : decode cL_law 1328 = .ok (.iconst 2, 1) := by decide +kernel
theorem dL_law_1329 : decode cL_law 1329 = .ok (.iadd, 1) := by decide +kernel
theorem dL_law_1330 : decode cL_law 1330 = .ok (.iaload, 1) := by decide +kernel
theorem dL_law_1331 : decode cL_law 1331 = .ok (.aload_n 0, 1) := by decide +kernel
theorem dL_law_1332 : decode cL_law 1332 = .ok (.iload_n 3, 1) := by decide +kernel
theorem dL_law_1333 : decode cL_law 1333 = .ok (.iconst 3, 1) := by decide +kernel
theorem dL_law_1334 : decode cL_law 1334 = .ok (.iadd, 1) := by decide +kernel
theorem dL_law_1335 : decode cL_law 1335 = .ok (.iaload, 1) := by decide +kernel
theorem dL_law_1336 : decode cL_law 1336 = .ok (.invokevirtual 173, 3) := by decide +kernel
theorem dL_law_1339 : decode cL_law 1339 = .ok (.if_icmp .eq 196, 3) := by decide +kernel
theorem dL_law_1342 : decode cL_law 1342 = .ok (.iconst 0, 1) := by decide +kernel
theorem dL_law_1343 : decode cL_law 1343 = .ok (.ireturn, 1) := by decide +kernel
theorem dL_law_1344 : decode cL_law 1344 = .ok (.aload_n 1, 1) := by decide +kernel
theorem dL_law_1345 : decode cL_law 1345 = .ok (.aload_n 0, 1) := by decide +kernel
theorem dL_law_1346 : decode cL_law 1346 = .ok (.iload_n 3, 1) := by decide +kernel
theorem dL_law_1347 : decode cL_law 1347 = .ok (.iconst 1, 1) := by decide +kernel
theorem dL_law_1348 : decode cL_law 1348 = .ok (.iadd, 1) := by decide +kernel
theorem dL_law_1349 : decode cL_law 1349 = .ok (.iaload, 1) := by decide +kernel
theorem dL_law_1350 : decode cL_law 1350 = .ok (.aload_n 0, 1) := by decide +kernel
theorem dL_law_1351 : decode cL_law 1351 = .ok (.iload_n 3, 1) := by decide +kernel
theorem dL_law_1352 : decode cL_law 1352 = .ok (.iconst 2, 1) := by decide +kernel
theorem dL_law_1353 : decode cL_law 1353 = .ok (.iadd, 1) := by decide +kernel
theorem dL_law_1354 : decode cL_law 1354 = .ok (.iaload, 1) := by decide +kernel
theorem dL_law_1355 : decode cL_law 1355 = .ok (.aload_n 0, 1) := by decide +kernel
theorem dL_law_1356 : decode cL_law 1356 = .ok (.iload_n 3, 1) := by decide +kernel
theorem dL_law_1357 : decode cL_law 1357 = .ok (.iconst 3, 1) := by decide +kernel
theorem dL_law_1358 : decode cL_law 1358 = .ok (.iadd, 1) := by decide +kernel
theorem dL_law_1359 : decode cL_law 1359 = .ok (.iaload, 1) := by decide +kernel
theorem dL_law_1360 : decode cL_law 1360 = .ok (.invokevirtual 174, 3) := by decide +kernel
theorem dL_law_1363 : decode cL_law 1363 = .ok (.aload_n 2, 1) := by decide +kernel
theorem dL_law_1364 : decode cL_law 1364 = .ok (.aload_n 0, 1) := by decide +kernel
theorem dL_law_1365 : decode cL_law 1365 = .ok (.iload_n 3, 1) := by decide +kernel
theorem dL_law_1366 : decode cL_law 1366 = .ok (.iconst 1, 1) := by decide +kernel
theorem dL_law_1367 : decode cL_law 1367 = .ok (.iadd, 1) := by decide +kernel
theorem dL_law_1368 : decode cL_law 1368 = .ok (.iaload, 1) := by decide +kernel
theorem dL_law_1369 : decode cL_law 1369 = .ok (.aload_n 0, 1) := by decide +kernel
theorem dL_law_1370 : decode cL_law 1370 = .ok (.iload_n 3, 1) := by decide +kernel
theorem dL_law_1371 : decode cL_law 1371 = .ok (.iconst 2, 1) := by decide +kernel
theorem dL_law_1372 : decode cL_law 1372 = .ok (.iadd, 1) := by decide +kernel
theorem dL_law_1373 : decode cL_law 1373 = .ok (.iaload, 1) := by decide +kernel
theorem dL_law_1374 : decode cL_law 1374 = .ok (.aload_n 0, 1) := by decide +kernel
theorem dL_law_1375 : decode cL_law 1375 = .ok (.iload_n 3, 1) := by decide +kernel
theorem dL_law_1376 : decode cL_law 1376 = .ok (.iconst 3, 1) := by decide +kernel
theorem dL_law_1377 : decode cL_law 1377 = .ok (.iadd, 1) := by decide +kernel
theorem dL_law_1378 : decode cL_law 1378 = .ok (.iaload, 1) := by decide +kernel
theorem dL_law_1379 : decode cL_law 1379 = .ok (.invokevirtual 177, 3) := by decide +kernel
theorem dL_law_1382 : decode cL_law 1382 = .ok (.if_icmp .eq 153, 3) := by decide +kernel
theorem dL_law_1385 : decode cL_law 1385 = .ok (.iconst 0, 1) := by decide +kernel
theorem dL_law_1386 : decode cL_law 1386 = .ok (.ireturn, 1) := by decide +kernel
theorem dL_law_1387 : decode cL_law 1387 = .ok (.aload_n 1, 1) := by decide +kernel
theorem dL_law_1388 : decode cL_law 1388 = .ok (.aload_n 0, 1) := by decide +kernel
theorem dL_law_1389 : decode cL_law 1389 = .ok (.iload_n 3, 1) := by decide +kernel
theorem dL_law_1390 : decode cL_law 1390 = .ok (.iconst 1, 1) := by decide +kernel
theorem dL_law_1391 : decode cL_law 1391 = .ok (.iadd, 1) := by decide +kernel
theorem dL_law_1392 : decode cL_law 1392 = .ok (.iaload, 1) := by decide +kernel
theorem dL_law_1393 : decode cL_law 1393 = .ok (.aload_n 0, 1) := by decide +kernel
theorem dL_law_1394 : decode cL_law 1394 = .ok (.iload_n 3, 1) := by decide +kernel
theorem dL_law_1395 : decode cL_law 1395 = .ok (.iconst 2, 1) := by decide +kernel
theorem dL_law_1396 : decode cL_law 1396 = .ok (.iadd, 1) := by decide +kernel
theorem dL_law_1397 : decode cL_law 1397 = .ok (.iaload, 1) := by decide +kernel
theorem dL_law_1398 : decode cL_law 1398 = .ok (.invokevirtual 178, 3) := by decide +kernel
theorem dL_law_1401 : decode cL_law 1401 = .ok (.aload_n 2, 1) := by decide +kernel
theorem dL_law_1402 : decode cL_law 1402 = .ok (.aload_n 0, 1) := by decide +kernel
theorem dL_law_1403 : decode cL_law 1403 = .ok (.iload_n 3, 1) := by decide +kernel
theorem dL_law_1404 : decode cL_law 1404 = .ok (.iconst 1, 1) := by decide +kernel
theorem dL_law_1405 : decode cL_law 1405 = .ok (.iadd, 1) := by decide +kernel
theorem dL_law_1406 : decode cL_law 1406 = .ok (.iaload, 1) := by decide +kernel
theorem dL_law_1407 : decode cL_law 1407 = .ok (.aload_n 0, 1) := by decide +kernel
theorem dL_law_1408 : decode cL_law 1408 = .ok (.iload_n 3, 1) := by decide +kernel
theorem dL_law_1409 : decode cL_law 1409 = .ok (.iconst 2, 1) := by decide +kernel
theorem dL_law_1410 : decode cL_law 1410 = .ok (.iadd, 1) := by decide +kernel
theorem dL_law_1411 : decode cL_law 1411 = .ok (.iaload, 1) := by decide +kernel
theorem dL_law_1412 : decode cL_law 1412 = .ok (.invokevirtual 181, 3) := by decide +kernel
theorem dL_law_1415 : decode cL_law 1415 = .ok (.if_icmp .eq 120, 3) := by decide +kernel
theorem dL_law_1418 : decode cL_law 1418 = .ok (.iconst 0, 1) := by decide +kernel
theorem dL_law_1419 : decode cL_law 1419 = .ok (.ireturn, 1) := by decide +kernel
theorem dL_law_1420 : decode cL_law 1420 = .ok (.aload_n 1, 1) := by decide +kernel
theorem dL_law_1421 : decode cL_law 1421 = .ok (.aload_n 0, 1) := by decide +kernel
theorem dL_law_1422 : decode cL_law 1422 = .ok (.iload_n 3, 1) := by decide +kernel
theorem dL_law_1423 : decode cL_law 1423 = .ok (.iconst 1, 1) := by decide +kernel
theorem dL_law_1424 : decode cL_law 1424 = .ok (.iadd, 1) := by decide +kernel
theorem dL_law_1425 : decode cL_law 1425 = .ok (.iaload, 1) := by decide +kernel
theorem dL_law_1426 : decode cL_law 1426 = .ok (.aload_n 0, 1) := by decide +kernel
theorem dL_law_1427 : decode cL_law 1427 = .ok (.iload_n 3, 1) := by decide +kernel
theorem dL_law_1428 : decode cL_law 1428 = .ok (.iconst 2, 1) := by decide +kernel
theorem dL_law_1429 : decode cL_law 1429 = .ok (.iadd, 1) := by decide +kernel
theorem dL_law_1430 : decode cL_law 1430 = .ok (.iaload, 1) := by decide +kernel
theorem dL_law_1431 : decode cL_law 1431 = .ok (.aload_n 0, 1) := by decide +kernel
theorem dL_law_1432 : decode cL_law 1432 = .ok (.iload_n 3, 1) := by decide +kernel
theorem dL_law_1433 : decode cL_law 1433 = .ok (.iconst 3, 1) := by decide +kernel
theorem dL_law_1434 : decode cL_law 1434 = .ok (.iadd, 1) := by decide +kernel
theorem dL_law_1435 : decode cL_law 1435 = .ok (.iaload, 1) := by decide +kernel
theorem dL_law_1436 : decode cL_law 1436 = .ok (.invokevirtual 182, 3) := by decide +kernel
theorem dL_law_1439 : decode cL_law 1439 = .ok (.aload_n 2, 1) := by decide +kernel
theorem dL_law_1440 : decode cL_law 1440 = .ok (.aload_n 0, 1) := by decide +kernel
theorem dL_law_1441 : decode cL_law 1441 = .ok (.iload_n 3, 1) := by decide +kernel
theorem dL_law_1442 : decode cL_law 1442 = .ok (.iconst 1, 1) := by decide +kernel
theorem dL_law_1443 : decode cL_law 1443 = .ok (.iadd, 1) := by decide +kernel
theorem dL_law_1444 : decode cL_law 1444 = .ok (.iaload, 1) := by decide +kernel
theorem dL_law_1445 : decode cL_law 1445 = .ok (.aload_n 0, 1) := by decide +kernel
theorem dL_law_1446 : decode cL_law 1446 = .ok (.iload_n 3, 1) := by decide +kernel
theorem dL_law_1447 : decode cL_law 1447 = .ok (.iconst 2, 1) := by decide +kernel
theorem dL_law_1448 : decode cL_law 1448 = .ok (.iadd, 1) := by decide +kernel
theorem dL_law_1449 : decode cL_law 1449 = .ok (.iaload, 1) := by decide +kernel
theorem dL_law_1450 : decode cL_law 1450 = .ok (.aload_n 0, 1) := by decide +kernel
theorem dL_law_1451 : decode cL_law 1451 = .ok (.iload_n 3, 1) := by decide +kernel
theorem dL_law_1452 : decode cL_law 1452 = .ok (.iconst 3, 1) := by decide +kernel
theorem dL_law_1453 : decode cL_law 1453 = .ok (.iadd, 1) := by decide +kernel
theorem dL_law_1454 : decode cL_law 1454 = .ok (.iaload, 1) := by decide +kernel
theorem dL_law_1455 : decode cL_law 1455 = .ok (.invokevirtual 185, 3) := by decide +kernel
theorem dL_law_1458 : decode cL_law 1458 = .ok (.if_icmp .eq 77, 3) := by decide +kernel
theorem dL_law_1461 : decode cL_law 1461 = .ok (.iconst 0, 1) := by decide +kernel
theorem dL_law_1462 : decode cL_law 1462 = .ok (.ireturn, 1) := by decide +kernel
theorem dL_law_1463 : decode cL_law 1463 = .ok (.aload_n 1, 1) := by decide +kernel
theorem dL_law_1464 : decode cL_law 1464 = .ok (.aload_n 0, 1) := by decide +kernel
theorem dL_law_1465 : decode cL_law 1465 = .ok (.iload_n 3, 1) := by decide +kernel
theorem dL_law_1466 : decode cL_law 1466 = .ok (.iconst 1, 1) := by decide +kernel
theorem dL_law_1467 : decode cL_law 1467 = .ok (.iadd, 1) := by decide +kernel
theorem dL_law_1468 : decode cL_law 1468 = .ok (.iaload, 1) := by decide +kernel
theorem dL_law_1469 : decode cL_law 1469 = .ok (.invokevirtual 186, 3) := by decide +kernel
theorem dL_law_1472 : decode cL_law 1472 = .ok (.aload_n 2, 1) := by decide +kernel
theorem dL_law_1473 : decode cL_law 1473 = .ok (.aload_n 0, 1) := by decide +kernel
theorem dL_law_1474 : decode cL_law 1474 = .ok (.iload_n 3, 1) := by decide +kernel
theorem dL_law_1475 : decode cL_law 1475 = .ok (.iconst 1, 1) := by decide +kernel
theorem dL_law_1476 : decode cL_law 1476 = .ok (.iadd, 1) := by decide +kernel
theorem dL_law_1477 : decode cL_law 1477 = .ok (.iaload, 1) := by decide +kernel
theorem dL_law_1478 : decode cL_law 1478 = .ok (.invokevirtual 189, 3) := by decide +kernel
theorem dL_law_1481 : decode cL_law 1481 = .ok (.if_icmp .eq 54, 3) := by decide +kernel
theorem dL_law_1484 : decode cL_law 1484 = .ok (.iconst 0, 1) := by decide +kernel
theorem dL_law_1485 : decode cL_law 1485 = .ok (.ireturn, 1) := by decide +kernel
theorem dL_law_1486 : decode cL_law 1486 = .ok (.aload_n 1, 1) := by decide +kernel
theorem dL_law_1487 : decode cL_law 1487 = .ok (.aload_n 0, 1) := by decide +kernel
theorem dL_law_1488 : decode cL_law 1488 = .ok (.iload_n 3, 1) := by decide +kernel
theorem dL_law_1489 : decode cL_law 1489 = .ok (.iconst 1, 1) := by decide +kernel
theorem dL_law_1490 : decode cL_law 1490 = .ok (.iadd, 1) := by decide +kernel
theorem dL_law_1491 : decode cL_law 1491 = .ok (.iaload, 1) := by decide +kernel
theorem dL_law_1492 : decode cL_law 1492 = .ok (.invokevirtual 190, 3) := by decide +kernel
theorem dL_law_1495 : decode cL_law 1495 = .ok (.aload_n 2, 1) := by decide +kernel
theorem dL_law_1496 : decode cL_law 1496 = .ok (.aload_n 0, 1) := by decide +kernel
theorem dL_law_1497 : decode cL_law 1497 = .ok (.iload_n 3, 1) := by decide +kernel
theorem dL_law_1498 : decode cL_law 1498 = .ok (.iconst 1, 1) := by decide +kernel
theorem dL_law_1499 : decode cL_law 1499 = .ok (.iadd, 1) := by decide +kernel
theorem dL_law_1500 : decode cL_law 1500 = .ok (.iaload, 1) := by decide +kernel
theorem dL_law_1501 : decode cL_law 1501 = .ok (.invokevirtual 193, 3) := by decide +kernel
theorem dL_law_1504 : decode cL_law 1504 = .ok (.if_icmp .eq 31, 3) := by decide +kernel
theorem dL_law_1507 : decode cL_law 1507 = .ok (.iconst 0, 1) := by decide +kernel
theorem dL_law_1508 : decode cL_law 1508 = .ok (.ireturn, 1) := by decide +kernel
theorem dL_law_1509 : decode cL_law 1509 = .ok (.aload_n 1, 1) := by decide +kernel
theorem dL_law_1510 : decode cL_law 1510 = .ok (.invokevirtual 194, 3) := by decide +kernel
theorem dL_law_1513 : decode cL_law 1513 = .ok (.aload_n 2, 1) := by decide +kernel
theorem dL_law_1514 : decode cL_law 1514 = .ok (.invokevirtual 197, 3) := by decide +kernel
theorem dL_law_1517 : decode cL_law 1517 = .ok (.if_icmp .eq 18, 3) := by decide +kernel
theorem dL_law_1520 : decode cL_law 1520 = .ok (.iconst 0, 1) := by decide +kernel
theorem dL_law_1521 : decode cL_law 1521 = .ok (.ireturn, 1) := by decide +kernel
theorem dL_law_1522 : decode cL_law 1522 = .ok (.aload_n 1, 1) := by decide +kernel
theorem dL_law_1523 : decode cL_law 1523 = .ok (.invokevirtual 198, 3) := by decide +kernel
theorem dL_law_1526 : decode cL_law 1526 = .ok (.aload_n 2, 1) := by decide +kernel
theorem dL_law_1527 : decode cL_law 1527 = .ok (.invokevirtual 201, 3) := by decide +kernel
theorem dL_law_1530 : decode cL_law 1530 = .ok (.if_icmp .eq 5, 3) := by decide +kernel
theorem dL_law_1533 : decode cL_law 1533 = .ok (.iconst 0, 1) := by decide +kernel
theorem dL_law_1534 : decode cL_law 1534 = .ok (.ireturn, 1) := by decide +kernel
theorem dL_law_1535 : decode cL_law 1535 = .ok (.iinc 3 7, 3) := by decide +kernel
theorem dL_law_1538 : decode cL_law 1538 = .ok (.goto (-1520), 3) := by decide +kernel
theorem dL_law_1541 : decode cL_law 1541 = .ok (.iconst 1, 1) := by decide +kernel
theorem dL_law_1542 : decode cL_law 1542 = .ok (.ireturn, 1) := by decide +kernel
