theorem dX11_mean_6 : decode cX11_mean 6 = .ok (.ifCond .ne 6, 3) := by decide +kernel
theorem dX11_mean_9 : decode cX11_mean 9 = .ok (.ldc 207, 2) := by decide +kernel
theorem dX11_mean_11 : decode cX11_mean 11 = .ok (.ireturn, 1) := by decide +kernel
theorem dX11_mean_12 : decode cX11_mean 12 = .ok (.aload_n 0, 1) := by decide +kernel
theorem dX11_mean_13 : decode cX11_mean 13 = .ok (.getfield 43, 3) := by decide +kernel
theorem dX11_mean_16 : decode cX11_mean 16 = .ok (.aload_n 0, 1) := by decide +kernel
theorem dX11_mean_17 : decode cX11_mean 17 = .ok (.getfield 10, 3) := by decide +kernel
theorem dX11_mean_20 : decode cX11_mean 20 = .ok (.iconst 0, 1) := by decide +kernel
theorem dX11_mean_21 : decode cX11_mean 21 = .ok (.invokevirtual 208, 3) := by decide +kernel
theorem dX11_mean_24 : decode cX11_mean 24 = .ok (.aload_n 0, 1) := by decide +kernel
theorem dX11_mean_25 : decode cX11_mean 25 = .ok (.getfield 59, 3) := by decide +kernel
theorem dX11_mean_28 : decode cX11_mean 28 = .ok (.aload_n 0, 1) := by decide +kernel
theorem dX11_mean_29 : decode cX11_mean 29 = .ok (.getfield 10, 3) := by decide +kernel
theorem dX11_mean_32 : decode cX11_mean 32 = .ok (.getfield 130, 3) := by decide +kernel
theorem dX11_mean_35 : decode cX11_mean 35 = .ok (.aload_n 0, 1) := by decide +kernel
theorem dX11_mean_36 : decode cX11_mean 36 = .ok (.getfield 10, 3) := by decide +kernel
theorem dX11_mean_39 : decode cX11_mean 39 = .ok (.getfield 183, 3) := by decide +kernel
theorem dX11_mean_42 : decode cX11_mean 42 = .ok (.invokevirtual 249, 3) := by decide +kernel
theorem dX11_mean_45 : decode cX11_mean 45 = .ok (.iconst 2, 1) := by decide +kernel
theorem dX11_mean_46 : decode cX11_mean 46 = .ok (.aload_n 0, 1) := by decide +kernel
theorem dX11_mean_47 : decode cX11_mean 47 = .ok (.getfield 10, 3) := by decide +kernel
theorem dX11_mean_50 : decode cX11_mean 50 = .ok (.getfield 130, 3) := by decide +kernel
theorem dX11_mean_53 : decode cX11_mean 53 = .ok (.getfield 131, 3) := by decide +kernel
theorem dX11_mean_56 : decode cX11_mean 56 = .ok (.imul, 1) := by decide +kernel
theorem dX11_mean_57 : decode cX11_mean 57 = .ok (.iload_n 1, 1) := by decide +kernel
theorem dX11_mean_58 : decode cX11_mean 58 = .ok (.invokestatic 242, 3) := by decide +kernel
theorem dX11_mean_61 : decode cX11_mean 61 = .ok (.ireturn, 1) := by decide +kernel
theorem dX11_goes_0 : decode cX11_goes 0 = .ok (.aload_n 0, 1) := by decide +kernel
theorem dX11_goes_1 : decode cX11_goes 1 = .ok (.getfield 10, 3) := by decide +kernel
theorem dX11_goes_4 : decode cX11_goes 4 = .ok (.getfield 186, 3) := by decide +kernel
theorem dX11_goes_7 : decode cX11_goes 7 = .ok (.bipush 60, 2) := by decide +kernel
theorem dX11_goes_9 : decode cX11_goes 9 = .ok (.if_icmp .lt 6, 3) := by decide +kernel
theorem dX11_goes_12 : decode cX11_goes 12 = .ok (.bipush (-4), 2) := by decide +kernel
theorem dX11_goes_14 : decode cX11_goes 14 = .ok (.ireturn, 1) := by decide +kernel
theorem dX11_goes_15 : decode cX11_goes 15 = .ok (.aload_n 0, 1) := by decide +kernel
theorem dX11_goes_16 : decode cX11_goes 16 = .ok (.getfield 10, 3) := by decide +kernel
theorem dX11_goes_19 : decode cX11_goes 19 = .ok (.invokevirtual 281, 3) := by decide +kernel
theorem dX11_goes_22 : decode cX11_goes 22 = .ok (.ireturn, 1) := by decide +kernel
theorem dX11_till_0 : decode cX11_till 0 = .ok (.aload_n 0, 1) := by decide +kernel
theorem dX11_till_1 : decode cX11_till 1 = .ok (.getfield 10, 3) := by decide +kernel
theorem dX11_till_4 : decode cX11_till 4 = .ok (.getfield 284, 3) := by decide +kernel
theorem dX11_till_7 : decode cX11_till 7 = .ok (.ireturn, 1) := by decide +kernel
theorem dX11_prove_0 : decode cX11_prove 0 = .ok (.aload_n 0, 1) := by decide +kernel
theorem dX11_prove_1 : decode cX11_prove 1 = .ok (.getfield 43, 3) := by decide +kernel
theorem dX11_prove_4 : decode cX11_prove 4 = .ok (.aload_n 0, 1) := by decide +kernel
theorem dX11_prove_5 : decode cX11_prove 5 = .ok (.getfield 10, 3) := by decide +kernel
theorem dX11_prove_8 : decode cX11_prove 8 = .ok (.iconst 0, 1) := by decide +kernel
theorem dX11_prove_9 : decode cX11_prove 9 = .ok (.invokevirtual 208, 3) := by decide +kernel
theorem dX11_prove_12 : decode cX11_prove 12 = .ok (.aload_n 0, 1) := by decide +kernel
theorem dX11_prove_13 : decode cX11_prove 13 = .ok (.getfield 52, 3) := by decide +kernel
theorem dX11_prove_16 : decode cX11_prove 16 = .ok (.aload_n 0, 1) := by decide +kernel
theorem dX11_prove_17 : decode cX11_prove 17 = .ok (.getfield 10, 3) := by decide +kernel
theorem dX11_prove_20 : decode cX11_prove 20 = .ok (.getfield 130, 3) := by decide +kernel
theorem dX11_prove_23 : decode cX11_prove 23 = .ok (.bipush (-9), 2) := by decide +kernel
theorem dX11_prove_25 : decode cX11_prove 25 = .ok (.invokevirtual 212, 3) := by decide +kernel
theorem dX11_prove_28 : decode cX11_prove 28 = .ok (.pop, 1) := by decide +kernel
theorem dX11_prove_29 : decode cX11_prove 29 = .ok (.aload_n 0, 1) := by decide +kernel
theorem dX11_prove_30 : decode cX11_prove 30 = .ok (.getfield 75, 3) := by decide +kernel
theorem dX11_prove_33 : decode cX11_prove 33 = .ok (.aload_n 0, 1) := by decide +kernel
theorem dX11_prove_34 : decode cX11_prove 34 = .ok (.getfield 10, 3) := by decide +kernel
theorem dX11_prove_37 : decode cX11_prove 37 = .ok (.getfield 130, 3) := by decide +kernel
theorem dX11_prove_40 : decode cX11_prove 40 = .ok (.aload_n 0, 1) := by decide +kernel
theorem dX11_prove_41 : decode cX11_prove 41 = .ok (.getfield 52, 3) := by decide +kernel
theorem dX11_prove_44 : decode cX11_prove 44 = .ok (.getfield 216, 3) := by decide +kernel
theorem dX11_prove_47 : decode cX11_prove 47 = .ok (.invokevirtual 287, 3) := by decide +kernel
theorem dX11_prove_50 : decode cX11_prove 50 = .ok (.aload_n 0, 1) := by decide +kernel
theorem dX11_prove_51 : decode cX11_prove 51 = .ok (.getfield 75, 3) := by decide +kernel
theorem dX11_prove_54 : decode cX11_prove 54 = .ok (.getfield 126, 3) := by decide +kernel
theorem dX11_prove_57 : decode cX11_prove 57 = .ok (.ireturn, 1) := by decide +kernel
theorem dX11_row_0 : decode cX11_row 0 = .ok (.aload_n 0, 1) := by decide +kernel
theorem dX11_row_1 : decode cX11_row 1 = .ok (.getfield 75, 3) := by decide +kernel
theorem dX11_row_4 : decode cX11_row 4 = .ok (.iload_n 1, 1) := by decide +kernel
theorem dX11_row_5 : decode cX11_row 5 = .ok (.iload_n 2, 1) := by decide +kernel
theorem dX11_row_6 : decode cX11_row 6 = .ok (.invokevirtual 290, 3) := by decide +kernel
theorem dX11_row_9 : decode cX11_row 9 = .ok (.ifCond .ne 6, 3) := by decide +kernel
theorem dX11_row_12 : decode cX11_row 12 = .ok (.ldc 207, 2) := by decide +kernel
theorem dX11_row_14 : decode cX11_row 14 = .ok (.ireturn, 1) := by decide +kernel
theorem dX11_row_15 : decode cX11_row 15 = .ok (.aload_n 0, 1) := by decide +kernel
theorem dX11_row_16 : decode cX11_row 16 = .ok (.getfield 75, 3) := by decide +kernel
theorem dX11_row_19 : decode cX11_row 19 = .ok (.getfield 293, 3) := by decide +kernel
theorem dX11_row_22 : decode cX11_row 22 = .ok (.iload_n 1, 1) := by decide +kernel
theorem dX11_row_23 : decode cX11_row 23 = .ok (.iconst 3, 1) := by decide +kernel
theorem dX11_row_24 : decode cX11_row 24 = .ok (.imul, 1) := by decide +kernel
theorem dX11_row_25 : decode cX11_row 25 = .ok (.iload_n 2, 1) := by decide +kernel
theorem dX11_row_26 : decode cX11_row 26 = .ok (.iadd, 1) := by decide +kernel
theorem dX11_row_27 : decode cX11_row 27 = .ok (.iaload, 1) := by decide +kernel
theorem dX11_row_28 : decode cX11_row 28 = .ok (.ireturn, 1) := by decide +kernel
theorem dX11_judge_0 : decode cX11_judge 0 = .ok (.aload_n 0, 1) := by decide +kernel
theorem dX11_judge_1 : decode cX11_judge 1 = .ok (.getfield 43, 3) := by decide +kernel
theorem dX11_judge_4 : decode cX11_judge 4 = .ok (.aload_n 0, 1) := by decide +kernel
theorem dX11_judge_5 : decode cX11_judge 5 = .ok (.getfield 10, 3) := by decide +kernel
theorem dX11_judge_8 : decode cX11_judge 8 = .ok (.iconst 0, 1) := by decide +kernel
theorem dX11_judge_9 : decode cX11_judge 9 = .ok (.invokevirtual 208, 3) := by decide +kernel
theorem dX11_judge_12 : decode cX11_judge 12 = .ok (.aload_n 0, 1) := by decide +kernel
theorem dX11_judge_13 : decode cX11_judge 13 = .ok (.getfield 75, 3) := by decide +kernel
theorem dX11_judge_16 : decode cX11_judge 16 = .ok (.aload_n 0, 1) := by decide +kernel
theorem dX11_judge_17 : decode cX11_judge 17 = .ok (.getfield 10, 3) := by decide +kernel
theorem dX11_judge_20 : decode cX11_judge 20 = .ok (.getfield 130, 3) := by decide +kernel
theorem dX11_judge_23 : decode cX11_judge 23 = .ok (.invokevirtual 296, 3) := by decide +kernel
theorem dX11_judge_26 : decode cX11_judge 26 = .ok (.ireturn, 1) := by decide +kernel
theorem dX11_many_0 : decode cX11_many 0 = .ok (.iload_n 1, 1) := by decide +kernel
theorem dX11_many_1 : decode cX11_many 1 = .ok (.tableswitch 78 0 4 #[35, 46, 54, 62, 70], 35) := by decide +kernel
theorem dX11_many_36 : decode cX11_many 36 = .ok (.aload_n 0, 1) := by decide +kernel
theorem dX11_many_37 : decode cX11_many 37 = .ok (.getfield 10, 3) := by decide +kernel
theorem dX11_many_40 : decode cX11_many 40 = .ok (.getfield 130, 3) := by decide +kernel
theorem dX11_many_43 : decode cX11_many 43 = .ok (.getfield 131, 3) := by decide +kernel
theorem dX11_many_46 : decode cX11_many 46 = .ok (.ireturn, 1) := by decide +kernel
theorem dX11_many_47 : decode cX11_many 47 = .ok (.aload_n 0, 1) := by decide +kernel
theorem dX11_many_48 : decode cX11_many 48 = .ok (.getfield 22, 3) := by decide +kernel
theorem dX11_many_51 : decode cX11_many 51 = .ok (.getfield 258, 3) := by decide +kernel
theorem dX11_many_54 : decode cX11_many 54 = .ok (.ireturn, 1) := by decide +kernel
theorem dX11_many_55 : decode cX11_many 55 = .ok (.aload_n 0, 1) := by decide +kernel
theorem dX11_many_56 : decode cX11_many 56 = .ok (.getfield 75, 3) := by decide +kernel
theorem dX11_many_59 : decode cX11_many 59 = .ok (.getfield 126, 3) := by decide +kernel
theorem dX11_many_62 : decode cX11_many 62 = .ok (.ireturn, 1) := by decide +kernel
theorem dX11_many_63 : decode cX11_many 63 = .ok (.aload_n 0, 1) := by decide +kernel
theorem dX11_many_64 : decode cX11_many 64 = .ok (.getfield 36, 3) := by decide +kernel
theorem dX11_many_67 : decode cX11_many 67 = .ok (.getfield 359, 3) := by decide +kernel
theorem dX11_many_70 : decode cX11_many 70 = .ok (.ireturn, 1) := by decide +kernel
theorem dX11_many_71 : decode cX11_many 71 = .ok (.aload_n 0, 1) := by decide +kernel
theorem dX11_many_72 : decode cX11_many 72 = .ok (.getfield 96, 3) := by decide +kernel
theorem dX11_many_75 : decode cX11_many 75 = .ok (.getfield 353, 3) := by decide +kernel
theorem dX11_many_78 : decode cX11_many 78 = .ok (.ireturn, 1) := by decide +kernel
theorem dX11_many_79 : decode cX11_many 79 = .ok (.iconst (-1), 1) := by decide +kernel
theorem dX11_many_80 : decode cX11_many 80 = .ok (.ireturn, 1) := by decide +kernel
theorem dX11_keep_0 : decode cX11_keep 0 = .ok (.aload_n 0, 1) := by decide +kernel
theorem dX11_keep_1 : decode cX11_keep 1 = .ok (.getfield 16, 3) := by decide +kernel
theorem dX11_keep_4 : decode cX11_keep 4 = .ok (.aload_n 0, 1) := by decide +kernel
theorem dX11_keep_5 : decode cX11_keep 5 = .ok (.getfield 10, 3) := by decide +kernel
theorem dX11_keep_8 : decode cX11_keep 8 = .ok (.invokevirtual 360, 3) := by decide +kernel
theorem dX11_keep_11 : decode cX11_keep 11 = .ok (.aload_n 0, 1) := by decide +kernel
theorem dX11_keep_12 : decode cX11_keep 12 = .ok (.getfield 26, 3) := by decide +kernel
theorem dX11_keep_15 : decode cX11_keep 15 = .ok (.aload_n 0, 1) := by decide +kernel
theorem dX11_keep_16 : decode cX11_keep 16 = .ok (.getfield 22, 3) := by decide +kernel
theorem dX11_keep_19 : decode cX11_keep 19 = .ok (.invokevirtual 363, 3) := by decide +kernel
theorem dX11_keep_22 : decode cX11_keep 22 = .ok (.aload_n 0, 1) := by decide +kernel
theorem dX11_keep_23 : decode cX11_keep 23 = .ok (.iconst 1, 1) := by decide +kernel
theorem dX11_keep_24 : decode cX11_keep 24 = .ok (.putfield 29, 3) := by decide +kernel
theorem dX11_keep_27 : decode cX11_keep 27 = .ok (.iconst 1, 1) := by decide +kernel
theorem dX11_keep_28 : decode cX11_keep 28 = .ok (.ireturn, 1) := by decide +kernel
theorem dX11_again_0 : decode cX11_again 0 = .ok (.aload_n 0, 1) := by decide +kernel
theorem dX11_again_1 : decode cX11_again 1 = .ok (.getfield 29, 3) := by decide +kernel
theorem dX11_again_4 : decode cX11_again 4 = .ok (.ifCond .ne 6, 3) := by decide +kernel
theorem dX11_again_7 : decode cX11_again 7 = .ok (.bipush (-3), 2) := by decide +kernel
theorem dX11_again_9 : decode cX11_again 9 = .ok (.ireturn, 1) := by decide +kernel
theorem dX11_again_10 : decode cX11_again 10 = .ok (.aload_n 0, 1) := by decide +kernel
theorem dX11_again_11 : decode cX11_again 11 = .ok (.getfield 10, 3) := by decide +kernel
theorem dX11_again_14 : decode cX11_again 14 = .ok (.aload_n 0, 1) := by decide +kernel
theorem dX11_again_15 : decode cX11_again 15 = .ok (.getfield 16, 3) := by decide +kernel
theorem dX11_again_18 : decode cX11_again 18 = .ok (.invokevirtual 360, 3) := by decide +kernel
theorem dX11_again_21 : decode cX11_again 21 = .ok (.aload_n 0, 1) := by decide +kernel
theorem dX11_again_22 : decode cX11_again 22 = .ok (.getfield 22, 3) := by decide +kernel
theorem dX11_again_25 : decode cX11_again 25 = .ok (.aload_n 0, 1) := by decide +kernel
theorem dX11_again_26 : decode cX11_again 26 = .ok (.getfield 26, 3) := by decide +kernel
theorem dX11_again_29 : decode cX11_again 29 = .ok (.invokevirtual 363, 3) := by decide +kernel
theorem dX11_again_32 : decode cX11_again 32 = .ok (.aload_n 0, 1) := by decide +kernel
theorem dX11_again_33 : decode cX11_again 33 = .ok (.getfield 10, 3) := by decide +kernel
theorem dX11_again_36 : decode cX11_again 36 = .ok (.getfield 130, 3) := by decide +kernel
theorem dX11_again_39 : decode cX11_again 39 = .ok (.getfield 131, 3) := by decide +kernel
theorem dX11_again_42 : decode cX11_again 42 = .ok (.ireturn, 1) := by decide +kernel
theorem dX11_followPlan_0 : decode cX11_followPlan 0 = .ok (.aload_n 0, 1) := by decide +kernel
theorem dX11_followPlan_1 : decode cX11_followPlan 1 = .ok (.getfield 43, 3) := by decide +kernel
theorem dX11_followPlan_4 : decode cX11_followPlan 4 = .ok (.aload_n 0, 1) := by decide +kernel
theorem dX11_followPlan_5 : decode cX11_followPlan 5 = .ok (.getfield 10, 3) := by decide +kernel
theorem dX11_followPlan_8 : decode cX11_followPlan 8 = .ok (.iconst 0, 1) := by decide +kernel
theorem dX11_followPlan_9 : decode cX11_followPlan 9 = .ok (.invokevirtual 208, 3) := by decide +kernel
theorem dX11_followPlan_12 : decode cX11_followPlan 12 = .ok (.aload_n 0, 1) := by decide +kernel
theorem dX11_followPlan_13 : decode cX11_followPlan 13 = .ok (.getfield 43, 3) := by decide +kernel
theorem dX11_followPlan_16 : decode cX11_followPlan 16 = .ok (.aload_n 0, 1) := by decide +kernel
theorem dX11_followPlan_17 : decode cX11_followPlan 17 = .ok (.getfield 10, 3) := by decide +kernel
theorem dX11_followPlan_20 : decode cX11_followPlan 20 = .ok (.getfield 130, 3) := by decide +kernel
theorem dX11_followPlan_23 : decode cX11_followPlan 23 = .ok (.aload_n 0, 1) := by decide +kernel
theorem dX11_followPlan_24 : decode cX11_followPlan 24 = .ok (.getfield 10, 3) := by decide +kernel
theorem dX11_followPlan_27 : decode cX11_followPlan 27 = .ok (.getfield 183, 3) := by decide +kernel
theorem dX11_followPlan_30 : decode cX11_followPlan 30 = .ok (.invokevirtual 366, 3) := by decide +kernel
theorem dX11_followPlan_33 : decode cX11_followPlan 33 = .ok (.return_, 1) := by decide +kernel
theorem dX11_within_0 : decode cX11_within 0 = .ok (.iload_n 0, 1) := by decide +kernel
theorem dX11_within_1 : decode cX11_within 1 = .ok (.iload_n 1, 1) := by decide +kernel
theorem dX11_within_2 : decode cX11_within 2 = .ok (.if_icmp .lt 12, 3) := by decide +kernel
theorem dX11_within_5 : decode cX11_within 5 = .ok (.iload_n 0, 1) := by decide +kernel
theorem dX11_within_6 : decode cX11_within 6 = .ok (.iload_n 2, 1) := by decide +kernel
theorem dX11_within_7 : decode cX11_within 7 = .ok (.if_icmp .gt 7, 3) := by decide +kernel
theorem dX11_within_10 : decode cX11_within 10 = .ok (.iconst 1, 1) := by decide +kernel
theorem dX11_within_11 : decode cX11_within 11 = .ok (.goto 4, 3) := by decide +kernel
theorem dX11_within_14 : decode cX11_within 14 = .ok (.iconst 0, 1) := by decide +kernel
theorem dX11_within_15 : decode cX11_within 15 = .ok (.ireturn, 1) := by decide +kernel
theorem dX11_isJob_0 : decode cX11_isJob 0 = .ok (.iload_n 0, 1) := by decide +kernel
theorem dX11_isJob_1 : decode cX11_isJob 1 = .ok (.iconst 0, 1) := by decide +kernel
theorem dX11_isJob_2 : decode cX11_isJob 2 = .ok (.iconst 5, 1) := by decide +kernel
theorem dX11_isJob_3 : decode cX11_isJob 3 = .ok (.invokestatic 100, 3) := by decide +kernel
theorem dX11_isJob_6 : decode cX11_isJob 6 = .ok (.ifCond .eq 47, 3) := by decide +kernel
theorem dX11_isJob_9 : decode cX11_isJob 9 = .ok (.iload_n 1, 1) := by decide +kernel
theorem dX11_isJob_10 : decode cX11_isJob 10 = .ok (.iconst 1, 1) := by decide +kernel
theorem dX11_isJob_11 : decode cX11_isJob 11 = .ok (.bipush 9, 2) := by decide +kernel
theorem dX11_isJob_13 : decode cX11_isJob 13 = .ok (.invokestatic 100, 3) := by decide +kernel
theorem dX11_isJob_16 : decode cX11_isJob 16 = .ok (.ifCond .eq 37, 3) := by decide +kernel
theorem dX11_isJob_19 : decode cX11_isJob 19 = .ok (.iload_n 2, 1) := by decide +kernel
theorem dX11_isJob_20 : decode cX11_isJob 20 = .ok (.iconst 0, 1) := by decide +kernel
theorem dX11_isJob_21 : decode cX11_isJob 21 = .ok (.iconst 1, 1) := by decide +kernel
theorem dX11_isJob_22 : decode cX11_isJob 22 = .ok (.invokestatic 100, 3) := by decide +kernel
theorem dX11_isJob_25 : decode cX11_isJob 25 = .ok (.ifCond .eq 28, 3) := by decide +kernel
theorem dX11_isJob_28 : decode cX11_isJob 28 = .ok (.iload_n 3, 1) := by decide +kernel
theorem dX11_isJob_29 : decode cX11_isJob 29 = .ok (.iconst 0, 1) := by decide +kernel
theorem dX11_isJob_30 : decode cX11_isJob 30 = .ok (.bipush 60, 2) := by decide +kernel
theorem dX11_isJob_32 : decode cX11_isJob 32 = .ok (.invokestatic 100, 3) := by decide +kernel
theorem dX11_isJob_35 : decode cX11_isJob 35 = .ok (.ifCond .eq 18, 3) := by decide +kernel
theorem dX11_isJob_38 : decode cX11_isJob 38 = .ok (.iload 4, 2) := by decide +kernel
theorem dX11_isJob_40 : decode cX11_isJob 40 = .ok (.iconst 0, 1) := by decide +kernel
theorem dX11_isJob_41 : decode cX11_isJob 41 = .ok (.bipush 99, 2) := by decide +kernel
theorem dX11_isJob_43 : decode cX11_isJob 43 = .ok (.invokestatic 100, 3) := by decide +kernel
theorem dX11_isJob_46 : decode cX11_isJob 46 = .ok (.ifCond .eq 7, 3) := by decide +kernel
theorem dX11_isJob_49 : decode cX11_isJob 49 = .ok (.iconst 1, 1) := by decide +kernel
theorem dX11_isJob_50 : decode cX11_isJob 50 = .ok (.goto 4, 3) := by decide +kernel
theorem dX11_isJob_53 : decode cX11_isJob 53 = .ok (.iconst 0, 1) := by decide +kernel
theorem dX11_isJob_54 : decode cX11_isJob 54 = .ok (.ireturn, 1) := by decide +kernel
theorem dX11_digitsOf_0 : decode cX11_digitsOf 0 = .ok (.iconst 0, 1) := by decide +kernel
theorem dX11_digitsOf_1 : decode cX11_digitsOf 1 = .ok (.istore_n 2, 1) := by decide +kernel
theorem dX11_digitsOf_2 : decode cX11_digitsOf 2 = .ok (.iconst 0, 1) := by decide +kernel
theorem dX11_digitsOf_3 : decode cX11_digitsOf 3 = .ok (.istore_n 3, 1) := by decide +kernel
theorem dX11_digitsOf_4 : decode cX11_digitsOf 4 = .ok (.iload_n 3, 1) := by decide +kernel
theorem dX11_digitsOf_5 : decode cX11_digitsOf 5 = .ok (.iload_n 1, 1) := by decide +kernel
theorem dX11_digitsOf_6 : decode cX11_digitsOf 6 = .ok (.if_icmp .ge 25, 3) := by decide +kernel
theorem dX11_digitsOf_9 : decode cX11_digitsOf 9 = .ok (.iload_n 3, 1) := by decide +kernel
theorem dX11_digitsOf_10 : decode cX11_digitsOf 10 = .ok (.aload_n 0, 1) := by decide +kernel
theorem dX11_digitsOf_11 : decode cX11_digitsOf 11 = .ok (.arraylength, 1) := by decide +kernel
theorem dX11_digitsOf_12 : decode cX11_digitsOf 12 = .ok (.if_icmp .ge 19, 3) := by decide +kernel
theorem dX11_digitsOf_15 : decode cX11_digitsOf 15 = .ok (.iload_n 2, 1) := by decide +kernel
theorem dX11_digitsOf_16 : decode cX11_digitsOf 16 = .ok (.aload_n 0, 1) := by decide +kernel
theorem dX11_digitsOf_17 : decode cX11_digitsOf 17 = .ok (.iload_n 3, 1) := by decide +kernel
theorem dX11_digitsOf_18 : decode cX11_digitsOf 18 = .ok (.iaload, 1) := by decide +kernel
theorem dX11_digitsOf_19 : decode cX11_digitsOf 19 = .ok (.iconst 3, 1) := by decide +kernel
theorem dX11_digitsOf_20 : decode cX11_digitsOf 20 = .ok (.iload_n 3, 1) := by decide +kernel
theorem dX11_digitsOf_21 : decode cX11_digitsOf 21 = .ok (.imul, 1) := by decide +kernel
theorem dX11_digitsOf_22 : decode cX11_digitsOf 22 = .ok (.ishl, 1) := by decide +kernel
theorem dX11_digitsOf_23 : decode cX11_digitsOf 23 = .ok (.ior, 1) := by decide +kernel
theorem dX11_digitsOf_24 : decode cX11_digitsOf 24 = .ok (.istore_n 2, 1) := by decide +kernel
theorem dX11_digitsOf_25 : decode cX11_digitsOf 25 = .ok (.iinc 3 1, 3) := by decide +kernel
theorem dX11_digitsOf_28 : decode cX11_digitsOf 28 = .ok (.goto (-24), 3) := by decide +kernel
theorem dX11_digitsOf_31 : decode cX11_digitsOf 31 = .ok (.iload_n 2, 1) := by decide +kernel
theorem dX11_digitsOf_32 : decode cX11_digitsOf 32 = .ok (.ireturn, 1) := by decide +kernel
theorem dX11_partOf_0 : decode cX11_partOf 0 = .ok (.iload_n 1, 1) := by decide +kernel
theorem dX11_partOf_1 : decode cX11_partOf 1 = .ok (.istore_n 3, 1) := by decide +kernel
theorem dX11_partOf_2 : decode cX11_partOf 2 = .ok (.iload_n 0, 1) := by decide +kernel
theorem dX11_partOf_3 : decode cX11_partOf 3 = .ok (.istore 4, 2) := by decide +kernel
theorem dX11_partOf_5 : decode cX11_partOf 5 = .ok (.iload_n 3, 1) := by decide +kernel
theorem dX11_partOf_6 : decode cX11_partOf 6 = .ok (.ifCond .le 22, 3) := by decide +kernel
theorem dX11_partOf_9 : decode cX11_partOf 9 = .ok (.iload 4, 2) := by decide +kernel
theorem dX11_partOf_11 : decode cX11_partOf 11 = .ok (.iconst 2, 1) := by decide +kernel
theorem dX11_partOf_12 : decode cX11_partOf 12 = .ok (.irem, 1) := by decide +kernel
theorem dX11_partOf_13 : decode cX11_partOf 13 = .ok (.ifCond .ne 15, 3) := by decide +kernel
theorem dX11_partOf_16 : decode cX11_partOf 16 = .ok (.iload 4, 2) := by decide +kernel
theorem dX11_partOf_18 : decode cX11_partOf 18 = .ok (.iconst 2, 1) := by decide +kernel
theorem dX11_partOf_19 : decode cX11_partOf 19 = .ok (.idiv, 1) := by decide +kernel
theorem dX11_partOf_20 : decode cX11_partOf 20 = .ok (.istore 4, 2) := by decide +kernel
theorem dX11_partOf_22 : decode cX11_partOf 22 = .ok (.iinc 3 (-1), 3) := by decide +kernel
theorem dX11_partOf_25 : decode cX11_partOf 25 = .ok (.goto (-20), 3) := by decide +kernel
theorem dX11_partOf_28 : decode cX11_partOf 28 = .ok (.iload_n 2, 1) := by decide +kernel
theorem dX11_partOf_29 : decode cX11_partOf 29 = .ok (.ifCond .ne 8, 3) := by decide +kernel
theorem dX11_partOf_32 : decode cX11_partOf 32 = .ok (.iload 4, 2) := by decide +kernel
theorem dX11_partOf_34 : decode cX11_partOf 34 = .ok (.goto 6, 3) := by decide +kernel
theorem dX11_partOf_37 : decode cX11_partOf 37 = .ok (.iconst 1, 1) := by decide +kernel
theorem dX11_partOf_38 : decode cX11_partOf 38 = .ok (.iload_n 3, 1) := by decide +kernel
theorem dX11_partOf_39 : decode cX11_partOf 39 = .ok (.ishl, 1) := by decide +kernel
theorem dX11_partOf_40 : decode cX11_partOf 40 = .ok (.ireturn, 1) := by decide +kernel
theorem dJ9_max_7cf53_0 : decode cJ9_max_7cf53 0 = .ok (.iload_n 0, 1) := by decide +kernel
theorem dJ9_max_7cf53_1 : decode cJ9_max_7cf53 1 = .ok (.iload_n 1, 1) := by decide +kernel
theorem dJ9_max_7cf53_2 : decode cJ9_max_7cf53 2 = .ok (.if_icmp .lt 7, 3) := by decide +kernel
theorem dJ9_max_7cf53_5 : decode cJ9_max_7cf53 5 = .ok (.iload_n 0, 1) := by decide +kernel
theorem dJ9_max_7cf53_6 : decode cJ9_max_7cf53 6 = .ok (.goto 4, 3) := by decide +kernel
theorem dJ9_max_7cf53_9 : decode cJ9_max_7cf53 9 = .ok (.iload_n 1, 1) := by decide +kernel
theorem dJ9_max_7cf53_10 : decode cJ9_max_7cf53 10 = .ok (.ireturn, 1) := by decide +kernel
theorem dJ9_min_7cf53_0 : decode cJ9_min_7cf53 0 = .ok (.iload_n 0, 1) := by decide +kernel
theorem dJ9_min_7cf53_1 : decode cJ9_min_7cf53 1 = .ok (.iload_n 1, 1) := by decide +kernel
theorem dJ9_min_7cf53_2 : decode cJ9_min_7cf53 2 = .ok (.if_icmp .gt 7, 3) := by decide +kernel
theorem dJ9_min_7cf53_5 : decode cJ9_min_7cf53 5 = .ok (.iload_n 0, 1) := by decide +kernel
theorem dJ9_min_7cf53_6 : decode cJ9_min_7cf53 6 = .ok (.goto 4, 3) := by decide +kernel
theorem dJ9_min_7cf53_9 : decode cJ9_min_7cf53 9 = .ok (.iload_n 1, 1) := by decide +kernel
theorem dJ9_min_7cf53_10 : decode cJ9_min_7cf53 10 = .ok (.ireturn, 1) := by decide +kernel
theorem dL_mod_0 : decode cL_mod 0 = .ok (.iload_n 0, 1) := by decide +kernel
theorem dL_mod_1 : decode cL_mod 1 = .ok (.iload_n 1, 1) := by decide +kernel
theorem dL_mod_2 : decode cL_mod 2 = .ok (.irem, 1) := by decide +kernel
theorem dL_mod_3 : decode cL_mod 3 = .ok (.istore_n 2, 1) := by decide +kernel
theorem dL_mod_4 : decode cL_mod 4 = .ok (.iload_n 2, 1) := by decide +kernel
theorem dL_mod_5 : decode cL_mod 5 = .ok (.ifCond .ge 9, 3) := by decide +kernel
theorem dL_mod_8 : decode cL_mod 8 = .ok (.iload_n 2, 1) := by decide +kernel
theorem dL_mod_9 : decode cL_mod 9 = .ok (.iload_n 1, 1) := by decide +kernel
theorem dL_mod_10 : decode cL_mod 10 = .ok (.iadd, 1) := by decide +kernel
theorem dL_mod_11 : decode cL_mod 11 = .ok (.goto 4, 3) := by decide +kernel
theorem dL_mod_14 : decode cL_mod 14 = .ok (.iload_n 2, 1) := by decide +kernel
theorem dL_mod_15 : decode cL_mod 15 = .ok (.ireturn, 1) := by decide +kernel
theorem dL_at_0 : decode cL_at 0 = .ok (.aload_n 0, 1) := by decide +kernel
theorem dL_at_1 : decode cL_at 1 = .ok (.arraylength, 1) := by decide +kernel
theorem dL_at_2 : decode cL_at 2 = .ok (.iload_n 1, 1) := by decide +kernel
theorem dL_at_3 : decode cL_at 3 = .ok (.if_icmp .le 9, 3) := by decide +kernel
theorem dL_at_6 : decode cL_at 6 = .ok (.aload_n 0, 1) := by decide +kernel
theorem dL_at_7 : decode cL_at 7 = .ok (.iload_n 1, 1) := by decide +kernel
theorem dL_at_8 : decode cL_at 8 = .ok (.iaload, 1) := by decide +kernel
theorem dL_at_9 : decode cL_at 9 = .ok (.goto 10, 3) := by decide +kernel
theorem dL_at_12 : decode cL_at 12 = .ok (.bipush 37, 2) := by decide +kernel
theorem dL_at_14 : decode cL_at 14 = .ok (.iload_n 1, 1) := by decide +kernel
theorem dL_at_15 : decode cL_at 15 = .ok (.imul, 1) := by decide +kernel
theorem dL_at_16 : decode cL_at 16 = .ok (.bipush 11, 2) := by decide +kernel
theorem dL_at_18 : decode cL_at 18 = .ok (.iadd, 1) := by decide +kernel
theorem dL_at_19 : decode cL_at 19 = .ok (.ireturn, 1) := by decide +kernel
theorem dL_isOrder_0 : decode cL_isOrder 0 = .ok (.iconst 0, 1) := by decide +kernel
theorem dL_isOrder_1 : decode cL_isOrder 1 = .ok (.istore_n 2, 1) := by decide +kernel
theorem dL_isOrder_2 : decode cL_isOrder 2 = .ok (.iconst 0, 1) := by decide +kernel
theorem dL_isOrder_3 : decode cL_isOrder 3 = .ok (.istore_n 3, 1) := by decide +kernel
theorem dL_isOrder_4 : decode cL_isOrder 4 = .ok (.iload_n 3, 1) := by decide +kernel
theorem dL_isOrder_5 : decode cL_isOrder 5 = .ok (.iload_n 1, 1) := by decide +kernel
theorem dL_isOrder_6 : decode cL_isOrder 6 = .ok (.if_icmp .ge 22, 3) := by decide +kernel
theorem dL_isOrder_9 : decode cL_isOrder 9 = .ok (.iload_n 2, 1) := by decide +kernel
theorem dL_isOrder_10 : decode cL_isOrder 10 = .ok (.iconst 1, 1) := by decide +kernel
theorem dL_isOrder_11 : decode cL_isOrder 11 = .ok (.iload_n 0, 1) := by decide +kernel
theorem dL_isOrder_12 : decode cL_isOrder 12 = .ok (.iconst 3, 1) := by decide +kernel
theorem dL_isOrder_13 : decode cL_isOrder 13 = .ok (.iload_n 3, 1) := by decide +kernel
theorem dL_isOrder_14 : decode cL_isOrder 14 = .ok (.imul, 1) := by decide +kernel
theorem dL_isOrder_15 : decode cL_isOrder 15 = .ok (.ishr, 1) := by decide +kernel
theorem dL_isOrder_16 : decode cL_isOrder 16 = .ok (.bipush 7, 2) := by decide +kernel
theorem dL_isOrder_18 : decode cL_isOrder 18 = .ok (.iand, 1) := by decide +kernel
theorem dL_isOrder_19 : decode cL_isOrder 19 = .ok (.ishl, 1) := by decide +kernel
theorem dL_isOrder_20 : decode cL_isOrder 20 = .ok (.ior, 1) := by decide +kernel
theorem dL_isOrder_21 : decode cL_isOrder 21 = .ok (.istore_n 2, 1) := by decide +kernel
theorem dL_isOrder_22 : decode cL_isOrder 22 = .ok (.iinc 3 1, 3) := by decide +kernel
theorem dL_isOrder_25 : decode cL_isOrder 25 = .ok (.goto (-21), 3) := by decide +kernel
theorem dL_isOrder_28 : decode cL_isOrder 28 = .ok (.iload_n 2, 1) := by decide +kernel
theorem dL_isOrder_29 : decode cL_isOrder 29 = .ok (.iconst 1, 1) := by decide +kernel
theorem dL_isOrder_30 : decode cL_isOrder 30 = .ok (.iload_n 1, 1) := by decide +kernel
theorem dL_isOrder_31 : decode cL_isOrder 31 = .ok (.ishl, 1) := by decide +kernel
theorem dL_isOrder_32 : decode cL_isOrder 32 = .ok (.iconst 1, 1) := by decide +kernel
theorem dL_isOrder_33 : decode cL_isOrder 33 = .ok (.isub, 1) := by decide +kernel
theorem dL_isOrder_34 : decode cL_isOrder 34 = .ok (.if_icmp .ne 15, 3) := by decide +kernel
theorem dL_isOrder_37 : decode cL_isOrder 37 = .ok (.iload_n 0, 1) := by decide +kernel
theorem dL_isOrder_38 : decode cL_isOrder 38 = .ok (.iconst 3, 1) := by decide +kernel
theorem dL_isOrder_39 : decode cL_isOrder 39 = .ok (.iload_n 1, 1) := by decide +kernel
theorem dL_isOrder_40 : decode cL_isOrder 40 = .ok (.imul, 1) := by decide +kernel
theorem dL_isOrder_41 : decode cL_isOrder 41 = .ok (.ishr, 1) := by decide +kernel
theorem dL_isOrder_42 : decode cL_isOrder 42 = .ok (.ifCond .ne 7, 3) := by decide +kernel
theorem dL_isOrder_45 : decode cL_isOrder 45 = .ok (.iconst 1, 1) := by decide +kernel
theorem dL_isOrder_46 : decode cL_isOrder 46 = .ok (.goto 4, 3) := by decide +kernel
theorem dL_isOrder_49 : decode cL_isOrder 49 = .ok (.iconst 0, 1) := by decide +kernel
theorem dL_isOrder_50 : decode cL_isOrder 50 = .ok (.ireturn, 1) := by decide +kernel
theorem dL_lay_0 : decode cL_lay 0 = .ok (.aload_n 1, 1) := by decide +kernel
theorem dL_lay_1 : decode cL_lay 1 = .ok (.iconst 0, 1) := by decide +kernel
theorem dL_lay_2 : decode cL_lay 2 = .ok (.invokestatic 17, 3) := by decide +kernel
theorem dL_lay_5 : decode cL_lay 5 = .ok (.istore 7, 2) := by decide +kernel
theorem dL_lay_7 : decode cL_lay 7 = .ok (.aload 4, 2) := by decide +kernel
theorem dL_lay_9 : decode cL_lay 9 = .ok (.iconst 0, 1) := by decide +kernel
theorem dL_lay_10 : decode cL_lay 10 = .ok (.iconst 1, 1) := by decide +kernel
theorem dL_lay_11 : decode cL_lay 11 = .ok (.iload 7, 2) := by decide +kernel
theorem dL_lay_13 : decode cL_lay 13 = .ok (.iconst 4, 1) := by decide +kernel
theorem dL_lay_14 : decode cL_lay 14 = .ok (.invokestatic 21, 3) := by decide +kernel
theorem dL_lay_17 : decode cL_lay 17 = .ok (.iadd, 1) := by decide +kernel
theorem dL_lay_18 : decode cL_lay 18 = .ok (.iastore, 1) := by decide +kernel
theorem dL_lay_19 : decode cL_lay 19 = .ok (.aload 4, 2) := by decide +kernel
theorem dL_lay_21 : decode cL_lay 21 = .ok (.iconst 1, 1) := by decide +kernel
theorem dL_lay_22 : decode cL_lay 22 = .ok (.iload 7, 2) := by decide +kernel
theorem dL_lay_24 : decode cL_lay 24 = .ok (.iconst 2, 1) := by decide +kernel
theorem dL_lay_25 : decode cL_lay 25 = .ok (.ishr, 1) := by decide +kernel
theorem dL_lay_26 : decode cL_lay 26 = .ok (.iconst 4, 1) := by decide +kernel
theorem dL_lay_27 : decode cL_lay 27 = .ok (.invokestatic 21, 3) := by decide +kernel
theorem dL_lay_30 : decode cL_lay 30 = .ok (.iastore, 1) := by decide +kernel
theorem dL_lay_31 : decode cL_lay 31 = .ok (.aload 4, 2) := by decide +kernel
theorem dL_lay_33 : decode cL_lay 33 = .ok (.iconst 2, 1) := by decide +kernel
theorem dL_lay_34 : decode cL_lay 34 = .ok (.iload 7, 2) := by decide +kernel
theorem dL_lay_36 : decode cL_lay 36 = .ok (.iconst 4, 1) := by decide +kernel
theorem dL_lay_37 : decode cL_lay 37 = .ok (.ishr, 1) := by decide +kernel
theorem dL_lay_38 : decode cL_lay 38 = .ok (.bipush 100, 2) := by decide +kernel
theorem dL_lay_40 : decode cL_lay 40 = .ok (.invokestatic 21, 3) := by decide +kernel
theorem dL_lay_43 : decode cL_lay 43 = .ok (.iastore, 1) := by decide +kernel
theorem dL_lay_44 : decode cL_lay 44 = .ok (.aload 4, 2) := by decide +kernel
theorem dL_lay_46 : decode cL_lay 46 = .ok (.iconst 3, 1) := by decide +kernel
theorem dL_lay_47 : decode cL_lay 47 = .ok (.iload 7, 2) := by decide +kernel
theorem dL_lay_49 : decode cL_lay 49 = .ok (.bipush 11, 2) := by decide +kernel
theorem dL_lay_51 : decode cL_lay 51 = .ok (.ishr, 1) := by decide +kernel
theorem dL_lay_52 : decode cL_lay 52 = .ok (.iconst 5, 1) := by decide +kernel
theorem dL_lay_53 : decode cL_lay 53 = .ok (.invokestatic 21, 3) := by decide +kernel
theorem dL_lay_56 : decode cL_lay 56 = .ok (.iastore, 1) := by decide +kernel
theorem dL_lay_57 : decode cL_lay 57 = .ok (.aload_n 0, 1) := by decide +kernel
theorem dL_lay_58 : decode cL_lay 58 = .ok (.iconst 0, 1) := by decide +kernel
theorem dL_lay_59 : decode cL_lay 59 = .ok (.aload 4, 2) := by decide +kernel
theorem dL_lay_61 : decode cL_lay 61 = .ok (.iconst 0, 1) := by decide +kernel
theorem dL_lay_62 : decode cL_lay 62 = .ok (.iaload, 1) := by decide +kernel
theorem dL_lay_63 : decode cL_lay 63 = .ok (.invokevirtual 25, 3) := by decide +kernel
theorem dL_lay_66 : decode cL_lay 66 = .ok (.iconst 2, 1) := by decide +kernel
theorem dL_lay_67 : decode cL_lay 67 = .ok (.if_icmp .ne 42, 3) := by decide +kernel
theorem dL_lay_70 : decode cL_lay 70 = .ok (.aload_n 0, 1) := by decide +kernel
theorem dL_lay_71 : decode cL_lay 71 = .ok (.iconst 1, 1) := by decide +kernel
theorem dL_lay_72 : decode cL_lay 72 = .ok (.aload 4, 2) := by decide +kernel
theorem dL_lay_74 : decode cL_lay 74 = .ok (.iconst 1, 1) := by decide +kernel
theorem dL_lay_75 : decode cL_lay 75 = .ok (.iaload, 1) := by decide +kernel
theorem dL_lay_76 : decode cL_lay 76 = .ok (.invokevirtual 25, 3) := by decide +kernel
theorem dL_lay_79 : decode cL_lay 79 = .ok (.iconst 1, 1) := by decide +kernel
theorem dL_lay_80 : decode cL_lay 80 = .ok (.if_icmp .ne 29, 3) := by decide +kernel
theorem dL_lay_83 : decode cL_lay 83 = .ok (.aload_n 0, 1) := by decide +kernel
theorem dL_lay_84 : decode cL_lay 84 = .ok (.iconst 2, 1) := by decide +kernel
theorem dL_lay_85 : decode cL_lay 85 = .ok (.aload 4, 2) := by decide +kernel
theorem dL_lay_87 : decode cL_lay 87 = .ok (.iconst 2, 1) := by decide +kernel
theorem dL_lay_88 : decode cL_lay 88 = .ok (.iaload, 1) := by decide +kernel
theorem dL_lay_89 : decode cL_lay 89 = .ok (.invokevirtual 25, 3) := by decide +kernel
theorem dL_lay_92 : decode cL_lay 92 = .ok (.iconst 5, 1) := by decide +kernel
theorem dL_lay_93 : decode cL_lay 93 = .ok (.if_icmp .ne 16, 3) := by decide +kernel
theorem dL_lay_96 : decode cL_lay 96 = .ok (.aload_n 0, 1) := by decide +kernel
theorem dL_lay_97 : decode cL_lay 97 = .ok (.iconst 3, 1) := by decide +kernel
theorem dL_lay_98 : decode cL_lay 98 = .ok (.aload 4, 2) := by decide +kernel
theorem dL_lay_100 : decode cL_lay 100 = .ok (.iconst 3, 1) := by decide +kernel
theorem dL_lay_101 : decode cL_lay 101 = .ok (.iaload, 1) := by decide +kernel
theorem dL_lay_102 : decode cL_lay 102 = .ok (.invokevirtual 25, 3) := by decide +kernel
theorem dL_lay_105 : decode cL_lay 105 = .ok (.iconst 1, 1) := by decide +kernel
theorem dL_lay_106 : decode cL_lay 106 = .ok (.if_icmp .eq 5, 3) := by decide +kernel
theorem dL_lay_109 : decode cL_lay 109 = .ok (.iconst (-1), 1) := by decide +kernel
theorem dL_lay_110 : decode cL_lay 110 = .ok (.ireturn, 1) := by decide +kernel
theorem dL_lay_111 : decode cL_lay 111 = .ok (.iconst 0, 1) := by decide +kernel
theorem dL_lay_112 : decode cL_lay 112 = .ok (.istore 8, 2) := by decide +kernel
theorem dL_lay_114 : decode cL_lay 114 = .ok (.iload 8, 2) := by decide +kernel
theorem dL_lay_116 : decode cL_lay 116 = .ok (.bipush 10, 2) := by decide +kernel
theorem dL_lay_118 : decode cL_lay 118 = .ok (.if_icmp .ge 102, 3) := by decide +kernel
theorem dL_lay_121 : decode cL_lay 121 = .ok (.aload_n 1, 1) := by decide +kernel
theorem dL_lay_122 : decode cL_lay 122 = .ok (.iconst 1, 1) := by decide +kernel
theorem dL_lay_123 : decode cL_lay 123 = .ok (.invokestatic 17, 3) := by decide +kernel
theorem dL_lay_126 : decode cL_lay 126 = .ok (.iconst 3, 1) := by decide +kernel
theorem dL_lay_127 : decode cL_lay 127 = .ok (.iload 8, 2) := by decide +kernel
theorem dL_lay_129 : decode cL_lay 129 = .ok (.imul, 1) := by decide +kernel
theorem dL_lay_130 : decode cL_lay 130 = .ok (.ishr, 1) := by decide +kernel
theorem dL_lay_131 : decode cL_lay 131 = .ok (.istore 9, 2) := by decide +kernel
theorem dL_lay_133 : decode cL_lay 133 = .ok (.aload 5, 2) := by decide +kernel
theorem dL_lay_135 : decode cL_lay 135 = .ok (.iload 8, 2) := by decide +kernel
theorem dL_lay_137 : decode cL_lay 137 = .ok (.iload 9, 2) := by decide +kernel
theorem dL_lay_139 : decode cL_lay 139 = .ok (.bipush 7, 2) := by decide +kernel
theorem dL_lay_141 : decode cL_lay 141 = .ok (.iand, 1) := by decide +kernel
theorem dL_lay_142 : decode cL_lay 142 = .ok (.iconst 1, 1) := by decide +kernel
theorem dL_lay_143 : decode cL_lay 143 = .ok (.if_icmp .ne 7, 3) := by decide +kernel
theorem dL_lay_146 : decode cL_lay 146 = .ok (.iconst 2, 1) := by decide +kernel
theorem dL_lay_147 : decode cL_lay 147 = .ok (.goto 17, 3) := by decide +kernel
theorem dL_lay_150 : decode cL_lay 150 = .ok (.iload 9, 2) := by decide +kernel
theorem dL_lay_152 : decode cL_lay 152 = .ok (.bipush 7, 2) := by decide +kernel
theorem dL_lay_154 : decode cL_lay 154 = .ok (.iand, 1) := by decide +kernel
theorem dL_lay_155 : decode cL_lay 155 = .ok (.iconst 2, 1) := by decide +kernel
theorem dL_lay_156 : decode cL_lay 156 = .ok (.if_icmp .ne 7, 3) := by decide +kernel
theorem dL_lay_159 : decode cL_lay 159 = .ok (.iconst 1, 1) := by decide +kernel
theorem dL_lay_160 : decode cL_lay 160 = .ok (.goto 4, 3) := by decide +kernel
theorem dL_lay_163 : decode cL_lay 163 = .ok (.iconst 0, 1) := by decide +kernel
theorem dL_lay_164 : decode cL_lay 164 = .ok (.iastore, 1) := by decide +kernel
theorem dL_lay_165 : decode cL_lay 165 = .ok (.aload 6, 2) := by decide +kernel
theorem dL_lay_167 : decode cL_lay 167 = .ok (.iload 8, 2) := by decide +kernel
theorem dL_lay_169 : decode cL_lay 169 = .ok (.iload 9, 2) := by decide +kernel
theorem dL_lay_171 : decode cL_lay 171 = .ok (.bipush 7, 2) := by decide +kernel
theorem dL_lay_173 : decode cL_lay 173 = .ok (.iand, 1) := by decide +kernel
theorem dL_lay_174 : decode cL_lay 174 = .ok (.iconst 3, 1) := by decide +kernel
theorem dL_lay_175 : decode cL_lay 175 = .ok (.if_icmp .ne 7, 3) := by decide +kernel
theorem dL_lay_178 : decode cL_lay 178 = .ok (.iconst 1, 1) := by decide +kernel
theorem dL_lay_179 : decode cL_lay 179 = .ok (.goto 4, 3) := by decide +kernel
theorem dL_lay_182 : decode cL_lay 182 = .ok (.iconst 0, 1) := by decide +kernel
theorem dL_lay_183 : decode cL_lay 183 = .ok (.iastore, 1) := by decide +kernel
theorem dL_lay_184 : decode cL_lay 184 = .ok (.aload_n 0, 1) := by decide +kernel
theorem dL_lay_185 : decode cL_lay 185 = .ok (.iload 8, 2) := by decide +kernel
theorem dL_lay_187 : decode cL_lay 187 = .ok (.aload 5, 2) := by decide +kernel
theorem dL_lay_189 : decode cL_lay 189 = .ok (.iload 8, 2) := by decide +kernel
theorem dL_lay_191 : decode cL_lay 191 = .ok (.iaload, 1) := by decide +kernel
theorem dL_lay_192 : decode cL_lay 192 = .ok (.invokevirtual 30, 3) := by decide +kernel
theorem dL_lay_195 : decode cL_lay 195 = .ok (.ifCond .ne 17, 3) := by decide +kernel
theorem dL_lay_198 : decode cL_lay 198 = .ok (.aload_n 0, 1) := by decide +kernel
theorem dL_lay_199 : decode cL_lay 199 = .ok (.iload 8, 2) := by decide +kernel
theorem dL_lay_201 : decode cL_lay 201 = .ok (.aload 6, 2) := by decide +kernel
theorem dL_lay_203 : decode cL_lay 203 = .ok (.iload 8, 2) := by decide +kernel
theorem dL_lay_205 : decode cL_lay 205 = .ok (.iaload, 1) := by decide +kernel
theorem dL_lay_206 : decode cL_lay 206 = .ok (.invokevirtual 33, 3) := by decide +kernel
theorem dL_lay_209 : decode cL_lay 209 = .ok (.ifCond .eq 5, 3) := by decide +kernel
theorem dL_lay_212 : decode cL_lay 212 = .ok (.iconst (-1), 1) := by decide +kernel
theorem dL_lay_213 : decode cL_lay 213 = .ok (.ireturn, 1) := by decide +kernel
theorem dL_lay_214 : decode cL_lay 214 = .ok (.iinc 8 1, 3) := by decide +kernel
theorem dL_lay_217 : decode cL_lay 217 = .ok (.goto (-103), 3) := by decide +kernel
theorem dL_lay_220 : decode cL_lay 220 = .ok (.iconst 0, 1) := by decide +kernel
theorem dL_lay_221 : decode cL_lay 221 = .ok (.istore 8, 2) := by decide +kernel
theorem dL_lay_223 : decode cL_lay 223 = .ok (.iload 8, 2) := by decide +kernel
theorem dL_lay_225 : decode cL_lay 225 = .ok (.iload_n 2, 1) := by decide +kernel
theorem dL_lay_226 : decode cL_lay 226 = .ok (.if_icmp .ge 168, 3) := by decide +kernel
theorem dL_lay_229 : decode cL_lay 229 = .ok (.aload_n 1, 1) := by decide +kernel
theorem dL_lay_230 : decode cL_lay 230 = .ok (.iconst 2, 1) := by decide +kernel
theorem dL_lay_231 : decode cL_lay 231 = .ok (.iload 8, 2) := by decide +kernel
theorem dL_lay_233 : decode cL_lay 233 = .ok (.iadd, 1) := by decide +kernel
theorem dL_lay_234 : decode cL_lay 234 = .ok (.invokestatic 17, 3) := by decide +kernel
theorem dL_lay_237 : decode cL_lay 237 = .ok (.istore 9, 2) := by decide +kernel
theorem dL_lay_239 : decode cL_lay 239 = .ok (.iconst 1, 1) := by decide +kernel
theorem dL_lay_240 : decode cL_lay 240 = .ok (.iload 9, 2) := by decide +kernel
theorem dL_lay_242 : decode cL_lay 242 = .ok (.iconst 3, 1) := by decide +kernel
theorem dL_lay_243 : decode cL_lay 243 = .ok (.ishr, 1) := by decide +kernel
theorem dL_lay_244 : decode cL_lay 244 = .ok (.bipush 9, 2) := by decide +kernel
theorem dL_lay_246 : decode cL_lay 246 = .ok (.invokestatic 21, 3) := by decide +kernel
theorem dL_lay_249 : decode cL_lay 249 = .ok (.iadd, 1) := by decide +kernel
theorem dL_lay_250 : decode cL_lay 250 = .ok (.istore 10, 2) := by decide +kernel
theorem dL_lay_252 : decode cL_lay 252 = .ok (.aload_n 3, 1) := by decide +kernel
theorem dL_lay_253 : decode cL_lay 253 = .ok (.iconst 5, 1) := by decide +kernel
theorem dL_lay_254 : decode cL_lay 254 = .ok (.iload 8, 2) := by decide +kernel
theorem dL_lay_256 : decode cL_lay 256 = .ok (.imul, 1) := by decide +kernel
theorem dL_lay_257 : decode cL_lay 257 = .ok (.iload 9, 2) := by decide +kernel
theorem dL_lay_259 : decode cL_lay 259 = .ok (.bipush 6, 2) := by decide +kernel
theorem dL_lay_261 : decode cL_lay 261 = .ok (.invokestatic 21, 3) := by decide +kernel
theorem dL_lay_264 : decode cL_lay 264 = .ok (.iastore, 1) := by decide +kernel
theorem dL_lay_265 : decode cL_lay 265 = .ok (.aload_n 3, 1) := by decide +kernel
theorem dL_lay_266 : decode cL_lay 266 = .ok (.iconst 5, 1) := by decide +kernel
theorem dL_lay_267 : decode cL_lay 267 = .ok (.iload 8, 2) := by decide +kernel
theorem dL_lay_269 : decode cL_lay 269 = .ok (.imul, 1) := by decide +kernel
theorem dL_lay_270 : decode cL_lay 270 = .ok (.iconst 1, 1) := by decide +kernel
theorem dL_lay_271 : decode cL_lay 271 = .ok (.iadd, 1) := by decide +kernel
theorem dL_lay_272 : decode cL_lay 272 = .ok (.aload_n 3, 1) := by decide +kernel
theorem dL_lay_273 : decode cL_lay 273 = .ok (.iconst 5, 1) := by decide +kernel
theorem dL_lay_274 : decode cL_lay 274 = .ok (.iload 8, 2) := by decide +kernel
theorem dL_lay_276 : decode cL_lay 276 = .ok (.imul, 1) := by decide +kernel
theorem dL_lay_277 : decode cL_lay 277 = .ok (.iaload, 1) := by decide +kernel
theorem dL_lay_278 : decode cL_lay 278 = .ok (.iconst 5, 1) := by decide +kernel
theorem dL_lay_279 : decode cL_lay 279 = .ok (.if_icmp .ne 12, 3) := by decide +kernel
theorem dL_lay_282 : decode cL_lay 282 = .ok (.iload 10, 2) := by decide +kernel
theorem dL_lay_284 : decode cL_lay 284 = .ok (.iconst 1, 1) := by decide +kernel
theorem dL_lay_285 : decode cL_lay 285 = .ok (.iadd, 1) := by decide +kernel
theorem dL_lay_286 : decode cL_lay 286 = .ok (.iconst 2, 1) := by decide +kernel
theorem dL_lay_287 : decode cL_lay 287 = .ok (.idiv, 1) := by decide +kernel
theorem dL_lay_288 : decode cL_lay 288 = .ok (.goto 5, 3) := by decide +kernel
theorem dL_lay_291 : decode cL_lay 291 = .ok (.iload 10, 2) := by decide +kernel
theorem dL_lay_293 : decode cL_lay 293 = .ok (.iastore, 1) := by decide +kernel
theorem dL_lay_294 : decode cL_lay 294 = .ok (.aload_n 3, 1) := by decide +kernel
theorem dL_lay_295 : decode cL_lay 295 = .ok (.iconst 5, 1) := by decide +kernel
theorem dL_lay_296 : decode cL_lay 296 = .ok (.iload 8, 2) := by decide +kernel
theorem dL_lay_298 : decode cL_lay 298 = .ok (.imul, 1) := by decide +kernel
theorem dL_lay_299 : decode cL_lay 299 = .ok (.iconst 2, 1) := by decide +kernel
theorem dL_lay_300 : decode cL_lay 300 = .ok (.iadd, 1) := by decide +kernel
theorem dL_lay_301 : decode cL_lay 301 = .ok (.iload 9, 2) := by decide +kernel
theorem dL_lay_303 : decode cL_lay 303 = .ok (.bipush 7, 2) := by decide +kernel
theorem dL_lay_305 : decode cL_lay 305 = .ok (.ishr, 1) := by decide +kernel
theorem dL_lay_306 : decode cL_lay 306 = .ok (.iconst 1, 1) := by decide +kernel
theorem dL_lay_307 : decode cL_lay 307 = .ok (.iand, 1) := by decide +kernel
theorem dL_lay_308 : decode cL_lay 308 = .ok (.iastore, 1) := by decide +kernel
theorem dL_lay_309 : decode cL_lay 309 = .ok (.aload_n 3, 1) := by decide +kernel
theorem dL_lay_310 : decode cL_lay 310 = .ok (.iconst 5, 1) := by decide +kernel
theorem dL_lay_311 : decode cL_lay 311 = .ok (.iload 8, 2) := by decide +kernel
theorem dL_lay_313 : decode cL_lay 313 = .ok (.imul, 1) := by decide +kernel
theorem dL_lay_314 : decode cL_lay 314 = .ok (.iconst 3, 1) := by decide +kernel
theorem dL_lay_315 : decode cL_lay 315 = .ok (.iadd, 1) := by decide +kernel
theorem dL_lay_316 : decode cL_lay 316 = .ok (.iload 9, 2) := by decide +kernel
theorem dL_lay_318 : decode cL_lay 318 = .ok (.bipush 8, 2) := by decide +kernel
theorem dL_lay_320 : decode cL_lay 320 = .ok (.ishr, 1) := by decide +kernel
theorem dL_lay_321 : decode cL_lay 321 = .ok (.bipush 16, 2) := by decide +kernel
theorem dL_lay_323 : decode cL_lay 323 = .ok (.invokestatic 21, 3) := by decide +kernel
theorem dL_lay_326 : decode cL_lay 326 = .ok (.iastore, 1) := by decide +kernel
theorem dL_lay_327 : decode cL_lay 327 = .ok (.aload_n 3, 1) := by decide +kernel
theorem dL_lay_328 : decode cL_lay 328 = .ok (.iconst 5, 1) := by decide +kernel
theorem dL_lay_329 : decode cL_lay 329 = .ok (.iload 8, 2) := by decide +kernel
theorem dL_lay_331 : decode cL_lay 331 = .ok (.imul, 1) := by decide +kernel
theorem dL_lay_332 : decode cL_lay 332 = .ok (.iconst 4, 1) := by decide +kernel
theorem dL_lay_333 : decode cL_lay 333 = .ok (.iadd, 1) := by decide +kernel
theorem dL_lay_334 : decode cL_lay 334 = .ok (.iload 9, 2) := by decide +kernel
theorem dL_lay_336 : decode cL_lay 336 = .ok (.bipush 12, 2) := by decide +kernel
theorem dL_lay_338 : decode cL_lay 338 = .ok (.ishr, 1) := by decide +kernel
theorem dL_lay_339 : decode cL_lay 339 = .ok (.bipush 100, 2) := by decide +kernel
theorem dL_lay_341 : decode cL_lay 341 = .ok (.invokestatic 21, 3) := by decide +kernel
theorem dL_lay_344 : decode cL_lay 344 = .ok (.iastore, 1) := by decide +kernel
theorem dL_lay_345 : decode cL_lay 345 = .ok (.aload_n 0, 1) := by decide +kernel
theorem dL_lay_346 : decode cL_lay 346 = .ok (.aload_n 3, 1) := by decide +kernel
theorem dL_lay_347 : decode cL_lay 347 = .ok (.iconst 5, 1) := by decide +kernel
theorem dL_lay_348 : decode cL_lay 348 = .ok (.iload 8, 2) := by decide +kernel
theorem dL_lay_350 : decode cL_lay 350 = .ok (.imul, 1) := by decide +kernel
theorem dL_lay_351 : decode cL_lay 351 = .ok (.iaload, 1) := by decide +kernel
theorem dL_lay_352 : decode cL_lay 352 = .ok (.iload 10, 2) := by decide +kernel
theorem dL_lay_354 : decode cL_lay 354 = .ok (.aload_n 3, 1) := by decide +kernel
theorem dL_lay_355 : decode cL_lay 355 = .ok (.iconst 5, 1) := by decide +kernel
theorem dL_lay_356 : decode cL_lay 356 = .ok (.iload 8, 2) := by decide +kernel
theorem dL_lay_358 : decode cL_lay 358 = .ok (.imul, 1) := by decide +kernel
theorem dL_lay_359 : decode cL_lay 359 = .ok (.iconst 2, 1) := by decide +kernel
theorem dL_lay_360 : decode cL_lay 360 = .ok (.iadd, 1) := by decide +kernel
theorem dL_lay_361 : decode cL_lay 361 = .ok (.iaload, 1) := by decide +kernel
theorem dL_lay_362 : decode cL_lay 362 = .ok (.aload_n 3, 1) := by decide +kernel
theorem dL_lay_363 : decode cL_lay 363 = .ok (.iconst 5, 1) := by decide +kernel
theorem dL_lay_364 : decode cL_lay 364 = .ok (.iload 8, 2) := by decide +kernel
theorem dL_lay_366 : decode cL_lay 366 = .ok (.imul, 1) := by decide +kernel
theorem dL_lay_367 : decode cL_lay 367 = .ok (.iconst 3, 1) := by decide +kernel
theorem dL_lay_368 : decode cL_lay 368 = .ok (.iadd, 1) := by decide +kernel
theorem dL_lay_369 : decode cL_lay 369 = .ok (.iaload, 1) := by decide +kernel
theorem dL_lay_370 : decode cL_lay 370 = .ok (.aload_n 3, 1) := by decide +kernel
theorem dL_lay_371 : decode cL_lay 371 = .ok (.iconst 5, 1) := by decide +kernel
theorem dL_lay_372 : decode cL_lay 372 = .ok (.iload 8, 2) := by decide +kernel
theorem dL_lay_374 : decode cL_lay 374 = .ok (.imul, 1) := by decide +kernel
theorem dL_lay_375 : decode cL_lay 375 = .ok (.iconst 4, 1) := by decide +kernel
theorem dL_lay_376 : decode cL_lay 376 = .ok (.iadd, 1) := by decide +kernel
theorem dL_lay_377 : decode cL_lay 377 = .ok (.iaload, 1) := by decide +kernel
theorem dL_lay_378 : decode cL_lay 378 = .ok (.invokevirtual 36, 3) := by decide +kernel
theorem dL_lay_381 : decode cL_lay 381 = .ok (.iload 8, 2) := by decide +kernel
theorem dL_lay_383 : decode cL_lay 383 = .ok (.if_icmp .eq 5, 3) := by decide +kernel
theorem dL_lay_386 : decode cL_lay 386 = .ok (.iconst (-1), 1) := by decide +kernel
theorem dL_lay_387 : decode cL_lay 387 = .ok (.ireturn, 1) := by decide +kernel
theorem dL_lay_388 : decode cL_lay 388 = .ok (.iinc 8 1, 3) := by decide +kernel
theorem dL_lay_391 : decode cL_lay 391 = .ok (.goto (-168), 3) := by decide +kernel
theorem dL_lay_394 : decode cL_lay 394 = .ok (.iload_n 2, 1) := by decide +kernel
theorem dL_lay_395 : decode cL_lay 395 = .ok (.ireturn, 1) := by decide +kernel
theorem dL_law_0 : decode cL_law 0 = .ok (.new 26, 3) := by decide +kernel
theorem dL_law_3 : decode cL_law 3 = .ok (.dup, 1) := by decide +kernel
theorem dL_law_4 : decode cL_law 4 = .ok (.invokespecial 40, 3) := by decide +kernel
theorem dL_law_7 : decode cL_law 7 = .ok (.astore_n 1, 1) := by decide +kernel
theorem dL_law_8 : decode cL_law 8 = .ok (.bipush 30, 2) := by decide +kernel
theorem dL_law_10 : decode cL_law 10 = .ok (.newarray .int, 2) := by decide +kernel
theorem dL_law_12 : decode cL_law 12 = .ok (.astore_n 2, 1) := by decide +kernel
theorem dL_law_13 : decode cL_law 13 = .ok (.iconst 4, 1) := by decide +kernel
theorem dL_law_14 : decode cL_law 14 = .ok (.newarray .int, 2) := by decide +kernel
theorem dL_law_16 : decode cL_law 16 = .ok (.astore_n 3, 1) := by decide +kernel
theorem dL_law_17 : decode cL_law 17 = .ok (.bipush 10, 2) := by decide +kernel
theorem dL_law_19 : decode cL_law 19 = .ok (.newarray .int, 2) := by decide +kernel
theorem dL_law_21 : decode cL_law 21 = .ok (.astore 4, 2) := by decide +kernel
theorem dL_law_23 : decode cL_law 23 = .ok (.bipush 10, 2) := by decide +kernel
theorem dL_law_25 : decode cL_law 25 = .ok (.newarray .int, 2) := by decide +kernel
theorem dL_law_27 : decode cL_law 27 = .ok (.astore 5, 2) := by decide +kernel
theorem dL_law_29 : decode cL_law 29 = .ok (.iconst 1, 1) := by decide +kernel
theorem dL_law_30 : decode cL_law 30 = .ok (.aload_n 0, 1) := by decide +kernel
theorem dL_law_31 : decode cL_law 31 = .ok (.bipush 8, 2) := by decide +kernel
theorem dL_law_33 : decode cL_law 33 = .ok (.invokestatic 17, 3) := by decide +kernel
theorem dL_law_36 : decode cL_law 36 = .ok (.iconst 5, 1) := by decide +kernel
theorem dL_law_37 : decode cL_law 37 = .ok (.invokestatic 21, 3) := by decide +kernel
theorem dL_law_40 : decode cL_law 40 = .ok (.iadd, 1) := by decide +kernel
theorem dL_law_41 : decode cL_law 41 = .ok (.istore 6, 2) := by decide +kernel
theorem dL_law_43 : decode cL_law 43 = .ok (.aload_n 1, 1) := by decide +kernel
theorem dL_law_44 : decode cL_law 44 = .ok (.aload_n 0, 1) := by decide +kernel
theorem dL_law_45 : decode cL_law 45 = .ok (.iload 6, 2) := by decide +kernel
theorem dL_law_47 : decode cL_law 47 = .ok (.aload_n 2, 1) := by decide +kernel
theorem dL_law_48 : decode cL_law 48 = .ok (.aload_n 3, 1) := by decide +kernel
theorem dL_law_49 : decode cL_law 49 = .ok (.aload 4, 2) := by decide +kernel
theorem dL_law_51 : decode cL_law 51 = .ok (.aload 5, 2) := by decide +kernel
theorem dL_law_53 : decode cL_law 53 = .ok (.invokestatic 41, 3) := by decide +kernel
theorem dL_law_56 : decode cL_law 56 = .ok (.iload 6, 2) := by decide +kernel
theorem dL_law_58 : decode cL_law 58 = .ok (.if_icmp .eq 5, 3) := by decide +kernel
theorem dL_law_61 : decode cL_law 61 = .ok (.iconst 0, 1) := by decide +kernel
theorem dL_law_62 : decode cL_law 62 = .ok (.ireturn, 1) := by decide +kernel
theorem dL_law_63 : decode cL_law 63 = .ok (.aload_n 1, 1) := by decide +kernel
theorem dL_law_64 : decode cL_law 64 = .ok (.invokevirtual 45, 3) := by decide +kernel
theorem dL_law_67 : decode cL_law 67 = .ok (.istore 7, 2) := by decide +kernel
theorem dL_law_69 : decode cL_law 69 = .ok (.aload_n 1, 1) := by decide +kernel
theorem dL_law_70 : decode cL_law 70 = .ok (.iconst 0, 1) := by decide +kernel
theorem dL_law_71 : decode cL_law 71 = .ok (.invokevirtual 48, 3) := by decide +kernel
theorem dL_law_74 : decode cL_law 74 = .ok (.istore 8, 2) := by decide +kernel
theorem dL_law_76 : decode cL_law 76 = .ok (.aload_n 1, 1) := by decide +kernel
theorem dL_law_77 : decode cL_law 77 = .ok (.iconst 1, 1) := by decide +kernel
theorem dL_law_78 : decode cL_law 78 = .ok (.invokevirtual 48, 3) := by decide +kernel
theorem dL_law_81 : decode cL_law 81 = .ok (.istore 9, 2) := by decide +kernel
theorem dL_law_83 : decode cL_law 83 = .ok (.iload 7, 2) := by decide +kernel
theorem dL_law_85 : decode cL_law 85 = .ok (.iload 8, 2) := by decide +kernel
theorem dL_law_87 : decode cL_law 87 = .ok (.if_icmp .gt 68, 3) := by decide +kernel
theorem dL_law_90 : decode cL_law 90 = .ok (.iload 9, 2) := by decide +kernel
theorem dL_law_92 : decode cL_law 92 = .ok (.iload 6, 2) := by decide +kernel
theorem dL_law_94 : decode cL_law 94 = .ok (.invokestatic 52, 3) := by decide +kernel
theorem dL_law_97 : decode cL_law 97 = .ok (.ifCond .eq 58, 3) := by decide +kernel
theorem dL_law_100 : decode cL_law 100 = .ok (.aload_n 1, 1) := by decide +kernel
theorem dL_law_101 : decode cL_law 101 = .ok (.iload 9, 2) := by decide +kernel
theorem dL_law_103 : decode cL_law 103 = .ok (.invokevirtual 56, 3) := by decide +kernel
theorem dL_law_106 : decode cL_law 106 = .ok (.iconst 1, 1) := by decide +kernel
theorem dL_law_107 : decode cL_law 107 = .ok (.if_icmp .ne 48, 3) := by decide +kernel
theorem dL_law_110 : decode cL_law 110 = .ok (.aload_n 1, 1) := by decide +kernel
theorem dL_law_111 : decode cL_law 111 = .ok (.invokevirtual 45, 3) := by decide +kernel
theorem dL_law_114 : decode cL_law 114 = .ok (.iload 8, 2) := by decide +kernel
theorem dL_law_116 : decode cL_law 116 = .ok (.if_icmp .ne 39, 3) := by decide +kernel
theorem dL_law_119 : decode cL_law 119 = .ok (.aload_n 1, 1) := by decide +kernel
theorem dL_law_120 : decode cL_law 120 = .ok (.iconst 0, 1) := by decide +kernel
theorem dL_law_121 : decode cL_law 121 = .ok (.invokevirtual 48, 3) := by decide +kernel
theorem dL_law_124 : decode cL_law 124 = .ok (.iload 8, 2) := by decide +kernel
theorem dL_law_126 : decode cL_law 126 = .ok (.if_icmp .ne 29, 3) := by decide +kernel
theorem dL_law_129 : decode cL_law 129 = .ok (.aload_n 1, 1) := by decide +kernel
theorem dL_law_130 : decode cL_law 130 = .ok (.iconst 1, 1) := by decide +kernel
theorem dL_law_131 : decode cL_law 131 = .ok (.invokevirtual 48, 3) := by decide +kernel
theorem dL_law_134 : decode cL_law 134 = .ok (.iload 9, 2) := by decide +kernel
theorem dL_law_136 : decode cL_law 136 = .ok (.if_icmp .ne 19, 3) := by decide +kernel
theorem dL_law_139 : decode cL_law 139 = .ok (.aload_n 1, 1) := by decide +kernel
theorem dL_law_140 : decode cL_law 140 = .ok (.invokevirtual 59, 3) := by decide +kernel
theorem dL_law_143 : decode cL_law 143 = .ok (.iload 6, 2) := by decide +kernel
theorem dL_law_145 : decode cL_law 145 = .ok (.if_icmp .ne 10, 3) := by decide +kernel
theorem dL_law_148 : decode cL_law 148 = .ok (.aload_n 1, 1) := by decide +kernel
theorem dL_law_149 : decode cL_law 149 = .ok (.invokevirtual 62, 3) := by decide +kernel
theorem dL_law_152 : decode cL_law 152 = .ok (.ifCond .eq 5, 3) := by decide +kernel
theorem dL_law_155 : decode cL_law 155 = .ok (.iconst 0, 1) := by decide +kernel
theorem dL_law_156 : decode cL_law 156 = .ok (.ireturn, 1) := by decide +kernel
theorem dL_law_157 : decode cL_law 157 = .ok (.iconst 0, 1) := by decide +kernel
theorem dL_law_158 : decode cL_law 158 = .ok (.istore 10, 2) := by decide +kernel
theorem dL_law_160 : decode cL_law 160 = .ok (.iconst 0, 1) := by decide +kernel
theorem dL_law_161 : decode cL_law 161 = .ok (.istore 11, 2) := by decide +kernel
theorem dL_law_163 : decode cL_law 163 = .ok (.iconst 0, 1) := by decide +kernel
theorem dL_law_164 : decode cL_law 164 = .ok (.istore 12, 2) := by decide +kernel
theorem dL_law_166 : decode cL_law 166 = .ok (.iload 12, 2) := by decide +kernel
theorem dL_law_168 : decode cL_law 168 = .ok (.iload 6, 2) := by decide +kernel
theorem dL_law_170 : decode cL_law 170 = .ok (.if_icmp .ge 88, 3) := by decide +kernel
theorem dL_law_173 : decode cL_law 173 = .ok (.aload_n 1, 1) := by decide +kernel
theorem dL_law_174 : decode cL_law 174 = .ok (.iload 12, 2) := by decide +kernel
theorem dL_law_176 : decode cL_law 176 = .ok (.iconst 0, 1) := by decide +kernel
theorem dL_law_177 : decode cL_law 177 = .ok (.invokevirtual 65, 3) := by decide +kernel
theorem dL_law_180 : decode cL_law 180 = .ok (.iload 9, 2) := by decide +kernel
theorem dL_law_182 : decode cL_law 182 = .ok (.iconst 3, 1) := by decide +kernel
theorem dL_law_183 : decode cL_law 183 = .ok (.iload 12, 2) := by decide +kernel
theorem dL_law_185 : decode cL_law 185 = .ok (.imul, 1) := by decide +kernel
theorem dL_law_186 : decode cL_law 186 = .ok (.ishr, 1) := by decide +kernel
theorem dL_law_187 : decode cL_law 187 = .ok (.bipush 7, 2) := by decide +kernel
theorem dL_law_189 : decode cL_law 189 = .ok (.iand, 1) := by decide +kernel
theorem dL_law_190 : decode cL_law 190 = .ok (.if_icmp .ne 39, 3) := by decide +kernel
theorem dL_law_193 : decode cL_law 193 = .ok (.aload_n 1, 1) := by decide +kernel
theorem dL_law_194 : decode cL_law 194 = .ok (.iload 12, 2) := by decide +kernel
theorem dL_law_196 : decode cL_law 196 = .ok (.iconst 1, 1) := by decide +kernel
theorem dL_law_197 : decode cL_law 197 = .ok (.invokevirtual 65, 3) := by decide +kernel
theorem dL_law_200 : decode cL_law 200 = .ok (.aload_n 1, 1) := by decide +kernel
theorem dL_law_201 : decode cL_law 201 = .ok (.iload 9, 2) := by decide +kernel
theorem dL_law_203 : decode cL_law 203 = .ok (.iconst 3, 1) := by decide +kernel
theorem dL_law_204 : decode cL_law 204 = .ok (.iload 12, 2) := by decide +kernel
theorem dL_law_206 : decode cL_law 206 = .ok (.imul, 1) := by decide +kernel
theorem dL_law_207 : decode cL_law 207 = .ok (.ishr, 1) := by decide +kernel
theorem dL_law_208 : decode cL_law 208 = .ok (.bipush 7, 2) := by decide +kernel
theorem dL_law_210 : decode cL_law 210 = .ok (.iand, 1) := by decide +kernel
theorem dL_law_211 : decode cL_law 211 = .ok (.invokevirtual 68, 3) := by decide +kernel
theorem dL_law_214 : decode cL_law 214 = .ok (.if_icmp .ne 15, 3) := by decide +kernel
theorem dL_law_217 : decode cL_law 217 = .ok (.aload_n 1, 1) := by decide +kernel
theorem dL_law_218 : decode cL_law 218 = .ok (.iload 12, 2) := by decide +kernel
theorem dL_law_220 : decode cL_law 220 = .ok (.iconst 1, 1) := by decide +kernel
theorem dL_law_221 : decode cL_law 221 = .ok (.invokevirtual 65, 3) := by decide +kernel
theorem dL_law_224 : decode cL_law 224 = .ok (.iload 11, 2) := by decide +kernel
theorem dL_law_226 : decode cL_law 226 = .ok (.if_icmp .ge 5, 3) := by decide +kernel
theorem dL_law_229 : decode cL_law 229 = .ok (.iconst 0, 1) := by decide +kernel
theorem dL_law_230 : decode cL_law 230 = .ok (.ireturn, 1) := by decide +kernel
theorem dL_law_231 : decode cL_law 231 = .ok (.aload_n 1, 1) := by decide +kernel
theorem dL_law_232 : decode cL_law 232 = .ok (.iload 12, 2) := by decide +kernel
theorem dL_law_234 : decode cL_law 234 = .ok (.iconst 1, 1) := by decide +kernel
theorem dL_law_235 : decode cL_law 235 = .ok (.invokevirtual 65, 3) := by decide +kernel
theorem dL_law_238 : decode cL_law 238 = .ok (.istore 11, 2) := by decide +kernel
theorem dL_law_240 : decode cL_law 240 = .ok (.iload 10, 2) := by decide +kernel
theorem dL_law_242 : decode cL_law 242 = .ok (.aload_n 1, 1) := by decide +kernel
theorem dL_law_243 : decode cL_law 243 = .ok (.iload 12, 2) := by decide +kernel
theorem dL_law_245 : decode cL_law 245 = .ok (.iconst 2, 1) := by decide +kernel
theorem dL_law_246 : decode cL_law 246 = .ok (.invokevirtual 65, 3) := by decide +kernel
theorem dL_law_249 : decode cL_law 249 = .ok (.iadd, 1) := by decide +kernel
theorem dL_law_250 : decode cL_law 250 = .ok (.istore 10, 2) := by decide +kernel
theorem dL_law_252 : decode cL_law 252 = .ok (.iinc 12 1, 3) := by decide +kernel
theorem dL_law_255 : decode cL_law 255 = .ok (.goto (-89), 3) := by decide +kernel
theorem dL_law_258 : decode cL_law 258 = .ok (.iload 10, 2) := by decide +kernel
theorem dL_law_260 : decode cL_law 260 = .ok (.iload 8, 2) := by decide +kernel
theorem dL_law_262 : decode cL_law 262 = .ok (.if_icmp .eq 5, 3) := by decide +kernel
theorem dL_law_265 : decode cL_law 265 = .ok (.iconst 0, 1) := by decide +kernel
theorem dL_law_266 : decode cL_law 266 = .ok (.ireturn, 1) := by decide +kernel
theorem dL_law_267 : decode cL_law 267 = .ok (.iconst 0, 1) := by decide +kernel
theorem dL_law_268 : decode cL_law 268 = .ok (.istore 12, 2) := by decide +kernel
theorem dL_law_270 : decode cL_law 270 = .ok (.iconst 0, 1) := by decide +kernel
theorem dL_law_271 : decode cL_law 271 = .ok (.istore 13, 2) := by decide +kernel
theorem dL_law_273 : decode cL_law 273 = .ok (.iconst 0, 1) := by decide +kernel
theorem dL_law_274 : decode cL_law 274 = .ok (.istore 14, 2) := by decide +kernel
theorem dL_law_276 : decode cL_law 276 = .ok (.iload 14, 2) := by decide +kernel
theorem dL_law_278 : decode cL_law 278 = .ok (.iload 6, 2) := by decide +kernel
theorem dL_law_280 : decode cL_law 280 = .ok (.if_icmp .ge 36, 3) := by decide +kernel
theorem dL_law_283 : decode cL_law 283 = .ok (.iload 12, 2) := by decide +kernel
theorem dL_law_285 : decode cL_law 285 = .ok (.aload_n 1, 1) := by decide +kernel
theorem dL_law_286 : decode cL_law 286 = .ok (.invokevirtual 71, 3) := by decide +kernel
theorem dL_law_289 : decode cL_law 289 = .ok (.iload 14, 2) := by decide +kernel
theorem dL_law_291 : decode cL_law 291 = .ok (.ishr, 1) := by decide +kernel
theorem dL_law_292 : decode cL_law 292 = .ok (.iconst 1, 1) := by decide +kernel
theorem dL_law_293 : decode cL_law 293 = .ok (.iand, 1) := by decide +kernel
theorem dL_law_294 : decode cL_law 294 = .ok (.iadd, 1) := by decide +kernel
theorem dL_law_295 : decode cL_law 295 = .ok (.istore 12, 2) := by decide +kernel
theorem dL_law_297 : decode cL_law 297 = .ok (.iload 13, 2) := by decide +kernel
theorem dL_law_299 : decode cL_law 299 = .ok (.aload_n 2, 1) := by decide +kernel
theorem dL_law_300 : decode cL_law 300 = .ok (.iconst 5, 1) := by decide +kernel
theorem dL_law_301 : decode cL_law 301 = .ok (.iload 14, 2) := by decide +kernel
theorem dL_law_303 : decode cL_law 303 = .ok (.imul, 1) := by decide +kernel
theorem dL_law_304 : decode cL_law 304 = .ok (.iconst 4, 1) := by decide +kernel
theorem dL_law_305 : decode cL_law 305 = .ok (.iadd, 1) := by decide +kernel
theorem dL_law_306 : decode cL_law 306 = .ok (.iaload, 1) := by decide +kernel
theorem dL_law_307 : decode cL_law 307 = .ok (.iadd, 1) := by decide +kernel
theorem dL_law_308 : decode cL_law 308 = .ok (.istore 13, 2) := by decide +kernel
theorem dL_law_310 : decode cL_law 310 = .ok (.iinc 14 1, 3) := by decide +kernel
theorem dL_law_313 : decode cL_law 313 = .ok (.goto (-37), 3) := by decide +kernel
theorem dL_law_316 : decode cL_law 316 = .ok (.aload_n 1, 1) := by decide +kernel
theorem dL_law_317 : decode cL_law 317 = .ok (.invokevirtual 74, 3) := by decide +kernel
theorem dL_law_320 : decode cL_law 320 = .ok (.istore 14, 2) := by decide +kernel
theorem dL_law_322 : decode cL_law 322 = .ok (.iload 12, 2) := by decide +kernel
theorem dL_law_324 : decode cL_law 324 = .ok (.iload 14, 2) := by decide +kernel
theorem dL_law_326 : decode cL_law 326 = .ok (.if_icmp .lt 47, 3) := by decide +kernel
theorem dL_law_329 : decode cL_law 329 = .ok (.iload 8, 2) := by decide +kernel
theorem dL_law_331 : decode cL_law 331 = .ok (.iload 13, 2) := by decide +kernel
theorem dL_law_333 : decode cL_law 333 = .ok (.if_icmp .gt 40, 3) := by decide +kernel
theorem dL_law_336 : decode cL_law 336 = .ok (.iload 14, 2) := by decide +kernel
theorem dL_law_338 : decode cL_law 338 = .ok (.ifCond .ne 10, 3) := by decide +kernel
theorem dL_law_341 : decode cL_law 341 = .ok (.iload 8, 2) := by decide +kernel
theorem dL_law_343 : decode cL_law 343 = .ok (.iload 13, 2) := by decide +kernel
theorem dL_law_345 : decode cL_law 345 = .ok (.if_icmp .ne 28, 3) := by decide +kernel
theorem dL_law_348 : decode cL_law 348 = .ok (.aload_n 1, 1) := by decide +kernel
theorem dL_law_349 : decode cL_law 349 = .ok (.invokevirtual 77, 3) := by decide +kernel
theorem dL_law_352 : decode cL_law 352 = .ok (.ifCond .ne 7, 3) := by decide +kernel
theorem dL_law_355 : decode cL_law 355 = .ok (.iconst 1, 1) := by decide +kernel
theorem dL_law_356 : decode cL_law 356 = .ok (.goto 4, 3) := by decide +kernel
theorem dL_law_359 : decode cL_law 359 = .ok (.iconst 0, 1) := by decide +kernel
theorem dL_law_360 : decode cL_law 360 = .ok (.iload 14, 2) := by decide +kernel
theorem dL_law_362 : decode cL_law 362 = .ok (.ifCond .ne 7, 3) := by decide +kernel
theorem dL_law_365 : decode cL_law 365 = .ok (.iconst 1, 1) := by decide +kernel
theorem dL_law_366 : decode cL_law 366 = .ok (.goto 4, 3) := by decide +kernel
theorem dL_law_369 : decode cL_law 369 = .ok (.iconst 0, 1) := by decide +kernel
theorem dL_law_370 : decode cL_law 370 = .ok (.if_icmp .eq 5, 3) := by decide +kernel
theorem dL_law_373 : decode cL_law 373 = .ok (.iconst 0, 1) := by decide +kernel
theorem dL_law_374 : decode cL_law 374 = .ok (.ireturn, 1) := by decide +kernel
theorem dL_law_375 : decode cL_law 375 = .ok (.aload_n 1, 1) := by decide +kernel
theorem dL_law_376 : decode cL_law 376 = .ok (.iconst 0, 1) := by decide +kernel
theorem dL_law_377 : decode cL_law 377 = .ok (.invokevirtual 80, 3) := by decide +kernel
theorem dL_law_380 : decode cL_law 380 = .ok (.istore 15, 2) := by decide +kernel
theorem dL_law_382 : decode cL_law 382 = .ok (.aload_n 1, 1) := by decide +kernel
theorem dL_law_383 : decode cL_law 383 = .ok (.iconst 1, 1) := by decide +kernel
theorem dL_law_384 : decode cL_law 384 = .ok (.invokevirtual 80, 3) := by decide +kernel
theorem dL_law_387 : decode cL_law 387 = .ok (.istore 16, 2) := by decide +kernel
theorem dL_law_389 : decode cL_law 389 = .ok (.iload 15, 2) := by decide +kernel
theorem dL_law_391 : decode cL_law 391 = .ok (.ifCond .lt 88, 3) := by decide +kernel
theorem dL_law_394 : decode cL_law 394 = .ok (.iload 15, 2) := by decide +kernel
theorem dL_law_396 : decode cL_law 396 = .ok (.iload 16, 2) := by decide +kernel
theorem dL_law_398 : decode cL_law 398 = .ok (.if_icmp .gt 81, 3) := by decide +kernel
theorem dL_law_401 : decode cL_law 401 = .ok (.aload_n 1, 1) := by decide +kernel
theorem dL_law_402 : decode cL_law 402 = .ok (.iconst 1, 1) := by decide +kernel
theorem dL_law_403 : decode cL_law 403 = .ok (.invokevirtual 83, 3) := by decide +kernel
theorem dL_law_406 : decode cL_law 406 = .ok (.iload 16, 2) := by decide +kernel
theorem dL_law_408 : decode cL_law 408 = .ok (.imul, 1) := by decide +kernel
theorem dL_law_409 : decode cL_law 409 = .ok (.iload 15, 2) := by decide +kernel
theorem dL_law_411 : decode cL_law 411 = .ok (.aload_n 1, 1) := by decide +kernel
theorem dL_law_412 : decode cL_law 412 = .ok (.iconst 2, 1) := by decide +kernel
theorem dL_law_413 : decode cL_law 413 = .ok (.invokevirtual 83, 3) := by decide +kernel
theorem dL_law_416 : decode cL_law 416 = .ok (.imul, 1) := by decide +kernel
theorem dL_law_417 : decode cL_law 417 = .ok (.if_icmp .lt 62, 3) := by decide +kernel
theorem dL_law_420 : decode cL_law 420 = .ok (.aload_n 3, 1) := by decide +kernel
theorem dL_law_421 : decode cL_law 421 = .ok (.iconst 3, 1) := by decide +kernel
theorem dL_law_422 : decode cL_law 422 = .ok (.iaload, 1) := by decide +kernel
theorem dL_law_423 : decode cL_law 423 = .ok (.iconst 4, 1) := by decide +kernel
theorem dL_law_424 : decode cL_law 424 = .ok (.if_icmp .ge 28, 3) := by decide +kernel
theorem dL_law_427 : decode cL_law 427 = .ok (.iload 15, 2) := by decide +kernel
theorem dL_law_429 : decode cL_law 429 = .ok (.ifCond .le 7, 3) := by decide +kernel
theorem dL_law_432 : decode cL_law 432 = .ok (.iconst 1, 1) := by decide +kernel
theorem dL_law_433 : decode cL_law 433 = .ok (.goto 4, 3) := by decide +kernel
theorem dL_law_436 : decode cL_law 436 = .ok (.iconst 0, 1) := by decide +kernel
theorem dL_law_437 : decode cL_law 437 = .ok (.aload_n 1, 1) := by decide +kernel
theorem dL_law_438 : decode cL_law 438 = .ok (.invokevirtual 71, 3) := by decide +kernel
theorem dL_law_441 : decode cL_law 441 = .ok (.ifCond .ne 7, 3) := by decide +kernel
theorem dL_law_444 : decode cL_law 444 = .ok (.iconst 1, 1) := by decide +kernel
theorem dL_law_445 : decode cL_law 445 = .ok (.goto 4, 3) := by decide +kernel
theorem dL_law_448 : decode cL_law 448 = .ok (.iconst 0, 1) := by decide +kernel
theorem dL_law_449 : decode cL_law 449 = .ok (.if_icmp .ne 30, 3) := by decide +kernel
theorem dL_law_452 : decode cL_law 452 = .ok (.aload_n 3, 1) := by decide +kernel
theorem dL_law_453 : decode cL_law 453 = .ok (.iconst 3, 1) := by decide +kernel
theorem dL_law_454 : decode cL_law 454 = .ok (.iaload, 1) := by decide +kernel
theorem dL_law_455 : decode cL_law 455 = .ok (.ifCond .ne 15, 3) := by decide +kernel
theorem dL_law_458 : decode cL_law 458 = .ok (.aload_n 1, 1) := by decide +kernel
theorem dL_law_459 : decode cL_law 459 = .ok (.iconst 0, 1) := by decide +kernel
theorem dL_law_460 : decode cL_law 460 = .ok (.invokevirtual 86, 3) := by decide +kernel
theorem dL_law_463 : decode cL_law 463 = .ok (.aload_n 1, 1) := by decide +kernel
theorem dL_law_464 : decode cL_law 464 = .ok (.invokevirtual 45, 3) := by decide +kernel
theorem dL_law_467 : decode cL_law 467 = .ok (.if_icmp .ne 12, 3) := by decide +kernel
theorem dL_law_470 : decode cL_law 470 = .ok (.aload_n 1, 1) := by decide +kernel
theorem dL_law_471 : decode cL_law 471 = .ok (.iconst 1, 1) := by decide +kernel
theorem dL_law_472 : decode cL_law 472 = .ok (.invokevirtual 86, 3) := by decide +kernel
theorem dL_law_475 : decode cL_law 475 = .ok (.iconst 1, 1) := by decide +kernel
theorem dL_law_476 : decode cL_law 476 = .ok (.if_icmp .ge 5, 3) := by decide +kernel
theorem dL_law_479 : decode cL_law 479 = .ok (.iconst 0, 1) := by decide +kernel
theorem dL_law_480 : decode cL_law 480 = .ok (.ireturn, 1) := by decide +kernel
theorem dL_law_481 : decode cL_law 481 = .ok (.aload_n 0, 1) := by decide +kernel
theorem dL_law_482 : decode cL_law 482 = .ok (.bipush 9, 2) := by decide +kernel
theorem dL_law_484 : decode cL_law 484 = .ok (.invokestatic 17, 3) := by decide +kernel
theorem dL_law_487 : decode cL_law 487 = .ok (.istore 17, 2) := by decide +kernel
theorem dL_law_489 : decode cL_law 489 = .ok (.iconst 1, 1) := by decide +kernel
theorem dL_law_490 : decode cL_law 490 = .ok (.iload 17, 2) := by decide +kernel
theorem dL_law_492 : decode cL_law 492 = .ok (.bipush 9, 2) := by decide +kernel
theorem dL_law_494 : decode cL_law 494 = .ok (.invokestatic 21, 3) := by decide +kernel
theorem dL_law_497 : decode cL_law 497 = .ok (.iadd, 1) := by decide +kernel
theorem dL_law_498 : decode cL_law 498 = .ok (.istore 18, 2) := by decide +kernel
theorem dL_law_500 : decode cL_law 500 = .ok (.iload 17, 2) := by decide +kernel
theorem dL_law_502 : decode cL_law 502 = .ok (.iconst 4, 1) := by decide +kernel
theorem dL_law_503 : decode cL_law 503 = .ok (.ishr, 1) := by decide +kernel
theorem dL_law_504 : decode cL_law 504 = .ok (.bipush 100, 2) := by decide +kernel
theorem dL_law_506 : decode cL_law 506 = .ok (.invokestatic 21, 3) := by decide +kernel
theorem dL_law_509 : decode cL_law 509 = .ok (.istore 19, 2) := by decide +kernel
theorem dL_law_511 : decode cL_law 511 = .ok (.aload_n 1, 1) := by decide +kernel
theorem dL_law_512 : decode cL_law 512 = .ok (.iconst 0, 1) := by decide +kernel
theorem dL_law_513 : decode cL_law 513 = .ok (.iload 18, 2) := by decide +kernel
theorem dL_law_515 : decode cL_law 515 = .ok (.iload 17, 2) := by decide +kernel
theorem dL_law_517 : decode cL_law 517 = .ok (.bipush 11, 2) := by decide +kernel
theorem dL_law_519 : decode cL_law 519 = .ok (.ishr, 1) := by decide +kernel
theorem dL_law_520 : decode cL_law 520 = .ok (.iconst 1, 1) := by decide +kernel
theorem dL_law_521 : decode cL_law 521 = .ok (.iand, 1) := by decide +kernel
theorem dL_law_522 : decode cL_law 522 = .ok (.invokevirtual 89, 3) := by decide +kernel
theorem dL_law_525 : decode cL_law 525 = .ok (.istore 20, 2) := by decide +kernel
theorem dL_law_527 : decode cL_law 527 = .ok (.aload_n 1, 1) := by decide +kernel
theorem dL_law_528 : decode cL_law 528 = .ok (.iconst 0, 1) := by decide +kernel
theorem dL_law_529 : decode cL_law 529 = .ok (.iload 18, 2) := by decide +kernel
theorem dL_law_531 : decode cL_law 531 = .ok (.iload 17, 2) := by decide +kernel
theorem dL_law_533 : decode cL_law 533 = .ok (.bipush 11, 2) := by decide +kernel
theorem dL_law_535 : decode cL_law 535 = .ok (.ishr, 1) := by decide +kernel
theorem dL_law_536 : decode cL_law 536 = .ok (.iconst 1, 1) := by decide +kernel
theorem dL_law_537 : decode cL_law 537 = .ok (.iand, 1) := by decide +kernel
theorem dL_law_538 : decode cL_law 538 = .ok (.bipush 60, 2) := by decide +kernel
theorem dL_law_540 : decode cL_law 540 = .ok (.iload 19, 2) := by decide +kernel
theorem dL_law_542 : decode cL_law 542 = .ok (.invokevirtual 93, 3) := by decide +kernel
theorem dL_law_545 : decode cL_law 545 = .ok (.istore 21, 2) := by decide +kernel
theorem dL_law_547 : decode cL_law 547 = .ok (.aload_n 1, 1) := by decide +kernel
theorem dL_law_548 : decode cL_law 548 = .ok (.invokevirtual 96, 3) := by decide +kernel
theorem dL_law_551 : decode cL_law 551 = .ok (.iconst 1, 1) := by decide +kernel
theorem dL_law_552 : decode cL_law 552 = .ok (.if_icmp .ne 46, 3) := by decide +kernel
theorem dL_law_555 : decode cL_law 555 = .ok (.iload 21, 2) := by decide +kernel
theorem dL_law_557 : decode cL_law 557 = .ok (.iload 19, 2) := by decide +kernel
theorem dL_law_559 : decode cL_law 559 = .ok (.if_icmp .gt 39, 3) := by decide +kernel
theorem dL_law_562 : decode cL_law 562 = .ok (.iload 6, 2) := by decide +kernel
theorem dL_law_564 : decode cL_law 564 = .ok (.iconst 5, 1) := by decide +kernel
theorem dL_law_565 : decode cL_law 565 = .ok (.if_icmp .ge 35, 3) := by decide +kernel
theorem dL_law_568 : decode cL_law 568 = .ok (.iload 20, 2) := by decide +kernel
theorem dL_law_570 : decode cL_law 570 = .ok (.ifCond .ge 7, 3) := by decide +kernel
theorem dL_law_573 : decode cL_law 573 = .ok (.iconst 1, 1) := by decide +kernel
theorem dL_law_574 : decode cL_law 574 = .ok (.goto 4, 3) := by decide +kernel
theorem dL_law_577 : decode cL_law 577 = .ok (.iconst 0, 1) := by decide +kernel
theorem dL_law_578 : decode cL_law 578 = .ok (.iload 14, 2) := by decide +kernel
theorem dL_law_580 : decode cL_law 580 = .ok (.ifCond .gt 10, 3) := by decide +kernel
theorem dL_law_583 : decode cL_law 583 = .ok (.iload 20, 2) := by decide +kernel
theorem dL_law_585 : decode cL_law 585 = .ok (.bipush (-3), 2) := by decide +kernel
theorem dL_law_587 : decode cL_law 587 = .ok (.if_icmp .ne 7, 3) := by decide +kernel
theorem dL_law_590 : decode cL_law 590 = .ok (.iconst 1, 1) := by decide +kernel
theorem dL_law_591 : decode cL_law 591 = .ok (.goto 4, 3) := by decide +kernel
theorem dL_law_594 : decode cL_law 594 = .ok (.iconst 0, 1) := by decide +kernel
theorem dL_law_595 : decode cL_law 595 = .ok (.if_icmp .eq 5, 3) := by decide +kernel
theorem dL_law_598 : decode cL_law 598 = .ok (.iconst 0, 1) := by decide +kernel
theorem dL_law_599 : decode cL_law 599 = .ok (.ireturn, 1) := by decide +kernel
theorem dL_law_600 : decode cL_law 600 = .ok (.iload 20, 2) := by decide +kernel
theorem dL_law_602 : decode cL_law 602 = .ok (.ifCond .lt 109, 3) := by decide +kernel
theorem dL_law_605 : decode cL_law 605 = .ok (.aload_n 1, 1) := by decide +kernel
theorem dL_law_606 : decode cL_law 606 = .ok (.iconst 0, 1) := by decide +kernel
theorem dL_law_607 : decode cL_law 607 = .ok (.iload 18, 2) := by decide +kernel
theorem dL_law_609 : decode cL_law 609 = .ok (.iload 17, 2) := by decide +kernel
theorem dL_law_611 : decode cL_law 611 = .ok (.bipush 11, 2) := by decide +kernel
theorem dL_law_613 : decode cL_law 613 = .ok (.ishr, 1) := by decide +kernel
theorem dL_law_614 : decode cL_law 614 = .ok (.iconst 1, 1) := by decide +kernel
theorem dL_law_615 : decode cL_law 615 = .ok (.iand, 1) := by decide +kernel
theorem dL_law_616 : decode cL_law 616 = .ok (.iload 20, 2) := by decide +kernel
theorem dL_law_618 : decode cL_law 618 = .ok (.iload 19, 2) := by decide +kernel
theorem dL_law_620 : decode cL_law 620 = .ok (.invokevirtual 36, 3) := by decide +kernel
theorem dL_law_623 : decode cL_law 623 = .ok (.iload 6, 2) := by decide +kernel
theorem dL_law_625 : decode cL_law 625 = .ok (.if_icmp .ne 34, 3) := by decide +kernel
theorem dL_law_628 : decode cL_law 628 = .ok (.aload_n 1, 1) := by decide +kernel
theorem dL_law_629 : decode cL_law 629 = .ok (.invokevirtual 74, 3) := by decide +kernel
theorem dL_law_632 : decode cL_law 632 = .ok (.ifCond .ne 27, 3) := by decide +kernel
theorem dL_law_635 : decode cL_law 635 = .ok (.aload_n 1, 1) := by decide +kernel
theorem dL_law_636 : decode cL_law 636 = .ok (.iconst 0, 1) := by decide +kernel
theorem dL_law_637 : decode cL_law 637 = .ok (.invokevirtual 48, 3) := by decide +kernel
theorem dL_law_640 : decode cL_law 640 = .ok (.iload 13, 2) := by decide +kernel
theorem dL_law_642 : decode cL_law 642 = .ok (.iload 19, 2) := by decide +kernel
theorem dL_law_644 : decode cL_law 644 = .ok (.iadd, 1) := by decide +kernel
theorem dL_law_645 : decode cL_law 645 = .ok (.if_icmp .ne 14, 3) := by decide +kernel
theorem dL_law_648 : decode cL_law 648 = .ok (.aload_n 1, 1) := by decide +kernel
theorem dL_law_649 : decode cL_law 649 = .ok (.iload 6, 2) := by decide +kernel
theorem dL_law_651 : decode cL_law 651 = .ok (.invokevirtual 99, 3) := by decide +kernel
theorem dL_law_654 : decode cL_law 654 = .ok (.iload 6, 2) := by decide +kernel
theorem dL_law_656 : decode cL_law 656 = .ok (.if_icmp .eq 5, 3) := by decide +kernel
theorem dL_law_659 : decode cL_law 659 = .ok (.iconst 0, 1) := by decide +kernel
theorem dL_law_660 : decode cL_law 660 = .ok (.ireturn, 1) := by decide +kernel
theorem dL_law_661 : decode cL_law 661 = .ok (.iload 20, 2) := by decide +kernel
theorem dL_law_663 : decode cL_law 663 = .ok (.ifCond .le 48, 3) := by decide +kernel
theorem dL_law_666 : decode cL_law 666 = .ok (.aload_n 1, 1) := by decide +kernel
theorem dL_law_667 : decode cL_law 667 = .ok (.iconst 0, 1) := by decide +kernel
theorem dL_law_668 : decode cL_law 668 = .ok (.iload 18, 2) := by decide +kernel
theorem dL_law_670 : decode cL_law 670 = .ok (.iload 17, 2) := by decide +kernel
theorem dL_law_672 : decode cL_law 672 = .ok (.bipush 11, 2) := by decide +kernel
theorem dL_law_674 : decode cL_law 674 = .ok (.ishr, 1) := by decide +kernel
theorem dL_law_675 : decode cL_law 675 = .ok (.iconst 1, 1) := by decide +kernel
theorem dL_law_676 : decode cL_law 676 = .ok (.iand, 1) := by decide +kernel
theorem dL_law_677 : decode cL_law 677 = .ok (.iload 20, 2) := by decide +kernel
theorem dL_law_679 : decode cL_law 679 = .ok (.iconst 1, 1) := by decide +kernel
theorem dL_law_680 : decode cL_law 680 = .ok (.isub, 1) := by decide +kernel
theorem dL_law_681 : decode cL_law 681 = .ok (.iload 19, 2) := by decide +kernel
theorem dL_law_683 : decode cL_law 683 = .ok (.invokevirtual 36, 3) := by decide +kernel
theorem dL_law_686 : decode cL_law 686 = .ok (.iload 6, 2) := by decide +kernel
theorem dL_law_688 : decode cL_law 688 = .ok (.if_icmp .ne 21, 3) := by decide +kernel
theorem dL_law_691 : decode cL_law 691 = .ok (.aload_n 1, 1) := by decide +kernel
theorem dL_law_692 : decode cL_law 692 = .ok (.invokevirtual 74, 3) := by decide +kernel
theorem dL_law_695 : decode cL_law 695 = .ok (.ifCond .eq 14, 3) := by decide +kernel
theorem dL_law_698 : decode cL_law 698 = .ok (.aload_n 1, 1) := by decide +kernel
theorem dL_law_699 : decode cL_law 699 = .ok (.iload 6, 2) := by decide +kernel
theorem dL_law_701 : decode cL_law 701 = .ok (.invokevirtual 99, 3) := by decide +kernel
theorem dL_law_704 : decode cL_law 704 = .ok (.iload 6, 2) := by decide +kernel
theorem dL_law_706 : decode cL_law 706 = .ok (.if_icmp .eq 5, 3) := by decide +kernel
theorem dL_law_709 : decode cL_law 709 = .ok (.iconst 0, 1) := by decide +kernel
theorem dL_law_710 : decode cL_law 710 = .ok (.ireturn, 1) := by decide +kernel
theorem dL_law_711 : decode cL_law 711 = .ok (.aload_n 1, 1) := by decide +kernel
theorem dL_law_712 : decode cL_law 712 = .ok (.iconst 0, 1) := by decide +kernel
theorem dL_law_713 : decode cL_law 713 = .ok (.iload 18, 2) := by decide +kernel
theorem dL_law_715 : decode cL_law 715 = .ok (.iload 17, 2) := by decide +kernel
theorem dL_law_717 : decode cL_law 717 = .ok (.bipush 11, 2) := by decide +kernel
theorem dL_law_719 : decode cL_law 719 = .ok (.ishr, 1) := by decide +kernel
theorem dL_law_720 : decode cL_law 720 = .ok (.iconst 1, 1) := by decide +kernel
theorem dL_law_721 : decode cL_law 721 = .ok (.iand, 1) := by decide +kernel
theorem dL_law_722 : decode cL_law 722 = .ok (.bipush 60, 2) := by decide +kernel
theorem dL_law_724 : decode cL_law 724 = .ok (.iload 19, 2) := by decide +kernel
theorem dL_law_726 : decode cL_law 726 = .ok (.invokevirtual 36, 3) := by decide +kernel
theorem dL_law_729 : decode cL_law 729 = .ok (.iload 6, 2) := by decide +kernel
theorem dL_law_731 : decode cL_law 731 = .ok (.if_icmp .ne 35, 3) := by decide +kernel
theorem dL_law_734 : decode cL_law 734 = .ok (.aload_n 1, 1) := by decide +kernel
theorem dL_law_735 : decode cL_law 735 = .ok (.iconst 0, 1) := by decide +kernel
theorem dL_law_736 : decode cL_law 736 = .ok (.invokevirtual 48, 3) := by decide +kernel
theorem dL_law_739 : decode cL_law 739 = .ok (.iload 8, 2) := by decide +kernel
theorem dL_law_741 : decode cL_law 741 = .ok (.iload 21, 2) := by decide +kernel
theorem dL_law_743 : decode cL_law 743 = .ok (.iadd, 1) := by decide +kernel
theorem dL_law_744 : decode cL_law 744 = .ok (.if_icmp .ne 22, 3) := by decide +kernel
theorem dL_law_747 : decode cL_law 747 = .ok (.aload_n 1, 1) := by decide +kernel
theorem dL_law_748 : decode cL_law 748 = .ok (.invokevirtual 102, 3) := by decide +kernel
theorem dL_law_751 : decode cL_law 751 = .ok (.iload 6, 2) := by decide +kernel
theorem dL_law_753 : decode cL_law 753 = .ok (.if_icmp .ne 13, 3) := by decide +kernel
theorem dL_law_756 : decode cL_law 756 = .ok (.aload_n 1, 1) := by decide +kernel
theorem dL_law_757 : decode cL_law 757 = .ok (.iconst 0, 1) := by decide +kernel
theorem dL_law_758 : decode cL_law 758 = .ok (.invokevirtual 48, 3) := by decide +kernel
theorem dL_law_761 : decode cL_law 761 = .ok (.iload 8, 2) := by decide +kernel
theorem dL_law_763 : decode cL_law 763 = .ok (.if_icmp .eq 5, 3) := by decide +kernel
theorem dL_law_766 : decode cL_law 766 = .ok (.iconst 0, 1) := by decide +kernel
theorem dL_law_767 : decode cL_law 767 = .ok (.ireturn, 1) := by decide +kernel
theorem dL_law_768 : decode cL_law 768 = .ok (.aload_n 1, 1) := by decide +kernel
theorem dL_law_769 : decode cL_law 769 = .ok (.iconst 0, 1) := by decide +kernel
theorem dL_law_770 : decode cL_law 770 = .ok (.invokevirtual 105, 3) := by decide +kernel
theorem dL_law_773 : decode cL_law 773 = .ok (.istore 22, 2) := by decide +kernel
theorem dL_law_775 : decode cL_law 775 = .ok (.aload_n 1, 1) := by decide +kernel
theorem dL_law_776 : decode cL_law 776 = .ok (.iconst 1, 1) := by decide +kernel
theorem dL_law_777 : decode cL_law 777 = .ok (.invokevirtual 105, 3) := by decide +kernel
theorem dL_law_780 : decode cL_law 780 = .ok (.istore 23, 2) := by decide +kernel
theorem dL_law_782 : decode cL_law 782 = .ok (.iload 23, 2) := by decide +kernel
theorem dL_law_784 : decode cL_law 784 = .ok (.iload 8, 2) := by decide +kernel
theorem dL_law_786 : decode cL_law 786 = .ok (.if_icmp .lt 78, 3) := by decide +kernel
theorem dL_law_789 : decode cL_law 789 = .ok (.iload 22, 2) := by decide +kernel
theorem dL_law_791 : decode cL_law 791 = .ok (.bipush (-9), 2) := by decide +kernel
theorem dL_law_793 : decode cL_law 793 = .ok (.if_icmp .ne 7, 3) := by decide +kernel
theorem dL_law_796 : decode cL_law 796 = .ok (.iconst 1, 1) := by decide +kernel
theorem dL_law_797 : decode cL_law 797 = .ok (.goto 4, 3) := by decide +kernel
theorem dL_law_800 : decode cL_law 800 = .ok (.iconst 0, 1) := by decide +kernel
theorem dL_law_801 : decode cL_law 801 = .ok (.iload 23, 2) := by decide +kernel
theorem dL_law_803 : decode cL_law 803 = .ok (.iload 8, 2) := by decide +kernel
theorem dL_law_805 : decode cL_law 805 = .ok (.if_icmp .ne 7, 3) := by decide +kernel
theorem dL_law_808 : decode cL_law 808 = .ok (.iconst 1, 1) := by decide +kernel
theorem dL_law_809 : decode cL_law 809 = .ok (.goto 4, 3) := by decide +kernel
theorem dL_law_812 : decode cL_law 812 = .ok (.iconst 0, 1) := by decide +kernel
theorem dL_law_813 : decode cL_law 813 = .ok (.if_icmp .ne 51, 3) := by decide +kernel
theorem dL_law_816 : decode cL_law 816 = .ok (.iload 22, 2) := by decide +kernel
theorem dL_law_818 : decode cL_law 818 = .ok (.ifCond .lt 48, 3) := by decide +kernel
theorem dL_law_821 : decode cL_law 821 = .ok (.aload_n 1, 1) := by decide +kernel
theorem dL_law_822 : decode cL_law 822 = .ok (.iload 22, 2) := by decide +kernel
theorem dL_law_824 : decode cL_law 824 = .ok (.invokevirtual 99, 3) := by decide +kernel
theorem dL_law_827 : decode cL_law 827 = .ok (.iload 6, 2) := by decide +kernel
theorem dL_law_829 : decode cL_law 829 = .ok (.iconst 1, 1) := by decide +kernel
theorem dL_law_830 : decode cL_law 830 = .ok (.isub, 1) := by decide +kernel
theorem dL_law_831 : decode cL_law 831 = .ok (.if_icmp .ne 33, 3) := by decide +kernel
theorem dL_law_834 : decode cL_law 834 = .ok (.aload_n 1, 1) := by decide +kernel
theorem dL_law_835 : decode cL_law 835 = .ok (.iconst 0, 1) := by decide +kernel
theorem dL_law_836 : decode cL_law 836 = .ok (.invokevirtual 48, 3) := by decide +kernel
theorem dL_law_839 : decode cL_law 839 = .ok (.aload_n 2, 1) := by decide +kernel
theorem dL_law_840 : decode cL_law 840 = .ok (.iconst 5, 1) := by decide +kernel
theorem dL_law_841 : decode cL_law 841 = .ok (.iload 22, 2) := by decide +kernel
theorem dL_law_843 : decode cL_law 843 = .ok (.imul, 1) := by decide +kernel
theorem dL_law_844 : decode cL_law 844 = .ok (.iconst 4, 1) := by decide +kernel
theorem dL_law_845 : decode cL_law 845 = .ok (.iadd, 1) := by decide +kernel
theorem dL_law_846 : decode cL_law 846 = .ok (.iaload, 1) := by decide +kernel
theorem dL_law_847 : decode cL_law 847 = .ok (.iconst 2, 1) := by decide +kernel
theorem dL_law_848 : decode cL_law 848 = .ok (.idiv, 1) := by decide +kernel
theorem dL_law_849 : decode cL_law 849 = .ok (.iadd, 1) := by decide +kernel
theorem dL_law_850 : decode cL_law 850 = .ok (.iload 23, 2) := by decide +kernel
theorem dL_law_852 : decode cL_law 852 = .ok (.if_icmp .ne 12, 3) := by decide +kernel
theorem dL_law_855 : decode cL_law 855 = .ok (.aload_n 1, 1) := by decide +kernel
theorem dL_law_856 : decode cL_law 856 = .ok (.invokevirtual 102, 3) := by decide +kernel
theorem dL_law_859 : decode cL_law 859 = .ok (.iload 6, 2) := by decide +kernel
theorem dL_law_861 : decode cL_law 861 = .ok (.if_icmp .eq 5, 3) := by decide +kernel
theorem dL_law_864 : decode cL_law 864 = .ok (.iconst 0, 1) := by decide +kernel
theorem dL_law_865 : decode cL_law 865 = .ok (.ireturn, 1) := by decide +kernel
theorem dL_law_866 : decode cL_law 866 = .ok (.aload_n 1, 1) := by decide +kernel
theorem dL_law_867 : decode cL_law 867 = .ok (.invokevirtual 71, 3) := by decide +kernel
theorem dL_law_870 : decode cL_law 870 = .ok (.istore 24, 2) := by decide +kernel
theorem dL_law_872 : decode cL_law 872 = .ok (.bipush 6, 2) := by decide +kernel
theorem dL_law_874 : decode cL_law 874 = .ok (.newarray .int, 2) := by decide +kernel
theorem dL_law_876 : decode cL_law 876 = .ok (.astore 25, 2) := by decide +kernel
theorem dL_law_878 : decode cL_law 878 = .ok (.iconst 0, 1) := by decide +kernel
theorem dL_law_879 : decode cL_law 879 = .ok (.istore 26, 2) := by decide +kernel
theorem dL_law_881 : decode cL_law 881 = .ok (.iload 26, 2) := by decide +kernel
theorem dL_law_883 : decode cL_law 883 = .ok (.iload 6, 2) := by decide +kernel
theorem dL_law_885 : decode cL_law 885 = .ok (.if_icmp .ge 20, 3) := by decide +kernel
theorem dL_law_888 : decode cL_law 888 = .ok (.aload 25, 2) := by decide +kernel
theorem dL_law_890 : decode cL_law 890 = .ok (.iload 26, 2) := by decide +kernel
theorem dL_law_892 : decode cL_law 892 = .ok (.aload_n 1, 1) := by decide +kernel
theorem dL_law_893 : decode cL_law 893 = .ok (.iload 26, 2) := by decide +kernel
theorem dL_law_895 : decode cL_law 895 = .ok (.invokevirtual 68, 3) := by decide +kernel
theorem dL_law_898 : decode cL_law 898 = .ok (.iastore, 1) := by decide +kernel
theorem dL_law_899 : decode cL_law 899 = .ok (.iinc 26 1, 3) := by decide +kernel
theorem dL_law_902 : decode cL_law 902 = .ok (.goto (-21), 3) := by decide +kernel
theorem dL_law_905 : decode cL_law 905 = .ok (.aload_n 1, 1) := by decide +kernel
theorem dL_law_906 : decode cL_law 906 = .ok (.iconst 0, 1) := by decide +kernel
theorem dL_law_907 : decode cL_law 907 = .ok (.aload 5, 2) := by decide +kernel
theorem dL_law_909 : decode cL_law 909 = .ok (.iconst 0, 1) := by decide +kernel
theorem dL_law_910 : decode cL_law 910 = .ok (.iaload, 1) := by decide +kernel
theorem dL_law_911 : decode cL_law 911 = .ok (.iconst 1, 1) := by decide +kernel
theorem dL_law_912 : decode cL_law 912 = .ok (.iadd, 1) := by decide +kernel
theorem dL_law_913 : decode cL_law 913 = .ok (.invokevirtual 33, 3) := by decide +kernel
theorem dL_law_916 : decode cL_law 916 = .ok (.aload 5, 2) := by decide +kernel
theorem dL_law_918 : decode cL_law 918 = .ok (.iconst 0, 1) := by decide +kernel
theorem dL_law_919 : decode cL_law 919 = .ok (.iaload, 1) := by decide +kernel
theorem dL_law_920 : decode cL_law 920 = .ok (.if_icmp .eq 5, 3) := by decide +kernel
theorem dL_law_923 : decode cL_law 923 = .ok (.iconst 0, 1) := by decide +kernel
theorem dL_law_924 : decode cL_law 924 = .ok (.ireturn, 1) := by decide +kernel
theorem dL_law_925 : decode cL_law 925 = .ok (.iconst 0, 1) := by decide +kernel
theorem dL_law_926 : decode cL_law 926 = .ok (.istore 26, 2) := by decide +kernel
theorem dL_law_928 : decode cL_law 928 = .ok (.iload 26, 2) := by decide +kernel
theorem dL_law_930 : decode cL_law 930 = .ok (.iload 6, 2) := by decide +kernel
theorem dL_law_932 : decode cL_law 932 = .ok (.if_icmp .ge 25, 3) := by decide +kernel
theorem dL_law_935 : decode cL_law 935 = .ok (.aload_n 1, 1) := by decide +kernel
theorem dL_law_936 : decode cL_law 936 = .ok (.iload 26, 2) := by decide +kernel
theorem dL_law_938 : decode cL_law 938 = .ok (.invokevirtual 68, 3) := by decide +kernel
theorem dL_law_941 : decode cL_law 941 = .ok (.aload 25, 2) := by decide +kernel
theorem dL_law_943 : decode cL_law 943 = .ok (.iload 26, 2) := by decide +kernel
theorem dL_law_945 : decode cL_law 945 = .ok (.iaload, 1) := by decide +kernel
theorem dL_law_946 : decode cL_law 946 = .ok (.if_icmp .le 5, 3) := by decide +kernel
theorem dL_law_949 : decode cL_law 949 = .ok (.iconst 0, 1) := by decide +kernel
theorem dL_law_950 : decode cL_law 950 = .ok (.ireturn, 1) := by decide +kernel
theorem dL_law_951 : decode cL_law 951 = .ok (.iinc 26 1, 3) := by decide +kernel
theorem dL_law_954 : decode cL_law 954 = .ok (.goto (-26), 3) := by decide +kernel
theorem dL_law_957 : decode cL_law 957 = .ok (.aload_n 1, 1) := by decide +kernel
theorem dL_law_958 : decode cL_law 958 = .ok (.invokevirtual 71, 3) := by decide +kernel
theorem dL_law_961 : decode cL_law 961 = .ok (.iload 24, 2) := by decide +kernel
theorem dL_law_963 : decode cL_law 963 = .ok (.iconst (-1), 1) := by decide +kernel
theorem dL_law_964 : decode cL_law 964 = .ok (.ixor, 1) := by decide +kernel
theorem dL_law_965 : decode cL_law 965 = .ok (.iand, 1) := by decide +kernel
theorem dL_law_966 : decode cL_law 966 = .ok (.ifCond .ne 21, 3) := by decide +kernel
theorem dL_law_969 : decode cL_law 969 = .ok (.aload_n 1, 1) := by decide +kernel
theorem dL_law_970 : decode cL_law 970 = .ok (.iconst 0, 1) := by decide +kernel
theorem dL_law_971 : decode cL_law 971 = .ok (.aload 5, 2) := by decide +kernel
theorem dL_law_973 : decode cL_law 973 = .ok (.iconst 0, 1) := by decide +kernel
theorem dL_law_974 : decode cL_law 974 = .ok (.iaload, 1) := by decide +kernel
theorem dL_law_975 : decode cL_law 975 = .ok (.invokevirtual 33, 3) := by decide +kernel
theorem dL_law_978 : decode cL_law 978 = .ok (.aload 5, 2) := by decide +kernel
theorem dL_law_980 : decode cL_law 980 = .ok (.iconst 0, 1) := by decide +kernel
theorem dL_law_981 : decode cL_law 981 = .ok (.iaload, 1) := by decide +kernel
theorem dL_law_982 : decode cL_law 982 = .ok (.iconst 1, 1) := by decide +kernel
theorem dL_law_983 : decode cL_law 983 = .ok (.iadd, 1) := by decide +kernel
theorem dL_law_984 : decode cL_law 984 = .ok (.if_icmp .eq 5, 3) := by decide +kernel
theorem dL_law_987 : decode cL_law 987 = .ok (.iconst 0, 1) := by decide +kernel
theorem dL_law_988 : decode cL_law 988 = .ok (.ireturn, 1) := by decide +kernel
theorem dL_law_989 : decode cL_law 989 = .ok (.aload_n 0, 1) := by decide +kernel
theorem dL_law_990 : decode cL_law 990 = .ok (.bipush 10, 2) := by decide +kernel
theorem dL_law_992 : decode cL_law 992 = .ok (.invokestatic 17, 3) := by decide +kernel
theorem dL_law_995 : decode cL_law 995 = .ok (.iconst 5, 1) := by decide +kernel
theorem dL_law_996 : decode cL_law 996 = .ok (.invokestatic 21, 3) := by decide +kernel
theorem dL_law_999 : decode cL_law 999 = .ok (.istore 26, 2) := by decide +kernel
theorem dL_law_1001 : decode cL_law 1001 = .ok (.iconst 0, 1) := by decide +kernel
theorem dL_law_1002 : decode cL_law 1002 = .ok (.istore 27, 2) := by decide +kernel
theorem dL_law_1004 : decode cL_law 1004 = .ok (.iconst 0, 1) := by decide +kernel
theorem dL_law_1005 : decode cL_law 1005 = .ok (.istore 28, 2) := by decide +kernel
theorem dL_law_1007 : decode cL_law 1007 = .ok (.iload 28, 2) := by decide +kernel
theorem dL_law_1009 : decode cL_law 1009 = .ok (.iload 26, 2) := by decide +kernel
theorem dL_law_1011 : decode cL_law 1011 = .ok (.if_icmp .ge 78, 3) := by decide +kernel
theorem dL_law_1014 : decode cL_law 1014 = .ok (.aload_n 1, 1) := by decide +kernel
theorem dL_law_1015 : decode cL_law 1015 = .ok (.invokevirtual 45, 3) := by decide +kernel
theorem dL_law_1018 : decode cL_law 1018 = .ok (.istore 29, 2) := by decide +kernel
theorem dL_law_1020 : decode cL_law 1020 = .ok (.aload_n 1, 1) := by decide +kernel
theorem dL_law_1021 : decode cL_law 1021 = .ok (.iconst 0, 1) := by decide +kernel
theorem dL_law_1022 : decode cL_law 1022 = .ok (.invokevirtual 108, 3) := by decide +kernel
theorem dL_law_1025 : decode cL_law 1025 = .ok (.istore 30, 2) := by decide +kernel
theorem dL_law_1027 : decode cL_law 1027 = .ok (.aload_n 1, 1) := by decide +kernel
theorem dL_law_1028 : decode cL_law 1028 = .ok (.invokevirtual 111, 3) := by decide +kernel
theorem dL_law_1031 : decode cL_law 1031 = .ok (.istore 31, 2) := by decide +kernel
theorem dL_law_1033 : decode cL_law 1033 = .ok (.aload_n 1, 1) := by decide +kernel
theorem dL_law_1034 : decode cL_law 1034 = .ok (.invokevirtual 114, 3) := by decide +kernel
theorem dL_law_1037 : decode cL_law 1037 = .ok (.istore 32, 2) := by decide +kernel
theorem dL_law_1039 : decode cL_law 1039 = .ok (.iload 32, 2) := by decide +kernel
theorem dL_law_1041 : decode cL_law 1041 = .ok (.ifCond .lt 33, 3) := by decide +kernel
theorem dL_law_1044 : decode cL_law 1044 = .ok (.aload_n 1, 1) := by decide +kernel
theorem dL_law_1045 : decode cL_law 1045 = .ok (.iconst 0, 1) := by decide +kernel
theorem dL_law_1046 : decode cL_law 1046 = .ok (.invokevirtual 108, 3) := by decide +kernel
theorem dL_law_1049 : decode cL_law 1049 = .ok (.iload 30, 2) := by decide +kernel
theorem dL_law_1051 : decode cL_law 1051 = .ok (.iload 32, 2) := by decide +kernel
theorem dL_law_1053 : decode cL_law 1053 = .ok (.isub, 1) := by decide +kernel
theorem dL_law_1054 : decode cL_law 1054 = .ok (.if_icmp .ne 20, 3) := by decide +kernel
theorem dL_law_1057 : decode cL_law 1057 = .ok (.aload_n 1, 1) := by decide +kernel
theorem dL_law_1058 : decode cL_law 1058 = .ok (.invokevirtual 111, 3) := by decide +kernel
theorem dL_law_1061 : decode cL_law 1061 = .ok (.aload_n 1, 1) := by decide +kernel
theorem dL_law_1062 : decode cL_law 1062 = .ok (.invokevirtual 45, 3) := by decide +kernel
theorem dL_law_1065 : decode cL_law 1065 = .ok (.iadd, 1) := by decide +kernel
theorem dL_law_1066 : decode cL_law 1066 = .ok (.iload 31, 2) := by decide +kernel
theorem dL_law_1068 : decode cL_law 1068 = .ok (.iload 29, 2) := by decide +kernel
theorem dL_law_1070 : decode cL_law 1070 = .ok (.iadd, 1) := by decide +kernel
theorem dL_law_1071 : decode cL_law 1071 = .ok (.if_icmp .eq 5, 3) := by decide +kernel
theorem dL_law_1074 : decode cL_law 1074 = .ok (.iconst 0, 1) := by decide +kernel
theorem dL_law_1075 : decode cL_law 1075 = .ok (.ireturn, 1) := by decide +kernel
theorem dL_law_1076 : decode cL_law 1076 = .ok (.iload 27, 2) := by decide +kernel
theorem dL_law_1078 : decode cL_law 1078 = .ok (.iload 32, 2) := by decide +kernel
theorem dL_law_1080 : decode cL_law 1080 = .ok (.iadd, 1) := by decide +kernel
theorem dL_law_1081 : decode cL_law 1081 = .ok (.istore 27, 2) := by decide +kernel
theorem dL_law_1083 : decode cL_law 1083 = .ok (.iinc 28 1, 3) := by decide +kernel
theorem dL_law_1086 : decode cL_law 1086 = .ok (.goto (-79), 3) := by decide +kernel
theorem dL_law_1089 : decode cL_law 1089 = .ok (.aload_n 1, 1) := by decide +kernel
theorem dL_law_1090 : decode cL_law 1090 = .ok (.iconst 0, 1) := by decide +kernel
theorem dL_law_1091 : decode cL_law 1091 = .ok (.invokevirtual 117, 3) := by decide +kernel
theorem dL_law_1094 : decode cL_law 1094 = .ok (.iload 26, 2) := by decide +kernel
theorem dL_law_1096 : decode cL_law 1096 = .ok (.if_icmp .ne 36, 3) := by decide +kernel
theorem dL_law_1099 : decode cL_law 1099 = .ok (.aload_n 1, 1) := by decide +kernel
theorem dL_law_1100 : decode cL_law 1100 = .ok (.iconst 0, 1) := by decide +kernel
theorem dL_law_1101 : decode cL_law 1101 = .ok (.invokevirtual 108, 3) := by decide +kernel
theorem dL_law_1104 : decode cL_law 1104 = .ok (.iload 6, 2) := by decide +kernel
theorem dL_law_1106 : decode cL_law 1106 = .ok (.iload 27, 2) := by decide +kernel
theorem dL_law_1108 : decode cL_law 1108 = .ok (.isub, 1) := by decide +kernel
theorem dL_law_1109 : decode cL_law 1109 = .ok (.if_icmp .ne 23, 3) := by decide +kernel
theorem dL_law_1112 : decode cL_law 1112 = .ok (.aload_n 1, 1) := by decide +kernel
theorem dL_law_1113 : decode cL_law 1113 = .ok (.invokevirtual 102, 3) := by decide +kernel
theorem dL_law_1116 : decode cL_law 1116 = .ok (.iload 6, 2) := by decide +kernel
theorem dL_law_1118 : decode cL_law 1118 = .ok (.if_icmp .ne 14, 3) := by decide +kernel
theorem dL_law_1121 : decode cL_law 1121 = .ok (.aload_n 1, 1) := by decide +kernel
theorem dL_law_1122 : decode cL_law 1122 = .ok (.invokevirtual 111, 3) := by decide +kernel
theorem dL_law_1125 : decode cL_law 1125 = .ok (.ifCond .ne 7, 3) := by decide +kernel
theorem dL_law_1128 : decode cL_law 1128 = .ok (.iconst 1, 1) := by decide +kernel
theorem dL_law_1129 : decode cL_law 1129 = .ok (.goto 4, 3) := by decide +kernel
theorem dL_law_1132 : decode cL_law 1132 = .ok (.iconst 0, 1) := by decide +kernel
theorem dL_law_1133 : decode cL_law 1133 = .ok (.ireturn, 1) := by decide +kernel
