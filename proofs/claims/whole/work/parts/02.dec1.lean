theorem dX11_night_26 : decode cX11_night 26 = .ok (.getfield 173, 3) := by decide +kernel
theorem dX11_night_29 : decode cX11_night 29 = .ok (.iload_n 1, 1) := by decide +kernel
theorem dX11_night_30 : decode cX11_night 30 = .ok (.iaload, 1) := by decide +kernel
theorem dX11_night_31 : decode cX11_night 31 = .ok (.istore_n 3, 1) := by decide +kernel
theorem dX11_night_32 : decode cX11_night 32 = .ok (.aload_n 0, 1) := by decide +kernel
theorem dX11_night_33 : decode cX11_night 33 = .ok (.getfield 10, 3) := by decide +kernel
theorem dX11_night_36 : decode cX11_night 36 = .ok (.getfield 173, 3) := by decide +kernel
theorem dX11_night_39 : decode cX11_night 39 = .ok (.iload_n 1, 1) := by decide +kernel
theorem dX11_night_40 : decode cX11_night 40 = .ok (.iload_n 2, 1) := by decide +kernel
theorem dX11_night_41 : decode cX11_night 41 = .ok (.iastore, 1) := by decide +kernel
theorem dX11_night_42 : decode cX11_night 42 = .ok (.iload_n 3, 1) := by decide +kernel
theorem dX11_night_43 : decode cX11_night 43 = .ok (.ireturn, 1) := by decide +kernel
theorem dX11_slots_0 : decode cX11_slots 0 = .ok (.iload_n 1, 1) := by decide +kernel
theorem dX11_slots_1 : decode cX11_slots 1 = .ok (.iconst 0, 1) := by decide +kernel
theorem dX11_slots_2 : decode cX11_slots 2 = .ok (.bipush 99, 2) := by decide +kernel
theorem dX11_slots_4 : decode cX11_slots 4 = .ok (.invokestatic 100, 3) := by decide +kernel
theorem dX11_slots_7 : decode cX11_slots 7 = .ok (.ifCond .ne 5, 3) := by decide +kernel
theorem dX11_slots_10 : decode cX11_slots 10 = .ok (.iconst (-1), 1) := by decide +kernel
theorem dX11_slots_11 : decode cX11_slots 11 = .ok (.ireturn, 1) := by decide +kernel
theorem dX11_slots_12 : decode cX11_slots 12 = .ok (.aload_n 0, 1) := by decide +kernel
theorem dX11_slots_13 : decode cX11_slots 13 = .ok (.getfield 10, 3) := by decide +kernel
theorem dX11_slots_16 : decode cX11_slots 16 = .ok (.iload_n 1, 1) := by decide +kernel
theorem dX11_slots_17 : decode cX11_slots 17 = .ok (.invokevirtual 176, 3) := by decide +kernel
theorem dX11_slots_20 : decode cX11_slots 20 = .ok (.ireturn, 1) := by decide +kernel
theorem dX11_plan_0 : decode cX11_plan 0 = .ok (.aload_n 0, 1) := by decide +kernel
theorem dX11_plan_1 : decode cX11_plan 1 = .ok (.getfield 10, 3) := by decide +kernel
theorem dX11_plan_4 : decode cX11_plan 4 = .ok (.iload_n 1, 1) := by decide +kernel
theorem dX11_plan_5 : decode cX11_plan 5 = .ok (.invokevirtual 180, 3) := by decide +kernel
theorem dX11_plan_8 : decode cX11_plan 8 = .ok (.ifCond .eq 7, 3) := by decide +kernel
theorem dX11_plan_11 : decode cX11_plan 11 = .ok (.iconst 1, 1) := by decide +kernel
theorem dX11_plan_12 : decode cX11_plan 12 = .ok (.goto 4, 3) := by decide +kernel
theorem dX11_plan_15 : decode cX11_plan 15 = .ok (.iconst (-1), 1) := by decide +kernel
theorem dX11_plan_16 : decode cX11_plan 16 = .ok (.ireturn, 1) := by decide +kernel
theorem dX11_planOf_0 : decode cX11_planOf 0 = .ok (.aload_n 0, 1) := by decide +kernel
theorem dX11_planOf_1 : decode cX11_planOf 1 = .ok (.getfield 10, 3) := by decide +kernel
theorem dX11_planOf_4 : decode cX11_planOf 4 = .ok (.getfield 130, 3) := by decide +kernel
theorem dX11_planOf_7 : decode cX11_planOf 7 = .ok (.iload_n 1, 1) := by decide +kernel
theorem dX11_planOf_8 : decode cX11_planOf 8 = .ok (.invokevirtual 140, 3) := by decide +kernel
theorem dX11_planOf_11 : decode cX11_planOf 11 = .ok (.ifCond .ne 5, 3) := by decide +kernel
theorem dX11_planOf_14 : decode cX11_planOf 14 = .ok (.iconst (-1), 1) := by decide +kernel
theorem dX11_planOf_15 : decode cX11_planOf 15 = .ok (.ireturn, 1) := by decide +kernel
theorem dX11_planOf_16 : decode cX11_planOf 16 = .ok (.aload_n 0, 1) := by decide +kernel
theorem dX11_planOf_17 : decode cX11_planOf 17 = .ok (.getfield 10, 3) := by decide +kernel
theorem dX11_planOf_20 : decode cX11_planOf 20 = .ok (.getfield 183, 3) := by decide +kernel
theorem dX11_planOf_23 : decode cX11_planOf 23 = .ok (.iload_n 1, 1) := by decide +kernel
theorem dX11_planOf_24 : decode cX11_planOf 24 = .ok (.iaload, 1) := by decide +kernel
theorem dX11_planOf_25 : decode cX11_planOf 25 = .ok (.ireturn, 1) := by decide +kernel
theorem dX11_press_0 : decode cX11_press 0 = .ok (.iload_n 1, 1) := by decide +kernel
theorem dX11_press_1 : decode cX11_press 1 = .ok (.tableswitch 51 0 2 #[27, 35, 43], 27) := by decide +kernel
theorem dX11_press_28 : decode cX11_press 28 = .ok (.aload_n 0, 1) := by decide +kernel
theorem dX11_press_29 : decode cX11_press 29 = .ok (.getfield 10, 3) := by decide +kernel
theorem dX11_press_32 : decode cX11_press 32 = .ok (.getfield 186, 3) := by decide +kernel
theorem dX11_press_35 : decode cX11_press 35 = .ok (.ireturn, 1) := by decide +kernel
theorem dX11_press_36 : decode cX11_press 36 = .ok (.aload_n 0, 1) := by decide +kernel
theorem dX11_press_37 : decode cX11_press 37 = .ok (.getfield 10, 3) := by decide +kernel
theorem dX11_press_40 : decode cX11_press 40 = .ok (.getfield 189, 3) := by decide +kernel
theorem dX11_press_43 : decode cX11_press 43 = .ok (.ireturn, 1) := by decide +kernel
theorem dX11_press_44 : decode cX11_press 44 = .ok (.aload_n 0, 1) := by decide +kernel
theorem dX11_press_45 : decode cX11_press 45 = .ok (.getfield 10, 3) := by decide +kernel
theorem dX11_press_48 : decode cX11_press 48 = .ok (.getfield 191, 3) := by decide +kernel
theorem dX11_press_51 : decode cX11_press 51 = .ok (.ireturn, 1) := by decide +kernel
theorem dX11_press_52 : decode cX11_press 52 = .ok (.iconst (-1), 1) := by decide +kernel
theorem dX11_press_53 : decode cX11_press 53 = .ok (.ireturn, 1) := by decide +kernel
theorem dX11_ends_0 : decode cX11_ends 0 = .ok (.aload_n 0, 1) := by decide +kernel
theorem dX11_ends_1 : decode cX11_ends 1 = .ok (.getfield 10, 3) := by decide +kernel
theorem dX11_ends_4 : decode cX11_ends 4 = .ok (.getfield 130, 3) := by decide +kernel
theorem dX11_ends_7 : decode cX11_ends 7 = .ok (.iload_n 1, 1) := by decide +kernel
theorem dX11_ends_8 : decode cX11_ends 8 = .ok (.invokevirtual 140, 3) := by decide +kernel
theorem dX11_ends_11 : decode cX11_ends 11 = .ok (.ifCond .ne 5, 3) := by decide +kernel
theorem dX11_ends_14 : decode cX11_ends 14 = .ok (.iconst (-1), 1) := by decide +kernel
theorem dX11_ends_15 : decode cX11_ends 15 = .ok (.ireturn, 1) := by decide +kernel
theorem dX11_ends_16 : decode cX11_ends 16 = .ok (.aload_n 0, 1) := by decide +kernel
theorem dX11_ends_17 : decode cX11_ends 17 = .ok (.invokevirtual 194, 3) := by decide +kernel
theorem dX11_ends_20 : decode cX11_ends 20 = .ok (.aload_n 0, 1) := by decide +kernel
theorem dX11_ends_21 : decode cX11_ends 21 = .ok (.getfield 43, 3) := by decide +kernel
theorem dX11_ends_24 : decode cX11_ends 24 = .ok (.getfield 197, 3) := by decide +kernel
theorem dX11_ends_27 : decode cX11_ends 27 = .ok (.iload_n 1, 1) := by decide +kernel
theorem dX11_ends_28 : decode cX11_ends 28 = .ok (.iaload, 1) := by decide +kernel
theorem dX11_ends_29 : decode cX11_ends 29 = .ok (.ireturn, 1) := by decide +kernel
theorem dX11_late_0 : decode cX11_late 0 = .ok (.aload_n 0, 1) := by decide +kernel
theorem dX11_late_1 : decode cX11_late 1 = .ok (.invokevirtual 194, 3) := by decide +kernel
theorem dX11_late_4 : decode cX11_late 4 = .ok (.iconst 0, 1) := by decide +kernel
theorem dX11_late_5 : decode cX11_late 5 = .ok (.istore_n 1, 1) := by decide +kernel
theorem dX11_late_6 : decode cX11_late 6 = .ok (.iconst 0, 1) := by decide +kernel
theorem dX11_late_7 : decode cX11_late 7 = .ok (.istore_n 2, 1) := by decide +kernel
theorem dX11_late_8 : decode cX11_late 8 = .ok (.iload_n 2, 1) := by decide +kernel
theorem dX11_late_9 : decode cX11_late 9 = .ok (.aload_n 0, 1) := by decide +kernel
theorem dX11_late_10 : decode cX11_late 10 = .ok (.getfield 10, 3) := by decide +kernel
theorem dX11_late_13 : decode cX11_late 13 = .ok (.getfield 130, 3) := by decide +kernel
theorem dX11_late_16 : decode cX11_late 16 = .ok (.getfield 131, 3) := by decide +kernel
theorem dX11_late_19 : decode cX11_late 19 = .ok (.if_icmp .ge 39, 3) := by decide +kernel
theorem dX11_late_22 : decode cX11_late 22 = .ok (.aload_n 0, 1) := by decide +kernel
theorem dX11_late_23 : decode cX11_late 23 = .ok (.getfield 43, 3) := by decide +kernel
theorem dX11_late_26 : decode cX11_late 26 = .ok (.getfield 197, 3) := by decide +kernel
theorem dX11_late_29 : decode cX11_late 29 = .ok (.iload_n 2, 1) := by decide +kernel
theorem dX11_late_30 : decode cX11_late 30 = .ok (.iaload, 1) := by decide +kernel
theorem dX11_late_31 : decode cX11_late 31 = .ok (.aload_n 0, 1) := by decide +kernel
theorem dX11_late_32 : decode cX11_late 32 = .ok (.getfield 10, 3) := by decide +kernel
theorem dX11_late_35 : decode cX11_late 35 = .ok (.getfield 130, 3) := by decide +kernel
theorem dX11_late_38 : decode cX11_late 38 = .ok (.getfield 153, 3) := by decide +kernel
theorem dX11_late_41 : decode cX11_late 41 = .ok (.iload_n 2, 1) := by decide +kernel
theorem dX11_late_42 : decode cX11_late 42 = .ok (.iaload, 1) := by decide +kernel
theorem dX11_late_43 : decode cX11_late 43 = .ok (.if_icmp .le 9, 3) := by decide +kernel
theorem dX11_late_46 : decode cX11_late 46 = .ok (.iload_n 1, 1) := by decide +kernel
theorem dX11_late_47 : decode cX11_late 47 = .ok (.iconst 1, 1) := by decide +kernel
theorem dX11_late_48 : decode cX11_late 48 = .ok (.iload_n 2, 1) := by decide +kernel
theorem dX11_late_49 : decode cX11_late 49 = .ok (.ishl, 1) := by decide +kernel
theorem dX11_late_50 : decode cX11_late 50 = .ok (.ior, 1) := by decide +kernel
theorem dX11_late_51 : decode cX11_late 51 = .ok (.istore_n 1, 1) := by decide +kernel
theorem dX11_late_52 : decode cX11_late 52 = .ok (.iinc 2 1, 3) := by decide +kernel
theorem dX11_late_55 : decode cX11_late 55 = .ok (.goto (-47), 3) := by decide +kernel
theorem dX11_late_58 : decode cX11_late 58 = .ok (.iload_n 1, 1) := by decide +kernel
theorem dX11_late_59 : decode cX11_late 59 = .ok (.ireturn, 1) := by decide +kernel
theorem dX11_worth_0 : decode cX11_worth 0 = .ok (.aload_n 0, 1) := by decide +kernel
theorem dX11_worth_1 : decode cX11_worth 1 = .ok (.invokevirtual 194, 3) := by decide +kernel
theorem dX11_worth_4 : decode cX11_worth 4 = .ok (.iconst 0, 1) := by decide +kernel
theorem dX11_worth_5 : decode cX11_worth 5 = .ok (.istore_n 1, 1) := by decide +kernel
theorem dX11_worth_6 : decode cX11_worth 6 = .ok (.iconst 0, 1) := by decide +kernel
theorem dX11_worth_7 : decode cX11_worth 7 = .ok (.istore_n 2, 1) := by decide +kernel
theorem dX11_worth_8 : decode cX11_worth 8 = .ok (.iload_n 2, 1) := by decide +kernel
theorem dX11_worth_9 : decode cX11_worth 9 = .ok (.aload_n 0, 1) := by decide +kernel
theorem dX11_worth_10 : decode cX11_worth 10 = .ok (.getfield 10, 3) := by decide +kernel
theorem dX11_worth_13 : decode cX11_worth 13 = .ok (.getfield 130, 3) := by decide +kernel
theorem dX11_worth_16 : decode cX11_worth 16 = .ok (.getfield 131, 3) := by decide +kernel
theorem dX11_worth_19 : decode cX11_worth 19 = .ok (.if_icmp .ge 39, 3) := by decide +kernel
theorem dX11_worth_22 : decode cX11_worth 22 = .ok (.iload_n 1, 1) := by decide +kernel
theorem dX11_worth_23 : decode cX11_worth 23 = .ok (.aload_n 0, 1) := by decide +kernel
theorem dX11_worth_24 : decode cX11_worth 24 = .ok (.getfield 10, 3) := by decide +kernel
theorem dX11_worth_27 : decode cX11_worth 27 = .ok (.getfield 130, 3) := by decide +kernel
theorem dX11_worth_30 : decode cX11_worth 30 = .ok (.iload_n 2, 1) := by decide +kernel
theorem dX11_worth_31 : decode cX11_worth 31 = .ok (.aload_n 0, 1) := by decide +kernel
theorem dX11_worth_32 : decode cX11_worth 32 = .ok (.getfield 43, 3) := by decide +kernel
theorem dX11_worth_35 : decode cX11_worth 35 = .ok (.getfield 197, 3) := by decide +kernel
theorem dX11_worth_38 : decode cX11_worth 38 = .ok (.iload_n 2, 1) := by decide +kernel
theorem dX11_worth_39 : decode cX11_worth 39 = .ok (.iaload, 1) := by decide +kernel
theorem dX11_worth_40 : decode cX11_worth 40 = .ok (.aload_n 0, 1) := by decide +kernel
theorem dX11_worth_41 : decode cX11_worth 41 = .ok (.getfield 43, 3) := by decide +kernel
theorem dX11_worth_44 : decode cX11_worth 44 = .ok (.getfield 200, 3) := by decide +kernel
theorem dX11_worth_47 : decode cX11_worth 47 = .ok (.invokevirtual 203, 3) := by decide +kernel
theorem dX11_worth_50 : decode cX11_worth 50 = .ok (.iadd, 1) := by decide +kernel
theorem dX11_worth_51 : decode cX11_worth 51 = .ok (.istore_n 1, 1) := by decide +kernel
theorem dX11_worth_52 : decode cX11_worth 52 = .ok (.iinc 2 1, 3) := by decide +kernel
theorem dX11_worth_55 : decode cX11_worth 55 = .ok (.goto (-47), 3) := by decide +kernel
theorem dX11_worth_58 : decode cX11_worth 58 = .ok (.iload_n 1, 1) := by decide +kernel
theorem dX11_worth_59 : decode cX11_worth 59 = .ok (.ireturn, 1) := by decide +kernel
theorem dX11_best_0 : decode cX11_best 0 = .ok (.iload_n 1, 1) := by decide +kernel
theorem dX11_best_1 : decode cX11_best 1 = .ok (.iconst 0, 1) := by decide +kernel
theorem dX11_best_2 : decode cX11_best 2 = .ok (.iconst 1, 1) := by decide +kernel
theorem dX11_best_3 : decode cX11_best 3 = .ok (.invokestatic 100, 3) := by decide +kernel
theorem dX11_best_6 : decode cX11_best 6 = .ok (.ifCond .ne 6, 3) := by decide +kernel
theorem dX11_best_9 : decode cX11_best 9 = .ok (.ldc 207, 2) := by decide +kernel
theorem dX11_best_11 : decode cX11_best 11 = .ok (.ireturn, 1) := by decide +kernel
theorem dX11_best_12 : decode cX11_best 12 = .ok (.aload_n 0, 1) := by decide +kernel
theorem dX11_best_13 : decode cX11_best 13 = .ok (.getfield 43, 3) := by decide +kernel
theorem dX11_best_16 : decode cX11_best 16 = .ok (.aload_n 0, 1) := by decide +kernel
theorem dX11_best_17 : decode cX11_best 17 = .ok (.getfield 10, 3) := by decide +kernel
theorem dX11_best_20 : decode cX11_best 20 = .ok (.iconst 0, 1) := by decide +kernel
theorem dX11_best_21 : decode cX11_best 21 = .ok (.invokevirtual 208, 3) := by decide +kernel
theorem dX11_best_24 : decode cX11_best 24 = .ok (.aload_n 0, 1) := by decide +kernel
theorem dX11_best_25 : decode cX11_best 25 = .ok (.getfield 52, 3) := by decide +kernel
theorem dX11_best_28 : decode cX11_best 28 = .ok (.aload_n 0, 1) := by decide +kernel
theorem dX11_best_29 : decode cX11_best 29 = .ok (.getfield 10, 3) := by decide +kernel
theorem dX11_best_32 : decode cX11_best 32 = .ok (.getfield 130, 3) := by decide +kernel
theorem dX11_best_35 : decode cX11_best 35 = .ok (.bipush (-9), 2) := by decide +kernel
theorem dX11_best_37 : decode cX11_best 37 = .ok (.invokevirtual 212, 3) := by decide +kernel
theorem dX11_best_40 : decode cX11_best 40 = .ok (.istore_n 2, 1) := by decide +kernel
theorem dX11_best_41 : decode cX11_best 41 = .ok (.iload_n 1, 1) := by decide +kernel
theorem dX11_best_42 : decode cX11_best 42 = .ok (.ifCond .ne 7, 3) := by decide +kernel
theorem dX11_best_45 : decode cX11_best 45 = .ok (.iload_n 2, 1) := by decide +kernel
theorem dX11_best_46 : decode cX11_best 46 = .ok (.goto 23, 3) := by decide +kernel
theorem dX11_best_49 : decode cX11_best 49 = .ok (.aload_n 0, 1) := by decide +kernel
theorem dX11_best_50 : decode cX11_best 50 = .ok (.getfield 52, 3) := by decide +kernel
theorem dX11_best_53 : decode cX11_best 53 = .ok (.getfield 216, 3) := by decide +kernel
theorem dX11_best_56 : decode cX11_best 56 = .ok (.aload_n 0, 1) := by decide +kernel
theorem dX11_best_57 : decode cX11_best 57 = .ok (.getfield 10, 3) := by decide +kernel
theorem dX11_best_60 : decode cX11_best 60 = .ok (.getfield 130, 3) := by decide +kernel
theorem dX11_best_63 : decode cX11_best 63 = .ok (.getfield 131, 3) := by decide +kernel
theorem dX11_best_66 : decode cX11_best 66 = .ok (.invokestatic 219, 3) := by decide +kernel
theorem dX11_best_69 : decode cX11_best 69 = .ok (.ireturn, 1) := by decide +kernel
theorem dX11_fewest_0 : decode cX11_fewest 0 = .ok (.aload_n 0, 1) := by decide +kernel
theorem dX11_fewest_1 : decode cX11_fewest 1 = .ok (.getfield 43, 3) := by decide +kernel
theorem dX11_fewest_4 : decode cX11_fewest 4 = .ok (.aload_n 0, 1) := by decide +kernel
theorem dX11_fewest_5 : decode cX11_fewest 5 = .ok (.getfield 10, 3) := by decide +kernel
theorem dX11_fewest_8 : decode cX11_fewest 8 = .ok (.iconst 0, 1) := by decide +kernel
theorem dX11_fewest_9 : decode cX11_fewest 9 = .ok (.invokevirtual 208, 3) := by decide +kernel
theorem dX11_fewest_12 : decode cX11_fewest 12 = .ok (.aload_n 0, 1) := by decide +kernel
theorem dX11_fewest_13 : decode cX11_fewest 13 = .ok (.getfield 52, 3) := by decide +kernel
theorem dX11_fewest_16 : decode cX11_fewest 16 = .ok (.aload_n 0, 1) := by decide +kernel
theorem dX11_fewest_17 : decode cX11_fewest 17 = .ok (.getfield 10, 3) := by decide +kernel
theorem dX11_fewest_20 : decode cX11_fewest 20 = .ok (.getfield 130, 3) := by decide +kernel
theorem dX11_fewest_23 : decode cX11_fewest 23 = .ok (.invokevirtual 223, 3) := by decide +kernel
theorem dX11_fewest_26 : decode cX11_fewest 26 = .ok (.ireturn, 1) := by decide +kernel
theorem dX11_soonest_0 : decode cX11_soonest 0 = .ok (.iload_n 1, 1) := by decide +kernel
theorem dX11_soonest_1 : decode cX11_soonest 1 = .ok (.iload_n 2, 1) := by decide +kernel
theorem dX11_soonest_2 : decode cX11_soonest 2 = .ok (.iload_n 3, 1) := by decide +kernel
theorem dX11_soonest_3 : decode cX11_soonest 3 = .ok (.iconst 0, 1) := by decide +kernel
theorem dX11_soonest_4 : decode cX11_soonest 4 = .ok (.iconst 0, 1) := by decide +kernel
theorem dX11_soonest_5 : decode cX11_soonest 5 = .ok (.invokestatic 132, 3) := by decide +kernel
theorem dX11_soonest_8 : decode cX11_soonest 8 = .ok (.ifCond .ne 5, 3) := by decide +kernel
theorem dX11_soonest_11 : decode cX11_soonest 11 = .ok (.iconst (-1), 1) := by decide +kernel
theorem dX11_soonest_12 : decode cX11_soonest 12 = .ok (.ireturn, 1) := by decide +kernel
theorem dX11_soonest_13 : decode cX11_soonest 13 = .ok (.aload_n 0, 1) := by decide +kernel
theorem dX11_soonest_14 : decode cX11_soonest 14 = .ok (.getfield 10, 3) := by decide +kernel
theorem dX11_soonest_17 : decode cX11_soonest 17 = .ok (.getfield 130, 3) := by decide +kernel
theorem dX11_soonest_20 : decode cX11_soonest 20 = .ok (.getfield 131, 3) := by decide +kernel
theorem dX11_soonest_23 : decode cX11_soonest 23 = .ok (.bipush 6, 2) := by decide +kernel
theorem dX11_soonest_25 : decode cX11_soonest 25 = .ok (.if_icmp .lt 6, 3) := by decide +kernel
theorem dX11_soonest_28 : decode cX11_soonest 28 = .ok (.bipush (-2), 2) := by decide +kernel
theorem dX11_soonest_30 : decode cX11_soonest 30 = .ok (.ireturn, 1) := by decide +kernel
theorem dX11_soonest_31 : decode cX11_soonest 31 = .ok (.aload_n 0, 1) := by decide +kernel
theorem dX11_soonest_32 : decode cX11_soonest 32 = .ok (.getfield 43, 3) := by decide +kernel
theorem dX11_soonest_35 : decode cX11_soonest 35 = .ok (.aload_n 0, 1) := by decide +kernel
theorem dX11_soonest_36 : decode cX11_soonest 36 = .ok (.getfield 10, 3) := by decide +kernel
theorem dX11_soonest_39 : decode cX11_soonest 39 = .ok (.iconst 0, 1) := by decide +kernel
theorem dX11_soonest_40 : decode cX11_soonest 40 = .ok (.invokevirtual 208, 3) := by decide +kernel
theorem dX11_soonest_43 : decode cX11_soonest 43 = .ok (.aload_n 0, 1) := by decide +kernel
theorem dX11_soonest_44 : decode cX11_soonest 44 = .ok (.getfield 82, 3) := by decide +kernel
theorem dX11_soonest_47 : decode cX11_soonest 47 = .ok (.aload_n 0, 1) := by decide +kernel
theorem dX11_soonest_48 : decode cX11_soonest 48 = .ok (.getfield 10, 3) := by decide +kernel
theorem dX11_soonest_51 : decode cX11_soonest 51 = .ok (.getfield 130, 3) := by decide +kernel
theorem dX11_soonest_54 : decode cX11_soonest 54 = .ok (.invokevirtual 227, 3) := by decide +kernel
theorem dX11_soonest_57 : decode cX11_soonest 57 = .ok (.aload_n 0, 1) := by decide +kernel
theorem dX11_soonest_58 : decode cX11_soonest 58 = .ok (.getfield 82, 3) := by decide +kernel
theorem dX11_soonest_61 : decode cX11_soonest 61 = .ok (.iload_n 1, 1) := by decide +kernel
theorem dX11_soonest_62 : decode cX11_soonest 62 = .ok (.iload_n 2, 1) := by decide +kernel
theorem dX11_soonest_63 : decode cX11_soonest 63 = .ok (.iload_n 3, 1) := by decide +kernel
theorem dX11_soonest_64 : decode cX11_soonest 64 = .ok (.bipush 60, 2) := by decide +kernel
theorem dX11_soonest_66 : decode cX11_soonest 66 = .ok (.iconst 0, 1) := by decide +kernel
theorem dX11_soonest_67 : decode cX11_soonest 67 = .ok (.invokevirtual 231, 3) := by decide +kernel
theorem dX11_soonest_70 : decode cX11_soonest 70 = .ok (.aload_n 0, 1) := by decide +kernel
theorem dX11_soonest_71 : decode cX11_soonest 71 = .ok (.getfield 52, 3) := by decide +kernel
theorem dX11_soonest_74 : decode cX11_soonest 74 = .ok (.aload_n 0, 1) := by decide +kernel
theorem dX11_soonest_75 : decode cX11_soonest 75 = .ok (.getfield 82, 3) := by decide +kernel
theorem dX11_soonest_78 : decode cX11_soonest 78 = .ok (.invokevirtual 235, 3) := by decide +kernel
theorem dX11_soonest_81 : decode cX11_soonest 81 = .ok (.istore 4, 2) := by decide +kernel
theorem dX11_soonest_83 : decode cX11_soonest 83 = .ok (.iload 4, 2) := by decide +kernel
theorem dX11_soonest_85 : decode cX11_soonest 85 = .ok (.bipush 60, 2) := by decide +kernel
theorem dX11_soonest_87 : decode cX11_soonest 87 = .ok (.if_icmp .gt 8, 3) := by decide +kernel
theorem dX11_soonest_90 : decode cX11_soonest 90 = .ok (.iload 4, 2) := by decide +kernel
theorem dX11_soonest_92 : decode cX11_soonest 92 = .ok (.goto 5, 3) := by decide +kernel
theorem dX11_soonest_95 : decode cX11_soonest 95 = .ok (.bipush (-3), 2) := by decide +kernel
theorem dX11_soonest_97 : decode cX11_soonest 97 = .ok (.ireturn, 1) := by decide +kernel
theorem dX11_gain_0 : decode cX11_gain 0 = .ok (.iload_n 1, 1) := by decide +kernel
theorem dX11_gain_1 : decode cX11_gain 1 = .ok (.iload_n 2, 1) := by decide +kernel
theorem dX11_gain_2 : decode cX11_gain 2 = .ok (.iload_n 3, 1) := by decide +kernel
theorem dX11_gain_3 : decode cX11_gain 3 = .ok (.iload 4, 2) := by decide +kernel
theorem dX11_gain_5 : decode cX11_gain 5 = .ok (.iload 5, 2) := by decide +kernel
theorem dX11_gain_7 : decode cX11_gain 7 = .ok (.invokestatic 132, 3) := by decide +kernel
theorem dX11_gain_10 : decode cX11_gain 10 = .ok (.ifCond .eq 18, 3) := by decide +kernel
theorem dX11_gain_13 : decode cX11_gain 13 = .ok (.aload_n 0, 1) := by decide +kernel
theorem dX11_gain_14 : decode cX11_gain 14 = .ok (.getfield 10, 3) := by decide +kernel
theorem dX11_gain_17 : decode cX11_gain 17 = .ok (.getfield 130, 3) := by decide +kernel
theorem dX11_gain_20 : decode cX11_gain 20 = .ok (.getfield 131, 3) := by decide +kernel
theorem dX11_gain_23 : decode cX11_gain 23 = .ok (.bipush 6, 2) := by decide +kernel
theorem dX11_gain_25 : decode cX11_gain 25 = .ok (.if_icmp .lt 6, 3) := by decide +kernel
theorem dX11_gain_28 : decode cX11_gain 28 = .ok (.ldc 207, 2) := by decide +kernel
theorem dX11_gain_30 : decode cX11_gain 30 = .ok (.ireturn, 1) := by decide +kernel
theorem dX11_gain_31 : decode cX11_gain 31 = .ok (.aload_n 0, 1) := by decide +kernel
theorem dX11_gain_32 : decode cX11_gain 32 = .ok (.getfield 43, 3) := by decide +kernel
theorem dX11_gain_35 : decode cX11_gain 35 = .ok (.aload_n 0, 1) := by decide +kernel
theorem dX11_gain_36 : decode cX11_gain 36 = .ok (.getfield 10, 3) := by decide +kernel
theorem dX11_gain_39 : decode cX11_gain 39 = .ok (.iconst 0, 1) := by decide +kernel
theorem dX11_gain_40 : decode cX11_gain 40 = .ok (.invokevirtual 208, 3) := by decide +kernel
theorem dX11_gain_43 : decode cX11_gain 43 = .ok (.aload_n 0, 1) := by decide +kernel
theorem dX11_gain_44 : decode cX11_gain 44 = .ok (.getfield 52, 3) := by decide +kernel
theorem dX11_gain_47 : decode cX11_gain 47 = .ok (.aload_n 0, 1) := by decide +kernel
theorem dX11_gain_48 : decode cX11_gain 48 = .ok (.getfield 10, 3) := by decide +kernel
theorem dX11_gain_51 : decode cX11_gain 51 = .ok (.getfield 130, 3) := by decide +kernel
theorem dX11_gain_54 : decode cX11_gain 54 = .ok (.bipush (-9), 2) := by decide +kernel
theorem dX11_gain_56 : decode cX11_gain 56 = .ok (.invokevirtual 212, 3) := by decide +kernel
theorem dX11_gain_59 : decode cX11_gain 59 = .ok (.istore 6, 2) := by decide +kernel
theorem dX11_gain_61 : decode cX11_gain 61 = .ok (.aload_n 0, 1) := by decide +kernel
theorem dX11_gain_62 : decode cX11_gain 62 = .ok (.getfield 82, 3) := by decide +kernel
theorem dX11_gain_65 : decode cX11_gain 65 = .ok (.aload_n 0, 1) := by decide +kernel
theorem dX11_gain_66 : decode cX11_gain 66 = .ok (.getfield 10, 3) := by decide +kernel
theorem dX11_gain_69 : decode cX11_gain 69 = .ok (.getfield 130, 3) := by decide +kernel
theorem dX11_gain_72 : decode cX11_gain 72 = .ok (.invokevirtual 227, 3) := by decide +kernel
theorem dX11_gain_75 : decode cX11_gain 75 = .ok (.aload_n 0, 1) := by decide +kernel
theorem dX11_gain_76 : decode cX11_gain 76 = .ok (.getfield 82, 3) := by decide +kernel
theorem dX11_gain_79 : decode cX11_gain 79 = .ok (.iload_n 1, 1) := by decide +kernel
theorem dX11_gain_80 : decode cX11_gain 80 = .ok (.iload_n 2, 1) := by decide +kernel
theorem dX11_gain_81 : decode cX11_gain 81 = .ok (.iload_n 3, 1) := by decide +kernel
theorem dX11_gain_82 : decode cX11_gain 82 = .ok (.iload 4, 2) := by decide +kernel
theorem dX11_gain_84 : decode cX11_gain 84 = .ok (.iload 5, 2) := by decide +kernel
theorem dX11_gain_86 : decode cX11_gain 86 = .ok (.invokevirtual 231, 3) := by decide +kernel
theorem dX11_gain_89 : decode cX11_gain 89 = .ok (.aload_n 0, 1) := by decide +kernel
theorem dX11_gain_90 : decode cX11_gain 90 = .ok (.getfield 52, 3) := by decide +kernel
theorem dX11_gain_93 : decode cX11_gain 93 = .ok (.aload_n 0, 1) := by decide +kernel
theorem dX11_gain_94 : decode cX11_gain 94 = .ok (.getfield 82, 3) := by decide +kernel
theorem dX11_gain_97 : decode cX11_gain 97 = .ok (.bipush (-9), 2) := by decide +kernel
theorem dX11_gain_99 : decode cX11_gain 99 = .ok (.invokevirtual 212, 3) := by decide +kernel
theorem dX11_gain_102 : decode cX11_gain 102 = .ok (.iload 6, 2) := by decide +kernel
theorem dX11_gain_104 : decode cX11_gain 104 = .ok (.isub, 1) := by decide +kernel
theorem dX11_gain_105 : decode cX11_gain 105 = .ok (.ireturn, 1) := by decide +kernel
theorem dX11_across_0 : decode cX11_across 0 = .ok (.iload_n 1, 1) := by decide +kernel
theorem dX11_across_1 : decode cX11_across 1 = .ok (.iconst 0, 1) := by decide +kernel
theorem dX11_across_2 : decode cX11_across 2 = .ok (.iconst 1, 1) := by decide +kernel
theorem dX11_across_3 : decode cX11_across 3 = .ok (.invokestatic 100, 3) := by decide +kernel
theorem dX11_across_6 : decode cX11_across 6 = .ok (.ifCond .ne 6, 3) := by decide +kernel
theorem dX11_across_9 : decode cX11_across 9 = .ok (.ldc 207, 2) := by decide +kernel
theorem dX11_across_11 : decode cX11_across 11 = .ok (.ireturn, 1) := by decide +kernel
theorem dX11_across_12 : decode cX11_across 12 = .ok (.aload_n 0, 1) := by decide +kernel
theorem dX11_across_13 : decode cX11_across 13 = .ok (.getfield 43, 3) := by decide +kernel
theorem dX11_across_16 : decode cX11_across 16 = .ok (.aload_n 0, 1) := by decide +kernel
theorem dX11_across_17 : decode cX11_across 17 = .ok (.getfield 10, 3) := by decide +kernel
theorem dX11_across_20 : decode cX11_across 20 = .ok (.iconst 0, 1) := by decide +kernel
theorem dX11_across_21 : decode cX11_across 21 = .ok (.invokevirtual 208, 3) := by decide +kernel
theorem dX11_across_24 : decode cX11_across 24 = .ok (.bipush (-9), 2) := by decide +kernel
theorem dX11_across_26 : decode cX11_across 26 = .ok (.istore_n 2, 1) := by decide +kernel
theorem dX11_across_27 : decode cX11_across 27 = .ok (.aload_n 0, 1) := by decide +kernel
theorem dX11_across_28 : decode cX11_across 28 = .ok (.getfield 52, 3) := by decide +kernel
theorem dX11_across_31 : decode cX11_across 31 = .ok (.aload_n 0, 1) := by decide +kernel
theorem dX11_across_32 : decode cX11_across 32 = .ok (.getfield 10, 3) := by decide +kernel
theorem dX11_across_35 : decode cX11_across 35 = .ok (.getfield 130, 3) := by decide +kernel
theorem dX11_across_38 : decode cX11_across 38 = .ok (.bipush (-9), 2) := by decide +kernel
theorem dX11_across_40 : decode cX11_across 40 = .ok (.invokevirtual 212, 3) := by decide +kernel
theorem dX11_across_43 : decode cX11_across 43 = .ok (.istore_n 3, 1) := by decide +kernel
theorem dX11_across_44 : decode cX11_across 44 = .ok (.iconst 0, 1) := by decide +kernel
theorem dX11_across_45 : decode cX11_across 45 = .ok (.istore 4, 2) := by decide +kernel
theorem dX11_across_47 : decode cX11_across 47 = .ok (.iload 4, 2) := by decide +kernel
theorem dX11_across_49 : decode cX11_across 49 = .ok (.aload_n 0, 1) := by decide +kernel
theorem dX11_across_50 : decode cX11_across 50 = .ok (.getfield 10, 3) := by decide +kernel
theorem dX11_across_53 : decode cX11_across 53 = .ok (.getfield 130, 3) := by decide +kernel
theorem dX11_across_56 : decode cX11_across 56 = .ok (.getfield 131, 3) := by decide +kernel
theorem dX11_across_59 : decode cX11_across 59 = .ok (.if_icmp .ge 55, 3) := by decide +kernel
theorem dX11_across_62 : decode cX11_across 62 = .ok (.aload_n 0, 1) := by decide +kernel
theorem dX11_across_63 : decode cX11_across 63 = .ok (.getfield 52, 3) := by decide +kernel
theorem dX11_across_66 : decode cX11_across 66 = .ok (.aload_n 0, 1) := by decide +kernel
theorem dX11_across_67 : decode cX11_across 67 = .ok (.getfield 10, 3) := by decide +kernel
theorem dX11_across_70 : decode cX11_across 70 = .ok (.getfield 130, 3) := by decide +kernel
theorem dX11_across_73 : decode cX11_across 73 = .ok (.iload 4, 2) := by decide +kernel
theorem dX11_across_75 : decode cX11_across 75 = .ok (.invokevirtual 212, 3) := by decide +kernel
theorem dX11_across_78 : decode cX11_across 78 = .ok (.aload_n 0, 1) := by decide +kernel
theorem dX11_across_79 : decode cX11_across 79 = .ok (.getfield 10, 3) := by decide +kernel
theorem dX11_across_82 : decode cX11_across 82 = .ok (.getfield 130, 3) := by decide +kernel
theorem dX11_across_85 : decode cX11_across 85 = .ok (.getfield 156, 3) := by decide +kernel
theorem dX11_across_88 : decode cX11_across 88 = .ok (.iload 4, 2) := by decide +kernel
theorem dX11_across_90 : decode cX11_across 90 = .ok (.iaload, 1) := by decide +kernel
theorem dX11_across_91 : decode cX11_across 91 = .ok (.iconst 2, 1) := by decide +kernel
theorem dX11_across_92 : decode cX11_across 92 = .ok (.idiv, 1) := by decide +kernel
theorem dX11_across_93 : decode cX11_across 93 = .ok (.iadd, 1) := by decide +kernel
theorem dX11_across_94 : decode cX11_across 94 = .ok (.istore 5, 2) := by decide +kernel
theorem dX11_across_96 : decode cX11_across 96 = .ok (.iload 5, 2) := by decide +kernel
theorem dX11_across_98 : decode cX11_across 98 = .ok (.iload_n 3, 1) := by decide +kernel
theorem dX11_across_99 : decode cX11_across 99 = .ok (.if_icmp .le 9, 3) := by decide +kernel
theorem dX11_across_102 : decode cX11_across 102 = .ok (.iload 5, 2) := by decide +kernel
theorem dX11_across_104 : decode cX11_across 104 = .ok (.istore_n 3, 1) := by decide +kernel
theorem dX11_across_105 : decode cX11_across 105 = .ok (.iload 4, 2) := by decide +kernel
theorem dX11_across_107 : decode cX11_across 107 = .ok (.istore_n 2, 1) := by decide +kernel
theorem dX11_across_108 : decode cX11_across 108 = .ok (.iinc 4 1, 3) := by decide +kernel
theorem dX11_across_111 : decode cX11_across 111 = .ok (.goto (-64), 3) := by decide +kernel
theorem dX11_across_114 : decode cX11_across 114 = .ok (.iload_n 1, 1) := by decide +kernel
theorem dX11_across_115 : decode cX11_across 115 = .ok (.ifCond .ne 7, 3) := by decide +kernel
theorem dX11_across_118 : decode cX11_across 118 = .ok (.iload_n 2, 1) := by decide +kernel
theorem dX11_across_119 : decode cX11_across 119 = .ok (.goto 4, 3) := by decide +kernel
theorem dX11_across_122 : decode cX11_across 122 = .ok (.iload_n 3, 1) := by decide +kernel
theorem dX11_across_123 : decode cX11_across 123 = .ok (.ireturn, 1) := by decide +kernel
theorem dX11_nights_0 : decode cX11_nights 0 = .ok (.iconst 0, 1) := by decide +kernel
theorem dX11_nights_1 : decode cX11_nights 1 = .ok (.istore_n 1, 1) := by decide +kernel
theorem dX11_nights_2 : decode cX11_nights 2 = .ok (.iload_n 1, 1) := by decide +kernel
theorem dX11_nights_3 : decode cX11_nights 3 = .ok (.bipush 9, 2) := by decide +kernel
theorem dX11_nights_5 : decode cX11_nights 5 = .ok (.if_icmp .gt 40, 3) := by decide +kernel
theorem dX11_nights_8 : decode cX11_nights 8 = .ok (.aload_n 0, 1) := by decide +kernel
theorem dX11_nights_9 : decode cX11_nights 9 = .ok (.getfield 43, 3) := by decide +kernel
theorem dX11_nights_12 : decode cX11_nights 12 = .ok (.aload_n 0, 1) := by decide +kernel
theorem dX11_nights_13 : decode cX11_nights 13 = .ok (.getfield 10, 3) := by decide +kernel
theorem dX11_nights_16 : decode cX11_nights 16 = .ok (.iload_n 1, 1) := by decide +kernel
theorem dX11_nights_17 : decode cX11_nights 17 = .ok (.invokevirtual 208, 3) := by decide +kernel
theorem dX11_nights_20 : decode cX11_nights 20 = .ok (.aload_n 0, 1) := by decide +kernel
theorem dX11_nights_21 : decode cX11_nights 21 = .ok (.getfield 52, 3) := by decide +kernel
theorem dX11_nights_24 : decode cX11_nights 24 = .ok (.aload_n 0, 1) := by decide +kernel
theorem dX11_nights_25 : decode cX11_nights 25 = .ok (.getfield 10, 3) := by decide +kernel
theorem dX11_nights_28 : decode cX11_nights 28 = .ok (.getfield 130, 3) := by decide +kernel
theorem dX11_nights_31 : decode cX11_nights 31 = .ok (.invokevirtual 223, 3) := by decide +kernel
theorem dX11_nights_34 : decode cX11_nights 34 = .ok (.ifCond .ne 5, 3) := by decide +kernel
theorem dX11_nights_37 : decode cX11_nights 37 = .ok (.iload_n 1, 1) := by decide +kernel
theorem dX11_nights_38 : decode cX11_nights 38 = .ok (.ireturn, 1) := by decide +kernel
theorem dX11_nights_39 : decode cX11_nights 39 = .ok (.iinc 1 1, 3) := by decide +kernel
theorem dX11_nights_42 : decode cX11_nights 42 = .ok (.goto (-40), 3) := by decide +kernel
theorem dX11_nights_45 : decode cX11_nights 45 = .ok (.bipush (-3), 2) := by decide +kernel
theorem dX11_nights_47 : decode cX11_nights 47 = .ok (.ireturn, 1) := by decide +kernel
theorem dX11_sure_0 : decode cX11_sure 0 = .ok (.iload_n 1, 1) := by decide +kernel
theorem dX11_sure_1 : decode cX11_sure 1 = .ok (.iconst 0, 1) := by decide +kernel
theorem dX11_sure_2 : decode cX11_sure 2 = .ok (.iconst 1, 1) := by decide +kernel
theorem dX11_sure_3 : decode cX11_sure 3 = .ok (.invokestatic 100, 3) := by decide +kernel
theorem dX11_sure_6 : decode cX11_sure 6 = .ok (.ifCond .ne 5, 3) := by decide +kernel
theorem dX11_sure_9 : decode cX11_sure 9 = .ok (.iconst (-1), 1) := by decide +kernel
theorem dX11_sure_10 : decode cX11_sure 10 = .ok (.ireturn, 1) := by decide +kernel
theorem dX11_sure_11 : decode cX11_sure 11 = .ok (.aload_n 0, 1) := by decide +kernel
theorem dX11_sure_12 : decode cX11_sure 12 = .ok (.getfield 43, 3) := by decide +kernel
theorem dX11_sure_15 : decode cX11_sure 15 = .ok (.aload_n 0, 1) := by decide +kernel
theorem dX11_sure_16 : decode cX11_sure 16 = .ok (.getfield 10, 3) := by decide +kernel
theorem dX11_sure_19 : decode cX11_sure 19 = .ok (.iconst 0, 1) := by decide +kernel
theorem dX11_sure_20 : decode cX11_sure 20 = .ok (.invokevirtual 208, 3) := by decide +kernel
theorem dX11_sure_23 : decode cX11_sure 23 = .ok (.aload_n 0, 1) := by decide +kernel
theorem dX11_sure_24 : decode cX11_sure 24 = .ok (.getfield 59, 3) := by decide +kernel
theorem dX11_sure_27 : decode cX11_sure 27 = .ok (.aload_n 0, 1) := by decide +kernel
theorem dX11_sure_28 : decode cX11_sure 28 = .ok (.getfield 10, 3) := by decide +kernel
theorem dX11_sure_31 : decode cX11_sure 31 = .ok (.getfield 130, 3) := by decide +kernel
theorem dX11_sure_34 : decode cX11_sure 34 = .ok (.aload_n 0, 1) := by decide +kernel
theorem dX11_sure_35 : decode cX11_sure 35 = .ok (.getfield 10, 3) := by decide +kernel
theorem dX11_sure_38 : decode cX11_sure 38 = .ok (.getfield 183, 3) := by decide +kernel
theorem dX11_sure_41 : decode cX11_sure 41 = .ok (.invokevirtual 238, 3) := by decide +kernel
theorem dX11_sure_44 : decode cX11_sure 44 = .ok (.iconst 2, 1) := by decide +kernel
theorem dX11_sure_45 : decode cX11_sure 45 = .ok (.aload_n 0, 1) := by decide +kernel
theorem dX11_sure_46 : decode cX11_sure 46 = .ok (.getfield 10, 3) := by decide +kernel
theorem dX11_sure_49 : decode cX11_sure 49 = .ok (.getfield 130, 3) := by decide +kernel
theorem dX11_sure_52 : decode cX11_sure 52 = .ok (.getfield 131, 3) := by decide +kernel
theorem dX11_sure_55 : decode cX11_sure 55 = .ok (.imul, 1) := by decide +kernel
theorem dX11_sure_56 : decode cX11_sure 56 = .ok (.iload_n 1, 1) := by decide +kernel
theorem dX11_sure_57 : decode cX11_sure 57 = .ok (.invokestatic 242, 3) := by decide +kernel
theorem dX11_sure_60 : decode cX11_sure 60 = .ok (.ireturn, 1) := by decide +kernel
theorem dX11_safest_0 : decode cX11_safest 0 = .ok (.iload_n 1, 1) := by decide +kernel
theorem dX11_safest_1 : decode cX11_safest 1 = .ok (.iconst 0, 1) := by decide +kernel
theorem dX11_safest_2 : decode cX11_safest 2 = .ok (.iconst 2, 1) := by decide +kernel
theorem dX11_safest_3 : decode cX11_safest 3 = .ok (.invokestatic 100, 3) := by decide +kernel
theorem dX11_safest_6 : decode cX11_safest 6 = .ok (.ifCond .ne 5, 3) := by decide +kernel
theorem dX11_safest_9 : decode cX11_safest 9 = .ok (.iconst (-1), 1) := by decide +kernel
theorem dX11_safest_10 : decode cX11_safest 10 = .ok (.ireturn, 1) := by decide +kernel
theorem dX11_safest_11 : decode cX11_safest 11 = .ok (.aload_n 0, 1) := by decide +kernel
theorem dX11_safest_12 : decode cX11_safest 12 = .ok (.getfield 43, 3) := by decide +kernel
theorem dX11_safest_15 : decode cX11_safest 15 = .ok (.aload_n 0, 1) := by decide +kernel
theorem dX11_safest_16 : decode cX11_safest 16 = .ok (.getfield 10, 3) := by decide +kernel
theorem dX11_safest_19 : decode cX11_safest 19 = .ok (.iconst 0, 1) := by decide +kernel
theorem dX11_safest_20 : decode cX11_safest 20 = .ok (.invokevirtual 208, 3) := by decide +kernel
theorem dX11_safest_23 : decode cX11_safest 23 = .ok (.aload_n 0, 1) := by decide +kernel
theorem dX11_safest_24 : decode cX11_safest 24 = .ok (.getfield 59, 3) := by decide +kernel
theorem dX11_safest_27 : decode cX11_safest 27 = .ok (.aload_n 0, 1) := by decide +kernel
theorem dX11_safest_28 : decode cX11_safest 28 = .ok (.getfield 10, 3) := by decide +kernel
theorem dX11_safest_31 : decode cX11_safest 31 = .ok (.getfield 130, 3) := by decide +kernel
theorem dX11_safest_34 : decode cX11_safest 34 = .ok (.invokevirtual 245, 3) := by decide +kernel
theorem dX11_safest_37 : decode cX11_safest 37 = .ok (.istore_n 2, 1) := by decide +kernel
theorem dX11_safest_38 : decode cX11_safest 38 = .ok (.iload_n 1, 1) := by decide +kernel
theorem dX11_safest_39 : decode cX11_safest 39 = .ok (.ifCond .ne 24, 3) := by decide +kernel
theorem dX11_safest_42 : decode cX11_safest 42 = .ok (.aload_n 0, 1) := by decide +kernel
theorem dX11_safest_43 : decode cX11_safest 43 = .ok (.getfield 59, 3) := by decide +kernel
theorem dX11_safest_46 : decode cX11_safest 46 = .ok (.getfield 248, 3) := by decide +kernel
theorem dX11_safest_49 : decode cX11_safest 49 = .ok (.aload_n 0, 1) := by decide +kernel
theorem dX11_safest_50 : decode cX11_safest 50 = .ok (.getfield 10, 3) := by decide +kernel
theorem dX11_safest_53 : decode cX11_safest 53 = .ok (.getfield 130, 3) := by decide +kernel
theorem dX11_safest_56 : decode cX11_safest 56 = .ok (.getfield 131, 3) := by decide +kernel
theorem dX11_safest_59 : decode cX11_safest 59 = .ok (.invokestatic 219, 3) := by decide +kernel
theorem dX11_safest_62 : decode cX11_safest 62 = .ok (.ireturn, 1) := by decide +kernel
theorem dX11_safest_63 : decode cX11_safest 63 = .ok (.iload_n 2, 1) := by decide +kernel
theorem dX11_safest_64 : decode cX11_safest 64 = .ok (.iconst 2, 1) := by decide +kernel
theorem dX11_safest_65 : decode cX11_safest 65 = .ok (.aload_n 0, 1) := by decide +kernel
theorem dX11_safest_66 : decode cX11_safest 66 = .ok (.getfield 10, 3) := by decide +kernel
theorem dX11_safest_69 : decode cX11_safest 69 = .ok (.getfield 130, 3) := by decide +kernel
theorem dX11_safest_72 : decode cX11_safest 72 = .ok (.getfield 131, 3) := by decide +kernel
theorem dX11_safest_75 : decode cX11_safest 75 = .ok (.imul, 1) := by decide +kernel
theorem dX11_safest_76 : decode cX11_safest 76 = .ok (.iload_n 1, 1) := by decide +kernel
theorem dX11_safest_77 : decode cX11_safest 77 = .ok (.iconst 1, 1) := by decide +kernel
theorem dX11_safest_78 : decode cX11_safest 78 = .ok (.isub, 1) := by decide +kernel
theorem dX11_safest_79 : decode cX11_safest 79 = .ok (.invokestatic 242, 3) := by decide +kernel
theorem dX11_safest_82 : decode cX11_safest 82 = .ok (.ireturn, 1) := by decide +kernel
theorem dX11_mean_0 : decode cX11_mean 0 = .ok (.iload_n 1, 1) := by decide +kernel
theorem dX11_mean_1 : decode cX11_mean 1 = .ok (.iconst 0, 1) := by decide +kernel
theorem dX11_mean_2 : decode cX11_mean 2 = .ok (.iconst 1, 1) := by decide +kernel
theorem dX11_mean_3 : decode cX11_mean 3 = .ok (.invokestatic 100, 3) := by decide +kernel
theorem dX11_mean_6 : decode cX11_mean 6 = .ok (.ifCond .ne 6, 3) := by decide +kernel
theorem dX11_mean_9 : decode cX11_mean 9 = .ok (.ldc 207, 2) := by decide +kernel
theorem dX11_mean_11 : decode cX11_mean 11 = .ok (.ireturn, 1) := by decide +kernel
theorem dX11_mean_12 : decode cX11_mean 12 = .ok (.aload_n 0, 1) := by decide +kernel
theorem dX11_mean_13 : decode cX11_mean 13 = .ok (.getfield 43, 3) := by decide +kernel
theorem dX11_mean_16 : decode cX11_mean 16 = .ok (.aload_n 0, 1) := by decide +kernel
theorem dX11_mean_17 : decode cX11_mean 17 = .ok (.getfield 10, 3) := by decide +kernel
theorem dX11_mean_20 : decode cX11_mean 20 = .ok (.iconst 0, 1) := by decide +kernel
theorem dX11_mean_21 : decode cX11_mean 21 = .ok (.invokevirtual 208, 3) := by decide +kernel
theorem dX11_mean_24 : decode cX11_mean 24 = .ok (.aload_n 0, 1) := by decide +kernel
theorem dX11_mean_25 : decode cX11_mean 25 = .ok (.getfield 59, 3) := by decide +kernel
theorem dX11_mean_28 : decode cX11_mean 28 = .ok (.aload_n 0, 1) := by decide +kernel
theorem dX11_mean_29 : decode cX11_mean 29 = .ok (.getfield 10, 3) := by decide +kernel
theorem dX11_mean_32 : decode cX11_mean 32 = .ok (.getfield 130, 3) := by decide +kernel
theorem dX11_mean_35 : decode cX11_mean 35 = .ok (.aload_n 0, 1) := by decide +kernel
theorem dX11_mean_36 : decode cX11_mean 36 = .ok (.getfield 10, 3) := by decide +kernel
theorem dX11_mean_39 : decode cX11_mean 39 = .ok (.getfield 183, 3) := by decide +kernel
theorem dX11_mean_42 : decode cX11_mean 42 = .ok (.invokevirtual 249, 3) := by decide +kernel
theorem dX11_mean_45 : decode cX11_mean 45 = .ok (.iconst 2, 1) := by decide +kernel
theorem dX11_mean_46 : decode cX11_mean 46 = .ok (.aload_n 0, 1) := by decide +kernel
theorem dX11_mean_47 : decode cX11_mean 47 = .ok (.getfield 10, 3) := by decide +kernel
theorem dX11_mean_50 : decode cX11_mean 50 = .ok (.getfield 130, 3) := by decide +kernel
theorem dX11_mean_53 : decode cX11_mean 53 = .ok (.getfield 131, 3) := by decide +kernel
theorem dX11_mean_56 : decode cX11_mean 56 = .ok (.imul, 1) := by decide +kernel
theorem dX11_mean_57 : decode cX11_mean 57 = .ok (.iload_n 1, 1) := by decide +kernel
theorem dX11_mean_58 : decode cX11_mean 58 = .ok (.invokestatic 242, 3) := by decide +kernel
theorem dX11_mean_61 : decode cX11_mean 61 = .ok (.ireturn, 1) := by decide +kernel
theorem dX11_type_0 : decode cX11_type 0 = .ok (.iload_n 1, 1) := by decide +kernel
theorem dX11_type_1 : decode cX11_type 1 = .ok (.iload_n 2, 1) := by decide +kernel
theorem dX11_type_2 : decode cX11_type 2 = .ok (.iload_n 3, 1) := by decide +kernel
theorem dX11_type_3 : decode cX11_type 3 = .ok (.iconst 0, 1) := by decide +kernel
theorem dX11_type_4 : decode cX11_type 4 = .ok (.iload 5, 2) := by decide +kernel
theorem dX11_type_6 : decode cX11_type 6 = .ok (.invokestatic 132, 3) := by decide +kernel
theorem dX11_type_9 : decode cX11_type 9 = .ok (.ifCond .ne 5, 3) := by decide +kernel
theorem dX11_type_12 : decode cX11_type 12 = .ok (.iconst (-1), 1) := by decide +kernel
theorem dX11_type_13 : decode cX11_type 13 = .ok (.ireturn, 1) := by decide +kernel
theorem dX11_type_14 : decode cX11_type 14 = .ok (.iload 4, 2) := by decide +kernel
theorem dX11_type_16 : decode cX11_type 16 = .ok (.iconst 0, 1) := by decide +kernel
theorem dX11_type_17 : decode cX11_type 17 = .ok (.bipush 20, 2) := by decide +kernel
theorem dX11_type_19 : decode cX11_type 19 = .ok (.invokestatic 100, 3) := by decide +kernel
theorem dX11_type_22 : decode cX11_type 22 = .ok (.ifCond .eq 13, 3) := by decide +kernel
theorem dX11_type_25 : decode cX11_type 25 = .ok (.iload 6, 2) := by decide +kernel
theorem dX11_type_27 : decode cX11_type 27 = .ok (.iconst 1, 1) := by decide +kernel
theorem dX11_type_28 : decode cX11_type 28 = .ok (.iconst 4, 1) := by decide +kernel
theorem dX11_type_29 : decode cX11_type 29 = .ok (.invokestatic 100, 3) := by decide +kernel
theorem dX11_type_32 : decode cX11_type 32 = .ok (.ifCond .ne 5, 3) := by decide +kernel
theorem dX11_type_35 : decode cX11_type 35 = .ok (.iconst (-1), 1) := by decide +kernel
theorem dX11_type_36 : decode cX11_type 36 = .ok (.ireturn, 1) := by decide +kernel
theorem dX11_type_37 : decode cX11_type 37 = .ok (.aload_n 0, 1) := by decide +kernel
theorem dX11_type_38 : decode cX11_type 38 = .ok (.getfield 22, 3) := by decide +kernel
theorem dX11_type_41 : decode cX11_type 41 = .ok (.invokevirtual 252, 3) := by decide +kernel
theorem dX11_type_44 : decode cX11_type 44 = .ok (.iload 6, 2) := by decide +kernel
theorem dX11_type_46 : decode cX11_type 46 = .ok (.iadd, 1) := by decide +kernel
theorem dX11_type_47 : decode cX11_type 47 = .ok (.iconst 4, 1) := by decide +kernel
theorem dX11_type_48 : decode cX11_type 48 = .ok (.if_icmp .le 6, 3) := by decide +kernel
theorem dX11_type_51 : decode cX11_type 51 = .ok (.bipush (-4), 2) := by decide +kernel
theorem dX11_type_53 : decode cX11_type 53 = .ok (.ireturn, 1) := by decide +kernel
theorem dX11_type_54 : decode cX11_type 54 = .ok (.aload_n 0, 1) := by decide +kernel
theorem dX11_type_55 : decode cX11_type 55 = .ok (.getfield 22, 3) := by decide +kernel
theorem dX11_type_58 : decode cX11_type 58 = .ok (.iload_n 1, 1) := by decide +kernel
theorem dX11_type_59 : decode cX11_type 59 = .ok (.iload_n 2, 1) := by decide +kernel
theorem dX11_type_60 : decode cX11_type 60 = .ok (.iload_n 3, 1) := by decide +kernel
theorem dX11_type_61 : decode cX11_type 61 = .ok (.iload 4, 2) := by decide +kernel
theorem dX11_type_63 : decode cX11_type 63 = .ok (.iload 5, 2) := by decide +kernel
theorem dX11_type_65 : decode cX11_type 65 = .ok (.iload 6, 2) := by decide +kernel
theorem dX11_type_67 : decode cX11_type 67 = .ok (.invokevirtual 255, 3) := by decide +kernel
theorem dX11_type_70 : decode cX11_type 70 = .ok (.ireturn, 1) := by decide +kernel
theorem dX11_typeOf_0 : decode cX11_typeOf 0 = .ok (.iload_n 1, 1) := by decide +kernel
theorem dX11_typeOf_1 : decode cX11_typeOf 1 = .ok (.iconst 0, 1) := by decide +kernel
theorem dX11_typeOf_2 : decode cX11_typeOf 2 = .ok (.aload_n 0, 1) := by decide +kernel
theorem dX11_typeOf_3 : decode cX11_typeOf 3 = .ok (.getfield 22, 3) := by decide +kernel
theorem dX11_typeOf_6 : decode cX11_typeOf 6 = .ok (.getfield 258, 3) := by decide +kernel
theorem dX11_typeOf_9 : decode cX11_typeOf 9 = .ok (.iconst 1, 1) := by decide +kernel
theorem dX11_typeOf_10 : decode cX11_typeOf 10 = .ok (.isub, 1) := by decide +kernel
theorem dX11_typeOf_11 : decode cX11_typeOf 11 = .ok (.invokestatic 100, 3) := by decide +kernel
theorem dX11_typeOf_14 : decode cX11_typeOf 14 = .ok (.ifCond .ne 5, 3) := by decide +kernel
theorem dX11_typeOf_17 : decode cX11_typeOf 17 = .ok (.iconst (-1), 1) := by decide +kernel
theorem dX11_typeOf_18 : decode cX11_typeOf 18 = .ok (.ireturn, 1) := by decide +kernel
theorem dX11_typeOf_19 : decode cX11_typeOf 19 = .ok (.iload_n 2, 1) := by decide +kernel
theorem dX11_typeOf_20 : decode cX11_typeOf 20 = .ok (.tableswitch 100 0 5 #[40, 50, 60, 70, 80, 90], 40) := by decide +kernel
theorem dX11_typeOf_60 : decode cX11_typeOf 60 = .ok (.aload_n 0, 1) := by decide +kernel
theorem dX11_typeOf_61 : decode cX11_typeOf 61 = .ok (.getfield 22, 3) := by decide +kernel
theorem dX11_typeOf_64 : decode cX11_typeOf 64 = .ok (.getfield 259, 3) := by decide +kernel
theorem dX11_typeOf_67 : decode cX11_typeOf 67 = .ok (.iload_n 1, 1) := by decide +kernel
theorem dX11_typeOf_68 : decode cX11_typeOf 68 = .ok (.iaload, 1) := by decide +kernel
theorem dX11_typeOf_69 : decode cX11_typeOf 69 = .ok (.ireturn, 1) := by decide +kernel
theorem dX11_typeOf_70 : decode cX11_typeOf 70 = .ok (.aload_n 0, 1) := by decide +kernel
theorem dX11_typeOf_71 : decode cX11_typeOf 71 = .ok (.getfield 22, 3) := by decide +kernel
theorem dX11_typeOf_74 : decode cX11_typeOf 74 = .ok (.getfield 260, 3) := by decide +kernel
theorem dX11_typeOf_77 : decode cX11_typeOf 77 = .ok (.iload_n 1, 1) := by decide +kernel
theorem dX11_typeOf_78 : decode cX11_typeOf 78 = .ok (.iaload, 1) := by decide +kernel
theorem dX11_typeOf_79 : decode cX11_typeOf 79 = .ok (.ireturn, 1) := by decide +kernel
theorem dX11_typeOf_80 : decode cX11_typeOf 80 = .ok (.aload_n 0, 1) := by decide +kernel
theorem dX11_typeOf_81 : decode cX11_typeOf 81 = .ok (.getfield 22, 3) := by decide +kernel
theorem dX11_typeOf_84 : decode cX11_typeOf 84 = .ok (.getfield 263, 3) := by decide +kernel
theorem dX11_typeOf_87 : decode cX11_typeOf 87 = .ok (.iload_n 1, 1) := by decide +kernel
theorem dX11_typeOf_88 : decode cX11_typeOf 88 = .ok (.iaload, 1) := by decide +kernel
theorem dX11_typeOf_89 : decode cX11_typeOf 89 = .ok (.ireturn, 1) := by decide +kernel
theorem dX11_typeOf_90 : decode cX11_typeOf 90 = .ok (.aload_n 0, 1) := by decide +kernel
theorem dX11_typeOf_91 : decode cX11_typeOf 91 = .ok (.getfield 22, 3) := by decide +kernel
theorem dX11_typeOf_94 : decode cX11_typeOf 94 = .ok (.getfield 264, 3) := by decide +kernel
theorem dX11_typeOf_97 : decode cX11_typeOf 97 = .ok (.iload_n 1, 1) := by decide +kernel
theorem dX11_typeOf_98 : decode cX11_typeOf 98 = .ok (.iaload, 1) := by decide +kernel
theorem dX11_typeOf_99 : decode cX11_typeOf 99 = .ok (.ireturn, 1) := by decide +kernel
theorem dX11_typeOf_100 : decode cX11_typeOf 100 = .ok (.aload_n 0, 1) := by decide +kernel
theorem dX11_typeOf_101 : decode cX11_typeOf 101 = .ok (.getfield 22, 3) := by decide +kernel
theorem dX11_typeOf_104 : decode cX11_typeOf 104 = .ok (.getfield 267, 3) := by decide +kernel
theorem dX11_typeOf_107 : decode cX11_typeOf 107 = .ok (.iload_n 1, 1) := by decide +kernel
theorem dX11_typeOf_108 : decode cX11_typeOf 108 = .ok (.iaload, 1) := by decide +kernel
theorem dX11_typeOf_109 : decode cX11_typeOf 109 = .ok (.ireturn, 1) := by decide +kernel
theorem dX11_typeOf_110 : decode cX11_typeOf 110 = .ok (.aload_n 0, 1) := by decide +kernel
theorem dX11_typeOf_111 : decode cX11_typeOf 111 = .ok (.getfield 22, 3) := by decide +kernel
theorem dX11_typeOf_114 : decode cX11_typeOf 114 = .ok (.getfield 268, 3) := by decide +kernel
theorem dX11_typeOf_117 : decode cX11_typeOf 117 = .ok (.iload_n 1, 1) := by decide +kernel
theorem dX11_typeOf_118 : decode cX11_typeOf 118 = .ok (.iaload, 1) := by decide +kernel
theorem dX11_typeOf_119 : decode cX11_typeOf 119 = .ok (.ireturn, 1) := by decide +kernel
theorem dX11_typeOf_120 : decode cX11_typeOf 120 = .ok (.iconst (-1), 1) := by decide +kernel
theorem dX11_typeOf_121 : decode cX11_typeOf 121 = .ok (.ireturn, 1) := by decide +kernel
theorem dX11_ahead_0 : decode cX11_ahead 0 = .ok (.iload_n 1, 1) := by decide +kernel
theorem dX11_ahead_1 : decode cX11_ahead 1 = .ok (.iconst 0, 1) := by decide +kernel
theorem dX11_ahead_2 : decode cX11_ahead 2 = .ok (.iconst 3, 1) := by decide +kernel
theorem dX11_ahead_3 : decode cX11_ahead 3 = .ok (.invokestatic 100, 3) := by decide +kernel
theorem dX11_ahead_6 : decode cX11_ahead 6 = .ok (.ifCond .eq 28, 3) := by decide +kernel
theorem dX11_ahead_9 : decode cX11_ahead 9 = .ok (.iload_n 2, 1) := by decide +kernel
theorem dX11_ahead_10 : decode cX11_ahead 10 = .ok (.iconst 0, 1) := by decide +kernel
theorem dX11_ahead_11 : decode cX11_ahead 11 = .ok (.iconst 1, 1) := by decide +kernel
theorem dX11_ahead_12 : decode cX11_ahead 12 = .ok (.invokestatic 100, 3) := by decide +kernel
theorem dX11_ahead_15 : decode cX11_ahead 15 = .ok (.ifCond .eq 19, 3) := by decide +kernel
theorem dX11_ahead_18 : decode cX11_ahead 18 = .ok (.aload_n 0, 1) := by decide +kernel
theorem dX11_ahead_19 : decode cX11_ahead 19 = .ok (.getfield 10, 3) := by decide +kernel
theorem dX11_ahead_22 : decode cX11_ahead 22 = .ok (.getfield 130, 3) := by decide +kernel
theorem dX11_ahead_25 : decode cX11_ahead 25 = .ok (.getfield 131, 3) := by decide +kernel
theorem dX11_ahead_28 : decode cX11_ahead 28 = .ok (.iload_n 1, 1) := by decide +kernel
theorem dX11_ahead_29 : decode cX11_ahead 29 = .ok (.iadd, 1) := by decide +kernel
theorem dX11_ahead_30 : decode cX11_ahead 30 = .ok (.iconst 5, 1) := by decide +kernel
theorem dX11_ahead_31 : decode cX11_ahead 31 = .ok (.if_icmp .le 6, 3) := by decide +kernel
theorem dX11_ahead_34 : decode cX11_ahead 34 = .ok (.ldc 207, 2) := by decide +kernel
theorem dX11_ahead_36 : decode cX11_ahead 36 = .ok (.ireturn, 1) := by decide +kernel
theorem dX11_ahead_37 : decode cX11_ahead 37 = .ok (.aload_n 0, 1) := by decide +kernel
theorem dX11_ahead_38 : decode cX11_ahead 38 = .ok (.getfield 43, 3) := by decide +kernel
theorem dX11_ahead_41 : decode cX11_ahead 41 = .ok (.aload_n 0, 1) := by decide +kernel
theorem dX11_ahead_42 : decode cX11_ahead 42 = .ok (.getfield 10, 3) := by decide +kernel
theorem dX11_ahead_45 : decode cX11_ahead 45 = .ok (.iconst 0, 1) := by decide +kernel
theorem dX11_ahead_46 : decode cX11_ahead 46 = .ok (.invokevirtual 208, 3) := by decide +kernel
theorem dX11_ahead_49 : decode cX11_ahead 49 = .ok (.aload_n 0, 1) := by decide +kernel
theorem dX11_ahead_50 : decode cX11_ahead 50 = .ok (.getfield 82, 3) := by decide +kernel
theorem dX11_ahead_53 : decode cX11_ahead 53 = .ok (.aload_n 0, 1) := by decide +kernel
theorem dX11_ahead_54 : decode cX11_ahead 54 = .ok (.getfield 10, 3) := by decide +kernel
theorem dX11_ahead_57 : decode cX11_ahead 57 = .ok (.getfield 130, 3) := by decide +kernel
theorem dX11_ahead_60 : decode cX11_ahead 60 = .ok (.invokevirtual 227, 3) := by decide +kernel
theorem dX11_ahead_63 : decode cX11_ahead 63 = .ok (.aload_n 0, 1) := by decide +kernel
theorem dX11_ahead_64 : decode cX11_ahead 64 = .ok (.getfield 68, 3) := by decide +kernel
theorem dX11_ahead_67 : decode cX11_ahead 67 = .ok (.aload_n 0, 1) := by decide +kernel
theorem dX11_ahead_68 : decode cX11_ahead 68 = .ok (.getfield 22, 3) := by decide +kernel
theorem dX11_ahead_71 : decode cX11_ahead 71 = .ok (.aload_n 0, 1) := by decide +kernel
theorem dX11_ahead_72 : decode cX11_ahead 72 = .ok (.getfield 82, 3) := by decide +kernel
theorem dX11_ahead_75 : decode cX11_ahead 75 = .ok (.aload_n 0, 1) := by decide +kernel
theorem dX11_ahead_76 : decode cX11_ahead 76 = .ok (.getfield 10, 3) := by decide +kernel
theorem dX11_ahead_79 : decode cX11_ahead 79 = .ok (.getfield 186, 3) := by decide +kernel
theorem dX11_ahead_82 : decode cX11_ahead 82 = .ok (.iload_n 1, 1) := by decide +kernel
theorem dX11_ahead_83 : decode cX11_ahead 83 = .ok (.invokevirtual 271, 3) := by decide +kernel
theorem dX11_ahead_86 : decode cX11_ahead 86 = .ok (.iconst 2, 1) := by decide +kernel
theorem dX11_ahead_87 : decode cX11_ahead 87 = .ok (.iload_n 1, 1) := by decide +kernel
theorem dX11_ahead_88 : decode cX11_ahead 88 = .ok (.imul, 1) := by decide +kernel
theorem dX11_ahead_89 : decode cX11_ahead 89 = .ok (.iload_n 2, 1) := by decide +kernel
theorem dX11_ahead_90 : decode cX11_ahead 90 = .ok (.invokestatic 242, 3) := by decide +kernel
theorem dX11_ahead_93 : decode cX11_ahead 93 = .ok (.ireturn, 1) := by decide +kernel
theorem dX11_comes_0 : decode cX11_comes 0 = .ok (.aload_n 0, 1) := by decide +kernel
theorem dX11_comes_1 : decode cX11_comes 1 = .ok (.getfield 22, 3) := by decide +kernel
theorem dX11_comes_4 : decode cX11_comes 4 = .ok (.invokevirtual 275, 3) := by decide +kernel
theorem dX11_comes_7 : decode cX11_comes 7 = .ok (.ireturn, 1) := by decide +kernel
theorem dX11_seed_0 : decode cX11_seed 0 = .ok (.aload_n 0, 1) := by decide +kernel
theorem dX11_seed_1 : decode cX11_seed 1 = .ok (.getfield 22, 3) := by decide +kernel
theorem dX11_seed_4 : decode cX11_seed 4 = .ok (.getfield 278, 3) := by decide +kernel
theorem dX11_seed_7 : decode cX11_seed 7 = .ok (.istore_n 2, 1) := by decide +kernel
theorem dX11_seed_8 : decode cX11_seed 8 = .ok (.aload_n 0, 1) := by decide +kernel
theorem dX11_seed_9 : decode cX11_seed 9 = .ok (.getfield 22, 3) := by decide +kernel
theorem dX11_seed_12 : decode cX11_seed 12 = .ok (.iload_n 1, 1) := by decide +kernel
theorem dX11_seed_13 : decode cX11_seed 13 = .ok (.putfield 278, 3) := by decide +kernel
theorem dX11_seed_16 : decode cX11_seed 16 = .ok (.iload_n 2, 1) := by decide +kernel
theorem dX11_seed_17 : decode cX11_seed 17 = .ok (.ireturn, 1) := by decide +kernel
theorem dX11_goes_0 : decode cX11_goes 0 = .ok (.aload_n 0, 1) := by decide +kernel
theorem dX11_goes_1 : decode cX11_goes 1 = .ok (.getfield 10, 3) := by decide +kernel
theorem dX11_goes_4 : decode cX11_goes 4 = .ok (.getfield 186, 3) := by decide +kernel
theorem dX11_goes_7 : decode cX11_goes 7 = .ok (.bipush 60, 2) := by decide +kernel
theorem dX11_goes_9 : decode cX11_goes 9 = .ok (.if_icmp .lt 6, 3) := by decide +kernel
theorem dX11_goes_12 : decode cX11_goes 12 = .ok (.bipush (-4), 2) := by decide +kernel
theorem dX11_goes_14 : decode cX11_goes 14 = .ok (.ireturn, 1) := by decide +kernel
theorem dX11_goes_15 : decode cX11_goes 15 = .ok (.aload_n 0, 1) := by decide +kernel
theorem dX11_goes_16 : decode cX11_goes 16 = .ok (.getfield 10, 3) := by decide +kernel
theorem dX11_goes_19 : decode cX11_goes 19 = .ok (.invokevirtual 281, 3) := by decide +kernel
theorem dX11_goes_22 : decode cX11_goes 22 = .ok (.ireturn, 1) := by decide +kernel
theorem dX11_till_0 : decode cX11_till 0 = .ok (.aload_n 0, 1) := by decide +kernel
theorem dX11_till_1 : decode cX11_till 1 = .ok (.getfield 10, 3) := by decide +kernel
theorem dX11_till_4 : decode cX11_till 4 = .ok (.getfield 284, 3) := by decide +kernel
theorem dX11_till_7 : decode cX11_till 7 = .ok (.ireturn, 1) := by decide +kernel
theorem dX11_prove_0 : decode cX11_prove 0 = .ok (.aload_n 0, 1) := by decide +kernel
theorem dX11_prove_1 : decode cX11_prove 1 = .ok (.getfield 43, 3) := by decide +kernel
theorem dX11_prove_4 : decode cX11_prove 4 = .ok (.aload_n 0, 1) := by decide +kernel
theorem dX11_prove_5 : decode cX11_prove 5 = .ok (.getfield 10, 3) := by decide +kernel
theorem dX11_prove_8 : decode cX11_prove 8 = .ok (.iconst 0, 1) := by decide +kernel
theorem dX11_prove_9 : decode cX11_prove 9 = .ok (.invokevirtual 208, 3) := by decide +kernel
theorem dX11_prove_12 : decode cX11_prove 12 = .ok (.aload_n 0, 1) := by decide +kernel
theorem dX11_prove_13 : decode cX11_prove 13 = .ok (.getfield 52, 3) := by decide +kernel
theorem dX11_prove_16 : decode cX11_prove 16 = .ok (.aload_n 0, 1) := by decide +kernel
theorem dX11_prove_17 : decode cX11_prove 17 = .ok (.getfield 10, 3) := by decide +kernel
theorem dX11_prove_20 : decode cX11_prove 20 = .ok (.getfield 130, 3) := by decide +kernel
theorem dX11_prove_23 : decode cX11_prove 23 = .ok (.bipush (-9), 2) := by decide +kernel
theorem dX11_prove_25 : decode cX11_prove 25 = .ok (.invokevirtual 212, 3) := by decide +kernel
theorem dX11_prove_28 : decode cX11_prove 28 = .ok (.pop, 1) := by decide +kernel
theorem dX11_prove_29 : decode cX11_prove 29 = .ok (.aload_n 0, 1) := by decide +kernel
theorem dX11_prove_30 : decode cX11_prove 30 = .ok (.getfield 75, 3) := by decide +kernel
theorem dX11_prove_33 : decode cX11_prove 33 = .ok (.aload_n 0, 1) := by decide +kernel
theorem dX11_prove_34 : decode cX11_prove 34 = .ok (.getfield 10, 3) := by decide +kernel
theorem dX11_prove_37 : decode cX11_prove 37 = .ok (.getfield 130, 3) := by decide +kernel
theorem dX11_prove_40 : decode cX11_prove 40 = .ok (.aload_n 0, 1) := by decide +kernel
theorem dX11_prove_41 : decode cX11_prove 41 = .ok (.getfield 52, 3) := by decide +kernel
theorem dX11_prove_44 : decode cX11_prove 44 = .ok (.getfield 216, 3) := by decide +kernel
theorem dX11_prove_47 : decode cX11_prove 47 = .ok (.invokevirtual 287, 3) := by decide +kernel
theorem dX11_prove_50 : decode cX11_prove 50 = .ok (.aload_n 0, 1) := by decide +kernel
theorem dX11_prove_51 : decode cX11_prove 51 = .ok (.getfield 75, 3) := by decide +kernel
theorem dX11_prove_54 : decode cX11_prove 54 = .ok (.getfield 126, 3) := by decide +kernel
theorem dX11_prove_57 : decode cX11_prove 57 = .ok (.ireturn, 1) := by decide +kernel
theorem dX11_row_0 : decode cX11_row 0 = .ok (.aload_n 0, 1) := by decide +kernel
theorem dX11_row_1 : decode cX11_row 1 = .ok (.getfield 75, 3) := by decide +kernel
theorem dX11_row_4 : decode cX11_row 4 = .ok (.iload_n 1, 1) := by decide +kernel
theorem dX11_row_5 : decode cX11_row 5 = .ok (.iload_n 2, 1) := by decide +kernel
theorem dX11_row_6 : decode cX11_row 6 = .ok (.invokevirtual 290, 3) := by decide +kernel
theorem dX11_row_9 : decode cX11_row 9 = .ok (.ifCond .ne 6, 3) := by decide +kernel
theorem dX11_row_12 : decode cX11_row 12 = .ok (.ldc 207, 2) := by decide +kernel
theorem dX11_row_14 : decode cX11_row 14 = .ok (.ireturn, 1) := by decide +kernel
theorem dX11_row_15 : decode cX11_row 15 = .ok (.aload_n 0, 1) := by decide +kernel
theorem dX11_row_16 : decode cX11_row 16 = .ok (.getfield 75, 3) := by decide +kernel
theorem dX11_row_19 : decode cX11_row 19 = .ok (.getfield 293, 3) := by decide +kernel
theorem dX11_row_22 : decode cX11_row 22 = .ok (.iload_n 1, 1) := by decide +kernel
theorem dX11_row_23 : decode cX11_row 23 = .ok (.iconst 3, 1) := by decide +kernel
theorem dX11_row_24 : decode cX11_row 24 = .ok (.imul, 1) := by decide +kernel
theorem dX11_row_25 : decode cX11_row 25 = .ok (.iload_n 2, 1) := by decide +kernel
theorem dX11_row_26 : decode cX11_row 26 = .ok (.iadd, 1) := by decide +kernel
theorem dX11_row_27 : decode cX11_row 27 = .ok (.iaload, 1) := by decide +kernel
theorem dX11_row_28 : decode cX11_row 28 = .ok (.ireturn, 1) := by decide +kernel
theorem dX11_alterRow_0 : decode cX11_alterRow 0 = .ok (.aload_n 0, 1) := by decide +kernel
theorem dX11_alterRow_1 : decode cX11_alterRow 1 = .ok (.getfield 75, 3) := by decide +kernel
theorem dX11_alterRow_4 : decode cX11_alterRow 4 = .ok (.iload_n 1, 1) := by decide +kernel
theorem dX11_alterRow_5 : decode cX11_alterRow 5 = .ok (.iload_n 2, 1) := by decide +kernel
theorem dX11_alterRow_6 : decode cX11_alterRow 6 = .ok (.invokevirtual 290, 3) := by decide +kernel
theorem dX11_alterRow_9 : decode cX11_alterRow 9 = .ok (.ifCond .ne 6, 3) := by decide +kernel
theorem dX11_alterRow_12 : decode cX11_alterRow 12 = .ok (.ldc 207, 2) := by decide +kernel
theorem dX11_alterRow_14 : decode cX11_alterRow 14 = .ok (.ireturn, 1) := by decide +kernel
theorem dX11_alterRow_15 : decode cX11_alterRow 15 = .ok (.iload_n 1, 1) := by decide +kernel
theorem dX11_alterRow_16 : decode cX11_alterRow 16 = .ok (.iconst 3, 1) := by decide +kernel
theorem dX11_alterRow_17 : decode cX11_alterRow 17 = .ok (.imul, 1) := by decide +kernel
theorem dX11_alterRow_18 : decode cX11_alterRow 18 = .ok (.iload_n 2, 1) := by decide +kernel
theorem dX11_alterRow_19 : decode cX11_alterRow 19 = .ok (.iadd, 1) := by decide +kernel
theorem dX11_alterRow_20 : decode cX11_alterRow 20 = .ok (.istore 4, 2) := by decide +kernel
theorem dX11_alterRow_22 : decode cX11_alterRow 22 = .ok (.aload_n 0, 1) := by decide +kernel
theorem dX11_alterRow_23 : decode cX11_alterRow 23 = .ok (.getfield 75, 3) := by decide +kernel
theorem dX11_alterRow_26 : decode cX11_alterRow 26 = .ok (.getfield 293, 3) := by decide +kernel
theorem dX11_alterRow_29 : decode cX11_alterRow 29 = .ok (.iload 4, 2) := by decide +kernel
theorem dX11_alterRow_31 : decode cX11_alterRow 31 = .ok (.iaload, 1) := by decide +kernel
theorem dX11_alterRow_32 : decode cX11_alterRow 32 = .ok (.istore 5, 2) := by decide +kernel
theorem dX11_alterRow_34 : decode cX11_alterRow 34 = .ok (.aload_n 0, 1) := by decide +kernel
theorem dX11_alterRow_35 : decode cX11_alterRow 35 = .ok (.getfield 75, 3) := by decide +kernel
theorem dX11_alterRow_38 : decode cX11_alterRow 38 = .ok (.getfield 293, 3) := by decide +kernel
theorem dX11_alterRow_41 : decode cX11_alterRow 41 = .ok (.iload 4, 2) := by decide +kernel
theorem dX11_alterRow_43 : decode cX11_alterRow 43 = .ok (.iload_n 3, 1) := by decide +kernel
theorem dX11_alterRow_44 : decode cX11_alterRow 44 = .ok (.iastore, 1) := by decide +kernel
theorem dX11_alterRow_45 : decode cX11_alterRow 45 = .ok (.iload 5, 2) := by decide +kernel
theorem dX11_alterRow_47 : decode cX11_alterRow 47 = .ok (.ireturn, 1) := by decide +kernel
theorem dX11_judge_0 : decode cX11_judge 0 = .ok (.aload_n 0, 1) := by decide +kernel
theorem dX11_judge_1 : decode cX11_judge 1 = .ok (.getfield 43, 3) := by decide +kernel
theorem dX11_judge_4 : decode cX11_judge 4 = .ok (.aload_n 0, 1) := by decide +kernel
theorem dX11_judge_5 : decode cX11_judge 5 = .ok (.getfield 10, 3) := by decide +kernel
theorem dX11_judge_8 : decode cX11_judge 8 = .ok (.iconst 0, 1) := by decide +kernel
theorem dX11_judge_9 : decode cX11_judge 9 = .ok (.invokevirtual 208, 3) := by decide +kernel
theorem dX11_judge_12 : decode cX11_judge 12 = .ok (.aload_n 0, 1) := by decide +kernel
theorem dX11_judge_13 : decode cX11_judge 13 = .ok (.getfield 75, 3) := by decide +kernel
theorem dX11_judge_16 : decode cX11_judge 16 = .ok (.aload_n 0, 1) := by decide +kernel
theorem dX11_judge_17 : decode cX11_judge 17 = .ok (.getfield 10, 3) := by decide +kernel
theorem dX11_judge_20 : decode cX11_judge 20 = .ok (.getfield 130, 3) := by decide +kernel
theorem dX11_judge_23 : decode cX11_judge 23 = .ok (.invokevirtual 296, 3) := by decide +kernel
theorem dX11_judge_26 : decode cX11_judge 26 = .ok (.ireturn, 1) := by decide +kernel
theorem dX11_sheet_0 : decode cX11_sheet 0 = .ok (.iload_n 1, 1) := by decide +kernel
theorem dX11_sheet_1 : decode cX11_sheet 1 = .ok (.invokestatic 299, 3) := by decide +kernel
theorem dX11_sheet_4 : decode cX11_sheet 4 = .ok (.ifCond .eq 12, 3) := by decide +kernel
theorem dX11_sheet_7 : decode cX11_sheet 7 = .ok (.iload_n 2, 1) := by decide +kernel
theorem dX11_sheet_8 : decode cX11_sheet 8 = .ok (.iconst (-1), 1) := by decide +kernel
theorem dX11_sheet_9 : decode cX11_sheet 9 = .ok (.iconst 3, 1) := by decide +kernel
theorem dX11_sheet_10 : decode cX11_sheet 10 = .ok (.invokestatic 100, 3) := by decide +kernel
theorem dX11_sheet_13 : decode cX11_sheet 13 = .ok (.ifCond .ne 5, 3) := by decide +kernel
theorem dX11_sheet_16 : decode cX11_sheet 16 = .ok (.iconst (-1), 1) := by decide +kernel
theorem dX11_sheet_17 : decode cX11_sheet 17 = .ok (.ireturn, 1) := by decide +kernel
theorem dX11_sheet_18 : decode cX11_sheet 18 = .ok (.iload_n 2, 1) := by decide +kernel
theorem dX11_sheet_19 : decode cX11_sheet 19 = .ok (.iconst (-1), 1) := by decide +kernel
theorem dX11_sheet_20 : decode cX11_sheet 20 = .ok (.if_icmp .eq 11, 3) := by decide +kernel
theorem dX11_sheet_23 : decode cX11_sheet 23 = .ok (.iload_n 3, 1) := by decide +kernel
theorem dX11_sheet_24 : decode cX11_sheet 24 = .ok (.bipush 40, 2) := by decide +kernel
theorem dX11_sheet_26 : decode cX11_sheet 26 = .ok (.if_icmp .le 5, 3) := by decide +kernel
theorem dX11_sheet_29 : decode cX11_sheet 29 = .ok (.iconst (-1), 1) := by decide +kernel
theorem dX11_sheet_30 : decode cX11_sheet 30 = .ok (.ireturn, 1) := by decide +kernel
theorem dX11_sheet_31 : decode cX11_sheet 31 = .ok (.iload_n 2, 1) := by decide +kernel
theorem dX11_sheet_32 : decode cX11_sheet 32 = .ok (.iconst (-1), 1) := by decide +kernel
theorem dX11_sheet_33 : decode cX11_sheet 33 = .ok (.if_icmp .eq 10, 3) := by decide +kernel
theorem dX11_sheet_36 : decode cX11_sheet 36 = .ok (.iload_n 3, 1) := by decide +kernel
theorem dX11_sheet_37 : decode cX11_sheet 37 = .ok (.ifCond .ge 6, 3) := by decide +kernel
theorem dX11_sheet_40 : decode cX11_sheet 40 = .ok (.bipush (-14), 2) := by decide +kernel
theorem dX11_sheet_42 : decode cX11_sheet 42 = .ok (.ireturn, 1) := by decide +kernel
theorem dX11_sheet_43 : decode cX11_sheet 43 = .ok (.aload_n 0, 1) := by decide +kernel
theorem dX11_sheet_44 : decode cX11_sheet 44 = .ok (.getfield 89, 3) := by decide +kernel
theorem dX11_sheet_47 : decode cX11_sheet 47 = .ok (.iload_n 1, 1) := by decide +kernel
theorem dX11_sheet_48 : decode cX11_sheet 48 = .ok (.iload_n 2, 1) := by decide +kernel
theorem dX11_sheet_49 : decode cX11_sheet 49 = .ok (.iload_n 3, 1) := by decide +kernel
theorem dX11_sheet_50 : decode cX11_sheet 50 = .ok (.invokevirtual 302, 3) := by decide +kernel
theorem dX11_sheet_53 : decode cX11_sheet 53 = .ok (.iconst 1, 1) := by decide +kernel
theorem dX11_sheet_54 : decode cX11_sheet 54 = .ok (.ireturn, 1) := by decide +kernel
theorem dX11_put_0 : decode cX11_put 0 = .ok (.iload_n 1, 1) := by decide +kernel
theorem dX11_put_1 : decode cX11_put 1 = .ok (.invokestatic 299, 3) := by decide +kernel
theorem dX11_put_4 : decode cX11_put 4 = .ok (.ifCond .ne 5, 3) := by decide +kernel
theorem dX11_put_7 : decode cX11_put 7 = .ok (.iconst (-1), 1) := by decide +kernel
theorem dX11_put_8 : decode cX11_put 8 = .ok (.ireturn, 1) := by decide +kernel
theorem dX11_put_9 : decode cX11_put 9 = .ok (.aload_n 0, 1) := by decide +kernel
theorem dX11_put_10 : decode cX11_put 10 = .ok (.getfield 89, 3) := by decide +kernel
theorem dX11_put_13 : decode cX11_put 13 = .ok (.getfield 306, 3) := by decide +kernel
theorem dX11_put_16 : decode cX11_put 16 = .ok (.iload_n 1, 1) := by decide +kernel
theorem dX11_put_17 : decode cX11_put 17 = .ok (.iaload, 1) := by decide +kernel
theorem dX11_put_18 : decode cX11_put 18 = .ok (.iconst (-1), 1) := by decide +kernel
theorem dX11_put_19 : decode cX11_put 19 = .ok (.if_icmp .ne 6, 3) := by decide +kernel
theorem dX11_put_22 : decode cX11_put 22 = .ok (.bipush (-11), 2) := by decide +kernel
theorem dX11_put_24 : decode cX11_put 24 = .ok (.ireturn, 1) := by decide +kernel
theorem dX11_put_25 : decode cX11_put 25 = .ok (.iload_n 2, 1) := by decide +kernel
theorem dX11_put_26 : decode cX11_put 26 = .ok (.iconst 0, 1) := by decide +kernel
theorem dX11_put_27 : decode cX11_put 27 = .ok (.aload_n 0, 1) := by decide +kernel
theorem dX11_put_28 : decode cX11_put 28 = .ok (.getfield 89, 3) := by decide +kernel
theorem dX11_put_31 : decode cX11_put 31 = .ok (.getfield 309, 3) := by decide +kernel
theorem dX11_put_34 : decode cX11_put 34 = .ok (.iload_n 1, 1) := by decide +kernel
theorem dX11_put_35 : decode cX11_put 35 = .ok (.iaload, 1) := by decide +kernel
theorem dX11_put_36 : decode cX11_put 36 = .ok (.iconst 1, 1) := by decide +kernel
theorem dX11_put_37 : decode cX11_put 37 = .ok (.isub, 1) := by decide +kernel
theorem dX11_put_38 : decode cX11_put 38 = .ok (.invokestatic 100, 3) := by decide +kernel
theorem dX11_put_41 : decode cX11_put 41 = .ok (.ifCond .ne 6, 3) := by decide +kernel
theorem dX11_put_44 : decode cX11_put 44 = .ok (.bipush (-12), 2) := by decide +kernel
theorem dX11_put_46 : decode cX11_put 46 = .ok (.ireturn, 1) := by decide +kernel
theorem dX11_put_47 : decode cX11_put 47 = .ok (.aload_n 0, 1) := by decide +kernel
theorem dX11_put_48 : decode cX11_put 48 = .ok (.getfield 89, 3) := by decide +kernel
theorem dX11_put_51 : decode cX11_put 51 = .ok (.getfield 312, 3) := by decide +kernel
theorem dX11_put_54 : decode cX11_put 54 = .ok (.iload_n 1, 1) := by decide +kernel
theorem dX11_put_55 : decode cX11_put 55 = .ok (.bipush 40, 2) := by decide +kernel
theorem dX11_put_57 : decode cX11_put 57 = .ok (.imul, 1) := by decide +kernel
theorem dX11_put_58 : decode cX11_put 58 = .ok (.iload_n 2, 1) := by decide +kernel
theorem dX11_put_59 : decode cX11_put 59 = .ok (.iadd, 1) := by decide +kernel
theorem dX11_put_60 : decode cX11_put 60 = .ok (.iload_n 3, 1) := by decide +kernel
theorem dX11_put_61 : decode cX11_put 61 = .ok (.aload_n 0, 1) := by decide +kernel
theorem dX11_put_62 : decode cX11_put 62 = .ok (.getfield 89, 3) := by decide +kernel
theorem dX11_put_65 : decode cX11_put 65 = .ok (.getfield 306, 3) := by decide +kernel
theorem dX11_put_68 : decode cX11_put 68 = .ok (.iload_n 1, 1) := by decide +kernel
theorem dX11_put_69 : decode cX11_put 69 = .ok (.iaload, 1) := by decide +kernel
theorem dX11_put_70 : decode cX11_put 70 = .ok (.invokestatic 315, 3) := by decide +kernel
theorem dX11_put_73 : decode cX11_put 73 = .ok (.iastore, 1) := by decide +kernel
theorem dX11_put_74 : decode cX11_put 74 = .ok (.iconst 1, 1) := by decide +kernel
theorem dX11_put_75 : decode cX11_put 75 = .ok (.ireturn, 1) := by decide +kernel
theorem dX11_item_0 : decode cX11_item 0 = .ok (.iload_n 1, 1) := by decide +kernel
theorem dX11_item_1 : decode cX11_item 1 = .ok (.invokestatic 299, 3) := by decide +kernel
theorem dX11_item_4 : decode cX11_item 4 = .ok (.ifCond .eq 12, 3) := by decide +kernel
theorem dX11_item_7 : decode cX11_item 7 = .ok (.iload_n 2, 1) := by decide +kernel
theorem dX11_item_8 : decode cX11_item 8 = .ok (.iconst 0, 1) := by decide +kernel
theorem dX11_item_9 : decode cX11_item 9 = .ok (.iconst 3, 1) := by decide +kernel
theorem dX11_item_10 : decode cX11_item 10 = .ok (.invokestatic 100, 3) := by decide +kernel
theorem dX11_item_13 : decode cX11_item 13 = .ok (.ifCond .ne 5, 3) := by decide +kernel
theorem dX11_item_16 : decode cX11_item 16 = .ok (.iconst (-1), 1) := by decide +kernel
theorem dX11_item_17 : decode cX11_item 17 = .ok (.ireturn, 1) := by decide +kernel
theorem dX11_item_18 : decode cX11_item 18 = .ok (.aload_n 0, 1) := by decide +kernel
theorem dX11_item_19 : decode cX11_item 19 = .ok (.getfield 89, 3) := by decide +kernel
theorem dX11_item_22 : decode cX11_item 22 = .ok (.getfield 306, 3) := by decide +kernel
theorem dX11_item_25 : decode cX11_item 25 = .ok (.iload_n 1, 1) := by decide +kernel
theorem dX11_item_26 : decode cX11_item 26 = .ok (.iaload, 1) := by decide +kernel
theorem dX11_item_27 : decode cX11_item 27 = .ok (.iconst (-1), 1) := by decide +kernel
theorem dX11_item_28 : decode cX11_item 28 = .ok (.if_icmp .ne 6, 3) := by decide +kernel
theorem dX11_item_31 : decode cX11_item 31 = .ok (.bipush (-11), 2) := by decide +kernel
theorem dX11_item_33 : decode cX11_item 33 = .ok (.ireturn, 1) := by decide +kernel
theorem dX11_item_34 : decode cX11_item 34 = .ok (.aload_n 0, 1) := by decide +kernel
theorem dX11_item_35 : decode cX11_item 35 = .ok (.getfield 89, 3) := by decide +kernel
theorem dX11_item_38 : decode cX11_item 38 = .ok (.getfield 306, 3) := by decide +kernel
theorem dX11_item_41 : decode cX11_item 41 = .ok (.iload_n 1, 1) := by decide +kernel
theorem dX11_item_42 : decode cX11_item 42 = .ok (.iaload, 1) := by decide +kernel
theorem dX11_item_43 : decode cX11_item 43 = .ok (.iload_n 2, 1) := by decide +kernel
theorem dX11_item_44 : decode cX11_item 44 = .ok (.if_icmp .eq 6, 3) := by decide +kernel
theorem dX11_item_47 : decode cX11_item 47 = .ok (.bipush (-13), 2) := by decide +kernel
theorem dX11_item_49 : decode cX11_item 49 = .ok (.ireturn, 1) := by decide +kernel
theorem dX11_item_50 : decode cX11_item 50 = .ok (.iload_n 3, 1) := by decide +kernel
theorem dX11_item_51 : decode cX11_item 51 = .ok (.iconst 0, 1) := by decide +kernel
theorem dX11_item_52 : decode cX11_item 52 = .ok (.aload_n 0, 1) := by decide +kernel
theorem dX11_item_53 : decode cX11_item 53 = .ok (.getfield 89, 3) := by decide +kernel
theorem dX11_item_56 : decode cX11_item 56 = .ok (.getfield 309, 3) := by decide +kernel
theorem dX11_item_59 : decode cX11_item 59 = .ok (.iload_n 1, 1) := by decide +kernel
theorem dX11_item_60 : decode cX11_item 60 = .ok (.iaload, 1) := by decide +kernel
theorem dX11_item_61 : decode cX11_item 61 = .ok (.iconst 1, 1) := by decide +kernel
theorem dX11_item_62 : decode cX11_item 62 = .ok (.isub, 1) := by decide +kernel
theorem dX11_item_63 : decode cX11_item 63 = .ok (.invokestatic 100, 3) := by decide +kernel
theorem dX11_item_66 : decode cX11_item 66 = .ok (.ifCond .ne 6, 3) := by decide +kernel
theorem dX11_item_69 : decode cX11_item 69 = .ok (.bipush (-12), 2) := by decide +kernel
theorem dX11_item_71 : decode cX11_item 71 = .ok (.ireturn, 1) := by decide +kernel
theorem dX11_item_72 : decode cX11_item 72 = .ok (.aload_n 0, 1) := by decide +kernel
theorem dX11_item_73 : decode cX11_item 73 = .ok (.getfield 89, 3) := by decide +kernel
theorem dX11_item_76 : decode cX11_item 76 = .ok (.getfield 312, 3) := by decide +kernel
theorem dX11_item_79 : decode cX11_item 79 = .ok (.iload_n 1, 1) := by decide +kernel
theorem dX11_item_80 : decode cX11_item 80 = .ok (.bipush 40, 2) := by decide +kernel
theorem dX11_item_82 : decode cX11_item 82 = .ok (.imul, 1) := by decide +kernel
theorem dX11_item_83 : decode cX11_item 83 = .ok (.iload_n 3, 1) := by decide +kernel
theorem dX11_item_84 : decode cX11_item 84 = .ok (.iadd, 1) := by decide +kernel
theorem dX11_item_85 : decode cX11_item 85 = .ok (.iaload, 1) := by decide +kernel
theorem dX11_item_86 : decode cX11_item 86 = .ok (.ireturn, 1) := by decide +kernel
theorem dX11_shelf_0 : decode cX11_shelf 0 = .ok (.iload_n 1, 1) := by decide +kernel
theorem dX11_shelf_1 : decode cX11_shelf 1 = .ok (.invokestatic 299, 3) := by decide +kernel
theorem dX11_shelf_4 : decode cX11_shelf 4 = .ok (.ifCond .ne 5, 3) := by decide +kernel
theorem dX11_shelf_7 : decode cX11_shelf 7 = .ok (.iconst (-1), 1) := by decide +kernel
theorem dX11_shelf_8 : decode cX11_shelf 8 = .ok (.ireturn, 1) := by decide +kernel
theorem dX11_shelf_9 : decode cX11_shelf 9 = .ok (.iload_n 2, 1) := by decide +kernel
theorem dX11_shelf_10 : decode cX11_shelf 10 = .ok (.tableswitch 83 0 2 #[26, 53, 73], 26) := by decide +kernel
theorem dX11_shelf_36 : decode cX11_shelf 36 = .ok (.aload_n 0, 1) := by decide +kernel
theorem dX11_shelf_37 : decode cX11_shelf 37 = .ok (.getfield 10, 3) := by decide +kernel
theorem dX11_shelf_40 : decode cX11_shelf 40 = .ok (.getfield 130, 3) := by decide +kernel
theorem dX11_shelf_43 : decode cX11_shelf 43 = .ok (.iload_n 3, 1) := by decide +kernel
theorem dX11_shelf_44 : decode cX11_shelf 44 = .ok (.invokevirtual 140, 3) := by decide +kernel
theorem dX11_shelf_47 : decode cX11_shelf 47 = .ok (.ifCond .ne 5, 3) := by decide +kernel
theorem dX11_shelf_50 : decode cX11_shelf 50 = .ok (.iconst (-1), 1) := by decide +kernel
theorem dX11_shelf_51 : decode cX11_shelf 51 = .ok (.ireturn, 1) := by decide +kernel
theorem dX11_shelf_52 : decode cX11_shelf 52 = .ok (.aload_n 0, 1) := by decide +kernel
theorem dX11_shelf_53 : decode cX11_shelf 53 = .ok (.getfield 89, 3) := by decide +kernel
theorem dX11_shelf_56 : decode cX11_shelf 56 = .ok (.iload_n 1, 1) := by decide +kernel
theorem dX11_shelf_57 : decode cX11_shelf 57 = .ok (.iload_n 3, 1) := by decide +kernel
theorem dX11_shelf_58 : decode cX11_shelf 58 = .ok (.invokevirtual 319, 3) := by decide +kernel
theorem dX11_shelf_61 : decode cX11_shelf 61 = .ok (.iconst 1, 1) := by decide +kernel
theorem dX11_shelf_62 : decode cX11_shelf 62 = .ok (.ireturn, 1) := by decide +kernel
theorem dX11_shelf_63 : decode cX11_shelf 63 = .ok (.iload_n 3, 1) := by decide +kernel
theorem dX11_shelf_64 : decode cX11_shelf 64 = .ok (.invokestatic 299, 3) := by decide +kernel
theorem dX11_shelf_67 : decode cX11_shelf 67 = .ok (.ifCond .ne 5, 3) := by decide +kernel
theorem dX11_shelf_70 : decode cX11_shelf 70 = .ok (.iconst (-1), 1) := by decide +kernel
theorem dX11_shelf_71 : decode cX11_shelf 71 = .ok (.ireturn, 1) := by decide +kernel
theorem dX11_shelf_72 : decode cX11_shelf 72 = .ok (.aload_n 0, 1) := by decide +kernel
theorem dX11_shelf_73 : decode cX11_shelf 73 = .ok (.getfield 89, 3) := by decide +kernel
theorem dX11_shelf_76 : decode cX11_shelf 76 = .ok (.iload_n 1, 1) := by decide +kernel
theorem dX11_shelf_77 : decode cX11_shelf 77 = .ok (.iload_n 3, 1) := by decide +kernel
theorem dX11_shelf_78 : decode cX11_shelf 78 = .ok (.invokevirtual 323, 3) := by decide +kernel
theorem dX11_shelf_81 : decode cX11_shelf 81 = .ok (.iconst 1, 1) := by decide +kernel
theorem dX11_shelf_82 : decode cX11_shelf 82 = .ok (.ireturn, 1) := by decide +kernel
theorem dX11_shelf_83 : decode cX11_shelf 83 = .ok (.aload_n 0, 1) := by decide +kernel
theorem dX11_shelf_84 : decode cX11_shelf 84 = .ok (.getfield 89, 3) := by decide +kernel
theorem dX11_shelf_87 : decode cX11_shelf 87 = .ok (.iload_n 1, 1) := by decide +kernel
theorem dX11_shelf_88 : decode cX11_shelf 88 = .ok (.invokevirtual 326, 3) := by decide +kernel
theorem dX11_shelf_91 : decode cX11_shelf 91 = .ok (.iconst 1, 1) := by decide +kernel
theorem dX11_shelf_92 : decode cX11_shelf 92 = .ok (.ireturn, 1) := by decide +kernel
theorem dX11_shelf_93 : decode cX11_shelf 93 = .ok (.iconst (-1), 1) := by decide +kernel
theorem dX11_shelf_94 : decode cX11_shelf 94 = .ok (.ireturn, 1) := by decide +kernel
theorem dX11_taken_0 : decode cX11_taken 0 = .ok (.iload_n 2, 1) := by decide +kernel
theorem dX11_taken_1 : decode cX11_taken 1 = .ok (.bipush 10, 2) := by decide +kernel
theorem dX11_taken_3 : decode cX11_taken 3 = .ok (.bipush 13, 2) := by decide +kernel
theorem dX11_taken_5 : decode cX11_taken 5 = .ok (.invokestatic 100, 3) := by decide +kernel
theorem dX11_taken_8 : decode cX11_taken 8 = .ok (.istore_n 3, 1) := by decide +kernel
theorem dX11_taken_9 : decode cX11_taken 9 = .ok (.iload_n 1, 1) := by decide +kernel
theorem dX11_taken_10 : decode cX11_taken 10 = .ok (.invokestatic 299, 3) := by decide +kernel
theorem dX11_taken_13 : decode cX11_taken 13 = .ok (.ifCond .eq 16, 3) := by decide +kernel
theorem dX11_taken_16 : decode cX11_taken 16 = .ok (.iload_n 3, 1) := by decide +kernel
theorem dX11_taken_17 : decode cX11_taken 17 = .ok (.ifCond .ne 14, 3) := by decide +kernel
theorem dX11_taken_20 : decode cX11_taken 20 = .ok (.iload_n 2, 1) := by decide +kernel
theorem dX11_taken_21 : decode cX11_taken 21 = .ok (.iconst 0, 1) := by decide +kernel
theorem dX11_taken_22 : decode cX11_taken 22 = .ok (.iconst 5, 1) := by decide +kernel
theorem dX11_taken_23 : decode cX11_taken 23 = .ok (.invokestatic 100, 3) := by decide +kernel
theorem dX11_taken_26 : decode cX11_taken 26 = .ok (.ifCond .ne 5, 3) := by decide +kernel
theorem dX11_taken_29 : decode cX11_taken 29 = .ok (.iconst (-1), 1) := by decide +kernel
theorem dX11_taken_30 : decode cX11_taken 30 = .ok (.ireturn, 1) := by decide +kernel
theorem dX11_taken_31 : decode cX11_taken 31 = .ok (.aload_n 0, 1) := by decide +kernel
theorem dX11_taken_32 : decode cX11_taken 32 = .ok (.getfield 89, 3) := by decide +kernel
theorem dX11_taken_35 : decode cX11_taken 35 = .ok (.iload_n 1, 1) := by decide +kernel
theorem dX11_taken_36 : decode cX11_taken 36 = .ok (.invokevirtual 329, 3) := by decide +kernel
theorem dX11_taken_39 : decode cX11_taken 39 = .ok (.istore 4, 2) := by decide +kernel
theorem dX11_taken_41 : decode cX11_taken 41 = .ok (.aload_n 0, 1) := by decide +kernel
theorem dX11_taken_42 : decode cX11_taken 42 = .ok (.getfield 89, 3) := by decide +kernel
theorem dX11_taken_45 : decode cX11_taken 45 = .ok (.iload_n 1, 1) := by decide +kernel
theorem dX11_taken_46 : decode cX11_taken 46 = .ok (.invokevirtual 332, 3) := by decide +kernel
theorem dX11_taken_49 : decode cX11_taken 49 = .ok (.ifCond .eq 38, 3) := by decide +kernel
theorem dX11_taken_52 : decode cX11_taken 52 = .ok (.iload_n 3, 1) := by decide +kernel
theorem dX11_taken_53 : decode cX11_taken 53 = .ok (.ifCond .eq 31, 3) := by decide +kernel
theorem dX11_taken_56 : decode cX11_taken 56 = .ok (.aload_n 0, 1) := by decide +kernel
theorem dX11_taken_57 : decode cX11_taken 57 = .ok (.getfield 89, 3) := by decide +kernel
theorem dX11_taken_60 : decode cX11_taken 60 = .ok (.getfield 335, 3) := by decide +kernel
theorem dX11_taken_63 : decode cX11_taken 63 = .ok (.iload_n 1, 1) := by decide +kernel
theorem dX11_taken_64 : decode cX11_taken 64 = .ok (.iaload, 1) := by decide +kernel
theorem dX11_taken_65 : decode cX11_taken 65 = .ok (.iload_n 2, 1) := by decide +kernel
theorem dX11_taken_66 : decode cX11_taken 66 = .ok (.bipush 10, 2) := by decide +kernel
theorem dX11_taken_68 : decode cX11_taken 68 = .ok (.isub, 1) := by decide +kernel
theorem dX11_taken_69 : decode cX11_taken 69 = .ok (.if_icmp .ne 15, 3) := by decide +kernel
theorem dX11_taken_72 : decode cX11_taken 72 = .ok (.aload_n 0, 1) := by decide +kernel
theorem dX11_taken_73 : decode cX11_taken 73 = .ok (.getfield 89, 3) := by decide +kernel
theorem dX11_taken_76 : decode cX11_taken 76 = .ok (.getfield 338, 3) := by decide +kernel
theorem dX11_taken_79 : decode cX11_taken 79 = .ok (.iload_n 1, 1) := by decide +kernel
theorem dX11_taken_80 : decode cX11_taken 80 = .ok (.iaload, 1) := by decide +kernel
theorem dX11_taken_81 : decode cX11_taken 81 = .ok (.goto 5, 3) := by decide +kernel
theorem dX11_taken_84 : decode cX11_taken 84 = .ok (.bipush (-13), 2) := by decide +kernel
theorem dX11_taken_86 : decode cX11_taken 86 = .ok (.ireturn, 1) := by decide +kernel
theorem dX11_taken_87 : decode cX11_taken 87 = .ok (.aload_n 0, 1) := by decide +kernel
theorem dX11_taken_88 : decode cX11_taken 88 = .ok (.getfield 10, 3) := by decide +kernel
theorem dX11_taken_91 : decode cX11_taken 91 = .ok (.getfield 130, 3) := by decide +kernel
theorem dX11_taken_94 : decode cX11_taken 94 = .ok (.iload 4, 2) := by decide +kernel
theorem dX11_taken_96 : decode cX11_taken 96 = .ok (.invokevirtual 140, 3) := by decide +kernel
theorem dX11_taken_99 : decode cX11_taken 99 = .ok (.ifCond .ne 6, 3) := by decide +kernel
theorem dX11_taken_102 : decode cX11_taken 102 = .ok (.bipush (-11), 2) := by decide +kernel
theorem dX11_taken_104 : decode cX11_taken 104 = .ok (.ireturn, 1) := by decide +kernel
theorem dX11_taken_105 : decode cX11_taken 105 = .ok (.iload_n 3, 1) := by decide +kernel
theorem dX11_taken_106 : decode cX11_taken 106 = .ok (.ifCond .ne 28, 3) := by decide +kernel
theorem dX11_taken_109 : decode cX11_taken 109 = .ok (.aload_n 0, 1) := by decide +kernel
theorem dX11_taken_110 : decode cX11_taken 110 = .ok (.getfield 10, 3) := by decide +kernel
theorem dX11_taken_113 : decode cX11_taken 113 = .ok (.getfield 130, 3) := by decide +kernel
theorem dX11_taken_116 : decode cX11_taken 116 = .ok (.getfield 144, 3) := by decide +kernel
theorem dX11_taken_119 : decode cX11_taken 119 = .ok (.iload 4, 2) := by decide +kernel
theorem dX11_taken_121 : decode cX11_taken 121 = .ok (.iaload, 1) := by decide +kernel
theorem dX11_taken_122 : decode cX11_taken 122 = .ok (.iload_n 2, 1) := by decide +kernel
theorem dX11_taken_123 : decode cX11_taken 123 = .ok (.invokestatic 341, 3) := by decide +kernel
theorem dX11_taken_126 : decode cX11_taken 126 = .ok (.ifCond .eq 8, 3) := by decide +kernel
theorem dX11_taken_129 : decode cX11_taken 129 = .ok (.iload 4, 2) := by decide +kernel
theorem dX11_taken_131 : decode cX11_taken 131 = .ok (.goto 5, 3) := by decide +kernel
theorem dX11_taken_134 : decode cX11_taken 134 = .ok (.bipush (-13), 2) := by decide +kernel
theorem dX11_taken_136 : decode cX11_taken 136 = .ok (.ireturn, 1) := by decide +kernel
theorem dX11_act_0 : decode cX11_act 0 = .ok (.aload_n 0, 1) := by decide +kernel
theorem dX11_act_1 : decode cX11_act 1 = .ok (.getfield 96, 3) := by decide +kernel
theorem dX11_act_4 : decode cX11_act 4 = .ok (.invokevirtual 344, 3) := by decide +kernel
theorem dX11_act_7 : decode cX11_act 7 = .ok (.iload_n 1, 1) := by decide +kernel
theorem dX11_act_8 : decode cX11_act 8 = .ok (.invokestatic 299, 3) := by decide +kernel
theorem dX11_act_11 : decode cX11_act 11 = .ok (.ifCond .eq 12, 3) := by decide +kernel
theorem dX11_act_14 : decode cX11_act 14 = .ok (.iload_n 2, 1) := by decide +kernel
theorem dX11_act_15 : decode cX11_act 15 = .ok (.iconst 0, 1) := by decide +kernel
theorem dX11_act_16 : decode cX11_act 16 = .ok (.iconst 3, 1) := by decide +kernel
theorem dX11_act_17 : decode cX11_act 17 = .ok (.invokestatic 100, 3) := by decide +kernel
theorem dX11_act_20 : decode cX11_act 20 = .ok (.ifCond .ne 5, 3) := by decide +kernel
theorem dX11_act_23 : decode cX11_act 23 = .ok (.iconst 0, 1) := by decide +kernel
theorem dX11_act_24 : decode cX11_act 24 = .ok (.ireturn, 1) := by decide +kernel
theorem dX11_act_25 : decode cX11_act 25 = .ok (.aload_n 0, 1) := by decide +kernel
theorem dX11_act_26 : decode cX11_act 26 = .ok (.getfield 89, 3) := by decide +kernel
theorem dX11_act_29 : decode cX11_act 29 = .ok (.iload_n 1, 1) := by decide +kernel
theorem dX11_act_30 : decode cX11_act 30 = .ok (.invokevirtual 329, 3) := by decide +kernel
theorem dX11_act_33 : decode cX11_act 33 = .ok (.istore 4, 2) := by decide +kernel
theorem dX11_act_35 : decode cX11_act 35 = .ok (.aload_n 0, 1) := by decide +kernel
theorem dX11_act_36 : decode cX11_act 36 = .ok (.getfield 10, 3) := by decide +kernel
theorem dX11_act_39 : decode cX11_act 39 = .ok (.getfield 130, 3) := by decide +kernel
theorem dX11_act_42 : decode cX11_act 42 = .ok (.iload 4, 2) := by decide +kernel
theorem dX11_act_44 : decode cX11_act 44 = .ok (.invokevirtual 140, 3) := by decide +kernel
theorem dX11_act_47 : decode cX11_act 47 = .ok (.ifCond .ne 5, 3) := by decide +kernel
theorem dX11_act_50 : decode cX11_act 50 = .ok (.iconst 0, 1) := by decide +kernel
theorem dX11_act_51 : decode cX11_act 51 = .ok (.ireturn, 1) := by decide +kernel
theorem dX11_act_52 : decode cX11_act 52 = .ok (.aload_n 0, 1) := by decide +kernel
theorem dX11_act_53 : decode cX11_act 53 = .ok (.getfield 96, 3) := by decide +kernel
theorem dX11_act_56 : decode cX11_act 56 = .ok (.aload_n 0, 1) := by decide +kernel
theorem dX11_act_57 : decode cX11_act 57 = .ok (.getfield 10, 3) := by decide +kernel
theorem dX11_act_60 : decode cX11_act 60 = .ok (.getfield 130, 3) := by decide +kernel
theorem dX11_act_63 : decode cX11_act 63 = .ok (.getfield 144, 3) := by decide +kernel
theorem dX11_act_66 : decode cX11_act 66 = .ok (.iload 4, 2) := by decide +kernel
theorem dX11_act_68 : decode cX11_act 68 = .ok (.iaload, 1) := by decide +kernel
theorem dX11_act_69 : decode cX11_act 69 = .ok (.iload 4, 2) := by decide +kernel
theorem dX11_act_71 : decode cX11_act 71 = .ok (.aload_n 0, 1) := by decide +kernel
theorem dX11_act_72 : decode cX11_act 72 = .ok (.getfield 10, 3) := by decide +kernel
theorem dX11_act_75 : decode cX11_act 75 = .ok (.getfield 130, 3) := by decide +kernel
theorem dX11_act_78 : decode cX11_act 78 = .ok (.getfield 156, 3) := by decide +kernel
theorem dX11_act_81 : decode cX11_act 81 = .ok (.iload 4, 2) := by decide +kernel
theorem dX11_act_83 : decode cX11_act 83 = .ok (.iaload, 1) := by decide +kernel
theorem dX11_act_84 : decode cX11_act 84 = .ok (.invokevirtual 347, 3) := by decide +kernel
theorem dX11_act_87 : decode cX11_act 87 = .ok (.aload_n 0, 1) := by decide +kernel
theorem dX11_act_88 : decode cX11_act 88 = .ok (.getfield 96, 3) := by decide +kernel
theorem dX11_act_91 : decode cX11_act 91 = .ok (.iload_n 2, 1) := by decide +kernel
theorem dX11_act_92 : decode cX11_act 92 = .ok (.iload_n 3, 1) := by decide +kernel
theorem dX11_act_93 : decode cX11_act 93 = .ok (.invokevirtual 350, 3) := by decide +kernel
theorem dX11_act_96 : decode cX11_act 96 = .ok (.ireturn, 1) := by decide +kernel
theorem dX11_trace_0 : decode cX11_trace 0 = .ok (.iload_n 1, 1) := by decide +kernel
theorem dX11_trace_1 : decode cX11_trace 1 = .ok (.iconst 0, 1) := by decide +kernel
theorem dX11_trace_2 : decode cX11_trace 2 = .ok (.aload_n 0, 1) := by decide +kernel
theorem dX11_trace_3 : decode cX11_trace 3 = .ok (.getfield 96, 3) := by decide +kernel
theorem dX11_trace_6 : decode cX11_trace 6 = .ok (.getfield 353, 3) := by decide +kernel
theorem dX11_trace_9 : decode cX11_trace 9 = .ok (.iconst 1, 1) := by decide +kernel
theorem dX11_trace_10 : decode cX11_trace 10 = .ok (.isub, 1) := by decide +kernel
theorem dX11_trace_11 : decode cX11_trace 11 = .ok (.invokestatic 100, 3) := by decide +kernel
theorem dX11_trace_14 : decode cX11_trace 14 = .ok (.ifCond .ne 6, 3) := by decide +kernel
theorem dX11_trace_17 : decode cX11_trace 17 = .ok (.bipush (-3), 2) := by decide +kernel
theorem dX11_trace_19 : decode cX11_trace 19 = .ok (.ireturn, 1) := by decide +kernel
theorem dX11_trace_20 : decode cX11_trace 20 = .ok (.aload_n 0, 1) := by decide +kernel
theorem dX11_trace_21 : decode cX11_trace 21 = .ok (.getfield 96, 3) := by decide +kernel
theorem dX11_trace_24 : decode cX11_trace 24 = .ok (.getfield 356, 3) := by decide +kernel
theorem dX11_trace_27 : decode cX11_trace 27 = .ok (.iload_n 1, 1) := by decide +kernel
theorem dX11_trace_28 : decode cX11_trace 28 = .ok (.iaload, 1) := by decide +kernel
theorem dX11_trace_29 : decode cX11_trace 29 = .ok (.ireturn, 1) := by decide +kernel
theorem dX11_many_0 : decode cX11_many 0 = .ok (.iload_n 1, 1) := by decide +kernel
theorem dX11_many_1 : decode cX11_many 1 = .ok (.tableswitch 78 0 4 #[35, 46, 54, 62, 70], 35) := by decide +kernel
theorem dX11_many_36 : decode cX11_many 36 = .ok (.aload_n 0, 1) := by decide +kernel
theorem dX11_many_37 : decode cX11_many 37 = .ok (.getfield 10, 3) := by decide +kernel
theorem dX11_many_40 : decode cX11_many 40 = .ok (.getfield 130, 3) := by decide +kernel
theorem dX11_many_43 : decode cX11_many 43 = .ok (.getfield 131, 3) := by decide +kernel
theorem dX11_many_46 : decode cX11_many 46 = .ok (.ireturn, 1) := by decide +kernel
theorem dX11_many_47 : decode cX11_many 47 = .ok (.aload_n 0, 1) := by decide +kernel
theorem dX11_many_48 : decode cX11_many 48 = .ok (.getfield 22, 3) := by decide +kernel
theorem dX11_many_51 : decode cX11_many 51 = .ok (.getfield 258, 3) := by decide +kernel
theorem dX11_many_54 : decode cX11_many 54 = .ok (.ireturn, 1) := by decide +kernel
theorem dX11_many_55 : decode cX11_many 55 = .ok (.aload_n 0, 1) := by decide +kernel
theorem dX11_many_56 : decode cX11_many 56 = .ok (.getfield 75, 3) := by decide +kernel
theorem dX11_many_59 : decode cX11_many 59 = .ok (.getfield 126, 3) := by decide +kernel
theorem dX11_many_62 : decode cX11_many 62 = .ok (.ireturn, 1) := by decide +kernel
theorem dX11_many_63 : decode cX11_many 63 = .ok (.aload_n 0, 1) := by decide +kernel
theorem dX11_many_64 : decode cX11_many 64 = .ok (.getfield 36, 3) := by decide +kernel
theorem dX11_many_67 : decode cX11_many 67 = .ok (.getfield 359, 3) := by decide +kernel
theorem dX11_many_70 : decode cX11_many 70 = .ok (.ireturn, 1) := by decide +kernel
theorem dX11_many_71 : decode cX11_many 71 = .ok (.aload_n 0, 1) := by decide +kernel
theorem dX11_many_72 : decode cX11_many 72 = .ok (.getfield 96, 3) := by decide +kernel
theorem dX11_many_75 : decode cX11_many 75 = .ok (.getfield 353, 3) := by decide +kernel
theorem dX11_many_78 : decode cX11_many 78 = .ok (.ireturn, 1) := by decide +kernel
theorem dX11_many_79 : decode cX11_many 79 = .ok (.iconst (-1), 1) := by decide +kernel
theorem dX11_many_80 : decode cX11_many 80 = .ok (.ireturn, 1) := by decide +kernel
theorem dX11_keep_0 : decode cX11_keep 0 = .ok (.aload_n 0, 1) := by decide +kernel
theorem dX11_keep_1 : decode cX11_keep 1 = .ok (.getfield 16, 3) := by decide +kernel
theorem dX11_keep_4 : decode cX11_keep 4 = .ok (.aload_n 0, 1) := by decide +kernel
theorem dX11_keep_5 : decode cX11_keep 5 = .ok (.getfield 10, 3) := by decide +kernel
theorem dX11_keep_8 : decode cX11_keep 8 = .ok (.invokevirtual 360, 3) := by decide +kernel
theorem dX11_keep_11 : decode cX11_keep 11 = .ok (.aload_n 0, 1) := by decide +kernel
theorem dX11_keep_12 : decode cX11_keep 12 = .ok (.getfield 26, 3) := by decide +kernel
theorem dX11_keep_15 : decode cX11_keep 15 = .ok (.aload_n 0, 1) := by decide +kernel
theorem dX11_keep_16 : decode cX11_keep 16 = .ok (.getfield 22, 3) := by decide +kernel
theorem dX11_keep_19 : decode cX11_keep 19 = .ok (.invokevirtual 363, 3) := by decide +kernel
theorem dX11_keep_22 : decode cX11_keep 22 = .ok (.aload_n 0, 1) := by decide +kernel
theorem dX11_keep_23 : decode cX11_keep 23 = .ok (.iconst 1, 1) := by decide +kernel
theorem dX11_keep_24 : decode cX11_keep 24 = .ok (.putfield 29, 3) := by decide +kernel
theorem dX11_keep_27 : decode cX11_keep 27 = .ok (.iconst 1, 1) := by decide +kernel
theorem dX11_keep_28 : decode cX11_keep 28 = .ok (.ireturn, 1) := by decide +kernel
theorem dX11_again_0 : decode cX11_again 0 = .ok (.aload_n 0, 1) := by decide +kernel
theorem dX11_again_1 : decode cX11_again 1 = .ok (.getfield 29, 3) := by decide +kernel
theorem dX11_again_4 : decode cX11_again 4 = .ok (.ifCond .ne 6, 3) := by decide +kernel
theorem dX11_again_7 : decode cX11_again 7 = .ok (.bipush (-3), 2) := by decide +kernel
theorem dX11_again_9 : decode cX11_again 9 = .ok (.ireturn, 1) := by decide +kernel
theorem dX11_again_10 : decode cX11_again 10 = .ok (.aload_n 0, 1) := by decide +kernel
theorem dX11_again_11 : decode cX11_again 11 = .ok (.getfield 10, 3) := by decide +kernel
theorem dX11_again_14 : decode cX11_again 14 = .ok (.aload_n 0, 1) := by decide +kernel
theorem dX11_again_15 : decode cX11_again 15 = .ok (.getfield 16, 3) := by decide +kernel
theorem dX11_again_18 : decode cX11_again 18 = .ok (.invokevirtual 360, 3) := by decide +kernel
theorem dX11_again_21 : decode cX11_again 21 = .ok (.aload_n 0, 1) := by decide +kernel
theorem dX11_again_22 : decode cX11_again 22 = .ok (.getfield 22, 3) := by decide +kernel
theorem dX11_again_25 : decode cX11_again 25 = .ok (.aload_n 0, 1) := by decide +kernel
theorem dX11_again_26 : decode cX11_again 26 = .ok (.getfield 26, 3) := by decide +kernel
theorem dX11_again_29 : decode cX11_again 29 = .ok (.invokevirtual 363, 3) := by decide +kernel
theorem dX11_again_32 : decode cX11_again 32 = .ok (.aload_n 0, 1) := by decide +kernel
theorem dX11_again_33 : decode cX11_again 33 = .ok (.getfield 10, 3) := by decide +kernel
theorem dX11_again_36 : decode cX11_again 36 = .ok (.getfield 130, 3) := by decide +kernel
theorem dX11_again_39 : decode cX11_again 39 = .ok (.getfield 131, 3) := by decide +kernel
theorem dX11_again_42 : decode cX11_again 42 = .ok (.ireturn, 1) := by decide +kernel
theorem dX11_followPlan_0 : decode cX11_followPlan 0 = .ok (.aload_n 0, 1) := by decide +kernel
theorem dX11_followPlan_1 : decode cX11_followPlan 1 = .ok (.getfield 43, 3) := by decide +kernel
theorem dX11_followPlan_4 : decode cX11_followPlan 4 = .ok (.aload_n 0, 1) := by decide +kernel
theorem dX11_followPlan_5 : decode cX11_followPlan 5 = .ok (.getfield 10, 3) := by decide +kernel
theorem dX11_followPlan_8 : decode cX11_followPlan 8 = .ok (.iconst 0, 1) := by decide +kernel
theorem dX11_followPlan_9 : decode cX11_followPlan 9 = .ok (.invokevirtual 208, 3) := by decide +kernel
theorem dX11_followPlan_12 : decode cX11_followPlan 12 = .ok (.aload_n 0, 1) := by decide +kernel
theorem dX11_followPlan_13 : decode cX11_followPlan 13 = .ok (.getfield 43, 3) := by decide +kernel
theorem dX11_followPlan_16 : decode cX11_followPlan 16 = .ok (.aload_n 0, 1) := by decide +kernel
theorem dX11_followPlan_17 : decode cX11_followPlan 17 = .ok (.getfield 10, 3) := by decide +kernel
theorem dX11_followPlan_20 : decode cX11_followPlan 20 = .ok (.getfield 130, 3) := by decide +kernel
theorem dX11_followPlan_23 : decode cX11_followPlan 23 = .ok (.aload_n 0, 1) := by decide +kernel
theorem dX11_followPlan_24 : decode cX11_followPlan 24 = .ok (.getfield 10, 3) := by decide +kernel
theorem dX11_followPlan_27 : decode cX11_followPlan 27 = .ok (.getfield 183, 3) := by decide +kernel
theorem dX11_followPlan_30 : decode cX11_followPlan 30 = .ok (.invokevirtual 366, 3) := by decide +kernel
theorem dX11_followPlan_33 : decode cX11_followPlan 33 = .ok (.return_, 1) := by decide +kernel
theorem dX11_within_0 : decode cX11_within 0 = .ok (.iload_n 0, 1) := by decide +kernel
theorem dX11_within_1 : decode cX11_within 1 = .ok (.iload_n 1, 1) := by decide +kernel
theorem dX11_within_2 : decode cX11_within 2 = .ok (.if_icmp .lt 12, 3) := by decide +kernel
theorem dX11_within_5 : decode cX11_within 5 = .ok (.iload_n 0, 1) := by decide +kernel
theorem dX11_within_6 : decode cX11_within 6 = .ok (.iload_n 2, 1) := by decide +kernel
theorem dX11_within_7 : decode cX11_within 7 = .ok (.if_icmp .gt 7, 3) := by decide +kernel
theorem dX11_within_10 : decode cX11_within 10 = .ok (.iconst 1, 1) := by decide +kernel
theorem dX11_within_11 : decode cX11_within 11 = .ok (.goto 4, 3) := by decide +kernel
theorem dX11_within_14 : decode cX11_within 14 = .ok (.iconst 0, 1) := by decide +kernel
theorem dX11_within_15 : decode cX11_within 15 = .ok (.ireturn, 1) := by decide +kernel
theorem dX11_isJob_0 : decode cX11_isJob 0 = .ok (.iload_n 0, 1) := by decide +kernel
theorem dX11_isJob_1 : decode cX11_isJob 1 = .ok (.iconst 0, 1) := by decide +kernel
theorem dX11_isJob_2 : decode cX11_isJob 2 = .ok (.iconst 5, 1) := by decide +kernel
theorem dX11_isJob_3 : decode cX11_isJob 3 = .ok (.invokestatic 100, 3) := by decide +kernel
theorem dX11_isJob_6 : decode cX11_isJob 6 = .ok (.ifCond .eq 47, 3) := by decide +kernel
theorem dX11_isJob_9 : decode cX11_isJob 9 = .ok (.iload_n 1, 1) := by decide +kernel
theorem dX11_isJob_10 : decode cX11_isJob 10 = .ok (.iconst 1, 1) := by decide +kernel
theorem dX11_isJob_11 : decode cX11_isJob 11 = .ok (.bipush 9, 2) := by decide +kernel
theorem dX11_isJob_13 : decode cX11_isJob 13 = .ok (.invokestatic 100, 3) := by decide +kernel
theorem dX11_isJob_16 : decode cX11_isJob 16 = .ok (.ifCond .eq 37, 3) := by decide +kernel
theorem dX11_isJob_19 : decode cX11_isJob 19 = .ok (.iload_n 2, 1) := by decide +kernel
theorem dX11_isJob_20 : decode cX11_isJob 20 = .ok (.iconst 0, 1) := by decide +kernel
theorem dX11_isJob_21 : decode cX11_isJob 21 = .ok (.iconst 1, 1) := by decide +kernel
theorem dX11_isJob_22 : decode cX11_isJob 22 = .ok (.invokestatic 100, 3) := by decide +kernel
theorem dX11_isJob_25 : decode cX11_isJob 25 = .ok (.ifCond .eq 28, 3) := by decide +kernel
theorem dX11_isJob_28 : decode cX11_isJob 28 = .ok (.iload_n 3, 1) := by decide +kernel
theorem dX11_isJob_29 : decode cX11_isJob 29 = .ok (.iconst 0, 1) := by decide +kernel
theorem dX11_isJob_30 : decode cX11_isJob 30 = .ok (.bipush 60, 2) := by decide +kernel
theorem dX11_isJob_32 : decode cX11_isJob 32 = .ok (.invokestatic 100, 3) := by decide +kernel
theorem dX11_isJob_35 : decode cX11_isJob 35 = .ok (.ifCond .eq 18, 3) := by decide +kernel
theorem dX11_isJob_38 : decode cX11_isJob 38 = .ok (.iload 4, 2) := by decide +kernel
theorem dX11_isJob_40 : decode cX11_isJob 40 = .ok (.iconst 0, 1) := by decide +kernel
theorem dX11_isJob_41 : decode cX11_isJob 41 = .ok (.bipush 99, 2) := by decide +kernel
theorem dX11_isJob_43 : decode cX11_isJob 43 = .ok (.invokestatic 100, 3) := by decide +kernel
theorem dX11_isJob_46 : decode cX11_isJob 46 = .ok (.ifCond .eq 7, 3) := by decide +kernel
theorem dX11_isJob_49 : decode cX11_isJob 49 = .ok (.iconst 1, 1) := by decide +kernel
theorem dX11_isJob_50 : decode cX11_isJob 50 = .ok (.goto 4, 3) := by decide +kernel
theorem dX11_isJob_53 : decode cX11_isJob 53 = .ok (.iconst 0, 1) := by decide +kernel
theorem dX11_isJob_54 : decode cX11_isJob 54 = .ok (.ireturn, 1) := by decide +kernel
theorem dX11_isUnder_0 : decode cX11_isUnder 0 = .ok (.iload_n 0, 1) := by decide +kernel
theorem dX11_isUnder_1 : decode cX11_isUnder 1 = .ok (.iload_n 1, 1) := by decide +kernel
theorem dX11_isUnder_2 : decode cX11_isUnder 2 = .ok (.if_icmp .eq 27, 3) := by decide +kernel
theorem dX11_isUnder_5 : decode cX11_isUnder 5 = .ok (.iload_n 1, 1) := by decide +kernel
theorem dX11_isUnder_6 : decode cX11_isUnder 6 = .ok (.ifCond .eq 23, 3) := by decide +kernel
theorem dX11_isUnder_9 : decode cX11_isUnder 9 = .ok (.iload_n 0, 1) := by decide +kernel
theorem dX11_isUnder_10 : decode cX11_isUnder 10 = .ok (.iconst 3, 1) := by decide +kernel
theorem dX11_isUnder_11 : decode cX11_isUnder 11 = .ok (.if_icmp .ne 8, 3) := by decide +kernel
theorem dX11_isUnder_14 : decode cX11_isUnder 14 = .ok (.iload_n 1, 1) := by decide +kernel
theorem dX11_isUnder_15 : decode cX11_isUnder 15 = .ok (.iconst 2, 1) := by decide +kernel
theorem dX11_isUnder_16 : decode cX11_isUnder 16 = .ok (.if_icmp .eq 13, 3) := by decide +kernel
theorem dX11_isUnder_19 : decode cX11_isUnder 19 = .ok (.iload_n 0, 1) := by decide +kernel
theorem dX11_isUnder_20 : decode cX11_isUnder 20 = .ok (.iconst 4, 1) := by decide +kernel
theorem dX11_isUnder_21 : decode cX11_isUnder 21 = .ok (.if_icmp .ne 12, 3) := by decide +kernel
theorem dX11_isUnder_24 : decode cX11_isUnder 24 = .ok (.iload_n 1, 1) := by decide +kernel
theorem dX11_isUnder_25 : decode cX11_isUnder 25 = .ok (.iconst 1, 1) := by decide +kernel
theorem dX11_isUnder_26 : decode cX11_isUnder 26 = .ok (.if_icmp .ne 7, 3) := by decide +kernel
theorem dX11_isUnder_29 : decode cX11_isUnder 29 = .ok (.iconst 1, 1) := by decide +kernel
theorem dX11_isUnder_30 : decode cX11_isUnder 30 = .ok (.goto 4, 3) := by decide +kernel
theorem dX11_isUnder_33 : decode cX11_isUnder 33 = .ok (.iconst 0, 1) := by decide +kernel
theorem dX11_isUnder_34 : decode cX11_isUnder 34 = .ok (.ireturn, 1) := by decide +kernel
theorem dX11_digitsOf_0 : decode cX11_digitsOf 0 = .ok (.iconst 0, 1) := by decide +kernel
theorem dX11_digitsOf_1 : decode cX11_digitsOf 1 = .ok (.istore_n 2, 1) := by decide +kernel
theorem dX11_digitsOf_2 : decode cX11_digitsOf 2 = .ok (.iconst 0, 1) := by decide +kernel
theorem dX11_digitsOf_3 : decode cX11_digitsOf 3 = .ok (.istore_n 3, 1) := by decide +kernel
theorem dX11_digitsOf_4 : decode cX11_digitsOf 4 = .ok (.iload_n 3, 1) := by decide +kernel
theorem dX11_digitsOf_5 : decode cX11_digitsOf 5 = .ok (.iload_n 1, 1) := by decide +kernel
theorem dX11_digitsOf_6 : decode cX11_digitsOf 6 = .ok (.if_icmp .ge 25, 3) := by decide +kernel
theorem dX11_digitsOf_9 : decode cX11_digitsOf 9 = .ok (.iload_n 3, 1) := by decide +kernel
theorem dX11_digitsOf_10 : decode cX11_digitsOf 10 = .ok (.aload_n 0, 1) := by decide +kernel
theorem dX11_digitsOf_11 : decode cX11_digitsOf 11 = .ok (.arraylength, 1) := by decide +kernel
theorem dX11_digitsOf_12 : decode cX11_digitsOf 12 = .ok (.if_icmp .ge 19, 3) := by decide +kernel
theorem dX11_digitsOf_15 : decode cX11_digitsOf 15 = .ok (.iload_n 2, 1) := by decide +kernel
theorem dX11_digitsOf_16 : decode cX11_digitsOf 16 = .ok (.aload_n 0, 1) := by decide +kernel
theorem dX11_digitsOf_17 : decode cX11_digitsOf 17 = .ok (.iload_n 3, 1) := by decide +kernel
theorem dX11_digitsOf_18 : decode cX11_digitsOf 18 = .ok (.iaload, 1) := by decide +kernel
theorem dX11_digitsOf_19 : decode cX11_digitsOf 19 = .ok (.iconst 3, 1) := by decide +kernel
theorem dX11_digitsOf_20 : decode cX11_digitsOf 20 = .ok (.iload_n 3, 1) := by decide +kernel
theorem dX11_digitsOf_21 : decode cX11_digitsOf 21 = .ok (.imul, 1) := by decide +kernel
theorem dX11_digitsOf_22 : decode cX11_digitsOf 22 = .ok (.ishl, 1) := by decide +kernel
theorem dX11_digitsOf_23 : decode cX11_digitsOf 23 = .ok (.ior, 1) := by decide +kernel
theorem dX11_digitsOf_24 : decode cX11_digitsOf 24 = .ok (.istore_n 2, 1) := by decide +kernel
theorem dX11_digitsOf_25 : decode cX11_digitsOf 25 = .ok (.iinc 3 1, 3) := by decide +kernel
theorem dX11_digitsOf_28 : decode cX11_digitsOf 28 = .ok (.goto (-24), 3) := by decide +kernel
theorem dX11_digitsOf_31 : decode cX11_digitsOf 31 = .ok (.iload_n 2, 1) := by decide +kernel
theorem dX11_digitsOf_32 : decode cX11_digitsOf 32 = .ok (.ireturn, 1) := by decide +kernel
theorem dX11_partOf_0 : decode cX11_partOf 0 = .ok (.iload_n 1, 1) := by decide +kernel
theorem dX11_partOf_1 : decode cX11_partOf 1 = .ok (.istore_n 3, 1) := by decide +kernel
theorem dX11_partOf_2 : decode cX11_partOf 2 = .ok (.iload_n 0, 1) := by decide +kernel
theorem dX11_partOf_3 : decode cX11_partOf 3 = .ok (.istore 4, 2) := by decide +kernel
theorem dX11_partOf_5 : decode cX11_partOf 5 = .ok (.iload_n 3, 1) := by decide +kernel
theorem dX11_partOf_6 : decode cX11_partOf 6 = .ok (.ifCond .le 22, 3) := by decide +kernel
theorem dX11_partOf_9 : decode cX11_partOf 9 = .ok (.iload 4, 2) := by decide +kernel
theorem dX11_partOf_11 : decode cX11_partOf 11 = .ok (.iconst 2, 1) := by decide +kernel
theorem dX11_partOf_12 : decode cX11_partOf 12 = .ok (.irem, 1) := by decide +kernel
theorem dX11_partOf_13 : decode cX11_partOf 13 = .ok (.ifCond .ne 15, 3) := by decide +kernel
theorem dX11_partOf_16 : decode cX11_partOf 16 = .ok (.iload 4, 2) := by decide +kernel
theorem dX11_partOf_18 : decode cX11_partOf 18 = .ok (.iconst 2, 1) := by decide +kernel
theorem dX11_partOf_19 : decode cX11_partOf 19 = .ok (.idiv, 1) := by decide +kernel
theorem dX11_partOf_20 : decode cX11_partOf 20 = .ok (.istore 4, 2) := by decide +kernel
theorem dX11_partOf_22 : decode cX11_partOf 22 = .ok (.iinc 3 (-1), 3) := by decide +kernel
theorem dX11_partOf_25 : decode cX11_partOf 25 = .ok (.goto (-20), 3) := by decide +kernel
theorem dX11_partOf_28 : decode cX11_partOf 28 = .ok (.iload_n 2, 1) := by decide +kernel
theorem dX11_partOf_29 : decode cX11_partOf 29 = .ok (.ifCond .ne 8, 3) := by decide +kernel
theorem dX11_partOf_32 : decode cX11_partOf 32 = .ok (.iload 4, 2) := by decide +kernel
theorem dX11_partOf_34 : decode cX11_partOf 34 = .ok (.goto 6, 3) := by decide +kernel
theorem dX11_partOf_37 : decode cX11_partOf 37 = .ok (.iconst 1, 1) := by decide +kernel
theorem dX11_partOf_38 : decode cX11_partOf 38 = .ok (.iload_n 3, 1) := by decide +kernel
theorem dX11_partOf_39 : decode cX11_partOf 39 = .ok (.ishl, 1) := by decide +kernel
theorem dX11_partOf_40 : decode cX11_partOf 40 = .ok (.ireturn, 1) := by decide +kernel
theorem dX12_init_0 : decode cX12_init 0 = .ok (.aload_n 0, 1) := by decide +kernel
theorem dX12_init_1 : decode cX12_init 1 = .ok (.invokespecial 1, 3) := by decide +kernel
theorem dX12_init_4 : decode cX12_init 4 = .ok (.aload_n 0, 1) := by decide +kernel
theorem dX12_init_5 : decode cX12_init 5 = .ok (.bipush 50, 2) := by decide +kernel
theorem dX12_init_7 : decode cX12_init 7 = .ok (.newarray .int, 2) := by decide +kernel
theorem dX12_init_9 : decode cX12_init 9 = .ok (.putfield 7, 3) := by decide +kernel
theorem dX12_init_12 : decode cX12_init 12 = .ok (.aload_n 0, 1) := by decide +kernel
theorem dX12_init_13 : decode cX12_init 13 = .ok (.iconst 4, 1) := by decide +kernel
theorem dX12_init_14 : decode cX12_init 14 = .ok (.newarray .int, 2) := by decide +kernel
theorem dX12_init_16 : decode cX12_init 16 = .ok (.dup, 1) := by decide +kernel
theorem dX12_init_17 : decode cX12_init 17 = .ok (.iconst 0, 1) := by decide +kernel
theorem dX12_init_18 : decode cX12_init 18 = .ok (.iconst 2, 1) := by decide +kernel
theorem dX12_init_19 : decode cX12_init 19 = .ok (.iastore, 1) := by decide +kernel
theorem dX12_init_20 : decode cX12_init 20 = .ok (.dup, 1) := by decide +kernel
theorem dX12_init_21 : decode cX12_init 21 = .ok (.iconst 1, 1) := by decide +kernel
theorem dX12_init_22 : decode cX12_init 22 = .ok (.iconst 1, 1) := by decide +kernel
theorem dX12_init_23 : decode cX12_init 23 = .ok (.iastore, 1) := by decide +kernel
theorem dX12_init_24 : decode cX12_init 24 = .ok (.dup, 1) := by decide +kernel
theorem dX12_init_25 : decode cX12_init 25 = .ok (.iconst 2, 1) := by decide +kernel
theorem dX12_init_26 : decode cX12_init 26 = .ok (.iconst 5, 1) := by decide +kernel
theorem dX12_init_27 : decode cX12_init 27 = .ok (.iastore, 1) := by decide +kernel
theorem dX12_init_28 : decode cX12_init 28 = .ok (.dup, 1) := by decide +kernel
theorem dX12_init_29 : decode cX12_init 29 = .ok (.iconst 3, 1) := by decide +kernel
theorem dX12_init_30 : decode cX12_init 30 = .ok (.iconst 1, 1) := by decide +kernel
theorem dX12_init_31 : decode cX12_init 31 = .ok (.iastore, 1) := by decide +kernel
theorem dX12_init_32 : decode cX12_init 32 = .ok (.putfield 13, 3) := by decide +kernel
theorem dX12_init_35 : decode cX12_init 35 = .ok (.aload_n 0, 1) := by decide +kernel
theorem dX12_init_36 : decode cX12_init 36 = .ok (.iconst 4, 1) := by decide +kernel
theorem dX12_init_37 : decode cX12_init 37 = .ok (.newarray .int, 2) := by decide +kernel
theorem dX12_init_39 : decode cX12_init 39 = .ok (.dup, 1) := by decide +kernel
theorem dX12_init_40 : decode cX12_init 40 = .ok (.iconst 0, 1) := by decide +kernel
theorem dX12_init_41 : decode cX12_init 41 = .ok (.iconst 1, 1) := by decide +kernel
theorem dX12_init_42 : decode cX12_init 42 = .ok (.iastore, 1) := by decide +kernel
theorem dX12_init_43 : decode cX12_init 43 = .ok (.dup, 1) := by decide +kernel
theorem dX12_init_44 : decode cX12_init 44 = .ok (.iconst 1, 1) := by decide +kernel
theorem dX12_init_45 : decode cX12_init 45 = .ok (.iconst 0, 1) := by decide +kernel
theorem dX12_init_46 : decode cX12_init 46 = .ok (.iastore, 1) := by decide +kernel
theorem dX12_init_47 : decode cX12_init 47 = .ok (.dup, 1) := by decide +kernel
theorem dX12_init_48 : decode cX12_init 48 = .ok (.iconst 2, 1) := by decide +kernel
theorem dX12_init_49 : decode cX12_init 49 = .ok (.iconst 0, 1) := by decide +kernel
theorem dX12_init_50 : decode cX12_init 50 = .ok (.iastore, 1) := by decide +kernel
theorem dX12_init_51 : decode cX12_init 51 = .ok (.dup, 1) := by decide +kernel
theorem dX12_init_52 : decode cX12_init 52 = .ok (.iconst 3, 1) := by decide +kernel
theorem dX12_init_53 : decode cX12_init 53 = .ok (.iconst 0, 1) := by decide +kernel
theorem dX12_init_54 : decode cX12_init 54 = .ok (.iastore, 1) := by decide +kernel
theorem dX12_init_55 : decode cX12_init 55 = .ok (.putfield 16, 3) := by decide +kernel
theorem dX12_init_58 : decode cX12_init 58 = .ok (.aload_n 0, 1) := by decide +kernel
theorem dX12_init_59 : decode cX12_init 59 = .ok (.iconst 4, 1) := by decide +kernel
theorem dX12_init_60 : decode cX12_init 60 = .ok (.newarray .int, 2) := by decide +kernel
theorem dX12_init_62 : decode cX12_init 62 = .ok (.dup, 1) := by decide +kernel
theorem dX12_init_63 : decode cX12_init 63 = .ok (.iconst 0, 1) := by decide +kernel
theorem dX12_init_64 : decode cX12_init 64 = .ok (.iconst 4, 1) := by decide +kernel
theorem dX12_init_65 : decode cX12_init 65 = .ok (.iastore, 1) := by decide +kernel
theorem dX12_init_66 : decode cX12_init 66 = .ok (.dup, 1) := by decide +kernel
theorem dX12_init_67 : decode cX12_init 67 = .ok (.iconst 1, 1) := by decide +kernel
theorem dX12_init_68 : decode cX12_init 68 = .ok (.iconst 3, 1) := by decide +kernel
theorem dX12_init_69 : decode cX12_init 69 = .ok (.iastore, 1) := by decide +kernel
theorem dX12_init_70 : decode cX12_init 70 = .ok (.dup, 1) := by decide +kernel
theorem dX12_init_71 : decode cX12_init 71 = .ok (.iconst 2, 1) := by decide +kernel
theorem dX12_init_72 : decode cX12_init 72 = .ok (.bipush 99, 2) := by decide +kernel
theorem dX12_init_74 : decode cX12_init 74 = .ok (.iastore, 1) := by decide +kernel
theorem dX12_init_75 : decode cX12_init 75 = .ok (.dup, 1) := by decide +kernel
theorem dX12_init_76 : decode cX12_init 76 = .ok (.iconst 3, 1) := by decide +kernel
theorem dX12_init_77 : decode cX12_init 77 = .ok (.iconst 4, 1) := by decide +kernel
theorem dX12_init_78 : decode cX12_init 78 = .ok (.iastore, 1) := by decide +kernel
theorem dX12_init_79 : decode cX12_init 79 = .ok (.putfield 19, 3) := by decide +kernel
theorem dX12_init_82 : decode cX12_init 82 = .ok (.aload_n 0, 1) := by decide +kernel
theorem dX12_init_83 : decode cX12_init 83 = .ok (.bipush 61, 2) := by decide +kernel
theorem dX12_init_85 : decode cX12_init 85 = .ok (.newarray .int, 2) := by decide +kernel
theorem dX12_init_87 : decode cX12_init 87 = .ok (.putfield 22, 3) := by decide +kernel
theorem dX12_init_90 : decode cX12_init 90 = .ok (.aload_n 0, 1) := by decide +kernel
theorem dX12_init_91 : decode cX12_init 91 = .ok (.bipush 61, 2) := by decide +kernel
theorem dX12_init_93 : decode cX12_init 93 = .ok (.newarray .int, 2) := by decide +kernel
theorem dX12_init_95 : decode cX12_init 95 = .ok (.putfield 25, 3) := by decide +kernel
theorem dX12_init_98 : decode cX12_init 98 = .ok (.aload_n 0, 1) := by decide +kernel
theorem dX12_init_99 : decode cX12_init 99 = .ok (.bipush 8, 2) := by decide +kernel
theorem dX12_init_101 : decode cX12_init 101 = .ok (.newarray .int, 2) := by decide +kernel
theorem dX12_init_103 : decode cX12_init 103 = .ok (.putfield 28, 3) := by decide +kernel
theorem dX12_init_106 : decode cX12_init 106 = .ok (.aload_n 0, 1) := by decide +kernel
theorem dX12_init_107 : decode cX12_init 107 = .ok (.bipush 18, 2) := by decide +kernel
theorem dX12_init_109 : decode cX12_init 109 = .ok (.newarray .int, 2) := by decide +kernel
theorem dX12_init_111 : decode cX12_init 111 = .ok (.putfield 31, 3) := by decide +kernel
theorem dX12_init_114 : decode cX12_init 114 = .ok (.aload_n 0, 1) := by decide +kernel
theorem dX12_init_115 : decode cX12_init 115 = .ok (.iconst 1, 1) := by decide +kernel
theorem dX12_init_116 : decode cX12_init 116 = .ok (.putfield 34, 3) := by decide +kernel
theorem dX12_init_119 : decode cX12_init 119 = .ok (.aload_n 0, 1) := by decide +kernel
theorem dX12_init_120 : decode cX12_init 120 = .ok (.sipush 200, 3) := by decide +kernel
theorem dX12_init_123 : decode cX12_init 123 = .ok (.newarray .int, 2) := by decide +kernel
theorem dX12_init_125 : decode cX12_init 125 = .ok (.putfield 38, 3) := by decide +kernel
theorem dX12_init_128 : decode cX12_init 128 = .ok (.aload_n 0, 1) := by decide +kernel
theorem dX12_init_129 : decode cX12_init 129 = .ok (.bipush 30, 2) := by decide +kernel
theorem dX12_init_131 : decode cX12_init 131 = .ok (.newarray .int, 2) := by decide +kernel
theorem dX12_init_133 : decode cX12_init 133 = .ok (.putfield 41, 3) := by decide +kernel
theorem dX12_init_136 : decode cX12_init 136 = .ok (.aload_n 0, 1) := by decide +kernel
theorem dX12_init_137 : decode cX12_init 137 = .ok (.iconst 4, 1) := by decide +kernel
theorem dX12_init_138 : decode cX12_init 138 = .ok (.newarray .int, 2) := by decide +kernel
theorem dX12_init_140 : decode cX12_init 140 = .ok (.putfield 44, 3) := by decide +kernel
theorem dX12_init_143 : decode cX12_init 143 = .ok (.aload_n 0, 1) := by decide +kernel
theorem dX12_init_144 : decode cX12_init 144 = .ok (.bipush 8, 2) := by decide +kernel
theorem dX12_init_146 : decode cX12_init 146 = .ok (.newarray .int, 2) := by decide +kernel
theorem dX12_init_148 : decode cX12_init 148 = .ok (.putfield 47, 3) := by decide +kernel
theorem dX12_init_151 : decode cX12_init 151 = .ok (.aload_n 0, 1) := by decide +kernel
theorem dX12_init_152 : decode cX12_init 152 = .ok (.bipush 8, 2) := by decide +kernel
theorem dX12_init_154 : decode cX12_init 154 = .ok (.newarray .int, 2) := by decide +kernel
theorem dX12_init_156 : decode cX12_init 156 = .ok (.putfield 50, 3) := by decide +kernel
theorem dX12_init_159 : decode cX12_init 159 = .ok (.aload_n 0, 1) := by decide +kernel
theorem dX12_init_160 : decode cX12_init 160 = .ok (.bipush 8, 2) := by decide +kernel
theorem dX12_init_162 : decode cX12_init 162 = .ok (.newarray .int, 2) := by decide +kernel
theorem dX12_init_164 : decode cX12_init 164 = .ok (.putfield 53, 3) := by decide +kernel
theorem dX12_init_167 : decode cX12_init 167 = .ok (.aload_n 0, 1) := by decide +kernel
theorem dX12_init_168 : decode cX12_init 168 = .ok (.bipush 8, 2) := by decide +kernel
theorem dX12_init_170 : decode cX12_init 170 = .ok (.newarray .int, 2) := by decide +kernel
theorem dX12_init_172 : decode cX12_init 172 = .ok (.putfield 56, 3) := by decide +kernel
theorem dX12_init_175 : decode cX12_init 175 = .ok (.aload_n 0, 1) := by decide +kernel
theorem dX12_init_176 : decode cX12_init 176 = .ok (.bipush 64, 2) := by decide +kernel
theorem dX12_init_178 : decode cX12_init 178 = .ok (.newarray .int, 2) := by decide +kernel
theorem dX12_init_180 : decode cX12_init 180 = .ok (.putfield 59, 3) := by decide +kernel
theorem dX12_init_183 : decode cX12_init 183 = .ok (.aload_n 0, 1) := by decide +kernel
theorem dX12_init_184 : decode cX12_init 184 = .ok (.bipush 64, 2) := by decide +kernel
theorem dX12_init_186 : decode cX12_init 186 = .ok (.newarray .int, 2) := by decide +kernel
theorem dX12_init_188 : decode cX12_init 188 = .ok (.putfield 62, 3) := by decide +kernel
theorem dX12_init_191 : decode cX12_init 191 = .ok (.aload_n 0, 1) := by decide +kernel
theorem dX12_init_192 : decode cX12_init 192 = .ok (.bipush 18, 2) := by decide +kernel
theorem dX12_init_194 : decode cX12_init 194 = .ok (.newarray .int, 2) := by decide +kernel
theorem dX12_init_196 : decode cX12_init 196 = .ok (.putfield 65, 3) := by decide +kernel
theorem dX12_init_199 : decode cX12_init 199 = .ok (.aload_n 0, 1) := by decide +kernel
theorem dX12_init_200 : decode cX12_init 200 = .ok (.iconst 4, 1) := by decide +kernel
theorem dX12_init_201 : decode cX12_init 201 = .ok (.newarray .int, 2) := by decide +kernel
theorem dX12_init_203 : decode cX12_init 203 = .ok (.dup, 1) := by decide +kernel
theorem dX12_init_204 : decode cX12_init 204 = .ok (.iconst 0, 1) := by decide +kernel
theorem dX12_init_205 : decode cX12_init 205 = .ok (.iconst (-1), 1) := by decide +kernel
theorem dX12_init_206 : decode cX12_init 206 = .ok (.iastore, 1) := by decide +kernel
theorem dX12_init_207 : decode cX12_init 207 = .ok (.dup, 1) := by decide +kernel
theorem dX12_init_208 : decode cX12_init 208 = .ok (.iconst 1, 1) := by decide +kernel
theorem dX12_init_209 : decode cX12_init 209 = .ok (.iconst (-1), 1) := by decide +kernel
theorem dX12_init_210 : decode cX12_init 210 = .ok (.iastore, 1) := by decide +kernel
theorem dX12_init_211 : decode cX12_init 211 = .ok (.dup, 1) := by decide +kernel
theorem dX12_init_212 : decode cX12_init 212 = .ok (.iconst 2, 1) := by decide +kernel
theorem dX12_init_213 : decode cX12_init 213 = .ok (.iconst (-1), 1) := by decide +kernel
theorem dX12_init_214 : decode cX12_init 214 = .ok (.iastore, 1) := by decide +kernel
theorem dX12_init_215 : decode cX12_init 215 = .ok (.dup, 1) := by decide +kernel
theorem dX12_init_216 : decode cX12_init 216 = .ok (.iconst 3, 1) := by decide +kernel
theorem dX12_init_217 : decode cX12_init 217 = .ok (.iconst (-1), 1) := by decide +kernel
theorem dX12_init_218 : decode cX12_init 218 = .ok (.iastore, 1) := by decide +kernel
theorem dX12_init_219 : decode cX12_init 219 = .ok (.putfield 68, 3) := by decide +kernel
theorem dX12_init_222 : decode cX12_init 222 = .ok (.aload_n 0, 1) := by decide +kernel
theorem dX12_init_223 : decode cX12_init 223 = .ok (.iconst 4, 1) := by decide +kernel
theorem dX12_init_224 : decode cX12_init 224 = .ok (.newarray .int, 2) := by decide +kernel
theorem dX12_init_226 : decode cX12_init 226 = .ok (.putfield 71, 3) := by decide +kernel
theorem dX12_init_229 : decode cX12_init 229 = .ok (.aload_n 0, 1) := by decide +kernel
theorem dX12_init_230 : decode cX12_init 230 = .ok (.sipush 160, 3) := by decide +kernel
theorem dX12_init_233 : decode cX12_init 233 = .ok (.newarray .long, 2) := by decide +kernel
theorem dX12_init_235 : decode cX12_init 235 = .ok (.putfield 74, 3) := by decide +kernel
theorem dX12_init_238 : decode cX12_init 238 = .ok (.aload_n 0, 1) := by decide +kernel
theorem dX12_init_239 : decode cX12_init 239 = .ok (.iconst 4, 1) := by decide +kernel
theorem dX12_init_240 : decode cX12_init 240 = .ok (.newarray .int, 2) := by decide +kernel
theorem dX12_init_242 : decode cX12_init 242 = .ok (.dup, 1) := by decide +kernel
theorem dX12_init_243 : decode cX12_init 243 = .ok (.iconst 0, 1) := by decide +kernel
theorem dX12_init_244 : decode cX12_init 244 = .ok (.iconst (-1), 1) := by decide +kernel
theorem dX12_init_245 : decode cX12_init 245 = .ok (.iastore, 1) := by decide +kernel
theorem dX12_init_246 : decode cX12_init 246 = .ok (.dup, 1) := by decide +kernel
theorem dX12_init_247 : decode cX12_init 247 = .ok (.iconst 1, 1) := by decide +kernel
theorem dX12_init_248 : decode cX12_init 248 = .ok (.iconst (-1), 1) := by decide +kernel
theorem dX12_init_249 : decode cX12_init 249 = .ok (.iastore, 1) := by decide +kernel
theorem dX12_init_250 : decode cX12_init 250 = .ok (.dup, 1) := by decide +kernel
theorem dX12_init_251 : decode cX12_init 251 = .ok (.iconst 2, 1) := by decide +kernel
theorem dX12_init_252 : decode cX12_init 252 = .ok (.iconst (-1), 1) := by decide +kernel
theorem dX12_init_253 : decode cX12_init 253 = .ok (.iastore, 1) := by decide +kernel
theorem dX12_init_254 : decode cX12_init 254 = .ok (.dup, 1) := by decide +kernel
theorem dX12_init_255 : decode cX12_init 255 = .ok (.iconst 3, 1) := by decide +kernel
theorem dX12_init_256 : decode cX12_init 256 = .ok (.iconst (-1), 1) := by decide +kernel
theorem dX12_init_257 : decode cX12_init 257 = .ok (.iastore, 1) := by decide +kernel
theorem dX12_init_258 : decode cX12_init 258 = .ok (.putfield 78, 3) := by decide +kernel
theorem dX12_init_261 : decode cX12_init 261 = .ok (.aload_n 0, 1) := by decide +kernel
theorem dX12_init_262 : decode cX12_init 262 = .ok (.iconst 4, 1) := by decide +kernel
theorem dX12_init_263 : decode cX12_init 263 = .ok (.newarray .int, 2) := by decide +kernel
theorem dX12_init_265 : decode cX12_init 265 = .ok (.putfield 81, 3) := by decide +kernel
theorem dX12_init_268 : decode cX12_init 268 = .ok (.aload_n 0, 1) := by decide +kernel
theorem dX12_init_269 : decode cX12_init 269 = .ok (.iconst 4, 1) := by decide +kernel
theorem dX12_init_270 : decode cX12_init 270 = .ok (.newarray .int, 2) := by decide +kernel
theorem dX12_init_272 : decode cX12_init 272 = .ok (.putfield 84, 3) := by decide +kernel
theorem dX12_init_275 : decode cX12_init 275 = .ok (.aload_n 0, 1) := by decide +kernel
theorem dX12_init_276 : decode cX12_init 276 = .ok (.bipush 30, 2) := by decide +kernel
theorem dX12_init_278 : decode cX12_init 278 = .ok (.newarray .int, 2) := by decide +kernel
theorem dX12_init_280 : decode cX12_init 280 = .ok (.putfield 87, 3) := by decide +kernel
theorem dX12_init_283 : decode cX12_init 283 = .ok (.aload_n 0, 1) := by decide +kernel
theorem dX12_init_284 : decode cX12_init 284 = .ok (.sipush 260, 3) := by decide +kernel
theorem dX12_init_287 : decode cX12_init 287 = .ok (.newarray .int, 2) := by decide +kernel
theorem dX12_init_289 : decode cX12_init 289 = .ok (.putfield 90, 3) := by decide +kernel
theorem dX12_init_292 : decode cX12_init 292 = .ok (.aload_n 0, 1) := by decide +kernel
theorem dX12_init_293 : decode cX12_init 293 = .ok (.bipush 7, 2) := by decide +kernel
theorem dX12_init_295 : decode cX12_init 295 = .ok (.newarray .int, 2) := by decide +kernel
theorem dX12_init_297 : decode cX12_init 297 = .ok (.putfield 93, 3) := by decide +kernel
theorem dX12_init_300 : decode cX12_init 300 = .ok (.return_, 1) := by decide +kernel
theorem dX12_in_0 : decode cX12_in 0 = .ok (.iload_n 0, 1) := by decide +kernel
theorem dX12_in_1 : decode cX12_in 1 = .ok (.iload_n 1, 1) := by decide +kernel
theorem dX12_in_2 : decode cX12_in 2 = .ok (.if_icmp .lt 12, 3) := by decide +kernel
theorem dX12_in_5 : decode cX12_in 5 = .ok (.iload_n 0, 1) := by decide +kernel
theorem dX12_in_6 : decode cX12_in 6 = .ok (.iload_n 2, 1) := by decide +kernel
theorem dX12_in_7 : decode cX12_in 7 = .ok (.if_icmp .gt 7, 3) := by decide +kernel
theorem dX12_in_10 : decode cX12_in 10 = .ok (.iconst 1, 1) := by decide +kernel
theorem dX12_in_11 : decode cX12_in 11 = .ok (.goto 4, 3) := by decide +kernel
theorem dX12_in_14 : decode cX12_in 14 = .ok (.iconst 0, 1) := by decide +kernel
theorem dX12_in_15 : decode cX12_in 15 = .ok (.ireturn, 1) := by decide +kernel
theorem dX12_isJob_0 : decode cX12_isJob 0 = .ok (.iload_n 1, 1) := by decide +kernel
theorem dX12_isJob_1 : decode cX12_isJob 1 = .ok (.iconst 0, 1) := by decide +kernel
theorem dX12_isJob_2 : decode cX12_isJob 2 = .ok (.aload_n 0, 1) := by decide +kernel
theorem dX12_isJob_3 : decode cX12_isJob 3 = .ok (.getfield 96, 3) := by decide +kernel
theorem dX12_isJob_6 : decode cX12_isJob 6 = .ok (.iconst 1, 1) := by decide +kernel
theorem dX12_isJob_7 : decode cX12_isJob 7 = .ok (.isub, 1) := by decide +kernel
theorem dX12_isJob_8 : decode cX12_isJob 8 = .ok (.invokestatic 99, 3) := by decide +kernel
theorem dX12_isJob_11 : decode cX12_isJob 11 = .ok (.ireturn, 1) := by decide +kernel
theorem dX12_isSide_0 : decode cX12_isSide 0 = .ok (.iload_n 0, 1) := by decide +kernel
theorem dX12_isSide_1 : decode cX12_isSide 1 = .ok (.iconst 0, 1) := by decide +kernel
theorem dX12_isSide_2 : decode cX12_isSide 2 = .ok (.iconst 1, 1) := by decide +kernel
theorem dX12_isSide_3 : decode cX12_isSide 3 = .ok (.invokestatic 99, 3) := by decide +kernel
theorem dX12_isSide_6 : decode cX12_isSide 6 = .ok (.ireturn, 1) := by decide +kernel
theorem dX12_its_0 : decode cX12_its 0 = .ok (.aload_n 0, 1) := by decide +kernel
theorem dX12_its_1 : decode cX12_its 1 = .ok (.getfield 7, 3) := by decide +kernel
theorem dX12_its_4 : decode cX12_its 4 = .ok (.iconst 5, 1) := by decide +kernel
theorem dX12_its_5 : decode cX12_its 5 = .ok (.iload_n 1, 1) := by decide +kernel
theorem dX12_its_6 : decode cX12_its 6 = .ok (.imul, 1) := by decide +kernel
theorem dX12_its_7 : decode cX12_its 7 = .ok (.iload_n 2, 1) := by decide +kernel
theorem dX12_its_8 : decode cX12_its 8 = .ok (.iadd, 1) := by decide +kernel
theorem dX12_its_9 : decode cX12_its 9 = .ok (.iaload, 1) := by decide +kernel
theorem dX12_its_10 : decode cX12_its 10 = .ok (.ireturn, 1) := by decide +kernel
theorem dX12_restOf_0 : decode cX12_restOf 0 = .ok (.iload_n 0, 1) := by decide +kernel
theorem dX12_restOf_1 : decode cX12_restOf 1 = .ok (.iconst 5, 1) := by decide +kernel
theorem dX12_restOf_2 : decode cX12_restOf 2 = .ok (.if_icmp .ne 11, 3) := by decide +kernel
theorem dX12_restOf_5 : decode cX12_restOf 5 = .ok (.iload_n 1, 1) := by decide +kernel
theorem dX12_restOf_6 : decode cX12_restOf 6 = .ok (.iconst 1, 1) := by decide +kernel
theorem dX12_restOf_7 : decode cX12_restOf 7 = .ok (.iadd, 1) := by decide +kernel
theorem dX12_restOf_8 : decode cX12_restOf 8 = .ok (.iconst 2, 1) := by decide +kernel
theorem dX12_restOf_9 : decode cX12_restOf 9 = .ok (.idiv, 1) := by decide +kernel
theorem dX12_restOf_10 : decode cX12_restOf 10 = .ok (.goto 4, 3) := by decide +kernel
theorem dX12_restOf_13 : decode cX12_restOf 13 = .ok (.iload_n 1, 1) := by decide +kernel
theorem dX12_restOf_14 : decode cX12_restOf 14 = .ok (.ireturn, 1) := by decide +kernel
theorem dX12_isLike_0 : decode cX12_isLike 0 = .ok (.iload_n 0, 1) := by decide +kernel
theorem dX12_isLike_1 : decode cX12_isLike 1 = .ok (.iconst 0, 1) := by decide +kernel
theorem dX12_isLike_2 : decode cX12_isLike 2 = .ok (.iconst 5, 1) := by decide +kernel
theorem dX12_isLike_3 : decode cX12_isLike 3 = .ok (.invokestatic 99, 3) := by decide +kernel
theorem dX12_isLike_6 : decode cX12_isLike 6 = .ok (.ifCond .eq 24, 3) := by decide +kernel
theorem dX12_isLike_9 : decode cX12_isLike 9 = .ok (.iload_n 1, 1) := by decide +kernel
theorem dX12_isLike_10 : decode cX12_isLike 10 = .ok (.iconst 1, 1) := by decide +kernel
theorem dX12_isLike_11 : decode cX12_isLike 11 = .ok (.bipush 9, 2) := by decide +kernel
theorem dX12_isLike_13 : decode cX12_isLike 13 = .ok (.invokestatic 99, 3) := by decide +kernel
theorem dX12_isLike_16 : decode cX12_isLike 16 = .ok (.ifCond .eq 14, 3) := by decide +kernel
theorem dX12_isLike_19 : decode cX12_isLike 19 = .ok (.iload_n 2, 1) := by decide +kernel
theorem dX12_isLike_20 : decode cX12_isLike 20 = .ok (.invokestatic 103, 3) := by decide +kernel
theorem dX12_isLike_23 : decode cX12_isLike 23 = .ok (.ifCond .eq 7, 3) := by decide +kernel
theorem dX12_isLike_26 : decode cX12_isLike 26 = .ok (.iconst 1, 1) := by decide +kernel
theorem dX12_isLike_27 : decode cX12_isLike 27 = .ok (.goto 4, 3) := by decide +kernel
theorem dX12_isLike_30 : decode cX12_isLike 30 = .ok (.iconst 0, 1) := by decide +kernel
theorem dX12_isLike_31 : decode cX12_isLike 31 = .ok (.ireturn, 1) := by decide +kernel
theorem dX12_isPromised_0 : decode cX12_isPromised 0 = .ok (.iload_n 0, 1) := by decide +kernel
theorem dX12_isPromised_1 : decode cX12_isPromised 1 = .ok (.iconst 0, 1) := by decide +kernel
theorem dX12_isPromised_2 : decode cX12_isPromised 2 = .ok (.bipush 60, 2) := by decide +kernel
theorem dX12_isPromised_4 : decode cX12_isPromised 4 = .ok (.invokestatic 99, 3) := by decide +kernel
theorem dX12_isPromised_7 : decode cX12_isPromised 7 = .ok (.ifCond .eq 17, 3) := by decide +kernel
theorem dX12_isPromised_10 : decode cX12_isPromised 10 = .ok (.iload_n 1, 1) := by decide +kernel
theorem dX12_isPromised_11 : decode cX12_isPromised 11 = .ok (.iconst 0, 1) := by decide +kernel
theorem dX12_isPromised_12 : decode cX12_isPromised 12 = .ok (.bipush 99, 2) := by decide +kernel
theorem dX12_isPromised_14 : decode cX12_isPromised 14 = .ok (.invokestatic 99, 3) := by decide +kernel
theorem dX12_isPromised_17 : decode cX12_isPromised 17 = .ok (.ifCond .eq 7, 3) := by decide +kernel
theorem dX12_isPromised_20 : decode cX12_isPromised 20 = .ok (.iconst 1, 1) := by decide +kernel
theorem dX12_isPromised_21 : decode cX12_isPromised 21 = .ok (.goto 4, 3) := by decide +kernel
theorem dX12_isPromised_24 : decode cX12_isPromised 24 = .ok (.iconst 0, 1) := by decide +kernel
theorem dX12_isPromised_25 : decode cX12_isPromised 25 = .ok (.ireturn, 1) := by decide +kernel
theorem dX12_lay_0 : decode cX12_lay 0 = .ok (.aload_n 0, 1) := by decide +kernel
theorem dX12_lay_1 : decode cX12_lay 1 = .ok (.getfield 7, 3) := by decide +kernel
theorem dX12_lay_4 : decode cX12_lay 4 = .ok (.iconst 5, 1) := by decide +kernel
theorem dX12_lay_5 : decode cX12_lay 5 = .ok (.iload_n 1, 1) := by decide +kernel
theorem dX12_lay_6 : decode cX12_lay 6 = .ok (.imul, 1) := by decide +kernel
theorem dX12_lay_7 : decode cX12_lay 7 = .ok (.iload_n 2, 1) := by decide +kernel
theorem dX12_lay_8 : decode cX12_lay 8 = .ok (.iastore, 1) := by decide +kernel
theorem dX12_lay_9 : decode cX12_lay 9 = .ok (.aload_n 0, 1) := by decide +kernel
theorem dX12_lay_10 : decode cX12_lay 10 = .ok (.getfield 7, 3) := by decide +kernel
theorem dX12_lay_13 : decode cX12_lay 13 = .ok (.iconst 5, 1) := by decide +kernel
theorem dX12_lay_14 : decode cX12_lay 14 = .ok (.iload_n 1, 1) := by decide +kernel
theorem dX12_lay_15 : decode cX12_lay 15 = .ok (.imul, 1) := by decide +kernel
theorem dX12_lay_16 : decode cX12_lay 16 = .ok (.iconst 1, 1) := by decide +kernel
theorem dX12_lay_17 : decode cX12_lay 17 = .ok (.iadd, 1) := by decide +kernel
theorem dX12_lay_18 : decode cX12_lay 18 = .ok (.iload_n 2, 1) := by decide +kernel
theorem dX12_lay_19 : decode cX12_lay 19 = .ok (.iload_n 3, 1) := by decide +kernel
theorem dX12_lay_20 : decode cX12_lay 20 = .ok (.invokestatic 107, 3) := by decide +kernel
theorem dX12_lay_23 : decode cX12_lay 23 = .ok (.iastore, 1) := by decide +kernel
theorem dX12_lay_24 : decode cX12_lay 24 = .ok (.aload_n 0, 1) := by decide +kernel
theorem dX12_lay_25 : decode cX12_lay 25 = .ok (.getfield 7, 3) := by decide +kernel
theorem dX12_lay_28 : decode cX12_lay 28 = .ok (.iconst 5, 1) := by decide +kernel
theorem dX12_lay_29 : decode cX12_lay 29 = .ok (.iload_n 1, 1) := by decide +kernel
theorem dX12_lay_30 : decode cX12_lay 30 = .ok (.imul, 1) := by decide +kernel
theorem dX12_lay_31 : decode cX12_lay 31 = .ok (.iconst 2, 1) := by decide +kernel
theorem dX12_lay_32 : decode cX12_lay 32 = .ok (.iadd, 1) := by decide +kernel
theorem dX12_lay_33 : decode cX12_lay 33 = .ok (.iload 4, 2) := by decide +kernel
theorem dX12_lay_35 : decode cX12_lay 35 = .ok (.iastore, 1) := by decide +kernel
theorem dX12_lay_36 : decode cX12_lay 36 = .ok (.aload_n 0, 1) := by decide +kernel
theorem dX12_lay_37 : decode cX12_lay 37 = .ok (.getfield 7, 3) := by decide +kernel
theorem dX12_lay_40 : decode cX12_lay 40 = .ok (.iconst 5, 1) := by decide +kernel
theorem dX12_lay_41 : decode cX12_lay 41 = .ok (.iload_n 1, 1) := by decide +kernel
theorem dX12_lay_42 : decode cX12_lay 42 = .ok (.imul, 1) := by decide +kernel
theorem dX12_lay_43 : decode cX12_lay 43 = .ok (.iconst 3, 1) := by decide +kernel
theorem dX12_lay_44 : decode cX12_lay 44 = .ok (.iadd, 1) := by decide +kernel
theorem dX12_lay_45 : decode cX12_lay 45 = .ok (.iload 5, 2) := by decide +kernel
theorem dX12_lay_47 : decode cX12_lay 47 = .ok (.iastore, 1) := by decide +kernel
theorem dX12_lay_48 : decode cX12_lay 48 = .ok (.aload_n 0, 1) := by decide +kernel
theorem dX12_lay_49 : decode cX12_lay 49 = .ok (.getfield 7, 3) := by decide +kernel
theorem dX12_lay_52 : decode cX12_lay 52 = .ok (.iconst 5, 1) := by decide +kernel
theorem dX12_lay_53 : decode cX12_lay 53 = .ok (.iload_n 1, 1) := by decide +kernel
theorem dX12_lay_54 : decode cX12_lay 54 = .ok (.imul, 1) := by decide +kernel
theorem dX12_lay_55 : decode cX12_lay 55 = .ok (.iconst 4, 1) := by decide +kernel
theorem dX12_lay_56 : decode cX12_lay 56 = .ok (.iadd, 1) := by decide +kernel
theorem dX12_lay_57 : decode cX12_lay 57 = .ok (.iload 6, 2) := by decide +kernel
theorem dX12_lay_59 : decode cX12_lay 59 = .ok (.iastore, 1) := by decide +kernel
theorem dX12_lay_60 : decode cX12_lay 60 = .ok (.return_, 1) := by decide +kernel
theorem dX12_feed_0 : decode cX12_feed 0 = .ok (.iload_n 3, 1) := by decide +kernel
theorem dX12_feed_1 : decode cX12_feed 1 = .ok (.iconst 1, 1) := by decide +kernel
theorem dX12_feed_2 : decode cX12_feed 2 = .ok (.bipush 8, 2) := by decide +kernel
theorem dX12_feed_4 : decode cX12_feed 4 = .ok (.invokestatic 99, 3) := by decide +kernel
theorem dX12_feed_7 : decode cX12_feed 7 = .ok (.ifCond .ne 5, 3) := by decide +kernel
theorem dX12_feed_10 : decode cX12_feed 10 = .ok (.iconst (-1), 1) := by decide +kernel
theorem dX12_feed_11 : decode cX12_feed 11 = .ok (.ireturn, 1) := by decide +kernel
theorem dX12_feed_12 : decode cX12_feed 12 = .ok (.aload_n 0, 1) := by decide +kernel
theorem dX12_feed_13 : decode cX12_feed 13 = .ok (.getfield 111, 3) := by decide +kernel
theorem dX12_feed_16 : decode cX12_feed 16 = .ok (.iload_n 3, 1) := by decide +kernel
theorem dX12_feed_17 : decode cX12_feed 17 = .ok (.iadd, 1) := by decide +kernel
theorem dX12_feed_18 : decode cX12_feed 18 = .ok (.sipush 200, 3) := by decide +kernel
theorem dX12_feed_21 : decode cX12_feed 21 = .ok (.if_icmp .le 6, 3) := by decide +kernel
theorem dX12_feed_24 : decode cX12_feed 24 = .ok (.bipush (-2), 2) := by decide +kernel
theorem dX12_feed_26 : decode cX12_feed 26 = .ok (.ireturn, 1) := by decide +kernel
theorem dX12_feed_27 : decode cX12_feed 27 = .ok (.iconst 0, 1) := by decide +kernel
theorem dX12_feed_28 : decode cX12_feed 28 = .ok (.istore 4, 2) := by decide +kernel
theorem dX12_feed_30 : decode cX12_feed 30 = .ok (.iload 4, 2) := by decide +kernel
theorem dX12_feed_32 : decode cX12_feed 32 = .ok (.iload_n 3, 1) := by decide +kernel
theorem dX12_feed_33 : decode cX12_feed 33 = .ok (.if_icmp .ge 40, 3) := by decide +kernel
theorem dX12_feed_36 : decode cX12_feed 36 = .ok (.aload_n 0, 1) := by decide +kernel
theorem dX12_feed_37 : decode cX12_feed 37 = .ok (.getfield 38, 3) := by decide +kernel
theorem dX12_feed_40 : decode cX12_feed 40 = .ok (.aload_n 0, 1) := by decide +kernel
theorem dX12_feed_41 : decode cX12_feed 41 = .ok (.getfield 111, 3) := by decide +kernel
theorem dX12_feed_44 : decode cX12_feed 44 = .ok (.lload_n 1, 1) := by decide +kernel
theorem dX12_feed_45 : decode cX12_feed 45 = .ok (.bipush 8, 2) := by decide +kernel
theorem dX12_feed_47 : decode cX12_feed 47 = .ok (.iload 4, 2) := by decide +kernel
theorem dX12_feed_49 : decode cX12_feed 49 = .ok (.imul, 1) := by decide +kernel
theorem dX12_feed_50 : decode cX12_feed 50 = .ok (.lshr, 1) := by decide +kernel
theorem dX12_feed_51 : decode cX12_feed 51 = .ok (.ldc2_w 114, 3) := by decide +kernel
theorem dX12_feed_54 : decode cX12_feed 54 = .ok (.land, 1) := by decide +kernel
theorem dX12_feed_55 : decode cX12_feed 55 = .ok (.l2i, 1) := by decide +kernel
theorem dX12_feed_56 : decode cX12_feed 56 = .ok (.iastore, 1) := by decide +kernel
theorem dX12_feed_57 : decode cX12_feed 57 = .ok (.aload_n 0, 1) := by decide +kernel
theorem dX12_feed_58 : decode cX12_feed 58 = .ok (.dup, 1) := by decide +kernel
theorem dX12_feed_59 : decode cX12_feed 59 = .ok (.getfield 111, 3) := by decide +kernel
theorem dX12_feed_62 : decode cX12_feed 62 = .ok (.iconst 1, 1) := by decide +kernel
theorem dX12_feed_63 : decode cX12_feed 63 = .ok (.iadd, 1) := by decide +kernel
theorem dX12_feed_64 : decode cX12_feed 64 = .ok (.putfield 111, 3) := by decide +kernel
theorem dX12_feed_67 : decode cX12_feed 67 = .ok (.iinc 4 1, 3) := by decide +kernel
theorem dX12_feed_70 : decode cX12_feed 70 = .ok (.goto (-40), 3) := by decide +kernel
theorem dX12_feed_73 : decode cX12_feed 73 = .ok (.aload_n 0, 1) := by decide +kernel
theorem dX12_feed_74 : decode cX12_feed 74 = .ok (.getfield 111, 3) := by decide +kernel
theorem dX12_feed_77 : decode cX12_feed 77 = .ok (.ireturn, 1) := by decide +kernel
theorem dX12_byteAt_0 : decode cX12_byteAt 0 = .ok (.iload_n 1, 1) := by decide +kernel
theorem dX12_byteAt_1 : decode cX12_byteAt 1 = .ok (.aload_n 0, 1) := by decide +kernel
theorem dX12_byteAt_2 : decode cX12_byteAt 2 = .ok (.getfield 111, 3) := by decide +kernel
theorem dX12_byteAt_5 : decode cX12_byteAt 5 = .ok (.if_icmp .ge 12, 3) := by decide +kernel
theorem dX12_byteAt_8 : decode cX12_byteAt 8 = .ok (.aload_n 0, 1) := by decide +kernel
theorem dX12_byteAt_9 : decode cX12_byteAt 9 = .ok (.getfield 38, 3) := by decide +kernel
theorem dX12_byteAt_12 : decode cX12_byteAt 12 = .ok (.iload_n 1, 1) := by decide +kernel
theorem dX12_byteAt_13 : decode cX12_byteAt 13 = .ok (.iaload, 1) := by decide +kernel
theorem dX12_byteAt_14 : decode cX12_byteAt 14 = .ok (.goto 4, 3) := by decide +kernel
theorem dX12_byteAt_17 : decode cX12_byteAt 17 = .ok (.iconst (-1), 1) := by decide +kernel
theorem dX12_byteAt_18 : decode cX12_byteAt 18 = .ok (.ireturn, 1) := by decide +kernel
theorem dX12_isLetter_0 : decode cX12_isLetter 0 = .ok (.iload_n 0, 1) := by decide +kernel
theorem dX12_isLetter_1 : decode cX12_isLetter 1 = .ok (.bipush 97, 2) := by decide +kernel
theorem dX12_isLetter_3 : decode cX12_isLetter 3 = .ok (.bipush 122, 2) := by decide +kernel
theorem dX12_isLetter_5 : decode cX12_isLetter 5 = .ok (.invokestatic 99, 3) := by decide +kernel
theorem dX12_isLetter_8 : decode cX12_isLetter 8 = .ok (.ireturn, 1) := by decide +kernel
theorem dX12_isDigit_0 : decode cX12_isDigit 0 = .ok (.iload_n 0, 1) := by decide +kernel
theorem dX12_isDigit_1 : decode cX12_isDigit 1 = .ok (.bipush 48, 2) := by decide +kernel
theorem dX12_isDigit_3 : decode cX12_isDigit 3 = .ok (.bipush 57, 2) := by decide +kernel
theorem dX12_isDigit_5 : decode cX12_isDigit 5 = .ok (.invokestatic 99, 3) := by decide +kernel
theorem dX12_isDigit_8 : decode cX12_isDigit 8 = .ok (.ireturn, 1) := by decide +kernel
theorem dX12_advance_0 : decode cX12_advance 0 = .ok (.aload_n 0, 1) := by decide +kernel
theorem dX12_advance_1 : decode cX12_advance 1 = .ok (.aload_n 0, 1) := by decide +kernel
theorem dX12_advance_2 : decode cX12_advance 2 = .ok (.getfield 116, 3) := by decide +kernel
theorem dX12_advance_5 : decode cX12_advance 5 = .ok (.putfield 119, 3) := by decide +kernel
theorem dX12_advance_8 : decode cX12_advance 8 = .ok (.aload_n 0, 1) := by decide +kernel
theorem dX12_advance_9 : decode cX12_advance 9 = .ok (.aload_n 0, 1) := by decide +kernel
theorem dX12_advance_10 : decode cX12_advance 10 = .ok (.getfield 119, 3) := by decide +kernel
theorem dX12_advance_13 : decode cX12_advance 13 = .ok (.invokevirtual 122, 3) := by decide +kernel
theorem dX12_advance_16 : decode cX12_advance 16 = .ok (.bipush 32, 2) := by decide +kernel
theorem dX12_advance_18 : decode cX12_advance 18 = .ok (.if_icmp .ne 16, 3) := by decide +kernel
theorem dX12_advance_21 : decode cX12_advance 21 = .ok (.aload_n 0, 1) := by decide +kernel
theorem dX12_advance_22 : decode cX12_advance 22 = .ok (.dup, 1) := by decide +kernel
theorem dX12_advance_23 : decode cX12_advance 23 = .ok (.getfield 119, 3) := by decide +kernel
theorem dX12_advance_26 : decode cX12_advance 26 = .ok (.iconst 1, 1) := by decide +kernel
theorem dX12_advance_27 : decode cX12_advance 27 = .ok (.iadd, 1) := by decide +kernel
theorem dX12_advance_28 : decode cX12_advance 28 = .ok (.putfield 119, 3) := by decide +kernel
theorem dX12_advance_31 : decode cX12_advance 31 = .ok (.goto (-23), 3) := by decide +kernel
theorem dX12_advance_34 : decode cX12_advance 34 = .ok (.aload_n 0, 1) := by decide +kernel
theorem dX12_advance_35 : decode cX12_advance 35 = .ok (.aload_n 0, 1) := by decide +kernel
theorem dX12_advance_36 : decode cX12_advance 36 = .ok (.getfield 119, 3) := by decide +kernel
theorem dX12_advance_39 : decode cX12_advance 39 = .ok (.putfield 116, 3) := by decide +kernel
theorem dX12_advance_42 : decode cX12_advance 42 = .ok (.aload_n 0, 1) := by decide +kernel
theorem dX12_advance_43 : decode cX12_advance 43 = .ok (.aload_n 0, 1) := by decide +kernel
theorem dX12_advance_44 : decode cX12_advance 44 = .ok (.getfield 119, 3) := by decide +kernel
theorem dX12_advance_47 : decode cX12_advance 47 = .ok (.invokevirtual 122, 3) := by decide +kernel
theorem dX12_advance_50 : decode cX12_advance 50 = .ok (.istore_n 1, 1) := by decide +kernel
theorem dX12_advance_51 : decode cX12_advance 51 = .ok (.aload_n 0, 1) := by decide +kernel
theorem dX12_advance_52 : decode cX12_advance 52 = .ok (.iload_n 1, 1) := by decide +kernel
theorem dX12_advance_53 : decode cX12_advance 53 = .ok (.ifCond .ge 7, 3) := by decide +kernel
theorem dX12_advance_56 : decode cX12_advance 56 = .ok (.iconst 0, 1) := by decide +kernel
theorem dX12_advance_57 : decode cX12_advance 57 = .ok (.goto 26, 3) := by decide +kernel
theorem dX12_advance_60 : decode cX12_advance 60 = .ok (.iload_n 1, 1) := by decide +kernel
theorem dX12_advance_61 : decode cX12_advance 61 = .ok (.invokestatic 126, 3) := by decide +kernel
theorem dX12_advance_64 : decode cX12_advance 64 = .ok (.ifCond .eq 7, 3) := by decide +kernel
theorem dX12_advance_67 : decode cX12_advance 67 = .ok (.iconst 1, 1) := by decide +kernel
theorem dX12_advance_68 : decode cX12_advance 68 = .ok (.goto 15, 3) := by decide +kernel
theorem dX12_advance_71 : decode cX12_advance 71 = .ok (.iload_n 1, 1) := by decide +kernel
theorem dX12_advance_72 : decode cX12_advance 72 = .ok (.invokestatic 129, 3) := by decide +kernel
theorem dX12_advance_75 : decode cX12_advance 75 = .ok (.ifCond .eq 7, 3) := by decide +kernel
theorem dX12_advance_78 : decode cX12_advance 78 = .ok (.iconst 2, 1) := by decide +kernel
theorem dX12_advance_79 : decode cX12_advance 79 = .ok (.goto 4, 3) := by decide +kernel
theorem dX12_advance_82 : decode cX12_advance 82 = .ok (.iconst 3, 1) := by decide +kernel
theorem dX12_advance_83 : decode cX12_advance 83 = .ok (.putfield 132, 3) := by decide +kernel
theorem dX12_advance_86 : decode cX12_advance 86 = .ok (.aload_n 0, 1) := by decide +kernel
theorem dX12_advance_87 : decode cX12_advance 87 = .ok (.lconst 0, 1) := by decide +kernel
theorem dX12_advance_88 : decode cX12_advance 88 = .ok (.putfield 135, 3) := by decide +kernel
theorem dX12_advance_91 : decode cX12_advance 91 = .ok (.aload_n 0, 1) := by decide +kernel
theorem dX12_advance_92 : decode cX12_advance 92 = .ok (.aload_n 0, 1) := by decide +kernel
theorem dX12_advance_93 : decode cX12_advance 93 = .ok (.getfield 132, 3) := by decide +kernel
theorem dX12_advance_96 : decode cX12_advance 96 = .ok (.iconst 2, 1) := by decide +kernel
theorem dX12_advance_97 : decode cX12_advance 97 = .ok (.if_icmp .ne 7, 3) := by decide +kernel
theorem dX12_advance_100 : decode cX12_advance 100 = .ok (.iconst 0, 1) := by decide +kernel
theorem dX12_advance_101 : decode cX12_advance 101 = .ok (.goto 4, 3) := by decide +kernel
theorem dX12_advance_104 : decode cX12_advance 104 = .ok (.iload_n 1, 1) := by decide +kernel
theorem dX12_advance_105 : decode cX12_advance 105 = .ok (.putfield 139, 3) := by decide +kernel
theorem dX12_advance_108 : decode cX12_advance 108 = .ok (.aload_n 0, 1) := by decide +kernel
theorem dX12_advance_109 : decode cX12_advance 109 = .ok (.getfield 132, 3) := by decide +kernel
theorem dX12_advance_112 : decode cX12_advance 112 = .ok (.iconst 3, 1) := by decide +kernel
theorem dX12_advance_113 : decode cX12_advance 113 = .ok (.if_icmp .ne 13, 3) := by decide +kernel
theorem dX12_advance_116 : decode cX12_advance 116 = .ok (.aload_n 0, 1) := by decide +kernel
theorem dX12_advance_117 : decode cX12_advance 117 = .ok (.dup, 1) := by decide +kernel
theorem dX12_advance_118 : decode cX12_advance 118 = .ok (.getfield 116, 3) := by decide +kernel
theorem dX12_advance_121 : decode cX12_advance 121 = .ok (.iconst 1, 1) := by decide +kernel
theorem dX12_advance_122 : decode cX12_advance 122 = .ok (.iadd, 1) := by decide +kernel
theorem dX12_advance_123 : decode cX12_advance 123 = .ok (.putfield 116, 3) := by decide +kernel
theorem dX12_advance_126 : decode cX12_advance 126 = .ok (.aload_n 0, 1) := by decide +kernel
theorem dX12_advance_127 : decode cX12_advance 127 = .ok (.getfield 132, 3) := by decide +kernel
theorem dX12_advance_130 : decode cX12_advance 130 = .ok (.iconst 1, 1) := by decide +kernel
theorem dX12_advance_131 : decode cX12_advance 131 = .ok (.if_icmp .ne 76, 3) := by decide +kernel
theorem dX12_advance_134 : decode cX12_advance 134 = .ok (.aload_n 0, 1) := by decide +kernel
theorem dX12_advance_135 : decode cX12_advance 135 = .ok (.aload_n 0, 1) := by decide +kernel
theorem dX12_advance_136 : decode cX12_advance 136 = .ok (.getfield 116, 3) := by decide +kernel
theorem dX12_advance_139 : decode cX12_advance 139 = .ok (.invokevirtual 122, 3) := by decide +kernel
theorem dX12_advance_142 : decode cX12_advance 142 = .ok (.invokestatic 126, 3) := by decide +kernel
theorem dX12_advance_145 : decode cX12_advance 145 = .ok (.ifCond .eq 62, 3) := by decide +kernel
theorem dX12_advance_148 : decode cX12_advance 148 = .ok (.aload_n 0, 1) := by decide +kernel
theorem dX12_advance_149 : decode cX12_advance 149 = .ok (.aload_n 0, 1) := by decide +kernel
theorem dX12_advance_150 : decode cX12_advance 150 = .ok (.getfield 116, 3) := by decide +kernel
theorem dX12_advance_153 : decode cX12_advance 153 = .ok (.aload_n 0, 1) := by decide +kernel
theorem dX12_advance_154 : decode cX12_advance 154 = .ok (.getfield 119, 3) := by decide +kernel
theorem dX12_advance_157 : decode cX12_advance 157 = .ok (.isub, 1) := by decide +kernel
theorem dX12_advance_158 : decode cX12_advance 158 = .ok (.bipush 8, 2) := by decide +kernel
theorem dX12_advance_160 : decode cX12_advance 160 = .ok (.if_icmp .ge 28, 3) := by decide +kernel
theorem dX12_advance_163 : decode cX12_advance 163 = .ok (.ldc2_w 142, 3) := by decide +kernel
theorem dX12_advance_166 : decode cX12_advance 166 = .ok (.aload_n 0, 1) := by decide +kernel
theorem dX12_advance_167 : decode cX12_advance 167 = .ok (.getfield 135, 3) := by decide +kernel
theorem dX12_advance_170 : decode cX12_advance 170 = .ok (.lmul, 1) := by decide +kernel
theorem dX12_advance_171 : decode cX12_advance 171 = .ok (.aload_n 0, 1) := by decide +kernel
theorem dX12_advance_172 : decode cX12_advance 172 = .ok (.aload_n 0, 1) := by decide +kernel
theorem dX12_advance_173 : decode cX12_advance 173 = .ok (.getfield 116, 3) := by decide +kernel
theorem dX12_advance_176 : decode cX12_advance 176 = .ok (.invokevirtual 122, 3) := by decide +kernel
theorem dX12_advance_179 : decode cX12_advance 179 = .ok (.i2l, 1) := by decide +kernel
theorem dX12_advance_180 : decode cX12_advance 180 = .ok (.ladd, 1) := by decide +kernel
theorem dX12_advance_181 : decode cX12_advance 181 = .ok (.ldc2_w 144, 3) := by decide +kernel
theorem dX12_advance_184 : decode cX12_advance 184 = .ok (.lsub, 1) := by decide +kernel
theorem dX12_advance_185 : decode cX12_advance 185 = .ok (.goto 6, 3) := by decide +kernel
theorem dX12_advance_188 : decode cX12_advance 188 = .ok (.ldc2_w 146, 3) := by decide +kernel
theorem dX12_advance_191 : decode cX12_advance 191 = .ok (.putfield 135, 3) := by decide +kernel
theorem dX12_advance_194 : decode cX12_advance 194 = .ok (.aload_n 0, 1) := by decide +kernel
theorem dX12_advance_195 : decode cX12_advance 195 = .ok (.dup, 1) := by decide +kernel
theorem dX12_advance_196 : decode cX12_advance 196 = .ok (.getfield 116, 3) := by decide +kernel
theorem dX12_advance_199 : decode cX12_advance 199 = .ok (.iconst 1, 1) := by decide +kernel
theorem dX12_advance_200 : decode cX12_advance 200 = .ok (.iadd, 1) := by decide +kernel
theorem dX12_advance_201 : decode cX12_advance 201 = .ok (.putfield 116, 3) := by decide +kernel
theorem dX12_advance_204 : decode cX12_advance 204 = .ok (.goto (-78), 3) := by decide +kernel
theorem dX12_advance_207 : decode cX12_advance 207 = .ok (.aload_n 0, 1) := by decide +kernel
theorem dX12_advance_208 : decode cX12_advance 208 = .ok (.getfield 132, 3) := by decide +kernel
theorem dX12_advance_211 : decode cX12_advance 211 = .ok (.iconst 2, 1) := by decide +kernel
theorem dX12_advance_212 : decode cX12_advance 212 = .ok (.if_icmp .ne 70, 3) := by decide +kernel
theorem dX12_advance_215 : decode cX12_advance 215 = .ok (.aload_n 0, 1) := by decide +kernel
theorem dX12_advance_216 : decode cX12_advance 216 = .ok (.aload_n 0, 1) := by decide +kernel
theorem dX12_advance_217 : decode cX12_advance 217 = .ok (.getfield 116, 3) := by decide +kernel
theorem dX12_advance_220 : decode cX12_advance 220 = .ok (.invokevirtual 122, 3) := by decide +kernel
theorem dX12_advance_223 : decode cX12_advance 223 = .ok (.invokestatic 129, 3) := by decide +kernel
theorem dX12_advance_226 : decode cX12_advance 226 = .ok (.ifCond .eq 56, 3) := by decide +kernel
theorem dX12_advance_229 : decode cX12_advance 229 = .ok (.aload_n 0, 1) := by decide +kernel
theorem dX12_advance_230 : decode cX12_advance 230 = .ok (.aload_n 0, 1) := by decide +kernel
theorem dX12_advance_231 : decode cX12_advance 231 = .ok (.getfield 116, 3) := by decide +kernel
theorem dX12_advance_234 : decode cX12_advance 234 = .ok (.aload_n 0, 1) := by decide +kernel
theorem dX12_advance_235 : decode cX12_advance 235 = .ok (.getfield 119, 3) := by decide +kernel
theorem dX12_advance_238 : decode cX12_advance 238 = .ok (.isub, 1) := by decide +kernel
theorem dX12_advance_239 : decode cX12_advance 239 = .ok (.iconst 2, 1) := by decide +kernel
theorem dX12_advance_240 : decode cX12_advance 240 = .ok (.if_icmp .ge 25, 3) := by decide +kernel
theorem dX12_advance_243 : decode cX12_advance 243 = .ok (.bipush 10, 2) := by decide +kernel
theorem dX12_advance_245 : decode cX12_advance 245 = .ok (.aload_n 0, 1) := by decide +kernel
theorem dX12_advance_246 : decode cX12_advance 246 = .ok (.getfield 139, 3) := by decide +kernel
theorem dX12_advance_249 : decode cX12_advance 249 = .ok (.imul, 1) := by decide +kernel
theorem dX12_advance_250 : decode cX12_advance 250 = .ok (.aload_n 0, 1) := by decide +kernel
theorem dX12_advance_251 : decode cX12_advance 251 = .ok (.aload_n 0, 1) := by decide +kernel
theorem dX12_advance_252 : decode cX12_advance 252 = .ok (.getfield 116, 3) := by decide +kernel
theorem dX12_advance_255 : decode cX12_advance 255 = .ok (.invokevirtual 122, 3) := by decide +kernel
theorem dX12_advance_258 : decode cX12_advance 258 = .ok (.iadd, 1) := by decide +kernel
theorem dX12_advance_259 : decode cX12_advance 259 = .ok (.bipush 48, 2) := by decide +kernel
theorem dX12_advance_261 : decode cX12_advance 261 = .ok (.isub, 1) := by decide +kernel
theorem dX12_advance_262 : decode cX12_advance 262 = .ok (.goto 4, 3) := by decide +kernel
theorem dX12_advance_265 : decode cX12_advance 265 = .ok (.iconst (-1), 1) := by decide +kernel
theorem dX12_advance_266 : decode cX12_advance 266 = .ok (.putfield 139, 3) := by decide +kernel
theorem dX12_advance_269 : decode cX12_advance 269 = .ok (.aload_n 0, 1) := by decide +kernel
theorem dX12_advance_270 : decode cX12_advance 270 = .ok (.dup, 1) := by decide +kernel
theorem dX12_advance_271 : decode cX12_advance 271 = .ok (.getfield 116, 3) := by decide +kernel
theorem dX12_advance_274 : decode cX12_advance 274 = .ok (.iconst 1, 1) := by decide +kernel
theorem dX12_advance_275 : decode cX12_advance 275 = .ok (.iadd, 1) := by decide +kernel
theorem dX12_advance_276 : decode cX12_advance 276 = .ok (.putfield 116, 3) := by decide +kernel
theorem dX12_advance_279 : decode cX12_advance 279 = .ok (.goto (-72), 3) := by decide +kernel
theorem dX12_advance_282 : decode cX12_advance 282 = .ok (.return_, 1) := by decide +kernel
theorem dX12_isWord_0 : decode cX12_isWord 0 = .ok (.aload_n 0, 1) := by decide +kernel
theorem dX12_isWord_1 : decode cX12_isWord 1 = .ok (.getfield 132, 3) := by decide +kernel
theorem dX12_isWord_4 : decode cX12_isWord 4 = .ok (.iconst 1, 1) := by decide +kernel
theorem dX12_isWord_5 : decode cX12_isWord 5 = .ok (.if_icmp .ne 16, 3) := by decide +kernel
theorem dX12_isWord_8 : decode cX12_isWord 8 = .ok (.aload_n 0, 1) := by decide +kernel
theorem dX12_isWord_9 : decode cX12_isWord 9 = .ok (.getfield 135, 3) := by decide +kernel
theorem dX12_isWord_12 : decode cX12_isWord 12 = .ok (.lload_n 1, 1) := by decide +kernel
theorem dX12_isWord_13 : decode cX12_isWord 13 = .ok (.lcmp, 1) := by decide +kernel
theorem dX12_isWord_14 : decode cX12_isWord 14 = .ok (.ifCond .ne 7, 3) := by decide +kernel
theorem dX12_isWord_17 : decode cX12_isWord 17 = .ok (.iconst 1, 1) := by decide +kernel
theorem dX12_isWord_18 : decode cX12_isWord 18 = .ok (.goto 4, 3) := by decide +kernel
theorem dX12_isWord_21 : decode cX12_isWord 21 = .ok (.iconst 0, 1) := by decide +kernel
theorem dX12_isWord_22 : decode cX12_isWord 22 = .ok (.ireturn, 1) := by decide +kernel
theorem dX12_isMark_0 : decode cX12_isMark 0 = .ok (.aload_n 0, 1) := by decide +kernel
theorem dX12_isMark_1 : decode cX12_isMark 1 = .ok (.getfield 132, 3) := by decide +kernel
theorem dX12_isMark_4 : decode cX12_isMark 4 = .ok (.iconst 3, 1) := by decide +kernel
theorem dX12_isMark_5 : decode cX12_isMark 5 = .ok (.if_icmp .ne 15, 3) := by decide +kernel
theorem dX12_isMark_8 : decode cX12_isMark 8 = .ok (.aload_n 0, 1) := by decide +kernel
theorem dX12_isMark_9 : decode cX12_isMark 9 = .ok (.getfield 139, 3) := by decide +kernel
theorem dX12_isMark_12 : decode cX12_isMark 12 = .ok (.iload_n 1, 1) := by decide +kernel
theorem dX12_isMark_13 : decode cX12_isMark 13 = .ok (.if_icmp .ne 7, 3) := by decide +kernel
theorem dX12_isMark_16 : decode cX12_isMark 16 = .ok (.iconst 1, 1) := by decide +kernel
theorem dX12_isMark_17 : decode cX12_isMark 17 = .ok (.goto 4, 3) := by decide +kernel
theorem dX12_isMark_20 : decode cX12_isMark 20 = .ok (.iconst 0, 1) := by decide +kernel
theorem dX12_isMark_21 : decode cX12_isMark 21 = .ok (.ireturn, 1) := by decide +kernel
theorem dX12_kindHere_0 : decode cX12_kindHere 0 = .ok (.aload_n 0, 1) := by decide +kernel
theorem dX12_kindHere_1 : decode cX12_kindHere 1 = .ok (.ldc2_w 148, 3) := by decide +kernel
theorem dX12_kindHere_4 : decode cX12_kindHere 4 = .ok (.invokevirtual 150, 3) := by decide +kernel
theorem dX12_kindHere_7 : decode cX12_kindHere 7 = .ok (.ifCond .eq 7, 3) := by decide +kernel
theorem dX12_kindHere_10 : decode cX12_kindHere 10 = .ok (.iconst 0, 1) := by decide +kernel
theorem dX12_kindHere_11 : decode cX12_kindHere 11 = .ok (.goto 74, 3) := by decide +kernel
theorem dX12_kindHere_14 : decode cX12_kindHere 14 = .ok (.aload_n 0, 1) := by decide +kernel
theorem dX12_kindHere_15 : decode cX12_kindHere 15 = .ok (.ldc2_w 154, 3) := by decide +kernel
theorem dX12_kindHere_18 : decode cX12_kindHere 18 = .ok (.invokevirtual 150, 3) := by decide +kernel
theorem dX12_kindHere_21 : decode cX12_kindHere 21 = .ok (.ifCond .eq 7, 3) := by decide +kernel
theorem dX12_kindHere_24 : decode cX12_kindHere 24 = .ok (.iconst 1, 1) := by decide +kernel
theorem dX12_kindHere_25 : decode cX12_kindHere 25 = .ok (.goto 60, 3) := by decide +kernel
theorem dX12_kindHere_28 : decode cX12_kindHere 28 = .ok (.aload_n 0, 1) := by decide +kernel
theorem dX12_kindHere_29 : decode cX12_kindHere 29 = .ok (.ldc2_w 156, 3) := by decide +kernel
theorem dX12_kindHere_32 : decode cX12_kindHere 32 = .ok (.invokevirtual 150, 3) := by decide +kernel
theorem dX12_kindHere_35 : decode cX12_kindHere 35 = .ok (.ifCond .eq 7, 3) := by decide +kernel
theorem dX12_kindHere_38 : decode cX12_kindHere 38 = .ok (.iconst 2, 1) := by decide +kernel
theorem dX12_kindHere_39 : decode cX12_kindHere 39 = .ok (.goto 46, 3) := by decide +kernel
theorem dX12_kindHere_42 : decode cX12_kindHere 42 = .ok (.aload_n 0, 1) := by decide +kernel
theorem dX12_kindHere_43 : decode cX12_kindHere 43 = .ok (.ldc2_w 158, 3) := by decide +kernel
theorem dX12_kindHere_46 : decode cX12_kindHere 46 = .ok (.invokevirtual 150, 3) := by decide +kernel
theorem dX12_kindHere_49 : decode cX12_kindHere 49 = .ok (.ifCond .eq 7, 3) := by decide +kernel
theorem dX12_kindHere_52 : decode cX12_kindHere 52 = .ok (.iconst 3, 1) := by decide +kernel
theorem dX12_kindHere_53 : decode cX12_kindHere 53 = .ok (.goto 32, 3) := by decide +kernel
theorem dX12_kindHere_56 : decode cX12_kindHere 56 = .ok (.aload_n 0, 1) := by decide +kernel
theorem dX12_kindHere_57 : decode cX12_kindHere 57 = .ok (.ldc2_w 160, 3) := by decide +kernel
theorem dX12_kindHere_60 : decode cX12_kindHere 60 = .ok (.invokevirtual 150, 3) := by decide +kernel
theorem dX12_kindHere_63 : decode cX12_kindHere 63 = .ok (.ifCond .eq 7, 3) := by decide +kernel
theorem dX12_kindHere_66 : decode cX12_kindHere 66 = .ok (.iconst 4, 1) := by decide +kernel
theorem dX12_kindHere_67 : decode cX12_kindHere 67 = .ok (.goto 18, 3) := by decide +kernel
theorem dX12_kindHere_70 : decode cX12_kindHere 70 = .ok (.aload_n 0, 1) := by decide +kernel
theorem dX12_kindHere_71 : decode cX12_kindHere 71 = .ok (.ldc2_w 162, 3) := by decide +kernel
theorem dX12_kindHere_74 : decode cX12_kindHere 74 = .ok (.invokevirtual 150, 3) := by decide +kernel
theorem dX12_kindHere_77 : decode cX12_kindHere 77 = .ok (.ifCond .eq 7, 3) := by decide +kernel
theorem dX12_kindHere_80 : decode cX12_kindHere 80 = .ok (.iconst 5, 1) := by decide +kernel
theorem dX12_kindHere_81 : decode cX12_kindHere 81 = .ok (.goto 4, 3) := by decide +kernel
theorem dX12_kindHere_84 : decode cX12_kindHere 84 = .ok (.iconst (-1), 1) := by decide +kernel
theorem dX12_kindHere_85 : decode cX12_kindHere 85 = .ok (.ireturn, 1) := by decide +kernel
theorem dX12_lawHere_0 : decode cX12_lawHere 0 = .ok (.aload_n 0, 1) := by decide +kernel
theorem dX12_lawHere_1 : decode cX12_lawHere 1 = .ok (.ldc2_w 164, 3) := by decide +kernel
theorem dX12_lawHere_4 : decode cX12_lawHere 4 = .ok (.invokevirtual 150, 3) := by decide +kernel
theorem dX12_lawHere_7 : decode cX12_lawHere 7 = .ok (.ifCond .eq 7, 3) := by decide +kernel
theorem dX12_lawHere_10 : decode cX12_lawHere 10 = .ok (.iconst 0, 1) := by decide +kernel
theorem dX12_lawHere_11 : decode cX12_lawHere 11 = .ok (.goto 32, 3) := by decide +kernel
theorem dX12_lawHere_14 : decode cX12_lawHere 14 = .ok (.aload_n 0, 1) := by decide +kernel
theorem dX12_lawHere_15 : decode cX12_lawHere 15 = .ok (.ldc2_w 166, 3) := by decide +kernel
theorem dX12_lawHere_18 : decode cX12_lawHere 18 = .ok (.invokevirtual 150, 3) := by decide +kernel
theorem dX12_lawHere_21 : decode cX12_lawHere 21 = .ok (.ifCond .eq 7, 3) := by decide +kernel
theorem dX12_lawHere_24 : decode cX12_lawHere 24 = .ok (.iconst 2, 1) := by decide +kernel
theorem dX12_lawHere_25 : decode cX12_lawHere 25 = .ok (.goto 18, 3) := by decide +kernel
theorem dX12_lawHere_28 : decode cX12_lawHere 28 = .ok (.aload_n 0, 1) := by decide +kernel
theorem dX12_lawHere_29 : decode cX12_lawHere 29 = .ok (.ldc2_w 168, 3) := by decide +kernel
theorem dX12_lawHere_32 : decode cX12_lawHere 32 = .ok (.invokevirtual 150, 3) := by decide +kernel
theorem dX12_lawHere_35 : decode cX12_lawHere 35 = .ok (.ifCond .eq 7, 3) := by decide +kernel
theorem dX12_lawHere_38 : decode cX12_lawHere 38 = .ok (.iconst 1, 1) := by decide +kernel
theorem dX12_lawHere_39 : decode cX12_lawHere 39 = .ok (.goto 4, 3) := by decide +kernel
theorem dX12_lawHere_42 : decode cX12_lawHere 42 = .ok (.iconst (-1), 1) := by decide +kernel
theorem dX12_lawHere_43 : decode cX12_lawHere 43 = .ok (.ireturn, 1) := by decide +kernel
theorem dX12_wantNumber_0 : decode cX12_wantNumber 0 = .ok (.aload_n 0, 1) := by decide +kernel
theorem dX12_wantNumber_1 : decode cX12_wantNumber 1 = .ok (.getfield 139, 3) := by decide +kernel
theorem dX12_wantNumber_4 : decode cX12_wantNumber 4 = .ok (.istore_n 3, 1) := by decide +kernel
theorem dX12_wantNumber_5 : decode cX12_wantNumber 5 = .ok (.aload_n 0, 1) := by decide +kernel
theorem dX12_wantNumber_6 : decode cX12_wantNumber 6 = .ok (.aload_n 0, 1) := by decide +kernel
theorem dX12_wantNumber_7 : decode cX12_wantNumber 7 = .ok (.getfield 170, 3) := by decide +kernel
theorem dX12_wantNumber_10 : decode cX12_wantNumber 10 = .ok (.ifCond .eq 24, 3) := by decide +kernel
theorem dX12_wantNumber_13 : decode cX12_wantNumber 13 = .ok (.aload_n 0, 1) := by decide +kernel
theorem dX12_wantNumber_14 : decode cX12_wantNumber 14 = .ok (.getfield 132, 3) := by decide +kernel
theorem dX12_wantNumber_17 : decode cX12_wantNumber 17 = .ok (.iconst 2, 1) := by decide +kernel
theorem dX12_wantNumber_18 : decode cX12_wantNumber 18 = .ok (.if_icmp .ne 16, 3) := by decide +kernel
theorem dX12_wantNumber_21 : decode cX12_wantNumber 21 = .ok (.iload_n 3, 1) := by decide +kernel
theorem dX12_wantNumber_22 : decode cX12_wantNumber 22 = .ok (.iload_n 1, 1) := by decide +kernel
theorem dX12_wantNumber_23 : decode cX12_wantNumber 23 = .ok (.iload_n 2, 1) := by decide +kernel
theorem dX12_wantNumber_24 : decode cX12_wantNumber 24 = .ok (.invokestatic 99, 3) := by decide +kernel
theorem dX12_wantNumber_27 : decode cX12_wantNumber 27 = .ok (.ifCond .eq 7, 3) := by decide +kernel
theorem dX12_wantNumber_30 : decode cX12_wantNumber 30 = .ok (.iconst 1, 1) := by decide +kernel
theorem dX12_wantNumber_31 : decode cX12_wantNumber 31 = .ok (.goto 4, 3) := by decide +kernel
theorem dX12_wantNumber_34 : decode cX12_wantNumber 34 = .ok (.iconst 0, 1) := by decide +kernel
theorem dX12_wantNumber_35 : decode cX12_wantNumber 35 = .ok (.putfield 170, 3) := by decide +kernel
theorem dX12_wantNumber_38 : decode cX12_wantNumber 38 = .ok (.aload_n 0, 1) := by decide +kernel
theorem dX12_wantNumber_39 : decode cX12_wantNumber 39 = .ok (.getfield 170, 3) := by decide +kernel
theorem dX12_wantNumber_42 : decode cX12_wantNumber 42 = .ok (.ifCond .eq 7, 3) := by decide +kernel
theorem dX12_wantNumber_45 : decode cX12_wantNumber 45 = .ok (.aload_n 0, 1) := by decide +kernel
theorem dX12_wantNumber_46 : decode cX12_wantNumber 46 = .ok (.invokevirtual 174, 3) := by decide +kernel
theorem dX12_wantNumber_49 : decode cX12_wantNumber 49 = .ok (.iload_n 3, 1) := by decide +kernel
theorem dX12_wantNumber_50 : decode cX12_wantNumber 50 = .ok (.ireturn, 1) := by decide +kernel
theorem dX12_wantWord_0 : decode cX12_wantWord 0 = .ok (.aload_n 0, 1) := by decide +kernel
theorem dX12_wantWord_1 : decode cX12_wantWord 1 = .ok (.aload_n 0, 1) := by decide +kernel
theorem dX12_wantWord_2 : decode cX12_wantWord 2 = .ok (.getfield 170, 3) := by decide +kernel
theorem dX12_wantWord_5 : decode cX12_wantWord 5 = .ok (.ifCond .eq 15, 3) := by decide +kernel
theorem dX12_wantWord_8 : decode cX12_wantWord 8 = .ok (.aload_n 0, 1) := by decide +kernel
theorem dX12_wantWord_9 : decode cX12_wantWord 9 = .ok (.lload_n 1, 1) := by decide +kernel
theorem dX12_wantWord_10 : decode cX12_wantWord 10 = .ok (.invokevirtual 150, 3) := by decide +kernel
theorem dX12_wantWord_13 : decode cX12_wantWord 13 = .ok (.ifCond .eq 7, 3) := by decide +kernel
theorem dX12_wantWord_16 : decode cX12_wantWord 16 = .ok (.iconst 1, 1) := by decide +kernel
theorem dX12_wantWord_17 : decode cX12_wantWord 17 = .ok (.goto 4, 3) := by decide +kernel
theorem dX12_wantWord_20 : decode cX12_wantWord 20 = .ok (.iconst 0, 1) := by decide +kernel
theorem dX12_wantWord_21 : decode cX12_wantWord 21 = .ok (.putfield 170, 3) := by decide +kernel
theorem dX12_wantWord_24 : decode cX12_wantWord 24 = .ok (.aload_n 0, 1) := by decide +kernel
theorem dX12_wantWord_25 : decode cX12_wantWord 25 = .ok (.getfield 170, 3) := by decide +kernel
theorem dX12_wantWord_28 : decode cX12_wantWord 28 = .ok (.ifCond .eq 7, 3) := by decide +kernel
theorem dX12_wantWord_31 : decode cX12_wantWord 31 = .ok (.aload_n 0, 1) := by decide +kernel
theorem dX12_wantWord_32 : decode cX12_wantWord 32 = .ok (.invokevirtual 174, 3) := by decide +kernel
theorem dX12_wantWord_35 : decode cX12_wantWord 35 = .ok (.return_, 1) := by decide +kernel
theorem dX12_wantEnd_0 : decode cX12_wantEnd 0 = .ok (.aload_n 0, 1) := by decide +kernel
theorem dX12_wantEnd_1 : decode cX12_wantEnd 1 = .ok (.aload_n 0, 1) := by decide +kernel
theorem dX12_wantEnd_2 : decode cX12_wantEnd 2 = .ok (.getfield 170, 3) := by decide +kernel
theorem dX12_wantEnd_5 : decode cX12_wantEnd 5 = .ok (.ifCond .eq 16, 3) := by decide +kernel
theorem dX12_wantEnd_8 : decode cX12_wantEnd 8 = .ok (.aload_n 0, 1) := by decide +kernel
theorem dX12_wantEnd_9 : decode cX12_wantEnd 9 = .ok (.bipush 59, 2) := by decide +kernel
theorem dX12_wantEnd_11 : decode cX12_wantEnd 11 = .ok (.invokevirtual 177, 3) := by decide +kernel
theorem dX12_wantEnd_14 : decode cX12_wantEnd 14 = .ok (.ifCond .eq 7, 3) := by decide +kernel
theorem dX12_wantEnd_17 : decode cX12_wantEnd 17 = .ok (.iconst 1, 1) := by decide +kernel
theorem dX12_wantEnd_18 : decode cX12_wantEnd 18 = .ok (.goto 4, 3) := by decide +kernel
theorem dX12_wantEnd_21 : decode cX12_wantEnd 21 = .ok (.iconst 0, 1) := by decide +kernel
theorem dX12_wantEnd_22 : decode cX12_wantEnd 22 = .ok (.putfield 170, 3) := by decide +kernel
theorem dX12_wantEnd_25 : decode cX12_wantEnd 25 = .ok (.aload_n 0, 1) := by decide +kernel
theorem dX12_wantEnd_26 : decode cX12_wantEnd 26 = .ok (.getfield 170, 3) := by decide +kernel
theorem dX12_wantEnd_29 : decode cX12_wantEnd 29 = .ok (.ifCond .eq 7, 3) := by decide +kernel
theorem dX12_wantEnd_32 : decode cX12_wantEnd 32 = .ok (.aload_n 0, 1) := by decide +kernel
theorem dX12_wantEnd_33 : decode cX12_wantEnd 33 = .ok (.invokevirtual 174, 3) := by decide +kernel
theorem dX12_wantEnd_36 : decode cX12_wantEnd 36 = .ok (.return_, 1) := by decide +kernel
theorem dX12_wantJob_0 : decode cX12_wantJob 0 = .ok (.aload_n 0, 1) := by decide +kernel
theorem dX12_wantJob_1 : decode cX12_wantJob 1 = .ok (.aload_n 0, 1) := by decide +kernel
theorem dX12_wantJob_2 : decode cX12_wantJob 2 = .ok (.getfield 180, 3) := by decide +kernel
theorem dX12_wantJob_5 : decode cX12_wantJob 5 = .ok (.bipush 6, 2) := by decide +kernel
theorem dX12_wantJob_7 : decode cX12_wantJob 7 = .ok (.if_icmp .ge 7, 3) := by decide +kernel
theorem dX12_wantJob_10 : decode cX12_wantJob 10 = .ok (.iconst 1, 1) := by decide +kernel
theorem dX12_wantJob_11 : decode cX12_wantJob 11 = .ok (.goto 4, 3) := by decide +kernel
theorem dX12_wantJob_14 : decode cX12_wantJob 14 = .ok (.iconst 0, 1) := by decide +kernel
theorem dX12_wantJob_15 : decode cX12_wantJob 15 = .ok (.putfield 170, 3) := by decide +kernel
theorem dX12_wantJob_18 : decode cX12_wantJob 18 = .ok (.aload_n 0, 1) := by decide +kernel
theorem dX12_wantJob_19 : decode cX12_wantJob 19 = .ok (.getfield 170, 3) := by decide +kernel
theorem dX12_wantJob_22 : decode cX12_wantJob 22 = .ok (.ifCond .eq 15, 3) := by decide +kernel
theorem dX12_wantJob_25 : decode cX12_wantJob 25 = .ok (.aload_n 0, 1) := by decide +kernel
theorem dX12_wantJob_26 : decode cX12_wantJob 26 = .ok (.getfield 132, 3) := by decide +kernel
theorem dX12_wantJob_29 : decode cX12_wantJob 29 = .ok (.iconst 1, 1) := by decide +kernel
theorem dX12_wantJob_30 : decode cX12_wantJob 30 = .ok (.if_icmp .ne 7, 3) := by decide +kernel
theorem dX12_wantJob_33 : decode cX12_wantJob 33 = .ok (.aload_n 0, 1) := by decide +kernel
theorem dX12_wantJob_34 : decode cX12_wantJob 34 = .ok (.invokevirtual 174, 3) := by decide +kernel
theorem dX12_wantJob_37 : decode cX12_wantJob 37 = .ok (.aload_n 0, 1) := by decide +kernel
theorem dX12_wantJob_38 : decode cX12_wantJob 38 = .ok (.iconst 1, 1) := by decide +kernel
theorem dX12_wantJob_39 : decode cX12_wantJob 39 = .ok (.bipush 9, 2) := by decide +kernel
theorem dX12_wantJob_41 : decode cX12_wantJob 41 = .ok (.invokevirtual 183, 3) := by decide +kernel
theorem dX12_wantJob_44 : decode cX12_wantJob 44 = .ok (.istore_n 2, 1) := by decide +kernel
theorem dX12_wantJob_45 : decode cX12_wantJob 45 = .ok (.aload_n 0, 1) := by decide +kernel
theorem dX12_wantJob_46 : decode cX12_wantJob 46 = .ok (.getfield 170, 3) := by decide +kernel
theorem dX12_wantJob_49 : decode cX12_wantJob 49 = .ok (.ifCond .eq 17, 3) := by decide +kernel
theorem dX12_wantJob_52 : decode cX12_wantJob 52 = .ok (.aload_n 0, 1) := by decide +kernel
theorem dX12_wantJob_53 : decode cX12_wantJob 53 = .ok (.ldc2_w 186, 3) := by decide +kernel
theorem dX12_wantJob_56 : decode cX12_wantJob 56 = .ok (.invokevirtual 150, 3) := by decide +kernel
theorem dX12_wantJob_59 : decode cX12_wantJob 59 = .ok (.ifCond .eq 7, 3) := by decide +kernel
theorem dX12_wantJob_62 : decode cX12_wantJob 62 = .ok (.iconst 1, 1) := by decide +kernel
theorem dX12_wantJob_63 : decode cX12_wantJob 63 = .ok (.goto 4, 3) := by decide +kernel
theorem dX12_wantJob_66 : decode cX12_wantJob 66 = .ok (.iconst 0, 1) := by decide +kernel
theorem dX12_wantJob_67 : decode cX12_wantJob 67 = .ok (.istore_n 3, 1) := by decide +kernel
theorem dX12_wantJob_68 : decode cX12_wantJob 68 = .ok (.iload_n 3, 1) := by decide +kernel
theorem dX12_wantJob_69 : decode cX12_wantJob 69 = .ok (.ifCond .eq 7, 3) := by decide +kernel
theorem dX12_wantJob_72 : decode cX12_wantJob 72 = .ok (.aload_n 0, 1) := by decide +kernel
theorem dX12_wantJob_73 : decode cX12_wantJob 73 = .ok (.invokevirtual 174, 3) := by decide +kernel
theorem dX12_wantJob_76 : decode cX12_wantJob 76 = .ok (.aload_n 0, 1) := by decide +kernel
theorem dX12_wantJob_77 : decode cX12_wantJob 77 = .ok (.ldc2_w 188, 3) := by decide +kernel
theorem dX12_wantJob_80 : decode cX12_wantJob 80 = .ok (.invokevirtual 190, 3) := by decide +kernel
theorem dX12_wantJob_83 : decode cX12_wantJob 83 = .ok (.aload_n 0, 1) := by decide +kernel
theorem dX12_wantJob_84 : decode cX12_wantJob 84 = .ok (.iconst 0, 1) := by decide +kernel
theorem dX12_wantJob_85 : decode cX12_wantJob 85 = .ok (.bipush 60, 2) := by decide +kernel
theorem dX12_wantJob_87 : decode cX12_wantJob 87 = .ok (.invokevirtual 183, 3) := by decide +kernel
theorem dX12_wantJob_90 : decode cX12_wantJob 90 = .ok (.istore 4, 2) := by decide +kernel
theorem dX12_wantJob_92 : decode cX12_wantJob 92 = .ok (.aload_n 0, 1) := by decide +kernel
theorem dX12_wantJob_93 : decode cX12_wantJob 93 = .ok (.ldc2_w 194, 3) := by decide +kernel
theorem dX12_wantJob_96 : decode cX12_wantJob 96 = .ok (.invokevirtual 190, 3) := by decide +kernel
theorem dX12_wantJob_99 : decode cX12_wantJob 99 = .ok (.aload_n 0, 1) := by decide +kernel
theorem dX12_wantJob_100 : decode cX12_wantJob 100 = .ok (.iconst 0, 1) := by decide +kernel
theorem dX12_wantJob_101 : decode cX12_wantJob 101 = .ok (.bipush 99, 2) := by decide +kernel
theorem dX12_wantJob_103 : decode cX12_wantJob 103 = .ok (.invokevirtual 183, 3) := by decide +kernel
theorem dX12_wantJob_106 : decode cX12_wantJob 106 = .ok (.istore 5, 2) := by decide +kernel
theorem dX12_wantJob_108 : decode cX12_wantJob 108 = .ok (.aload_n 0, 1) := by decide +kernel
theorem dX12_wantJob_109 : decode cX12_wantJob 109 = .ok (.invokevirtual 196, 3) := by decide +kernel
theorem dX12_wantJob_112 : decode cX12_wantJob 112 = .ok (.aload_n 0, 1) := by decide +kernel
theorem dX12_wantJob_113 : decode cX12_wantJob 113 = .ok (.getfield 170, 3) := by decide +kernel
theorem dX12_wantJob_116 : decode cX12_wantJob 116 = .ok (.ifCond .eq 79, 3) := by decide +kernel
theorem dX12_wantJob_119 : decode cX12_wantJob 119 = .ok (.iconst 5, 1) := by decide +kernel
theorem dX12_wantJob_120 : decode cX12_wantJob 120 = .ok (.aload_n 0, 1) := by decide +kernel
theorem dX12_wantJob_121 : decode cX12_wantJob 121 = .ok (.getfield 180, 3) := by decide +kernel
theorem dX12_wantJob_124 : decode cX12_wantJob 124 = .ok (.imul, 1) := by decide +kernel
theorem dX12_wantJob_125 : decode cX12_wantJob 125 = .ok (.istore 6, 2) := by decide +kernel
theorem dX12_wantJob_127 : decode cX12_wantJob 127 = .ok (.aload_n 0, 1) := by decide +kernel
theorem dX12_wantJob_128 : decode cX12_wantJob 128 = .ok (.getfield 41, 3) := by decide +kernel
theorem dX12_wantJob_131 : decode cX12_wantJob 131 = .ok (.iload 6, 2) := by decide +kernel
theorem dX12_wantJob_133 : decode cX12_wantJob 133 = .ok (.iload_n 1, 1) := by decide +kernel
theorem dX12_wantJob_134 : decode cX12_wantJob 134 = .ok (.iastore, 1) := by decide +kernel
theorem dX12_wantJob_135 : decode cX12_wantJob 135 = .ok (.aload_n 0, 1) := by decide +kernel
theorem dX12_wantJob_136 : decode cX12_wantJob 136 = .ok (.getfield 41, 3) := by decide +kernel
theorem dX12_wantJob_139 : decode cX12_wantJob 139 = .ok (.iload 6, 2) := by decide +kernel
theorem dX12_wantJob_141 : decode cX12_wantJob 141 = .ok (.iconst 1, 1) := by decide +kernel
theorem dX12_wantJob_142 : decode cX12_wantJob 142 = .ok (.iadd, 1) := by decide +kernel
theorem dX12_wantJob_143 : decode cX12_wantJob 143 = .ok (.iload_n 2, 1) := by decide +kernel
theorem dX12_wantJob_144 : decode cX12_wantJob 144 = .ok (.iastore, 1) := by decide +kernel
theorem dX12_wantJob_145 : decode cX12_wantJob 145 = .ok (.aload_n 0, 1) := by decide +kernel
theorem dX12_wantJob_146 : decode cX12_wantJob 146 = .ok (.getfield 41, 3) := by decide +kernel
theorem dX12_wantJob_149 : decode cX12_wantJob 149 = .ok (.iload 6, 2) := by decide +kernel
theorem dX12_wantJob_151 : decode cX12_wantJob 151 = .ok (.iconst 2, 1) := by decide +kernel
theorem dX12_wantJob_152 : decode cX12_wantJob 152 = .ok (.iadd, 1) := by decide +kernel
theorem dX12_wantJob_153 : decode cX12_wantJob 153 = .ok (.iload_n 3, 1) := by decide +kernel
theorem dX12_wantJob_154 : decode cX12_wantJob 154 = .ok (.ifCond .eq 7, 3) := by decide +kernel
theorem dX12_wantJob_157 : decode cX12_wantJob 157 = .ok (.iconst 1, 1) := by decide +kernel
theorem dX12_wantJob_158 : decode cX12_wantJob 158 = .ok (.goto 4, 3) := by decide +kernel
theorem dX12_wantJob_161 : decode cX12_wantJob 161 = .ok (.iconst 0, 1) := by decide +kernel
theorem dX12_wantJob_162 : decode cX12_wantJob 162 = .ok (.iastore, 1) := by decide +kernel
theorem dX12_wantJob_163 : decode cX12_wantJob 163 = .ok (.aload_n 0, 1) := by decide +kernel
theorem dX12_wantJob_164 : decode cX12_wantJob 164 = .ok (.getfield 41, 3) := by decide +kernel
theorem dX12_wantJob_167 : decode cX12_wantJob 167 = .ok (.iload 6, 2) := by decide +kernel
theorem dX12_wantJob_169 : decode cX12_wantJob 169 = .ok (.iconst 3, 1) := by decide +kernel
theorem dX12_wantJob_170 : decode cX12_wantJob 170 = .ok (.iadd, 1) := by decide +kernel
theorem dX12_wantJob_171 : decode cX12_wantJob 171 = .ok (.iload 4, 2) := by decide +kernel
theorem dX12_wantJob_173 : decode cX12_wantJob 173 = .ok (.iastore, 1) := by decide +kernel
theorem dX12_wantJob_174 : decode cX12_wantJob 174 = .ok (.aload_n 0, 1) := by decide +kernel
theorem dX12_wantJob_175 : decode cX12_wantJob 175 = .ok (.getfield 41, 3) := by decide +kernel
theorem dX12_wantJob_178 : decode cX12_wantJob 178 = .ok (.iload 6, 2) := by decide +kernel
theorem dX12_wantJob_180 : decode cX12_wantJob 180 = .ok (.iconst 4, 1) := by decide +kernel
theorem dX12_wantJob_181 : decode cX12_wantJob 181 = .ok (.iadd, 1) := by decide +kernel
theorem dX12_wantJob_182 : decode cX12_wantJob 182 = .ok (.iload 5, 2) := by decide +kernel
theorem dX12_wantJob_184 : decode cX12_wantJob 184 = .ok (.iastore, 1) := by decide +kernel
theorem dX12_wantJob_185 : decode cX12_wantJob 185 = .ok (.aload_n 0, 1) := by decide +kernel
theorem dX12_wantJob_186 : decode cX12_wantJob 186 = .ok (.dup, 1) := by decide +kernel
theorem dX12_wantJob_187 : decode cX12_wantJob 187 = .ok (.getfield 180, 3) := by decide +kernel
theorem dX12_wantJob_190 : decode cX12_wantJob 190 = .ok (.iconst 1, 1) := by decide +kernel
theorem dX12_wantJob_191 : decode cX12_wantJob 191 = .ok (.iadd, 1) := by decide +kernel
theorem dX12_wantJob_192 : decode cX12_wantJob 192 = .ok (.putfield 180, 3) := by decide +kernel
theorem dX12_wantJob_195 : decode cX12_wantJob 195 = .ok (.return_, 1) := by decide +kernel
theorem dX12_wantLaw_0 : decode cX12_wantLaw 0 = .ok (.aload_n 0, 1) := by decide +kernel
theorem dX12_wantLaw_1 : decode cX12_wantLaw 1 = .ok (.invokevirtual 174, 3) := by decide +kernel
theorem dX12_wantLaw_4 : decode cX12_wantLaw 4 = .ok (.aload_n 0, 1) := by decide +kernel
theorem dX12_wantLaw_5 : decode cX12_wantLaw 5 = .ok (.aload_n 0, 1) := by decide +kernel
theorem dX12_wantLaw_6 : decode cX12_wantLaw 6 = .ok (.getfield 16, 3) := by decide +kernel
theorem dX12_wantLaw_9 : decode cX12_wantLaw 9 = .ok (.iload_n 1, 1) := by decide +kernel
theorem dX12_wantLaw_10 : decode cX12_wantLaw 10 = .ok (.iaload, 1) := by decide +kernel
theorem dX12_wantLaw_11 : decode cX12_wantLaw 11 = .ok (.aload_n 0, 1) := by decide +kernel
theorem dX12_wantLaw_12 : decode cX12_wantLaw 12 = .ok (.getfield 19, 3) := by decide +kernel
theorem dX12_wantLaw_15 : decode cX12_wantLaw 15 = .ok (.iload_n 1, 1) := by decide +kernel
theorem dX12_wantLaw_16 : decode cX12_wantLaw 16 = .ok (.iaload, 1) := by decide +kernel
theorem dX12_wantLaw_17 : decode cX12_wantLaw 17 = .ok (.invokevirtual 183, 3) := by decide +kernel
theorem dX12_wantLaw_20 : decode cX12_wantLaw 20 = .ok (.istore_n 2, 1) := by decide +kernel
theorem dX12_wantLaw_21 : decode cX12_wantLaw 21 = .ok (.aload_n 0, 1) := by decide +kernel
theorem dX12_wantLaw_22 : decode cX12_wantLaw 22 = .ok (.invokevirtual 196, 3) := by decide +kernel
theorem dX12_wantLaw_25 : decode cX12_wantLaw 25 = .ok (.aload_n 0, 1) := by decide +kernel
theorem dX12_wantLaw_26 : decode cX12_wantLaw 26 = .ok (.getfield 44, 3) := by decide +kernel
theorem dX12_wantLaw_29 : decode cX12_wantLaw 29 = .ok (.iload_n 1, 1) := by decide +kernel
theorem dX12_wantLaw_30 : decode cX12_wantLaw 30 = .ok (.aload_n 0, 1) := by decide +kernel
theorem dX12_wantLaw_31 : decode cX12_wantLaw 31 = .ok (.getfield 170, 3) := by decide +kernel
theorem dX12_wantLaw_34 : decode cX12_wantLaw 34 = .ok (.ifCond .eq 7, 3) := by decide +kernel
theorem dX12_wantLaw_37 : decode cX12_wantLaw 37 = .ok (.iload_n 2, 1) := by decide +kernel
theorem dX12_wantLaw_38 : decode cX12_wantLaw 38 = .ok (.goto 9, 3) := by decide +kernel
theorem dX12_wantLaw_41 : decode cX12_wantLaw 41 = .ok (.aload_n 0, 1) := by decide +kernel
theorem dX12_wantLaw_42 : decode cX12_wantLaw 42 = .ok (.getfield 44, 3) := by decide +kernel
theorem dX12_wantLaw_45 : decode cX12_wantLaw 45 = .ok (.iload_n 1, 1) := by decide +kernel
theorem dX12_wantLaw_46 : decode cX12_wantLaw 46 = .ok (.iaload, 1) := by decide +kernel
theorem dX12_wantLaw_47 : decode cX12_wantLaw 47 = .ok (.iastore, 1) := by decide +kernel
theorem dX12_wantLaw_48 : decode cX12_wantLaw 48 = .ok (.return_, 1) := by decide +kernel
theorem dX12_board_0 : decode cX12_board 0 = .ok (.aload_n 0, 1) := by decide +kernel
theorem dX12_board_1 : decode cX12_board 1 = .ok (.iconst 0, 1) := by decide +kernel
theorem dX12_board_2 : decode cX12_board 2 = .ok (.putfield 116, 3) := by decide +kernel
theorem dX12_board_5 : decode cX12_board 5 = .ok (.aload_n 0, 1) := by decide +kernel
theorem dX12_board_6 : decode cX12_board 6 = .ok (.iconst 1, 1) := by decide +kernel
theorem dX12_board_7 : decode cX12_board 7 = .ok (.putfield 170, 3) := by decide +kernel
theorem dX12_board_10 : decode cX12_board 10 = .ok (.aload_n 0, 1) := by decide +kernel
theorem dX12_board_11 : decode cX12_board 11 = .ok (.iconst 0, 1) := by decide +kernel
theorem dX12_board_12 : decode cX12_board 12 = .ok (.putfield 180, 3) := by decide +kernel
theorem dX12_board_15 : decode cX12_board 15 = .ok (.iconst 0, 1) := by decide +kernel
theorem dX12_board_16 : decode cX12_board 16 = .ok (.istore_n 1, 1) := by decide +kernel
theorem dX12_board_17 : decode cX12_board 17 = .ok (.iload_n 1, 1) := by decide +kernel
theorem dX12_board_18 : decode cX12_board 18 = .ok (.iconst 4, 1) := by decide +kernel
theorem dX12_board_19 : decode cX12_board 19 = .ok (.if_icmp .ge 21, 3) := by decide +kernel
theorem dX12_board_22 : decode cX12_board 22 = .ok (.aload_n 0, 1) := by decide +kernel
theorem dX12_board_23 : decode cX12_board 23 = .ok (.getfield 44, 3) := by decide +kernel
theorem dX12_board_26 : decode cX12_board 26 = .ok (.iload_n 1, 1) := by decide +kernel
theorem dX12_board_27 : decode cX12_board 27 = .ok (.aload_n 0, 1) := by decide +kernel
theorem dX12_board_28 : decode cX12_board 28 = .ok (.getfield 13, 3) := by decide +kernel
theorem dX12_board_31 : decode cX12_board 31 = .ok (.iload_n 1, 1) := by decide +kernel
theorem dX12_board_32 : decode cX12_board 32 = .ok (.iaload, 1) := by decide +kernel
theorem dX12_board_33 : decode cX12_board 33 = .ok (.iastore, 1) := by decide +kernel
theorem dX12_board_34 : decode cX12_board 34 = .ok (.iinc 1 1, 3) := by decide +kernel
theorem dX12_board_37 : decode cX12_board 37 = .ok (.goto (-20), 3) := by decide +kernel
theorem dX12_board_40 : decode cX12_board 40 = .ok (.aload_n 0, 1) := by decide +kernel
theorem dX12_board_41 : decode cX12_board 41 = .ok (.invokevirtual 174, 3) := by decide +kernel
theorem dX12_board_44 : decode cX12_board 44 = .ok (.aload_n 0, 1) := by decide +kernel
theorem dX12_board_45 : decode cX12_board 45 = .ok (.getfield 170, 3) := by decide +kernel
theorem dX12_board_48 : decode cX12_board 48 = .ok (.ifCond .eq 74, 3) := by decide +kernel
theorem dX12_board_51 : decode cX12_board 51 = .ok (.aload_n 0, 1) := by decide +kernel
theorem dX12_board_52 : decode cX12_board 52 = .ok (.getfield 132, 3) := by decide +kernel
theorem dX12_board_55 : decode cX12_board 55 = .ok (.ifCond .eq 67, 3) := by decide +kernel
theorem dX12_board_58 : decode cX12_board 58 = .ok (.aload_n 0, 1) := by decide +kernel
theorem dX12_board_59 : decode cX12_board 59 = .ok (.invokevirtual 199, 3) := by decide +kernel
theorem dX12_board_62 : decode cX12_board 62 = .ok (.ifCond .ge 11, 3) := by decide +kernel
theorem dX12_board_65 : decode cX12_board 65 = .ok (.aload_n 0, 1) := by decide +kernel
theorem dX12_board_66 : decode cX12_board 66 = .ok (.getfield 132, 3) := by decide +kernel
theorem dX12_board_69 : decode cX12_board 69 = .ok (.iconst 2, 1) := by decide +kernel
theorem dX12_board_70 : decode cX12_board 70 = .ok (.if_icmp .ne 26, 3) := by decide +kernel
theorem dX12_board_73 : decode cX12_board 73 = .ok (.aload_n 0, 1) := by decide +kernel
theorem dX12_board_74 : decode cX12_board 74 = .ok (.aload_n 0, 1) := by decide +kernel
theorem dX12_board_75 : decode cX12_board 75 = .ok (.getfield 132, 3) := by decide +kernel
theorem dX12_board_78 : decode cX12_board 78 = .ok (.iconst 2, 1) := by decide +kernel
theorem dX12_board_79 : decode cX12_board 79 = .ok (.if_icmp .ne 7, 3) := by decide +kernel
theorem dX12_board_82 : decode cX12_board 82 = .ok (.iconst 0, 1) := by decide +kernel
theorem dX12_board_83 : decode cX12_board 83 = .ok (.goto 7, 3) := by decide +kernel
theorem dX12_board_86 : decode cX12_board 86 = .ok (.aload_n 0, 1) := by decide +kernel
theorem dX12_board_87 : decode cX12_board 87 = .ok (.invokevirtual 199, 3) := by decide +kernel
theorem dX12_board_90 : decode cX12_board 90 = .ok (.invokevirtual 203, 3) := by decide +kernel
theorem dX12_board_93 : decode cX12_board 93 = .ok (.goto (-49), 3) := by decide +kernel
theorem dX12_board_96 : decode cX12_board 96 = .ok (.aload_n 0, 1) := by decide +kernel
theorem dX12_board_97 : decode cX12_board 97 = .ok (.invokevirtual 207, 3) := by decide +kernel
theorem dX12_board_100 : decode cX12_board 100 = .ok (.ifCond .lt 14, 3) := by decide +kernel
theorem dX12_board_103 : decode cX12_board 103 = .ok (.aload_n 0, 1) := by decide +kernel
theorem dX12_board_104 : decode cX12_board 104 = .ok (.aload_n 0, 1) := by decide +kernel
theorem dX12_board_105 : decode cX12_board 105 = .ok (.invokevirtual 207, 3) := by decide +kernel
theorem dX12_board_108 : decode cX12_board 108 = .ok (.invokevirtual 210, 3) := by decide +kernel
theorem dX12_board_111 : decode cX12_board 111 = .ok (.goto (-67), 3) := by decide +kernel
theorem dX12_board_114 : decode cX12_board 114 = .ok (.aload_n 0, 1) := by decide +kernel
theorem dX12_board_115 : decode cX12_board 115 = .ok (.iconst 0, 1) := by decide +kernel
theorem dX12_board_116 : decode cX12_board 116 = .ok (.putfield 170, 3) := by decide +kernel
theorem dX12_board_119 : decode cX12_board 119 = .ok (.goto (-75), 3) := by decide +kernel
theorem dX12_board_122 : decode cX12_board 122 = .ok (.aload_n 0, 1) := by decide +kernel
theorem dX12_board_123 : decode cX12_board 123 = .ok (.iconst 0, 1) := by decide +kernel
theorem dX12_board_124 : decode cX12_board 124 = .ok (.putfield 111, 3) := by decide +kernel
theorem dX12_board_127 : decode cX12_board 127 = .ok (.aload_n 0, 1) := by decide +kernel
theorem dX12_board_128 : decode cX12_board 128 = .ok (.getfield 170, 3) := by decide +kernel
theorem dX12_board_131 : decode cX12_board 131 = .ok (.ifCond .ne 11, 3) := by decide +kernel
theorem dX12_board_134 : decode cX12_board 134 = .ok (.bipush (-100), 2) := by decide +kernel
theorem dX12_board_136 : decode cX12_board 136 = .ok (.aload_n 0, 1) := by decide +kernel
theorem dX12_board_137 : decode cX12_board 137 = .ok (.getfield 119, 3) := by decide +kernel
theorem dX12_board_140 : decode cX12_board 140 = .ok (.isub, 1) := by decide +kernel
theorem dX12_board_141 : decode cX12_board 141 = .ok (.ireturn, 1) := by decide +kernel
theorem dX12_board_142 : decode cX12_board 142 = .ok (.aload_n 0, 1) := by decide +kernel
theorem dX12_board_143 : decode cX12_board 143 = .ok (.aload_n 0, 1) := by decide +kernel
theorem dX12_board_144 : decode cX12_board 144 = .ok (.getfield 180, 3) := by decide +kernel
theorem dX12_board_147 : decode cX12_board 147 = .ok (.putfield 96, 3) := by decide +kernel
theorem dX12_board_150 : decode cX12_board 150 = .ok (.iconst 0, 1) := by decide +kernel
theorem dX12_board_151 : decode cX12_board 151 = .ok (.istore_n 1, 1) := by decide +kernel
theorem dX12_board_152 : decode cX12_board 152 = .ok (.iload_n 1, 1) := by decide +kernel
theorem dX12_board_153 : decode cX12_board 153 = .ok (.aload_n 0, 1) := by decide +kernel
theorem dX12_board_154 : decode cX12_board 154 = .ok (.getfield 96, 3) := by decide +kernel
theorem dX12_board_157 : decode cX12_board 157 = .ok (.if_icmp .ge 63, 3) := by decide +kernel
theorem dX12_board_160 : decode cX12_board 160 = .ok (.iconst 5, 1) := by decide +kernel
theorem dX12_board_161 : decode cX12_board 161 = .ok (.iload_n 1, 1) := by decide +kernel
theorem dX12_board_162 : decode cX12_board 162 = .ok (.imul, 1) := by decide +kernel
theorem dX12_board_163 : decode cX12_board 163 = .ok (.istore_n 2, 1) := by decide +kernel
theorem dX12_board_164 : decode cX12_board 164 = .ok (.aload_n 0, 1) := by decide +kernel
theorem dX12_board_165 : decode cX12_board 165 = .ok (.iload_n 1, 1) := by decide +kernel
theorem dX12_board_166 : decode cX12_board 166 = .ok (.aload_n 0, 1) := by decide +kernel
theorem dX12_board_167 : decode cX12_board 167 = .ok (.getfield 41, 3) := by decide +kernel
theorem dX12_board_170 : decode cX12_board 170 = .ok (.iload_n 2, 1) := by decide +kernel
theorem dX12_board_171 : decode cX12_board 171 = .ok (.iaload, 1) := by decide +kernel
theorem dX12_board_172 : decode cX12_board 172 = .ok (.aload_n 0, 1) := by decide +kernel
theorem dX12_board_173 : decode cX12_board 173 = .ok (.getfield 41, 3) := by decide +kernel
theorem dX12_board_176 : decode cX12_board 176 = .ok (.iload_n 2, 1) := by decide +kernel
theorem dX12_board_177 : decode cX12_board 177 = .ok (.iconst 1, 1) := by decide +kernel
theorem dX12_board_178 : decode cX12_board 178 = .ok (.iadd, 1) := by decide +kernel
theorem dX12_board_179 : decode cX12_board 179 = .ok (.iaload, 1) := by decide +kernel
theorem dX12_board_180 : decode cX12_board 180 = .ok (.aload_n 0, 1) := by decide +kernel
theorem dX12_board_181 : decode cX12_board 181 = .ok (.getfield 41, 3) := by decide +kernel
theorem dX12_board_184 : decode cX12_board 184 = .ok (.iload_n 2, 1) := by decide +kernel
theorem dX12_board_185 : decode cX12_board 185 = .ok (.iconst 2, 1) := by decide +kernel
theorem dX12_board_186 : decode cX12_board 186 = .ok (.iadd, 1) := by decide +kernel
theorem dX12_board_187 : decode cX12_board 187 = .ok (.iaload, 1) := by decide +kernel
theorem dX12_board_188 : decode cX12_board 188 = .ok (.aload_n 0, 1) := by decide +kernel
theorem dX12_board_189 : decode cX12_board 189 = .ok (.getfield 41, 3) := by decide +kernel
theorem dX12_board_192 : decode cX12_board 192 = .ok (.iload_n 2, 1) := by decide +kernel
theorem dX12_board_193 : decode cX12_board 193 = .ok (.iconst 3, 1) := by decide +kernel
theorem dX12_board_194 : decode cX12_board 194 = .ok (.iadd, 1) := by decide +kernel
theorem dX12_board_195 : decode cX12_board 195 = .ok (.iaload, 1) := by decide +kernel
theorem dX12_board_196 : decode cX12_board 196 = .ok (.aload_n 0, 1) := by decide +kernel
theorem dX12_board_197 : decode cX12_board 197 = .ok (.getfield 41, 3) := by decide +kernel
theorem dX12_board_200 : decode cX12_board 200 = .ok (.iload_n 2, 1) := by decide +kernel
theorem dX12_board_201 : decode cX12_board 201 = .ok (.iconst 4, 1) := by decide +kernel
theorem dX12_board_202 : decode cX12_board 202 = .ok (.iadd, 1) := by decide +kernel
theorem dX12_board_203 : decode cX12_board 203 = .ok (.iaload, 1) := by decide +kernel
theorem dX12_board_204 : decode cX12_board 204 = .ok (.invokevirtual 213, 3) := by decide +kernel
theorem dX12_board_207 : decode cX12_board 207 = .ok (.aload_n 0, 1) := by decide +kernel
theorem dX12_board_208 : decode cX12_board 208 = .ok (.getfield 28, 3) := by decide +kernel
theorem dX12_board_211 : decode cX12_board 211 = .ok (.iload_n 1, 1) := by decide +kernel
theorem dX12_board_212 : decode cX12_board 212 = .ok (.iload_n 1, 1) := by decide +kernel
theorem dX12_board_213 : decode cX12_board 213 = .ok (.iastore, 1) := by decide +kernel
theorem dX12_board_214 : decode cX12_board 214 = .ok (.iinc 1 1, 3) := by decide +kernel
theorem dX12_board_217 : decode cX12_board 217 = .ok (.goto (-65), 3) := by decide +kernel
theorem dX12_board_220 : decode cX12_board 220 = .ok (.iconst 0, 1) := by decide +kernel
theorem dX12_board_221 : decode cX12_board 221 = .ok (.istore_n 1, 1) := by decide +kernel
theorem dX12_board_222 : decode cX12_board 222 = .ok (.iload_n 1, 1) := by decide +kernel
theorem dX12_board_223 : decode cX12_board 223 = .ok (.iconst 4, 1) := by decide +kernel
theorem dX12_board_224 : decode cX12_board 224 = .ok (.if_icmp .ge 21, 3) := by decide +kernel
theorem dX12_board_227 : decode cX12_board 227 = .ok (.aload_n 0, 1) := by decide +kernel
theorem dX12_board_228 : decode cX12_board 228 = .ok (.getfield 13, 3) := by decide +kernel
theorem dX12_board_231 : decode cX12_board 231 = .ok (.iload_n 1, 1) := by decide +kernel
theorem dX12_board_232 : decode cX12_board 232 = .ok (.aload_n 0, 1) := by decide +kernel
theorem dX12_board_233 : decode cX12_board 233 = .ok (.getfield 44, 3) := by decide +kernel
theorem dX12_board_236 : decode cX12_board 236 = .ok (.iload_n 1, 1) := by decide +kernel
theorem dX12_board_237 : decode cX12_board 237 = .ok (.iaload, 1) := by decide +kernel
theorem dX12_board_238 : decode cX12_board 238 = .ok (.iastore, 1) := by decide +kernel
theorem dX12_board_239 : decode cX12_board 239 = .ok (.iinc 1 1, 3) := by decide +kernel
theorem dX12_board_242 : decode cX12_board 242 = .ok (.goto (-20), 3) := by decide +kernel
theorem dX12_board_245 : decode cX12_board 245 = .ok (.iconst 0, 1) := by decide +kernel
theorem dX12_board_246 : decode cX12_board 246 = .ok (.istore_n 1, 1) := by decide +kernel
theorem dX12_board_247 : decode cX12_board 247 = .ok (.iload_n 1, 1) := by decide +kernel
theorem dX12_board_248 : decode cX12_board 248 = .ok (.bipush 60, 2) := by decide +kernel
theorem dX12_board_250 : decode cX12_board 250 = .ok (.if_icmp .gt 23, 3) := by decide +kernel
theorem dX12_board_253 : decode cX12_board 253 = .ok (.aload_n 0, 1) := by decide +kernel
theorem dX12_board_254 : decode cX12_board 254 = .ok (.getfield 22, 3) := by decide +kernel
theorem dX12_board_257 : decode cX12_board 257 = .ok (.iload_n 1, 1) := by decide +kernel
theorem dX12_board_258 : decode cX12_board 258 = .ok (.iconst 0, 1) := by decide +kernel
theorem dX12_board_259 : decode cX12_board 259 = .ok (.iastore, 1) := by decide +kernel
theorem dX12_board_260 : decode cX12_board 260 = .ok (.aload_n 0, 1) := by decide +kernel
theorem dX12_board_261 : decode cX12_board 261 = .ok (.getfield 25, 3) := by decide +kernel
theorem dX12_board_264 : decode cX12_board 264 = .ok (.iload_n 1, 1) := by decide +kernel
theorem dX12_board_265 : decode cX12_board 265 = .ok (.iconst 0, 1) := by decide +kernel
theorem dX12_board_266 : decode cX12_board 266 = .ok (.iastore, 1) := by decide +kernel
theorem dX12_board_267 : decode cX12_board 267 = .ok (.iinc 1 1, 3) := by decide +kernel
theorem dX12_board_270 : decode cX12_board 270 = .ok (.goto (-23), 3) := by decide +kernel
theorem dX12_board_273 : decode cX12_board 273 = .ok (.aload_n 0, 1) := by decide +kernel
theorem dX12_board_274 : decode cX12_board 274 = .ok (.iconst 0, 1) := by decide +kernel
theorem dX12_board_275 : decode cX12_board 275 = .ok (.putfield 217, 3) := by decide +kernel
theorem dX12_board_278 : decode cX12_board 278 = .ok (.aload_n 0, 1) := by decide +kernel
theorem dX12_board_279 : decode cX12_board 279 = .ok (.iconst 0, 1) := by decide +kernel
theorem dX12_board_280 : decode cX12_board 280 = .ok (.putfield 220, 3) := by decide +kernel
theorem dX12_board_283 : decode cX12_board 283 = .ok (.aload_n 0, 1) := by decide +kernel
theorem dX12_board_284 : decode cX12_board 284 = .ok (.iconst 0, 1) := by decide +kernel
theorem dX12_board_285 : decode cX12_board 285 = .ok (.putfield 223, 3) := by decide +kernel
theorem dX12_board_288 : decode cX12_board 288 = .ok (.aload_n 0, 1) := by decide +kernel
theorem dX12_board_289 : decode cX12_board 289 = .ok (.iconst 0, 1) := by decide +kernel
theorem dX12_board_290 : decode cX12_board 290 = .ok (.putfield 226, 3) := by decide +kernel
theorem dX12_board_293 : decode cX12_board 293 = .ok (.aload_n 0, 1) := by decide +kernel
theorem dX12_board_294 : decode cX12_board 294 = .ok (.iconst 0, 1) := by decide +kernel
theorem dX12_board_295 : decode cX12_board 295 = .ok (.putfield 229, 3) := by decide +kernel
theorem dX12_board_298 : decode cX12_board 298 = .ok (.aload_n 0, 1) := by decide +kernel
theorem dX12_board_299 : decode cX12_board 299 = .ok (.getfield 96, 3) := by decide +kernel
theorem dX12_board_302 : decode cX12_board 302 = .ok (.ireturn, 1) := by decide +kernel
theorem dX12_job_0 : decode cX12_job 0 = .ok (.iload_n 1, 1) := by decide +kernel
theorem dX12_job_1 : decode cX12_job 1 = .ok (.iload_n 2, 1) := by decide +kernel
theorem dX12_job_2 : decode cX12_job 2 = .ok (.iload_n 3, 1) := by decide +kernel
theorem dX12_job_3 : decode cX12_job 3 = .ok (.invokestatic 232, 3) := by decide +kernel
theorem dX12_job_6 : decode cX12_job 6 = .ok (.ifCond .eq 13, 3) := by decide +kernel
theorem dX12_job_9 : decode cX12_job 9 = .ok (.iload 4, 2) := by decide +kernel
theorem dX12_job_11 : decode cX12_job 11 = .ok (.iload 5, 2) := by decide +kernel
theorem dX12_job_13 : decode cX12_job 13 = .ok (.invokestatic 235, 3) := by decide +kernel
theorem dX12_job_16 : decode cX12_job 16 = .ok (.ifCond .ne 5, 3) := by decide +kernel
theorem dX12_job_19 : decode cX12_job 19 = .ok (.iconst (-1), 1) := by decide +kernel
theorem dX12_job_20 : decode cX12_job 20 = .ok (.ireturn, 1) := by decide +kernel
theorem dX12_job_21 : decode cX12_job 21 = .ok (.aload_n 0, 1) := by decide +kernel
theorem dX12_job_22 : decode cX12_job 22 = .ok (.getfield 96, 3) := by decide +kernel
theorem dX12_job_25 : decode cX12_job 25 = .ok (.bipush 6, 2) := by decide +kernel
theorem dX12_job_27 : decode cX12_job 27 = .ok (.if_icmp .ne 6, 3) := by decide +kernel
theorem dX12_job_30 : decode cX12_job 30 = .ok (.bipush (-2), 2) := by decide +kernel
theorem dX12_job_32 : decode cX12_job 32 = .ok (.ireturn, 1) := by decide +kernel
theorem dX12_job_33 : decode cX12_job 33 = .ok (.aload_n 0, 1) := by decide +kernel
theorem dX12_job_34 : decode cX12_job 34 = .ok (.aload_n 0, 1) := by decide +kernel
theorem dX12_job_35 : decode cX12_job 35 = .ok (.getfield 96, 3) := by decide +kernel
theorem dX12_job_38 : decode cX12_job 38 = .ok (.iload_n 1, 1) := by decide +kernel
theorem dX12_job_39 : decode cX12_job 39 = .ok (.iload_n 2, 1) := by decide +kernel
theorem dX12_job_40 : decode cX12_job 40 = .ok (.iload_n 3, 1) := by decide +kernel
theorem dX12_job_41 : decode cX12_job 41 = .ok (.iload 4, 2) := by decide +kernel
theorem dX12_job_43 : decode cX12_job 43 = .ok (.iload 5, 2) := by decide +kernel
theorem dX12_job_45 : decode cX12_job 45 = .ok (.invokevirtual 213, 3) := by decide +kernel
theorem dX12_job_48 : decode cX12_job 48 = .ok (.aload_n 0, 1) := by decide +kernel
theorem dX12_job_49 : decode cX12_job 49 = .ok (.getfield 28, 3) := by decide +kernel
theorem dX12_job_52 : decode cX12_job 52 = .ok (.aload_n 0, 1) := by decide +kernel
theorem dX12_job_53 : decode cX12_job 53 = .ok (.getfield 96, 3) := by decide +kernel
theorem dX12_job_56 : decode cX12_job 56 = .ok (.aload_n 0, 1) := by decide +kernel
theorem dX12_job_57 : decode cX12_job 57 = .ok (.getfield 96, 3) := by decide +kernel
theorem dX12_job_60 : decode cX12_job 60 = .ok (.iastore, 1) := by decide +kernel
theorem dX12_job_61 : decode cX12_job 61 = .ok (.aload_n 0, 1) := by decide +kernel
theorem dX12_job_62 : decode cX12_job 62 = .ok (.dup, 1) := by decide +kernel
theorem dX12_job_63 : decode cX12_job 63 = .ok (.getfield 96, 3) := by decide +kernel
theorem dX12_job_66 : decode cX12_job 66 = .ok (.iconst 1, 1) := by decide +kernel
theorem dX12_job_67 : decode cX12_job 67 = .ok (.iadd, 1) := by decide +kernel
theorem dX12_job_68 : decode cX12_job 68 = .ok (.putfield 96, 3) := by decide +kernel
theorem dX12_job_71 : decode cX12_job 71 = .ok (.aload_n 0, 1) := by decide +kernel
theorem dX12_job_72 : decode cX12_job 72 = .ok (.getfield 96, 3) := by decide +kernel
theorem dX12_job_75 : decode cX12_job 75 = .ok (.iconst 1, 1) := by decide +kernel
theorem dX12_job_76 : decode cX12_job 76 = .ok (.isub, 1) := by decide +kernel
theorem dX12_job_77 : decode cX12_job 77 = .ok (.ireturn, 1) := by decide +kernel
theorem dX12_jobOf_0 : decode cX12_jobOf 0 = .ok (.aload_n 0, 1) := by decide +kernel
theorem dX12_jobOf_1 : decode cX12_jobOf 1 = .ok (.iload_n 1, 1) := by decide +kernel
theorem dX12_jobOf_2 : decode cX12_jobOf 2 = .ok (.invokevirtual 239, 3) := by decide +kernel
theorem dX12_jobOf_5 : decode cX12_jobOf 5 = .ok (.ifCond .eq 21, 3) := by decide +kernel
theorem dX12_jobOf_8 : decode cX12_jobOf 8 = .ok (.iload_n 2, 1) := by decide +kernel
theorem dX12_jobOf_9 : decode cX12_jobOf 9 = .ok (.iconst 0, 1) := by decide +kernel
theorem dX12_jobOf_10 : decode cX12_jobOf 10 = .ok (.iconst 4, 1) := by decide +kernel
theorem dX12_jobOf_11 : decode cX12_jobOf 11 = .ok (.invokestatic 99, 3) := by decide +kernel
theorem dX12_jobOf_14 : decode cX12_jobOf 14 = .ok (.ifCond .eq 12, 3) := by decide +kernel
theorem dX12_jobOf_17 : decode cX12_jobOf 17 = .ok (.aload_n 0, 1) := by decide +kernel
theorem dX12_jobOf_18 : decode cX12_jobOf 18 = .ok (.iload_n 1, 1) := by decide +kernel
theorem dX12_jobOf_19 : decode cX12_jobOf 19 = .ok (.iload_n 2, 1) := by decide +kernel
theorem dX12_jobOf_20 : decode cX12_jobOf 20 = .ok (.invokevirtual 242, 3) := by decide +kernel
theorem dX12_jobOf_23 : decode cX12_jobOf 23 = .ok (.goto 4, 3) := by decide +kernel
theorem dX12_jobOf_26 : decode cX12_jobOf 26 = .ok (.iconst (-1), 1) := by decide +kernel
theorem dX12_jobOf_27 : decode cX12_jobOf 27 = .ok (.ireturn, 1) := by decide +kernel
theorem dX12_goesAway_0 : decode cX12_goesAway 0 = .ok (.iconst 5, 1) := by decide +kernel
theorem dX12_goesAway_1 : decode cX12_goesAway 1 = .ok (.iload_n 1, 1) := by decide +kernel
theorem dX12_goesAway_2 : decode cX12_goesAway 2 = .ok (.imul, 1) := by decide +kernel
theorem dX12_goesAway_3 : decode cX12_goesAway 3 = .ok (.istore_n 2, 1) := by decide +kernel
theorem dX12_goesAway_4 : decode cX12_goesAway 4 = .ok (.iload_n 2, 1) := by decide +kernel
theorem dX12_goesAway_5 : decode cX12_goesAway 5 = .ok (.iconst 5, 1) := by decide +kernel
theorem dX12_goesAway_6 : decode cX12_goesAway 6 = .ok (.aload_n 0, 1) := by decide +kernel
theorem dX12_goesAway_7 : decode cX12_goesAway 7 = .ok (.getfield 96, 3) := by decide +kernel
theorem dX12_goesAway_10 : decode cX12_goesAway 10 = .ok (.iconst 1, 1) := by decide +kernel
theorem dX12_goesAway_11 : decode cX12_goesAway 11 = .ok (.isub, 1) := by decide +kernel
theorem dX12_goesAway_12 : decode cX12_goesAway 12 = .ok (.imul, 1) := by decide +kernel
theorem dX12_goesAway_13 : decode cX12_goesAway 13 = .ok (.if_icmp .ge 23, 3) := by decide +kernel
theorem dX12_goesAway_16 : decode cX12_goesAway 16 = .ok (.aload_n 0, 1) := by decide +kernel
theorem dX12_goesAway_17 : decode cX12_goesAway 17 = .ok (.getfield 7, 3) := by decide +kernel
theorem dX12_goesAway_20 : decode cX12_goesAway 20 = .ok (.iload_n 2, 1) := by decide +kernel
theorem dX12_goesAway_21 : decode cX12_goesAway 21 = .ok (.aload_n 0, 1) := by decide +kernel
theorem dX12_goesAway_22 : decode cX12_goesAway 22 = .ok (.getfield 7, 3) := by decide +kernel
theorem dX12_goesAway_25 : decode cX12_goesAway 25 = .ok (.iload_n 2, 1) := by decide +kernel
theorem dX12_goesAway_26 : decode cX12_goesAway 26 = .ok (.iconst 5, 1) := by decide +kernel
theorem dX12_goesAway_27 : decode cX12_goesAway 27 = .ok (.iadd, 1) := by decide +kernel
theorem dX12_goesAway_28 : decode cX12_goesAway 28 = .ok (.iaload, 1) := by decide +kernel
theorem dX12_goesAway_29 : decode cX12_goesAway 29 = .ok (.iastore, 1) := by decide +kernel
theorem dX12_goesAway_30 : decode cX12_goesAway 30 = .ok (.iinc 2 1, 3) := by decide +kernel
theorem dX12_goesAway_33 : decode cX12_goesAway 33 = .ok (.goto (-29), 3) := by decide +kernel
theorem dX12_goesAway_36 : decode cX12_goesAway 36 = .ok (.iconst 0, 1) := by decide +kernel
theorem dX12_goesAway_37 : decode cX12_goesAway 37 = .ok (.istore_n 2, 1) := by decide +kernel
theorem dX12_goesAway_38 : decode cX12_goesAway 38 = .ok (.iconst 0, 1) := by decide +kernel
theorem dX12_goesAway_39 : decode cX12_goesAway 39 = .ok (.istore_n 3, 1) := by decide +kernel
theorem dX12_goesAway_40 : decode cX12_goesAway 40 = .ok (.iload_n 3, 1) := by decide +kernel
theorem dX12_goesAway_41 : decode cX12_goesAway 41 = .ok (.aload_n 0, 1) := by decide +kernel
theorem dX12_goesAway_42 : decode cX12_goesAway 42 = .ok (.getfield 96, 3) := by decide +kernel
theorem dX12_goesAway_45 : decode cX12_goesAway 45 = .ok (.if_icmp .ge 47, 3) := by decide +kernel
theorem dX12_goesAway_48 : decode cX12_goesAway 48 = .ok (.aload_n 0, 1) := by decide +kernel
theorem dX12_goesAway_49 : decode cX12_goesAway 49 = .ok (.getfield 28, 3) := by decide +kernel
theorem dX12_goesAway_52 : decode cX12_goesAway 52 = .ok (.iload_n 3, 1) := by decide +kernel
theorem dX12_goesAway_53 : decode cX12_goesAway 53 = .ok (.iaload, 1) := by decide +kernel
theorem dX12_goesAway_54 : decode cX12_goesAway 54 = .ok (.istore 4, 2) := by decide +kernel
theorem dX12_goesAway_56 : decode cX12_goesAway 56 = .ok (.iload 4, 2) := by decide +kernel
theorem dX12_goesAway_58 : decode cX12_goesAway 58 = .ok (.iload_n 1, 1) := by decide +kernel
theorem dX12_goesAway_59 : decode cX12_goesAway 59 = .ok (.if_icmp .eq 27, 3) := by decide +kernel
theorem dX12_goesAway_62 : decode cX12_goesAway 62 = .ok (.aload_n 0, 1) := by decide +kernel
theorem dX12_goesAway_63 : decode cX12_goesAway 63 = .ok (.getfield 28, 3) := by decide +kernel
theorem dX12_goesAway_66 : decode cX12_goesAway 66 = .ok (.iload_n 2, 1) := by decide +kernel
theorem dX12_goesAway_67 : decode cX12_goesAway 67 = .ok (.iload 4, 2) := by decide +kernel
theorem dX12_goesAway_69 : decode cX12_goesAway 69 = .ok (.iload_n 1, 1) := by decide +kernel
theorem dX12_goesAway_70 : decode cX12_goesAway 70 = .ok (.if_icmp .le 10, 3) := by decide +kernel
theorem dX12_goesAway_73 : decode cX12_goesAway 73 = .ok (.iload 4, 2) := by decide +kernel
theorem dX12_goesAway_75 : decode cX12_goesAway 75 = .ok (.iconst 1, 1) := by decide +kernel
theorem dX12_goesAway_76 : decode cX12_goesAway 76 = .ok (.isub, 1) := by decide +kernel
theorem dX12_goesAway_77 : decode cX12_goesAway 77 = .ok (.goto 5, 3) := by decide +kernel
theorem dX12_goesAway_80 : decode cX12_goesAway 80 = .ok (.iload 4, 2) := by decide +kernel
theorem dX12_goesAway_82 : decode cX12_goesAway 82 = .ok (.iastore, 1) := by decide +kernel
theorem dX12_goesAway_83 : decode cX12_goesAway 83 = .ok (.iinc 2 1, 3) := by decide +kernel
theorem dX12_goesAway_86 : decode cX12_goesAway 86 = .ok (.iinc 3 1, 3) := by decide +kernel
theorem dX12_goesAway_89 : decode cX12_goesAway 89 = .ok (.goto (-49), 3) := by decide +kernel
theorem dX12_goesAway_92 : decode cX12_goesAway 92 = .ok (.aload_n 0, 1) := by decide +kernel
theorem dX12_goesAway_93 : decode cX12_goesAway 93 = .ok (.dup, 1) := by decide +kernel
theorem dX12_goesAway_94 : decode cX12_goesAway 94 = .ok (.getfield 96, 3) := by decide +kernel
theorem dX12_goesAway_97 : decode cX12_goesAway 97 = .ok (.iconst 1, 1) := by decide +kernel
theorem dX12_goesAway_98 : decode cX12_goesAway 98 = .ok (.isub, 1) := by decide +kernel
theorem dX12_goesAway_99 : decode cX12_goesAway 99 = .ok (.putfield 96, 3) := by decide +kernel
theorem dX12_goesAway_102 : decode cX12_goesAway 102 = .ok (.return_, 1) := by decide +kernel
theorem dX12_drop_0 : decode cX12_drop 0 = .ok (.aload_n 0, 1) := by decide +kernel
theorem dX12_drop_1 : decode cX12_drop 1 = .ok (.iload_n 1, 1) := by decide +kernel
theorem dX12_drop_2 : decode cX12_drop 2 = .ok (.invokevirtual 239, 3) := by decide +kernel
theorem dX12_drop_5 : decode cX12_drop 5 = .ok (.ifCond .ne 5, 3) := by decide +kernel
theorem dX12_drop_8 : decode cX12_drop 8 = .ok (.iconst (-1), 1) := by decide +kernel
theorem dX12_drop_9 : decode cX12_drop 9 = .ok (.ireturn, 1) := by decide +kernel
theorem dX12_drop_10 : decode cX12_drop 10 = .ok (.aload_n 0, 1) := by decide +kernel
theorem dX12_drop_11 : decode cX12_drop 11 = .ok (.iload_n 1, 1) := by decide +kernel
theorem dX12_drop_12 : decode cX12_drop 12 = .ok (.invokevirtual 245, 3) := by decide +kernel
theorem dX12_drop_15 : decode cX12_drop 15 = .ok (.aload_n 0, 1) := by decide +kernel
theorem dX12_drop_16 : decode cX12_drop 16 = .ok (.getfield 96, 3) := by decide +kernel
theorem dX12_drop_19 : decode cX12_drop 19 = .ok (.ireturn, 1) := by decide +kernel
theorem dX12_set_0 : decode cX12_set 0 = .ok (.iload_n 1, 1) := by decide +kernel
theorem dX12_set_1 : decode cX12_set 1 = .ok (.iconst 0, 1) := by decide +kernel
theorem dX12_set_2 : decode cX12_set 2 = .ok (.iconst 3, 1) := by decide +kernel
theorem dX12_set_3 : decode cX12_set 3 = .ok (.invokestatic 99, 3) := by decide +kernel
theorem dX12_set_6 : decode cX12_set 6 = .ok (.ifCond .eq 7, 3) := by decide +kernel
theorem dX12_set_9 : decode cX12_set 9 = .ok (.iload_n 1, 1) := by decide +kernel
theorem dX12_set_10 : decode cX12_set 10 = .ok (.goto 4, 3) := by decide +kernel
theorem dX12_set_13 : decode cX12_set 13 = .ok (.iconst 0, 1) := by decide +kernel
theorem dX12_set_14 : decode cX12_set 14 = .ok (.istore_n 3, 1) := by decide +kernel
theorem dX12_set_15 : decode cX12_set 15 = .ok (.iload_n 3, 1) := by decide +kernel
theorem dX12_set_16 : decode cX12_set 16 = .ok (.iload_n 1, 1) := by decide +kernel
theorem dX12_set_17 : decode cX12_set 17 = .ok (.if_icmp .ne 22, 3) := by decide +kernel
theorem dX12_set_20 : decode cX12_set 20 = .ok (.iload_n 2, 1) := by decide +kernel
theorem dX12_set_21 : decode cX12_set 21 = .ok (.aload_n 0, 1) := by decide +kernel
theorem dX12_set_22 : decode cX12_set 22 = .ok (.getfield 16, 3) := by decide +kernel
theorem dX12_set_25 : decode cX12_set 25 = .ok (.iload_n 3, 1) := by decide +kernel
theorem dX12_set_26 : decode cX12_set 26 = .ok (.iaload, 1) := by decide +kernel
theorem dX12_set_27 : decode cX12_set 27 = .ok (.aload_n 0, 1) := by decide +kernel
theorem dX12_set_28 : decode cX12_set 28 = .ok (.getfield 19, 3) := by decide +kernel
theorem dX12_set_31 : decode cX12_set 31 = .ok (.iload_n 3, 1) := by decide +kernel
theorem dX12_set_32 : decode cX12_set 32 = .ok (.iaload, 1) := by decide +kernel
theorem dX12_set_33 : decode cX12_set 33 = .ok (.invokestatic 99, 3) := by decide +kernel
theorem dX12_set_36 : decode cX12_set 36 = .ok (.ifCond .ne 5, 3) := by decide +kernel
theorem dX12_set_39 : decode cX12_set 39 = .ok (.iconst (-1), 1) := by decide +kernel
theorem dX12_set_40 : decode cX12_set 40 = .ok (.ireturn, 1) := by decide +kernel
theorem dX12_set_41 : decode cX12_set 41 = .ok (.aload_n 0, 1) := by decide +kernel
theorem dX12_set_42 : decode cX12_set 42 = .ok (.getfield 13, 3) := by decide +kernel
theorem dX12_set_45 : decode cX12_set 45 = .ok (.iload_n 1, 1) := by decide +kernel
theorem dX12_set_46 : decode cX12_set 46 = .ok (.iaload, 1) := by decide +kernel
theorem dX12_set_47 : decode cX12_set 47 = .ok (.istore 4, 2) := by decide +kernel
theorem dX12_set_49 : decode cX12_set 49 = .ok (.aload_n 0, 1) := by decide +kernel
theorem dX12_set_50 : decode cX12_set 50 = .ok (.getfield 13, 3) := by decide +kernel
theorem dX12_set_53 : decode cX12_set 53 = .ok (.iload_n 1, 1) := by decide +kernel
theorem dX12_set_54 : decode cX12_set 54 = .ok (.iload_n 2, 1) := by decide +kernel
theorem dX12_set_55 : decode cX12_set 55 = .ok (.iastore, 1) := by decide +kernel
theorem dX12_set_56 : decode cX12_set 56 = .ok (.iload 4, 2) := by decide +kernel
theorem dX12_set_58 : decode cX12_set 58 = .ok (.ireturn, 1) := by decide +kernel
theorem dX12_lose_0 : decode cX12_lose 0 = .ok (.iload_n 1, 1) := by decide +kernel
theorem dX12_lose_1 : decode cX12_lose 1 = .ok (.iconst 0, 1) := by decide +kernel
theorem dX12_lose_2 : decode cX12_lose 2 = .ok (.bipush 60, 2) := by decide +kernel
theorem dX12_lose_4 : decode cX12_lose 4 = .ok (.invokestatic 99, 3) := by decide +kernel
theorem dX12_lose_7 : decode cX12_lose 7 = .ok (.ifCond .eq 13, 3) := by decide +kernel
theorem dX12_lose_10 : decode cX12_lose 10 = .ok (.iload_n 2, 1) := by decide +kernel
theorem dX12_lose_11 : decode cX12_lose 11 = .ok (.iconst 0, 1) := by decide +kernel
theorem dX12_lose_12 : decode cX12_lose 12 = .ok (.bipush 9, 2) := by decide +kernel
theorem dX12_lose_14 : decode cX12_lose 14 = .ok (.invokestatic 99, 3) := by decide +kernel
theorem dX12_lose_17 : decode cX12_lose 17 = .ok (.ifCond .ne 5, 3) := by decide +kernel
theorem dX12_lose_20 : decode cX12_lose 20 = .ok (.iconst (-1), 1) := by decide +kernel
theorem dX12_lose_21 : decode cX12_lose 21 = .ok (.ireturn, 1) := by decide +kernel
theorem dX12_lose_22 : decode cX12_lose 22 = .ok (.aload_n 0, 1) := by decide +kernel
theorem dX12_lose_23 : decode cX12_lose 23 = .ok (.getfield 22, 3) := by decide +kernel
theorem dX12_lose_26 : decode cX12_lose 26 = .ok (.iload_n 1, 1) := by decide +kernel
theorem dX12_lose_27 : decode cX12_lose 27 = .ok (.iaload, 1) := by decide +kernel
theorem dX12_lose_28 : decode cX12_lose 28 = .ok (.istore_n 3, 1) := by decide +kernel
theorem dX12_lose_29 : decode cX12_lose 29 = .ok (.aload_n 0, 1) := by decide +kernel
theorem dX12_lose_30 : decode cX12_lose 30 = .ok (.getfield 22, 3) := by decide +kernel
theorem dX12_lose_33 : decode cX12_lose 33 = .ok (.iload_n 1, 1) := by decide +kernel
theorem dX12_lose_34 : decode cX12_lose 34 = .ok (.iload_n 2, 1) := by decide +kernel
theorem dX12_lose_35 : decode cX12_lose 35 = .ok (.iastore, 1) := by decide +kernel
theorem dX12_lose_36 : decode cX12_lose 36 = .ok (.iload_n 3, 1) := by decide +kernel
theorem dX12_lose_37 : decode cX12_lose 37 = .ok (.ireturn, 1) := by decide +kernel
theorem dX12_night_0 : decode cX12_night 0 = .ok (.iload_n 1, 1) := by decide +kernel
theorem dX12_night_1 : decode cX12_night 1 = .ok (.iconst 0, 1) := by decide +kernel
theorem dX12_night_2 : decode cX12_night 2 = .ok (.bipush 60, 2) := by decide +kernel
theorem dX12_night_4 : decode cX12_night 4 = .ok (.invokestatic 99, 3) := by decide +kernel
theorem dX12_night_7 : decode cX12_night 7 = .ok (.ifCond .eq 13, 3) := by decide +kernel
theorem dX12_night_10 : decode cX12_night 10 = .ok (.iload_n 2, 1) := by decide +kernel
theorem dX12_night_11 : decode cX12_night 11 = .ok (.iconst 0, 1) := by decide +kernel
theorem dX12_night_12 : decode cX12_night 12 = .ok (.bipush 9, 2) := by decide +kernel
theorem dX12_night_14 : decode cX12_night 14 = .ok (.invokestatic 99, 3) := by decide +kernel
theorem dX12_night_17 : decode cX12_night 17 = .ok (.ifCond .ne 5, 3) := by decide +kernel
theorem dX12_night_20 : decode cX12_night 20 = .ok (.iconst (-1), 1) := by decide +kernel
theorem dX12_night_21 : decode cX12_night 21 = .ok (.ireturn, 1) := by decide +kernel
theorem dX12_night_22 : decode cX12_night 22 = .ok (.aload_n 0, 1) := by decide +kernel
theorem dX12_night_23 : decode cX12_night 23 = .ok (.getfield 25, 3) := by decide +kernel
theorem dX12_night_26 : decode cX12_night 26 = .ok (.iload_n 1, 1) := by decide +kernel
theorem dX12_night_27 : decode cX12_night 27 = .ok (.iaload, 1) := by decide +kernel
theorem dX12_night_28 : decode cX12_night 28 = .ok (.istore_n 3, 1) := by decide +kernel
theorem dX12_night_29 : decode cX12_night 29 = .ok (.aload_n 0, 1) := by decide +kernel
theorem dX12_night_30 : decode cX12_night 30 = .ok (.getfield 25, 3) := by decide +kernel
theorem dX12_night_33 : decode cX12_night 33 = .ok (.iload_n 1, 1) := by decide +kernel
theorem dX12_night_34 : decode cX12_night 34 = .ok (.iload_n 2, 1) := by decide +kernel
theorem dX12_night_35 : decode cX12_night 35 = .ok (.iastore, 1) := by decide +kernel
theorem dX12_night_36 : decode cX12_night 36 = .ok (.iload_n 3, 1) := by decide +kernel
theorem dX12_night_37 : decode cX12_night 37 = .ok (.ireturn, 1) := by decide +kernel
theorem dX12_slotsOf_0 : decode cX12_slotsOf 0 = .ok (.aload_n 0, 1) := by decide +kernel
theorem dX12_slotsOf_1 : decode cX12_slotsOf 1 = .ok (.getfield 13, 3) := by decide +kernel
theorem dX12_slotsOf_4 : decode cX12_slotsOf 4 = .ok (.iconst 0, 1) := by decide +kernel
theorem dX12_slotsOf_5 : decode cX12_slotsOf 5 = .ok (.iaload, 1) := by decide +kernel
theorem dX12_slotsOf_6 : decode cX12_slotsOf 6 = .ok (.istore_n 2, 1) := by decide +kernel
theorem dX12_slotsOf_7 : decode cX12_slotsOf 7 = .ok (.iload_n 1, 1) := by decide +kernel
theorem dX12_slotsOf_8 : decode cX12_slotsOf 8 = .ok (.bipush 60, 2) := by decide +kernel
theorem dX12_slotsOf_10 : decode cX12_slotsOf 10 = .ok (.if_icmp .le 5, 3) := by decide +kernel
theorem dX12_slotsOf_13 : decode cX12_slotsOf 13 = .ok (.iload_n 2, 1) := by decide +kernel
theorem dX12_slotsOf_14 : decode cX12_slotsOf 14 = .ok (.ireturn, 1) := by decide +kernel
theorem dX12_slotsOf_15 : decode cX12_slotsOf 15 = .ok (.iload_n 2, 1) := by decide +kernel
theorem dX12_slotsOf_16 : decode cX12_slotsOf 16 = .ok (.aload_n 0, 1) := by decide +kernel
theorem dX12_slotsOf_17 : decode cX12_slotsOf 17 = .ok (.getfield 22, 3) := by decide +kernel
theorem dX12_slotsOf_20 : decode cX12_slotsOf 20 = .ok (.iload_n 1, 1) := by decide +kernel
theorem dX12_slotsOf_21 : decode cX12_slotsOf 21 = .ok (.iaload, 1) := by decide +kernel
theorem dX12_slotsOf_22 : decode cX12_slotsOf 22 = .ok (.if_icmp .le 14, 3) := by decide +kernel
theorem dX12_slotsOf_25 : decode cX12_slotsOf 25 = .ok (.iload_n 2, 1) := by decide +kernel
theorem dX12_slotsOf_26 : decode cX12_slotsOf 26 = .ok (.aload_n 0, 1) := by decide +kernel
theorem dX12_slotsOf_27 : decode cX12_slotsOf 27 = .ok (.getfield 22, 3) := by decide +kernel
theorem dX12_slotsOf_30 : decode cX12_slotsOf 30 = .ok (.iload_n 1, 1) := by decide +kernel
theorem dX12_slotsOf_31 : decode cX12_slotsOf 31 = .ok (.iaload, 1) := by decide +kernel
theorem dX12_slotsOf_32 : decode cX12_slotsOf 32 = .ok (.isub, 1) := by decide +kernel
theorem dX12_slotsOf_33 : decode cX12_slotsOf 33 = .ok (.goto 4, 3) := by decide +kernel
theorem dX12_slotsOf_36 : decode cX12_slotsOf 36 = .ok (.iconst 0, 1) := by decide +kernel
theorem dX12_slotsOf_37 : decode cX12_slotsOf 37 = .ok (.aload_n 0, 1) := by decide +kernel
theorem dX12_slotsOf_38 : decode cX12_slotsOf 38 = .ok (.getfield 25, 3) := by decide +kernel
theorem dX12_slotsOf_41 : decode cX12_slotsOf 41 = .ok (.iload_n 1, 1) := by decide +kernel
theorem dX12_slotsOf_42 : decode cX12_slotsOf 42 = .ok (.iaload, 1) := by decide +kernel
theorem dX12_slotsOf_43 : decode cX12_slotsOf 43 = .ok (.iadd, 1) := by decide +kernel
theorem dX12_slotsOf_44 : decode cX12_slotsOf 44 = .ok (.ireturn, 1) := by decide +kernel
theorem dX12_slots_0 : decode cX12_slots 0 = .ok (.iload_n 1, 1) := by decide +kernel
theorem dX12_slots_1 : decode cX12_slots 1 = .ok (.iconst 0, 1) := by decide +kernel
theorem dX12_slots_2 : decode cX12_slots 2 = .ok (.bipush 99, 2) := by decide +kernel
theorem dX12_slots_4 : decode cX12_slots 4 = .ok (.invokestatic 99, 3) := by decide +kernel
theorem dX12_slots_7 : decode cX12_slots 7 = .ok (.ifCond .eq 11, 3) := by decide +kernel
theorem dX12_slots_10 : decode cX12_slots 10 = .ok (.aload_n 0, 1) := by decide +kernel
theorem dX12_slots_11 : decode cX12_slots 11 = .ok (.iload_n 1, 1) := by decide +kernel
theorem dX12_slots_12 : decode cX12_slots 12 = .ok (.invokevirtual 248, 3) := by decide +kernel
theorem dX12_slots_15 : decode cX12_slots 15 = .ok (.goto 4, 3) := by decide +kernel
theorem dX12_slots_18 : decode cX12_slots 18 = .ok (.iconst (-1), 1) := by decide +kernel
theorem dX12_slots_19 : decode cX12_slots 19 = .ok (.ireturn, 1) := by decide +kernel
theorem dX12_plan_0 : decode cX12_plan 0 = .ok (.iconst 0, 1) := by decide +kernel
theorem dX12_plan_1 : decode cX12_plan 1 = .ok (.istore_n 2, 1) := by decide +kernel
theorem dX12_plan_2 : decode cX12_plan 2 = .ok (.iconst 0, 1) := by decide +kernel
theorem dX12_plan_3 : decode cX12_plan 3 = .ok (.istore_n 3, 1) := by decide +kernel
theorem dX12_plan_4 : decode cX12_plan 4 = .ok (.iload_n 3, 1) := by decide +kernel
theorem dX12_plan_5 : decode cX12_plan 5 = .ok (.aload_n 0, 1) := by decide +kernel
theorem dX12_plan_6 : decode cX12_plan 6 = .ok (.getfield 96, 3) := by decide +kernel
theorem dX12_plan_9 : decode cX12_plan 9 = .ok (.if_icmp .ge 22, 3) := by decide +kernel
theorem dX12_plan_12 : decode cX12_plan 12 = .ok (.iload_n 2, 1) := by decide +kernel
theorem dX12_plan_13 : decode cX12_plan 13 = .ok (.iconst 1, 1) := by decide +kernel
theorem dX12_plan_14 : decode cX12_plan 14 = .ok (.iload_n 1, 1) := by decide +kernel
theorem dX12_plan_15 : decode cX12_plan 15 = .ok (.iconst 3, 1) := by decide +kernel
theorem dX12_plan_16 : decode cX12_plan 16 = .ok (.iload_n 3, 1) := by decide +kernel
theorem dX12_plan_17 : decode cX12_plan 17 = .ok (.imul, 1) := by decide +kernel
theorem dX12_plan_18 : decode cX12_plan 18 = .ok (.ishr, 1) := by decide +kernel
theorem dX12_plan_19 : decode cX12_plan 19 = .ok (.bipush 7, 2) := by decide +kernel
theorem dX12_plan_21 : decode cX12_plan 21 = .ok (.iand, 1) := by decide +kernel
theorem dX12_plan_22 : decode cX12_plan 22 = .ok (.ishl, 1) := by decide +kernel
theorem dX12_plan_23 : decode cX12_plan 23 = .ok (.ior, 1) := by decide +kernel
theorem dX12_plan_24 : decode cX12_plan 24 = .ok (.istore_n 2, 1) := by decide +kernel
theorem dX12_plan_25 : decode cX12_plan 25 = .ok (.iinc 3 1, 3) := by decide +kernel
theorem dX12_plan_28 : decode cX12_plan 28 = .ok (.goto (-24), 3) := by decide +kernel
theorem dX12_plan_31 : decode cX12_plan 31 = .ok (.iload_n 1, 1) := by decide +kernel
theorem dX12_plan_32 : decode cX12_plan 32 = .ok (.ifCond .lt 26, 3) := by decide +kernel
theorem dX12_plan_35 : decode cX12_plan 35 = .ok (.iload_n 1, 1) := by decide +kernel
theorem dX12_plan_36 : decode cX12_plan 36 = .ok (.iconst 3, 1) := by decide +kernel
theorem dX12_plan_37 : decode cX12_plan 37 = .ok (.aload_n 0, 1) := by decide +kernel
theorem dX12_plan_38 : decode cX12_plan 38 = .ok (.getfield 96, 3) := by decide +kernel
theorem dX12_plan_41 : decode cX12_plan 41 = .ok (.imul, 1) := by decide +kernel
theorem dX12_plan_42 : decode cX12_plan 42 = .ok (.ishr, 1) := by decide +kernel
theorem dX12_plan_43 : decode cX12_plan 43 = .ok (.ifCond .ne 15, 3) := by decide +kernel
theorem dX12_plan_46 : decode cX12_plan 46 = .ok (.iload_n 2, 1) := by decide +kernel
theorem dX12_plan_47 : decode cX12_plan 47 = .ok (.iconst 1, 1) := by decide +kernel
theorem dX12_plan_48 : decode cX12_plan 48 = .ok (.aload_n 0, 1) := by decide +kernel
theorem dX12_plan_49 : decode cX12_plan 49 = .ok (.getfield 96, 3) := by decide +kernel
theorem dX12_plan_52 : decode cX12_plan 52 = .ok (.ishl, 1) := by decide +kernel
theorem dX12_plan_53 : decode cX12_plan 53 = .ok (.iconst 1, 1) := by decide +kernel
theorem dX12_plan_54 : decode cX12_plan 54 = .ok (.isub, 1) := by decide +kernel
theorem dX12_plan_55 : decode cX12_plan 55 = .ok (.if_icmp .eq 5, 3) := by decide +kernel
theorem dX12_plan_58 : decode cX12_plan 58 = .ok (.iconst (-1), 1) := by decide +kernel
theorem dX12_plan_59 : decode cX12_plan 59 = .ok (.ireturn, 1) := by decide +kernel
theorem dX12_plan_60 : decode cX12_plan 60 = .ok (.iconst 0, 1) := by decide +kernel
theorem dX12_plan_61 : decode cX12_plan 61 = .ok (.istore_n 3, 1) := by decide +kernel
theorem dX12_plan_62 : decode cX12_plan 62 = .ok (.iload_n 3, 1) := by decide +kernel
theorem dX12_plan_63 : decode cX12_plan 63 = .ok (.aload_n 0, 1) := by decide +kernel
theorem dX12_plan_64 : decode cX12_plan 64 = .ok (.getfield 96, 3) := by decide +kernel
theorem dX12_plan_67 : decode cX12_plan 67 = .ok (.if_icmp .ge 23, 3) := by decide +kernel
theorem dX12_plan_70 : decode cX12_plan 70 = .ok (.aload_n 0, 1) := by decide +kernel
theorem dX12_plan_71 : decode cX12_plan 71 = .ok (.getfield 28, 3) := by decide +kernel
theorem dX12_plan_74 : decode cX12_plan 74 = .ok (.iload_n 3, 1) := by decide +kernel
theorem dX12_plan_75 : decode cX12_plan 75 = .ok (.iload_n 1, 1) := by decide +kernel
theorem dX12_plan_76 : decode cX12_plan 76 = .ok (.iconst 3, 1) := by decide +kernel
theorem dX12_plan_77 : decode cX12_plan 77 = .ok (.iload_n 3, 1) := by decide +kernel
theorem dX12_plan_78 : decode cX12_plan 78 = .ok (.imul, 1) := by decide +kernel
theorem dX12_plan_79 : decode cX12_plan 79 = .ok (.ishr, 1) := by decide +kernel
theorem dX12_plan_80 : decode cX12_plan 80 = .ok (.bipush 7, 2) := by decide +kernel
theorem dX12_plan_82 : decode cX12_plan 82 = .ok (.iand, 1) := by decide +kernel
theorem dX12_plan_83 : decode cX12_plan 83 = .ok (.iastore, 1) := by decide +kernel
theorem dX12_plan_84 : decode cX12_plan 84 = .ok (.iinc 3 1, 3) := by decide +kernel
theorem dX12_plan_87 : decode cX12_plan 87 = .ok (.goto (-25), 3) := by decide +kernel
theorem dX12_plan_90 : decode cX12_plan 90 = .ok (.iconst 1, 1) := by decide +kernel
theorem dX12_plan_91 : decode cX12_plan 91 = .ok (.ireturn, 1) := by decide +kernel
theorem dX12_planOf_0 : decode cX12_planOf 0 = .ok (.aload_n 0, 1) := by decide +kernel
theorem dX12_planOf_1 : decode cX12_planOf 1 = .ok (.iload_n 1, 1) := by decide +kernel
theorem dX12_planOf_2 : decode cX12_planOf 2 = .ok (.invokevirtual 239, 3) := by decide +kernel
theorem dX12_planOf_5 : decode cX12_planOf 5 = .ok (.ifCond .eq 12, 3) := by decide +kernel
theorem dX12_planOf_8 : decode cX12_planOf 8 = .ok (.aload_n 0, 1) := by decide +kernel
theorem dX12_planOf_9 : decode cX12_planOf 9 = .ok (.getfield 28, 3) := by decide +kernel
theorem dX12_planOf_12 : decode cX12_planOf 12 = .ok (.iload_n 1, 1) := by decide +kernel
theorem dX12_planOf_13 : decode cX12_planOf 13 = .ok (.iaload, 1) := by decide +kernel
theorem dX12_planOf_14 : decode cX12_planOf 14 = .ok (.goto 4, 3) := by decide +kernel
theorem dX12_planOf_17 : decode cX12_planOf 17 = .ok (.iconst (-1), 1) := by decide +kernel
theorem dX12_planOf_18 : decode cX12_planOf 18 = .ok (.ireturn, 1) := by decide +kernel
theorem dX12_press_0 : decode cX12_press 0 = .ok (.iload_n 1, 1) := by decide +kernel
theorem dX12_press_1 : decode cX12_press 1 = .ok (.ifCond .ne 10, 3) := by decide +kernel
theorem dX12_press_4 : decode cX12_press 4 = .ok (.aload_n 0, 1) := by decide +kernel
theorem dX12_press_5 : decode cX12_press 5 = .ok (.getfield 217, 3) := by decide +kernel
theorem dX12_press_8 : decode cX12_press 8 = .ok (.goto 28, 3) := by decide +kernel
theorem dX12_press_11 : decode cX12_press 11 = .ok (.iload_n 1, 1) := by decide +kernel
theorem dX12_press_12 : decode cX12_press 12 = .ok (.iconst 1, 1) := by decide +kernel
theorem dX12_press_13 : decode cX12_press 13 = .ok (.if_icmp .ne 10, 3) := by decide +kernel
theorem dX12_press_16 : decode cX12_press 16 = .ok (.aload_n 0, 1) := by decide +kernel
theorem dX12_press_17 : decode cX12_press 17 = .ok (.getfield 220, 3) := by decide +kernel
theorem dX12_press_20 : decode cX12_press 20 = .ok (.goto 16, 3) := by decide +kernel
theorem dX12_press_23 : decode cX12_press 23 = .ok (.iload_n 1, 1) := by decide +kernel
theorem dX12_press_24 : decode cX12_press 24 = .ok (.iconst 2, 1) := by decide +kernel
theorem dX12_press_25 : decode cX12_press 25 = .ok (.if_icmp .ne 10, 3) := by decide +kernel
theorem dX12_press_28 : decode cX12_press 28 = .ok (.aload_n 0, 1) := by decide +kernel
theorem dX12_press_29 : decode cX12_press 29 = .ok (.getfield 223, 3) := by decide +kernel
theorem dX12_press_32 : decode cX12_press 32 = .ok (.goto 4, 3) := by decide +kernel
theorem dX12_press_35 : decode cX12_press 35 = .ok (.iconst (-1), 1) := by decide +kernel
theorem dX12_press_36 : decode cX12_press 36 = .ok (.ireturn, 1) := by decide +kernel
theorem dX12_lends_0 : decode cX12_lends 0 = .ok (.iconst 0, 1) := by decide +kernel
theorem dX12_lends_1 : decode cX12_lends 1 = .ok (.istore_n 3, 1) := by decide +kernel
theorem dX12_lends_2 : decode cX12_lends 2 = .ok (.iload_n 3, 1) := by decide +kernel
theorem dX12_lends_3 : decode cX12_lends 3 = .ok (.iload_n 1, 1) := by decide +kernel
theorem dX12_lends_4 : decode cX12_lends 4 = .ok (.if_icmp .ge 41, 3) := by decide +kernel
theorem dX12_lends_7 : decode cX12_lends 7 = .ok (.aload_n 0, 1) := by decide +kernel
theorem dX12_lends_8 : decode cX12_lends 8 = .ok (.getfield 50, 3) := by decide +kernel
theorem dX12_lends_11 : decode cX12_lends 11 = .ok (.iload_n 3, 1) := by decide +kernel
theorem dX12_lends_12 : decode cX12_lends 12 = .ok (.iload_n 2, 1) := by decide +kernel
theorem dX12_lends_13 : decode cX12_lends 13 = .ok (.iload_n 3, 1) := by decide +kernel
theorem dX12_lends_14 : decode cX12_lends 14 = .ok (.ishr, 1) := by decide +kernel
theorem dX12_lends_15 : decode cX12_lends 15 = .ok (.iconst 1, 1) := by decide +kernel
theorem dX12_lends_16 : decode cX12_lends 16 = .ok (.iand, 1) := by decide +kernel
theorem dX12_lends_17 : decode cX12_lends 17 = .ok (.iconst 1, 1) := by decide +kernel
theorem dX12_lends_18 : decode cX12_lends 18 = .ok (.if_icmp .ne 14, 3) := by decide +kernel
theorem dX12_lends_21 : decode cX12_lends 21 = .ok (.iconst 2, 1) := by decide +kernel
theorem dX12_lends_22 : decode cX12_lends 22 = .ok (.aload_n 0, 1) := by decide +kernel
theorem dX12_lends_23 : decode cX12_lends 23 = .ok (.iload_n 3, 1) := by decide +kernel
theorem dX12_lends_24 : decode cX12_lends 24 = .ok (.iconst 1, 1) := by decide +kernel
theorem dX12_lends_25 : decode cX12_lends 25 = .ok (.invokevirtual 242, 3) := by decide +kernel
theorem dX12_lends_28 : decode cX12_lends 28 = .ok (.imul, 1) := by decide +kernel
theorem dX12_lends_29 : decode cX12_lends 29 = .ok (.goto 9, 3) := by decide +kernel
theorem dX12_lends_32 : decode cX12_lends 32 = .ok (.aload_n 0, 1) := by decide +kernel
theorem dX12_lends_33 : decode cX12_lends 33 = .ok (.iload_n 3, 1) := by decide +kernel
theorem dX12_lends_34 : decode cX12_lends 34 = .ok (.iconst 1, 1) := by decide +kernel
theorem dX12_lends_35 : decode cX12_lends 35 = .ok (.invokevirtual 242, 3) := by decide +kernel
theorem dX12_lends_38 : decode cX12_lends 38 = .ok (.iastore, 1) := by decide +kernel
theorem dX12_lends_39 : decode cX12_lends 39 = .ok (.iinc 3 1, 3) := by decide +kernel
theorem dX12_lends_42 : decode cX12_lends 42 = .ok (.goto (-40), 3) := by decide +kernel
theorem dX12_lends_45 : decode cX12_lends 45 = .ok (.aload_n 0, 1) := by decide +kernel
theorem dX12_lends_46 : decode cX12_lends 46 = .ok (.aload_n 0, 1) := by decide +kernel
theorem dX12_lends_47 : decode cX12_lends 47 = .ok (.getfield 220, 3) := by decide +kernel
theorem dX12_lends_50 : decode cX12_lends 50 = .ok (.putfield 251, 3) := by decide +kernel
theorem dX12_lends_53 : decode cX12_lends 53 = .ok (.aload_n 0, 1) := by decide +kernel
theorem dX12_lends_54 : decode cX12_lends 54 = .ok (.aload_n 0, 1) := by decide +kernel
theorem dX12_lends_55 : decode cX12_lends 55 = .ok (.getfield 223, 3) := by decide +kernel
theorem dX12_lends_58 : decode cX12_lends 58 = .ok (.putfield 254, 3) := by decide +kernel
theorem dX12_lends_61 : decode cX12_lends 61 = .ok (.return_, 1) := by decide +kernel
theorem dX12_works_0 : decode cX12_works 0 = .ok (.aload_n 0, 1) := by decide +kernel
theorem dX12_works_1 : decode cX12_works 1 = .ok (.iload_n 1, 1) := by decide +kernel
theorem dX12_works_2 : decode cX12_works 2 = .ok (.iconst 2, 1) := by decide +kernel
theorem dX12_works_3 : decode cX12_works 3 = .ok (.invokevirtual 242, 3) := by decide +kernel
theorem dX12_works_6 : decode cX12_works 6 = .ok (.aload_n 0, 1) := by decide +kernel
theorem dX12_works_7 : decode cX12_works 7 = .ok (.getfield 251, 3) := by decide +kernel
theorem dX12_works_10 : decode cX12_works 10 = .ok (.if_icmp .eq 23, 3) := by decide +kernel
theorem dX12_works_13 : decode cX12_works 13 = .ok (.aload_n 0, 1) := by decide +kernel
theorem dX12_works_14 : decode cX12_works 14 = .ok (.aload_n 0, 1) := by decide +kernel
theorem dX12_works_15 : decode cX12_works 15 = .ok (.iload_n 1, 1) := by decide +kernel
theorem dX12_works_16 : decode cX12_works 16 = .ok (.iconst 2, 1) := by decide +kernel
theorem dX12_works_17 : decode cX12_works 17 = .ok (.invokevirtual 242, 3) := by decide +kernel
theorem dX12_works_20 : decode cX12_works 20 = .ok (.putfield 251, 3) := by decide +kernel
theorem dX12_works_23 : decode cX12_works 23 = .ok (.aload_n 0, 1) := by decide +kernel
theorem dX12_works_24 : decode cX12_works 24 = .ok (.aload_n 0, 1) := by decide +kernel
theorem dX12_works_25 : decode cX12_works 25 = .ok (.getfield 13, 3) := by decide +kernel
theorem dX12_works_28 : decode cX12_works 28 = .ok (.iconst 1, 1) := by decide +kernel
theorem dX12_works_29 : decode cX12_works 29 = .ok (.iaload, 1) := by decide +kernel
theorem dX12_works_30 : decode cX12_works 30 = .ok (.putfield 254, 3) := by decide +kernel
theorem dX12_works_33 : decode cX12_works 33 = .ok (.aload_n 0, 1) := by decide +kernel
theorem dX12_works_34 : decode cX12_works 34 = .ok (.getfield 254, 3) := by decide +kernel
theorem dX12_works_37 : decode cX12_works 37 = .ok (.ifCond .le 15, 3) := by decide +kernel
theorem dX12_works_40 : decode cX12_works 40 = .ok (.aload_n 0, 1) := by decide +kernel
theorem dX12_works_41 : decode cX12_works 41 = .ok (.dup, 1) := by decide +kernel
theorem dX12_works_42 : decode cX12_works 42 = .ok (.getfield 254, 3) := by decide +kernel
theorem dX12_works_45 : decode cX12_works 45 = .ok (.iconst 1, 1) := by decide +kernel
theorem dX12_works_46 : decode cX12_works 46 = .ok (.isub, 1) := by decide +kernel
theorem dX12_works_47 : decode cX12_works 47 = .ok (.putfield 254, 3) := by decide +kernel
theorem dX12_works_50 : decode cX12_works 50 = .ok (.iconst 0, 1) := by decide +kernel
theorem dX12_works_51 : decode cX12_works 51 = .ok (.ireturn, 1) := by decide +kernel
theorem dX12_works_52 : decode cX12_works 52 = .ok (.aload_n 0, 1) := by decide +kernel
theorem dX12_works_53 : decode cX12_works 53 = .ok (.getfield 50, 3) := by decide +kernel
theorem dX12_works_56 : decode cX12_works 56 = .ok (.iload_n 1, 1) := by decide +kernel
theorem dX12_works_57 : decode cX12_works 57 = .ok (.dup2, 1) := by decide +kernel
theorem dX12_works_58 : decode cX12_works 58 = .ok (.iaload, 1) := by decide +kernel
theorem dX12_works_59 : decode cX12_works 59 = .ok (.iconst 1, 1) := by decide +kernel
theorem dX12_works_60 : decode cX12_works 60 = .ok (.isub, 1) := by decide +kernel
theorem dX12_works_61 : decode cX12_works 61 = .ok (.iastore, 1) := by decide +kernel
theorem dX12_works_62 : decode cX12_works 62 = .ok (.aload_n 0, 1) := by decide +kernel
theorem dX12_works_63 : decode cX12_works 63 = .ok (.getfield 50, 3) := by decide +kernel
theorem dX12_works_66 : decode cX12_works 66 = .ok (.iload_n 1, 1) := by decide +kernel
theorem dX12_works_67 : decode cX12_works 67 = .ok (.iaload, 1) := by decide +kernel
theorem dX12_works_68 : decode cX12_works 68 = .ok (.ifCond .ne 7, 3) := by decide +kernel
theorem dX12_works_71 : decode cX12_works 71 = .ok (.iconst 1, 1) := by decide +kernel
theorem dX12_works_72 : decode cX12_works 72 = .ok (.goto 4, 3) := by decide +kernel
theorem dX12_works_75 : decode cX12_works 75 = .ok (.iconst 0, 1) := by decide +kernel
theorem dX12_works_76 : decode cX12_works 76 = .ok (.ireturn, 1) := by decide +kernel
theorem dX12_worksAll_0 : decode cX12_worksAll 0 = .ok (.aload_n 0, 1) := by decide +kernel
theorem dX12_worksAll_1 : decode cX12_worksAll 1 = .ok (.iload_n 1, 1) := by decide +kernel
theorem dX12_worksAll_2 : decode cX12_worksAll 2 = .ok (.iload_n 1, 1) := by decide +kernel
theorem dX12_worksAll_3 : decode cX12_worksAll 3 = .ok (.iload_n 2, 1) := by decide +kernel
theorem dX12_worksAll_4 : decode cX12_worksAll 4 = .ok (.iload_n 3, 1) := by decide +kernel
theorem dX12_worksAll_5 : decode cX12_worksAll 5 = .ok (.invokevirtual 257, 3) := by decide +kernel
theorem dX12_worksAll_8 : decode cX12_worksAll 8 = .ok (.return_, 1) := by decide +kernel
theorem dX12_isLate_0 : decode cX12_isLate 0 = .ok (.aload_n 0, 1) := by decide +kernel
theorem dX12_isLate_1 : decode cX12_isLate 1 = .ok (.getfield 53, 3) := by decide +kernel
theorem dX12_isLate_4 : decode cX12_isLate 4 = .ok (.iload_n 1, 1) := by decide +kernel
theorem dX12_isLate_5 : decode cX12_isLate 5 = .ok (.iaload, 1) := by decide +kernel
theorem dX12_isLate_6 : decode cX12_isLate 6 = .ok (.aload_n 0, 1) := by decide +kernel
theorem dX12_isLate_7 : decode cX12_isLate 7 = .ok (.iload_n 1, 1) := by decide +kernel
theorem dX12_isLate_8 : decode cX12_isLate 8 = .ok (.iconst 3, 1) := by decide +kernel
theorem dX12_isLate_9 : decode cX12_isLate 9 = .ok (.invokevirtual 242, 3) := by decide +kernel
theorem dX12_isLate_12 : decode cX12_isLate 12 = .ok (.if_icmp .le 7, 3) := by decide +kernel
theorem dX12_isLate_15 : decode cX12_isLate 15 = .ok (.iconst 1, 1) := by decide +kernel
theorem dX12_isLate_16 : decode cX12_isLate 16 = .ok (.goto 4, 3) := by decide +kernel
theorem dX12_isLate_19 : decode cX12_isLate 19 = .ok (.iconst 0, 1) := by decide +kernel
theorem dX12_isLate_20 : decode cX12_isLate 20 = .ok (.ireturn, 1) := by decide +kernel
theorem dX12_worthOf_0 : decode cX12_worthOf 0 = .ok (.aload_n 0, 1) := by decide +kernel
theorem dX12_worthOf_1 : decode cX12_worthOf 1 = .ok (.iload_n 1, 1) := by decide +kernel
theorem dX12_worthOf_2 : decode cX12_worthOf 2 = .ok (.iconst 4, 1) := by decide +kernel
theorem dX12_worthOf_3 : decode cX12_worthOf 3 = .ok (.invokevirtual 242, 3) := by decide +kernel
theorem dX12_worthOf_6 : decode cX12_worthOf 6 = .ok (.istore_n 2, 1) := by decide +kernel
theorem dX12_worthOf_7 : decode cX12_worthOf 7 = .ok (.aload_n 0, 1) := by decide +kernel
theorem dX12_worthOf_8 : decode cX12_worthOf 8 = .ok (.iload_n 1, 1) := by decide +kernel
theorem dX12_worthOf_9 : decode cX12_worthOf 9 = .ok (.invokevirtual 261, 3) := by decide +kernel
theorem dX12_worthOf_12 : decode cX12_worthOf 12 = .ok (.ifCond .ne 5, 3) := by decide +kernel
theorem dX12_worthOf_15 : decode cX12_worthOf 15 = .ok (.iload_n 2, 1) := by decide +kernel
theorem dX12_worthOf_16 : decode cX12_worthOf 16 = .ok (.ireturn, 1) := by decide +kernel
theorem dX12_worthOf_17 : decode cX12_worthOf 17 = .ok (.aload_n 0, 1) := by decide +kernel
theorem dX12_worthOf_18 : decode cX12_worthOf 18 = .ok (.getfield 13, 3) := by decide +kernel
theorem dX12_worthOf_21 : decode cX12_worthOf 21 = .ok (.iconst 2, 1) := by decide +kernel
theorem dX12_worthOf_22 : decode cX12_worthOf 22 = .ok (.iaload, 1) := by decide +kernel
theorem dX12_worthOf_23 : decode cX12_worthOf 23 = .ok (.istore_n 3, 1) := by decide +kernel
theorem dX12_worthOf_24 : decode cX12_worthOf 24 = .ok (.aload_n 0, 1) := by decide +kernel
theorem dX12_worthOf_25 : decode cX12_worthOf 25 = .ok (.iload_n 1, 1) := by decide +kernel
theorem dX12_worthOf_26 : decode cX12_worthOf 26 = .ok (.iconst 0, 1) := by decide +kernel
theorem dX12_worthOf_27 : decode cX12_worthOf 27 = .ok (.invokevirtual 242, 3) := by decide +kernel
theorem dX12_worthOf_30 : decode cX12_worthOf 30 = .ok (.tableswitch 71 1 4 #[30, 61, 65, 35], 30) := by decide +kernel
theorem dX12_worthOf_60 : decode cX12_worthOf 60 = .ok (.bipush (-2), 2) := by decide +kernel
theorem dX12_worthOf_62 : decode cX12_worthOf 62 = .ok (.iload_n 3, 1) := by decide +kernel
theorem dX12_worthOf_63 : decode cX12_worthOf 63 = .ok (.imul, 1) := by decide +kernel
theorem dX12_worthOf_64 : decode cX12_worthOf 64 = .ok (.ireturn, 1) := by decide +kernel
theorem dX12_worthOf_65 : decode cX12_worthOf 65 = .ok (.aload_n 0, 1) := by decide +kernel
theorem dX12_worthOf_66 : decode cX12_worthOf 66 = .ok (.getfield 53, 3) := by decide +kernel
theorem dX12_worthOf_69 : decode cX12_worthOf 69 = .ok (.iload_n 1, 1) := by decide +kernel
theorem dX12_worthOf_70 : decode cX12_worthOf 70 = .ok (.iaload, 1) := by decide +kernel
theorem dX12_worthOf_71 : decode cX12_worthOf 71 = .ok (.aload_n 0, 1) := by decide +kernel
theorem dX12_worthOf_72 : decode cX12_worthOf 72 = .ok (.iload_n 1, 1) := by decide +kernel
theorem dX12_worthOf_73 : decode cX12_worthOf 73 = .ok (.iconst 3, 1) := by decide +kernel
theorem dX12_worthOf_74 : decode cX12_worthOf 74 = .ok (.invokevirtual 242, 3) := by decide +kernel
theorem dX12_worthOf_77 : decode cX12_worthOf 77 = .ok (.iconst 1, 1) := by decide +kernel
theorem dX12_worthOf_78 : decode cX12_worthOf 78 = .ok (.iadd, 1) := by decide +kernel
theorem dX12_worthOf_79 : decode cX12_worthOf 79 = .ok (.if_icmp .ne 7, 3) := by decide +kernel
theorem dX12_worthOf_82 : decode cX12_worthOf 82 = .ok (.iconst 0, 1) := by decide +kernel
theorem dX12_worthOf_83 : decode cX12_worthOf 83 = .ok (.goto 7, 3) := by decide +kernel
theorem dX12_worthOf_86 : decode cX12_worthOf 86 = .ok (.bipush (-2), 2) := by decide +kernel
theorem dX12_worthOf_88 : decode cX12_worthOf 88 = .ok (.iload_n 3, 1) := by decide +kernel
theorem dX12_worthOf_89 : decode cX12_worthOf 89 = .ok (.imul, 1) := by decide +kernel
theorem dX12_worthOf_90 : decode cX12_worthOf 90 = .ok (.ireturn, 1) := by decide +kernel
theorem dX12_worthOf_91 : decode cX12_worthOf 91 = .ok (.iload_n 2, 1) := by decide +kernel
theorem dX12_worthOf_92 : decode cX12_worthOf 92 = .ok (.iconst 2, 1) := by decide +kernel
theorem dX12_worthOf_93 : decode cX12_worthOf 93 = .ok (.idiv, 1) := by decide +kernel
theorem dX12_worthOf_94 : decode cX12_worthOf 94 = .ok (.ireturn, 1) := by decide +kernel
theorem dX12_worthOf_95 : decode cX12_worthOf 95 = .ok (.iload_n 2, 1) := by decide +kernel
theorem dX12_worthOf_96 : decode cX12_worthOf 96 = .ok (.iconst 2, 1) := by decide +kernel
theorem dX12_worthOf_97 : decode cX12_worthOf 97 = .ok (.idiv, 1) := by decide +kernel
theorem dX12_worthOf_98 : decode cX12_worthOf 98 = .ok (.iload_n 3, 1) := by decide +kernel
theorem dX12_worthOf_99 : decode cX12_worthOf 99 = .ok (.isub, 1) := by decide +kernel
theorem dX12_worthOf_100 : decode cX12_worthOf 100 = .ok (.ireturn, 1) := by decide +kernel
theorem dX12_worthOf_101 : decode cX12_worthOf 101 = .ok (.iload_n 3, 1) := by decide +kernel
theorem dX12_worthOf_102 : decode cX12_worthOf 102 = .ok (.ineg, 1) := by decide +kernel
theorem dX12_worthOf_103 : decode cX12_worthOf 103 = .ok (.ireturn, 1) := by decide +kernel
theorem dX12_worthAll_0 : decode cX12_worthAll 0 = .ok (.iconst 0, 1) := by decide +kernel
theorem dX12_worthAll_1 : decode cX12_worthAll 1 = .ok (.istore_n 2, 1) := by decide +kernel
theorem dX12_worthAll_2 : decode cX12_worthAll 2 = .ok (.iconst 0, 1) := by decide +kernel
theorem dX12_worthAll_3 : decode cX12_worthAll 3 = .ok (.istore_n 3, 1) := by decide +kernel
theorem dX12_worthAll_4 : decode cX12_worthAll 4 = .ok (.iload_n 3, 1) := by decide +kernel
theorem dX12_worthAll_5 : decode cX12_worthAll 5 = .ok (.iload_n 1, 1) := by decide +kernel
theorem dX12_worthAll_6 : decode cX12_worthAll 6 = .ok (.if_icmp .ge 22, 3) := by decide +kernel
theorem dX12_worthAll_9 : decode cX12_worthAll 9 = .ok (.iload_n 2, 1) := by decide +kernel
theorem dX12_worthAll_10 : decode cX12_worthAll 10 = .ok (.aload_n 0, 1) := by decide +kernel
theorem dX12_worthAll_11 : decode cX12_worthAll 11 = .ok (.aload_n 0, 1) := by decide +kernel
theorem dX12_worthAll_12 : decode cX12_worthAll 12 = .ok (.getfield 47, 3) := by decide +kernel
theorem dX12_worthAll_15 : decode cX12_worthAll 15 = .ok (.iload_n 3, 1) := by decide +kernel
theorem dX12_worthAll_16 : decode cX12_worthAll 16 = .ok (.iaload, 1) := by decide +kernel
theorem dX12_worthAll_17 : decode cX12_worthAll 17 = .ok (.invokevirtual 264, 3) := by decide +kernel
theorem dX12_worthAll_20 : decode cX12_worthAll 20 = .ok (.iadd, 1) := by decide +kernel
theorem dX12_worthAll_21 : decode cX12_worthAll 21 = .ok (.istore_n 2, 1) := by decide +kernel
theorem dX12_worthAll_22 : decode cX12_worthAll 22 = .ok (.iinc 3 1, 3) := by decide +kernel
theorem dX12_worthAll_25 : decode cX12_worthAll 25 = .ok (.goto (-21), 3) := by decide +kernel
theorem dX12_worthAll_28 : decode cX12_worthAll 28 = .ok (.iload_n 2, 1) := by decide +kernel
theorem dX12_worthAll_29 : decode cX12_worthAll 29 = .ok (.ireturn, 1) := by decide +kernel
theorem dX12_lateMany_0 : decode cX12_lateMany 0 = .ok (.iconst 0, 1) := by decide +kernel
theorem dX12_lateMany_1 : decode cX12_lateMany 1 = .ok (.istore_n 2, 1) := by decide +kernel
theorem dX12_lateMany_2 : decode cX12_lateMany 2 = .ok (.iconst 0, 1) := by decide +kernel
theorem dX12_lateMany_3 : decode cX12_lateMany 3 = .ok (.istore_n 3, 1) := by decide +kernel
theorem dX12_lateMany_4 : decode cX12_lateMany 4 = .ok (.iload_n 3, 1) := by decide +kernel
theorem dX12_lateMany_5 : decode cX12_lateMany 5 = .ok (.iload_n 1, 1) := by decide +kernel
theorem dX12_lateMany_6 : decode cX12_lateMany 6 = .ok (.if_icmp .ge 30, 3) := by decide +kernel
theorem dX12_lateMany_9 : decode cX12_lateMany 9 = .ok (.iload_n 2, 1) := by decide +kernel
theorem dX12_lateMany_10 : decode cX12_lateMany 10 = .ok (.aload_n 0, 1) := by decide +kernel
theorem dX12_lateMany_11 : decode cX12_lateMany 11 = .ok (.aload_n 0, 1) := by decide +kernel
theorem dX12_lateMany_12 : decode cX12_lateMany 12 = .ok (.getfield 47, 3) := by decide +kernel
theorem dX12_lateMany_15 : decode cX12_lateMany 15 = .ok (.iload_n 3, 1) := by decide +kernel
theorem dX12_lateMany_16 : decode cX12_lateMany 16 = .ok (.iaload, 1) := by decide +kernel
theorem dX12_lateMany_17 : decode cX12_lateMany 17 = .ok (.invokevirtual 261, 3) := by decide +kernel
theorem dX12_lateMany_20 : decode cX12_lateMany 20 = .ok (.ifCond .eq 7, 3) := by decide +kernel
theorem dX12_lateMany_23 : decode cX12_lateMany 23 = .ok (.iconst 1, 1) := by decide +kernel
theorem dX12_lateMany_24 : decode cX12_lateMany 24 = .ok (.goto 4, 3) := by decide +kernel
theorem dX12_lateMany_27 : decode cX12_lateMany 27 = .ok (.iconst 0, 1) := by decide +kernel
theorem dX12_lateMany_28 : decode cX12_lateMany 28 = .ok (.iadd, 1) := by decide +kernel
theorem dX12_lateMany_29 : decode cX12_lateMany 29 = .ok (.istore_n 2, 1) := by decide +kernel
theorem dX12_lateMany_30 : decode cX12_lateMany 30 = .ok (.iinc 3 1, 3) := by decide +kernel
theorem dX12_lateMany_33 : decode cX12_lateMany 33 = .ok (.goto (-29), 3) := by decide +kernel
theorem dX12_lateMany_36 : decode cX12_lateMany 36 = .ok (.iload_n 2, 1) := by decide +kernel
theorem dX12_lateMany_37 : decode cX12_lateMany 37 = .ok (.ireturn, 1) := by decide +kernel
theorem dX12_byPlan_0 : decode cX12_byPlan 0 = .ok (.iconst 0, 1) := by decide +kernel
theorem dX12_byPlan_1 : decode cX12_byPlan 1 = .ok (.istore_n 1, 1) := by decide +kernel
theorem dX12_byPlan_2 : decode cX12_byPlan 2 = .ok (.iload_n 1, 1) := by decide +kernel
theorem dX12_byPlan_3 : decode cX12_byPlan 3 = .ok (.aload_n 0, 1) := by decide +kernel
theorem dX12_byPlan_4 : decode cX12_byPlan 4 = .ok (.getfield 96, 3) := by decide +kernel
theorem dX12_byPlan_7 : decode cX12_byPlan 7 = .ok (.if_icmp .ge 21, 3) := by decide +kernel
theorem dX12_byPlan_10 : decode cX12_byPlan 10 = .ok (.aload_n 0, 1) := by decide +kernel
theorem dX12_byPlan_11 : decode cX12_byPlan 11 = .ok (.getfield 47, 3) := by decide +kernel
theorem dX12_byPlan_14 : decode cX12_byPlan 14 = .ok (.iload_n 1, 1) := by decide +kernel
theorem dX12_byPlan_15 : decode cX12_byPlan 15 = .ok (.aload_n 0, 1) := by decide +kernel
theorem dX12_byPlan_16 : decode cX12_byPlan 16 = .ok (.getfield 28, 3) := by decide +kernel
theorem dX12_byPlan_19 : decode cX12_byPlan 19 = .ok (.iload_n 1, 1) := by decide +kernel
theorem dX12_byPlan_20 : decode cX12_byPlan 20 = .ok (.iaload, 1) := by decide +kernel
theorem dX12_byPlan_21 : decode cX12_byPlan 21 = .ok (.iastore, 1) := by decide +kernel
theorem dX12_byPlan_22 : decode cX12_byPlan 22 = .ok (.iinc 1 1, 3) := by decide +kernel
theorem dX12_byPlan_25 : decode cX12_byPlan 25 = .ok (.goto (-23), 3) := by decide +kernel
theorem dX12_byPlan_28 : decode cX12_byPlan 28 = .ok (.aload_n 0, 1) := by decide +kernel
theorem dX12_byPlan_29 : decode cX12_byPlan 29 = .ok (.aload_n 0, 1) := by decide +kernel
theorem dX12_byPlan_30 : decode cX12_byPlan 30 = .ok (.getfield 96, 3) := by decide +kernel
theorem dX12_byPlan_33 : decode cX12_byPlan 33 = .ok (.iconst 0, 1) := by decide +kernel
theorem dX12_byPlan_34 : decode cX12_byPlan 34 = .ok (.iconst 0, 1) := by decide +kernel
theorem dX12_byPlan_35 : decode cX12_byPlan 35 = .ok (.invokevirtual 267, 3) := by decide +kernel
theorem dX12_byPlan_38 : decode cX12_byPlan 38 = .ok (.return_, 1) := by decide +kernel
theorem dX12_ends_0 : decode cX12_ends 0 = .ok (.aload_n 0, 1) := by decide +kernel
theorem dX12_ends_1 : decode cX12_ends 1 = .ok (.iload_n 1, 1) := by decide +kernel
theorem dX12_ends_2 : decode cX12_ends 2 = .ok (.invokevirtual 239, 3) := by decide +kernel
theorem dX12_ends_5 : decode cX12_ends 5 = .ok (.ifCond .ne 5, 3) := by decide +kernel
theorem dX12_ends_8 : decode cX12_ends 8 = .ok (.iconst (-1), 1) := by decide +kernel
theorem dX12_ends_9 : decode cX12_ends 9 = .ok (.ireturn, 1) := by decide +kernel
theorem dX12_ends_10 : decode cX12_ends 10 = .ok (.aload_n 0, 1) := by decide +kernel
theorem dX12_ends_11 : decode cX12_ends 11 = .ok (.invokevirtual 271, 3) := by decide +kernel
theorem dX12_ends_14 : decode cX12_ends 14 = .ok (.aload_n 0, 1) := by decide +kernel
theorem dX12_ends_15 : decode cX12_ends 15 = .ok (.getfield 53, 3) := by decide +kernel
theorem dX12_ends_18 : decode cX12_ends 18 = .ok (.iload_n 1, 1) := by decide +kernel
theorem dX12_ends_19 : decode cX12_ends 19 = .ok (.iaload, 1) := by decide +kernel
theorem dX12_ends_20 : decode cX12_ends 20 = .ok (.ireturn, 1) := by decide +kernel
theorem dX12_late_0 : decode cX12_late 0 = .ok (.aload_n 0, 1) := by decide +kernel
theorem dX12_late_1 : decode cX12_late 1 = .ok (.invokevirtual 271, 3) := by decide +kernel
theorem dX12_late_4 : decode cX12_late 4 = .ok (.iconst 0, 1) := by decide +kernel
theorem dX12_late_5 : decode cX12_late 5 = .ok (.istore_n 1, 1) := by decide +kernel
theorem dX12_late_6 : decode cX12_late 6 = .ok (.iconst 0, 1) := by decide +kernel
theorem dX12_late_7 : decode cX12_late 7 = .ok (.istore_n 2, 1) := by decide +kernel
theorem dX12_late_8 : decode cX12_late 8 = .ok (.iload_n 2, 1) := by decide +kernel
theorem dX12_late_9 : decode cX12_late 9 = .ok (.aload_n 0, 1) := by decide +kernel
theorem dX12_late_10 : decode cX12_late 10 = .ok (.getfield 96, 3) := by decide +kernel
theorem dX12_late_13 : decode cX12_late 13 = .ok (.if_icmp .ge 27, 3) := by decide +kernel
theorem dX12_late_16 : decode cX12_late 16 = .ok (.iload_n 1, 1) := by decide +kernel
theorem dX12_late_17 : decode cX12_late 17 = .ok (.aload_n 0, 1) := by decide +kernel
theorem dX12_late_18 : decode cX12_late 18 = .ok (.iload_n 2, 1) := by decide +kernel
theorem dX12_late_19 : decode cX12_late 19 = .ok (.invokevirtual 261, 3) := by decide +kernel
theorem dX12_late_22 : decode cX12_late 22 = .ok (.ifCond .eq 9, 3) := by decide +kernel
theorem dX12_late_25 : decode cX12_late 25 = .ok (.iconst 1, 1) := by decide +kernel
theorem dX12_late_26 : decode cX12_late 26 = .ok (.iload_n 2, 1) := by decide +kernel
theorem dX12_late_27 : decode cX12_late 27 = .ok (.ishl, 1) := by decide +kernel
theorem dX12_late_28 : decode cX12_late 28 = .ok (.goto 4, 3) := by decide +kernel
theorem dX12_late_31 : decode cX12_late 31 = .ok (.iconst 0, 1) := by decide +kernel
theorem dX12_late_32 : decode cX12_late 32 = .ok (.ior, 1) := by decide +kernel
theorem dX12_late_33 : decode cX12_late 33 = .ok (.istore_n 1, 1) := by decide +kernel
theorem dX12_late_34 : decode cX12_late 34 = .ok (.iinc 2 1, 3) := by decide +kernel
theorem dX12_late_37 : decode cX12_late 37 = .ok (.goto (-29), 3) := by decide +kernel
theorem dX12_late_40 : decode cX12_late 40 = .ok (.iload_n 1, 1) := by decide +kernel
theorem dX12_late_41 : decode cX12_late 41 = .ok (.ireturn, 1) := by decide +kernel
theorem dX12_worth_0 : decode cX12_worth 0 = .ok (.aload_n 0, 1) := by decide +kernel
theorem dX12_worth_1 : decode cX12_worth 1 = .ok (.invokevirtual 271, 3) := by decide +kernel
theorem dX12_worth_4 : decode cX12_worth 4 = .ok (.aload_n 0, 1) := by decide +kernel
theorem dX12_worth_5 : decode cX12_worth 5 = .ok (.aload_n 0, 1) := by decide +kernel
theorem dX12_worth_6 : decode cX12_worth 6 = .ok (.getfield 96, 3) := by decide +kernel
theorem dX12_worth_9 : decode cX12_worth 9 = .ok (.invokevirtual 274, 3) := by decide +kernel
theorem dX12_worth_12 : decode cX12_worth 12 = .ok (.ireturn, 1) := by decide +kernel
theorem dX12_firstOrder_0 : decode cX12_firstOrder 0 = .ok (.iconst 0, 1) := by decide +kernel
theorem dX12_firstOrder_1 : decode cX12_firstOrder 1 = .ok (.istore_n 3, 1) := by decide +kernel
theorem dX12_firstOrder_2 : decode cX12_firstOrder 2 = .ok (.iconst 0, 1) := by decide +kernel
theorem dX12_firstOrder_3 : decode cX12_firstOrder 3 = .ok (.istore 4, 2) := by decide +kernel
theorem dX12_firstOrder_5 : decode cX12_firstOrder 5 = .ok (.iload 4, 2) := by decide +kernel
theorem dX12_firstOrder_7 : decode cX12_firstOrder 7 = .ok (.iload_n 1, 1) := by decide +kernel
theorem dX12_firstOrder_8 : decode cX12_firstOrder 8 = .ok (.if_icmp .ge 26, 3) := by decide +kernel
theorem dX12_firstOrder_11 : decode cX12_firstOrder 11 = .ok (.iload 4, 2) := by decide +kernel
theorem dX12_firstOrder_13 : decode cX12_firstOrder 13 = .ok (.iload_n 2, 1) := by decide +kernel
theorem dX12_firstOrder_14 : decode cX12_firstOrder 14 = .ok (.if_icmp .eq 14, 3) := by decide +kernel
theorem dX12_firstOrder_17 : decode cX12_firstOrder 17 = .ok (.aload_n 0, 1) := by decide +kernel
theorem dX12_firstOrder_18 : decode cX12_firstOrder 18 = .ok (.getfield 47, 3) := by decide +kernel
theorem dX12_firstOrder_21 : decode cX12_firstOrder 21 = .ok (.iload_n 3, 1) := by decide +kernel
theorem dX12_firstOrder_22 : decode cX12_firstOrder 22 = .ok (.iload 4, 2) := by decide +kernel
theorem dX12_firstOrder_24 : decode cX12_firstOrder 24 = .ok (.iastore, 1) := by decide +kernel
theorem dX12_firstOrder_25 : decode cX12_firstOrder 25 = .ok (.iinc 3 1, 3) := by decide +kernel
theorem dX12_firstOrder_28 : decode cX12_firstOrder 28 = .ok (.iinc 4 1, 3) := by decide +kernel
theorem dX12_firstOrder_31 : decode cX12_firstOrder 31 = .ok (.goto (-26), 3) := by decide +kernel
theorem dX12_firstOrder_34 : decode cX12_firstOrder 34 = .ok (.iload_n 3, 1) := by decide +kernel
theorem dX12_firstOrder_35 : decode cX12_firstOrder 35 = .ok (.ireturn, 1) := by decide +kernel
theorem dX12_nextOrder_0 : decode cX12_nextOrder 0 = .ok (.iload_n 1, 1) := by decide +kernel
theorem dX12_nextOrder_1 : decode cX12_nextOrder 1 = .ok (.iconst 2, 1) := by decide +kernel
theorem dX12_nextOrder_2 : decode cX12_nextOrder 2 = .ok (.isub, 1) := by decide +kernel
theorem dX12_nextOrder_3 : decode cX12_nextOrder 3 = .ok (.istore_n 2, 1) := by decide +kernel
theorem dX12_nextOrder_4 : decode cX12_nextOrder 4 = .ok (.iload_n 2, 1) := by decide +kernel
theorem dX12_nextOrder_5 : decode cX12_nextOrder 5 = .ok (.ifCond .lt 26, 3) := by decide +kernel
theorem dX12_nextOrder_8 : decode cX12_nextOrder 8 = .ok (.aload_n 0, 1) := by decide +kernel
theorem dX12_nextOrder_9 : decode cX12_nextOrder 9 = .ok (.getfield 47, 3) := by decide +kernel
theorem dX12_nextOrder_12 : decode cX12_nextOrder 12 = .ok (.iload_n 2, 1) := by decide +kernel
theorem dX12_nextOrder_13 : decode cX12_nextOrder 13 = .ok (.iaload, 1) := by decide +kernel
theorem dX12_nextOrder_14 : decode cX12_nextOrder 14 = .ok (.aload_n 0, 1) := by decide +kernel
theorem dX12_nextOrder_15 : decode cX12_nextOrder 15 = .ok (.getfield 47, 3) := by decide +kernel
theorem dX12_nextOrder_18 : decode cX12_nextOrder 18 = .ok (.iload_n 2, 1) := by decide +kernel
theorem dX12_nextOrder_19 : decode cX12_nextOrder 19 = .ok (.iconst 1, 1) := by decide +kernel
theorem dX12_nextOrder_20 : decode cX12_nextOrder 20 = .ok (.iadd, 1) := by decide +kernel
theorem dX12_nextOrder_21 : decode cX12_nextOrder 21 = .ok (.iaload, 1) := by decide +kernel
theorem dX12_nextOrder_22 : decode cX12_nextOrder 22 = .ok (.if_icmp .le 9, 3) := by decide +kernel
theorem dX12_nextOrder_25 : decode cX12_nextOrder 25 = .ok (.iinc 2 (-1), 3) := by decide +kernel
theorem dX12_nextOrder_28 : decode cX12_nextOrder 28 = .ok (.goto (-24), 3) := by decide +kernel
theorem dX12_nextOrder_31 : decode cX12_nextOrder 31 = .ok (.iload_n 2, 1) := by decide +kernel
theorem dX12_nextOrder_32 : decode cX12_nextOrder 32 = .ok (.ifCond .ge 5, 3) := by decide +kernel
theorem dX12_nextOrder_35 : decode cX12_nextOrder 35 = .ok (.iconst 0, 1) := by decide +kernel
theorem dX12_nextOrder_36 : decode cX12_nextOrder 36 = .ok (.ireturn, 1) := by decide +kernel
theorem dX12_nextOrder_37 : decode cX12_nextOrder 37 = .ok (.iload_n 1, 1) := by decide +kernel
theorem dX12_nextOrder_38 : decode cX12_nextOrder 38 = .ok (.iconst 1, 1) := by decide +kernel
theorem dX12_nextOrder_39 : decode cX12_nextOrder 39 = .ok (.isub, 1) := by decide +kernel
theorem dX12_nextOrder_40 : decode cX12_nextOrder 40 = .ok (.istore_n 3, 1) := by decide +kernel
theorem dX12_nextOrder_41 : decode cX12_nextOrder 41 = .ok (.aload_n 0, 1) := by decide +kernel
theorem dX12_nextOrder_42 : decode cX12_nextOrder 42 = .ok (.getfield 47, 3) := by decide +kernel
theorem dX12_nextOrder_45 : decode cX12_nextOrder 45 = .ok (.iload_n 3, 1) := by decide +kernel
theorem dX12_nextOrder_46 : decode cX12_nextOrder 46 = .ok (.iaload, 1) := by decide +kernel
theorem dX12_nextOrder_47 : decode cX12_nextOrder 47 = .ok (.aload_n 0, 1) := by decide +kernel
theorem dX12_nextOrder_48 : decode cX12_nextOrder 48 = .ok (.getfield 47, 3) := by decide +kernel
theorem dX12_nextOrder_51 : decode cX12_nextOrder 51 = .ok (.iload_n 2, 1) := by decide +kernel
theorem dX12_nextOrder_52 : decode cX12_nextOrder 52 = .ok (.iaload, 1) := by decide +kernel
theorem dX12_nextOrder_53 : decode cX12_nextOrder 53 = .ok (.if_icmp .ge 9, 3) := by decide +kernel
theorem dX12_nextOrder_56 : decode cX12_nextOrder 56 = .ok (.iinc 3 (-1), 3) := by decide +kernel
theorem dX12_nextOrder_59 : decode cX12_nextOrder 59 = .ok (.goto (-18), 3) := by decide +kernel
theorem dX12_nextOrder_62 : decode cX12_nextOrder 62 = .ok (.aload_n 0, 1) := by decide +kernel
theorem dX12_nextOrder_63 : decode cX12_nextOrder 63 = .ok (.iload_n 2, 1) := by decide +kernel
theorem dX12_nextOrder_64 : decode cX12_nextOrder 64 = .ok (.iload_n 3, 1) := by decide +kernel
theorem dX12_nextOrder_65 : decode cX12_nextOrder 65 = .ok (.invokevirtual 277, 3) := by decide +kernel
theorem dX12_nextOrder_68 : decode cX12_nextOrder 68 = .ok (.iload_n 1, 1) := by decide +kernel
theorem dX12_nextOrder_69 : decode cX12_nextOrder 69 = .ok (.iconst 1, 1) := by decide +kernel
theorem dX12_nextOrder_70 : decode cX12_nextOrder 70 = .ok (.isub, 1) := by decide +kernel
theorem dX12_nextOrder_71 : decode cX12_nextOrder 71 = .ok (.istore 4, 2) := by decide +kernel
theorem dX12_nextOrder_73 : decode cX12_nextOrder 73 = .ok (.iload 4, 2) := by decide +kernel
theorem dX12_nextOrder_75 : decode cX12_nextOrder 75 = .ok (.iload_n 2, 1) := by decide +kernel
theorem dX12_nextOrder_76 : decode cX12_nextOrder 76 = .ok (.iconst 1, 1) := by decide +kernel
theorem dX12_nextOrder_77 : decode cX12_nextOrder 77 = .ok (.iadd, 1) := by decide +kernel
theorem dX12_nextOrder_78 : decode cX12_nextOrder 78 = .ok (.if_icmp .le 19, 3) := by decide +kernel
theorem dX12_nextOrder_81 : decode cX12_nextOrder 81 = .ok (.iinc 2 1, 3) := by decide +kernel
theorem dX12_nextOrder_84 : decode cX12_nextOrder 84 = .ok (.aload_n 0, 1) := by decide +kernel
theorem dX12_nextOrder_85 : decode cX12_nextOrder 85 = .ok (.iload_n 2, 1) := by decide +kernel
theorem dX12_nextOrder_86 : decode cX12_nextOrder 86 = .ok (.iload 4, 2) := by decide +kernel
theorem dX12_nextOrder_88 : decode cX12_nextOrder 88 = .ok (.invokevirtual 277, 3) := by decide +kernel
theorem dX12_nextOrder_91 : decode cX12_nextOrder 91 = .ok (.iinc 4 (-1), 3) := by decide +kernel
theorem dX12_nextOrder_94 : decode cX12_nextOrder 94 = .ok (.goto (-21), 3) := by decide +kernel
theorem dX12_nextOrder_97 : decode cX12_nextOrder 97 = .ok (.iconst 1, 1) := by decide +kernel
theorem dX12_nextOrder_98 : decode cX12_nextOrder 98 = .ok (.ireturn, 1) := by decide +kernel
theorem dX12_swaps_0 : decode cX12_swaps 0 = .ok (.aload_n 0, 1) := by decide +kernel
theorem dX12_swaps_1 : decode cX12_swaps 1 = .ok (.getfield 47, 3) := by decide +kernel
theorem dX12_swaps_4 : decode cX12_swaps 4 = .ok (.iload_n 1, 1) := by decide +kernel
theorem dX12_swaps_5 : decode cX12_swaps 5 = .ok (.iaload, 1) := by decide +kernel
theorem dX12_swaps_6 : decode cX12_swaps 6 = .ok (.istore_n 3, 1) := by decide +kernel
theorem dX12_swaps_7 : decode cX12_swaps 7 = .ok (.aload_n 0, 1) := by decide +kernel
theorem dX12_swaps_8 : decode cX12_swaps 8 = .ok (.getfield 47, 3) := by decide +kernel
theorem dX12_swaps_11 : decode cX12_swaps 11 = .ok (.iload_n 1, 1) := by decide +kernel
theorem dX12_swaps_12 : decode cX12_swaps 12 = .ok (.aload_n 0, 1) := by decide +kernel
theorem dX12_swaps_13 : decode cX12_swaps 13 = .ok (.getfield 47, 3) := by decide +kernel
theorem dX12_swaps_16 : decode cX12_swaps 16 = .ok (.iload_n 2, 1) := by decide +kernel
theorem dX12_swaps_17 : decode cX12_swaps 17 = .ok (.iaload, 1) := by decide +kernel
theorem dX12_swaps_18 : decode cX12_swaps 18 = .ok (.iastore, 1) := by decide +kernel
theorem dX12_swaps_19 : decode cX12_swaps 19 = .ok (.aload_n 0, 1) := by decide +kernel
theorem dX12_swaps_20 : decode cX12_swaps 20 = .ok (.getfield 47, 3) := by decide +kernel
theorem dX12_swaps_23 : decode cX12_swaps 23 = .ok (.iload_n 2, 1) := by decide +kernel
theorem dX12_swaps_24 : decode cX12_swaps 24 = .ok (.iload_n 3, 1) := by decide +kernel
theorem dX12_swaps_25 : decode cX12_swaps 25 = .ok (.iastore, 1) := by decide +kernel
theorem dX12_swaps_26 : decode cX12_swaps 26 = .ok (.return_, 1) := by decide +kernel
theorem dX12_keepsOrder_0 : decode cX12_keepsOrder 0 = .ok (.iconst 0, 1) := by decide +kernel
theorem dX12_keepsOrder_1 : decode cX12_keepsOrder 1 = .ok (.istore_n 2, 1) := by decide +kernel
theorem dX12_keepsOrder_2 : decode cX12_keepsOrder 2 = .ok (.iload_n 2, 1) := by decide +kernel
theorem dX12_keepsOrder_3 : decode cX12_keepsOrder 3 = .ok (.iload_n 1, 1) := by decide +kernel
theorem dX12_keepsOrder_4 : decode cX12_keepsOrder 4 = .ok (.if_icmp .ge 21, 3) := by decide +kernel
theorem dX12_keepsOrder_7 : decode cX12_keepsOrder 7 = .ok (.aload_n 0, 1) := by decide +kernel
theorem dX12_keepsOrder_8 : decode cX12_keepsOrder 8 = .ok (.getfield 56, 3) := by decide +kernel
theorem dX12_keepsOrder_11 : decode cX12_keepsOrder 11 = .ok (.iload_n 2, 1) := by decide +kernel
theorem dX12_keepsOrder_12 : decode cX12_keepsOrder 12 = .ok (.aload_n 0, 1) := by decide +kernel
theorem dX12_keepsOrder_13 : decode cX12_keepsOrder 13 = .ok (.getfield 47, 3) := by decide +kernel
theorem dX12_keepsOrder_16 : decode cX12_keepsOrder 16 = .ok (.iload_n 2, 1) := by decide +kernel
theorem dX12_keepsOrder_17 : decode cX12_keepsOrder 17 = .ok (.iaload, 1) := by decide +kernel
theorem dX12_keepsOrder_18 : decode cX12_keepsOrder 18 = .ok (.iastore, 1) := by decide +kernel
theorem dX12_keepsOrder_19 : decode cX12_keepsOrder 19 = .ok (.iinc 2 1, 3) := by decide +kernel
theorem dX12_keepsOrder_22 : decode cX12_keepsOrder 22 = .ok (.goto (-20), 3) := by decide +kernel
theorem dX12_keepsOrder_25 : decode cX12_keepsOrder 25 = .ok (.return_, 1) := by decide +kernel
theorem dX12_digitsOf_0 : decode cX12_digitsOf 0 = .ok (.iconst 0, 1) := by decide +kernel
theorem dX12_digitsOf_1 : decode cX12_digitsOf 1 = .ok (.istore_n 2, 1) := by decide +kernel
theorem dX12_digitsOf_2 : decode cX12_digitsOf 2 = .ok (.iconst 0, 1) := by decide +kernel
theorem dX12_digitsOf_3 : decode cX12_digitsOf 3 = .ok (.istore_n 3, 1) := by decide +kernel
theorem dX12_digitsOf_4 : decode cX12_digitsOf 4 = .ok (.iload_n 3, 1) := by decide +kernel
theorem dX12_digitsOf_5 : decode cX12_digitsOf 5 = .ok (.iload_n 1, 1) := by decide +kernel
theorem dX12_digitsOf_6 : decode cX12_digitsOf 6 = .ok (.if_icmp .ge 22, 3) := by decide +kernel
theorem dX12_digitsOf_9 : decode cX12_digitsOf 9 = .ok (.iload_n 2, 1) := by decide +kernel
theorem dX12_digitsOf_10 : decode cX12_digitsOf 10 = .ok (.aload_n 0, 1) := by decide +kernel
theorem dX12_digitsOf_11 : decode cX12_digitsOf 11 = .ok (.getfield 56, 3) := by decide +kernel
theorem dX12_digitsOf_14 : decode cX12_digitsOf 14 = .ok (.iload_n 3, 1) := by decide +kernel
theorem dX12_digitsOf_15 : decode cX12_digitsOf 15 = .ok (.iaload, 1) := by decide +kernel
theorem dX12_digitsOf_16 : decode cX12_digitsOf 16 = .ok (.iconst 3, 1) := by decide +kernel
theorem dX12_digitsOf_17 : decode cX12_digitsOf 17 = .ok (.iload_n 3, 1) := by decide +kernel
theorem dX12_digitsOf_18 : decode cX12_digitsOf 18 = .ok (.imul, 1) := by decide +kernel
theorem dX12_digitsOf_19 : decode cX12_digitsOf 19 = .ok (.ishl, 1) := by decide +kernel
theorem dX12_digitsOf_20 : decode cX12_digitsOf 20 = .ok (.ior, 1) := by decide +kernel
theorem dX12_digitsOf_21 : decode cX12_digitsOf 21 = .ok (.istore_n 2, 1) := by decide +kernel
theorem dX12_digitsOf_22 : decode cX12_digitsOf 22 = .ok (.iinc 3 1, 3) := by decide +kernel
theorem dX12_digitsOf_25 : decode cX12_digitsOf 25 = .ok (.goto (-21), 3) := by decide +kernel
theorem dX12_digitsOf_28 : decode cX12_digitsOf 28 = .ok (.iload_n 2, 1) := by decide +kernel
theorem dX12_digitsOf_29 : decode cX12_digitsOf 29 = .ok (.ireturn, 1) := by decide +kernel
theorem dX12_mostOfAll_0 : decode cX12_mostOfAll 0 = .ok (.aload_n 0, 1) := by decide +kernel
theorem dX12_mostOfAll_1 : decode cX12_mostOfAll 1 = .ok (.iload_n 1, 1) := by decide +kernel
theorem dX12_mostOfAll_2 : decode cX12_mostOfAll 2 = .ok (.iload_n 2, 1) := by decide +kernel
theorem dX12_mostOfAll_3 : decode cX12_mostOfAll 3 = .ok (.invokevirtual 281, 3) := by decide +kernel
theorem dX12_mostOfAll_6 : decode cX12_mostOfAll 6 = .ok (.istore_n 3, 1) := by decide +kernel
theorem dX12_mostOfAll_7 : decode cX12_mostOfAll 7 = .ok (.ldc_w 284, 3) := by decide +kernel
theorem dX12_mostOfAll_10 : decode cX12_mostOfAll 10 = .ok (.istore 4, 2) := by decide +kernel
theorem dX12_mostOfAll_12 : decode cX12_mostOfAll 12 = .ok (.iconst 1, 1) := by decide +kernel
theorem dX12_mostOfAll_13 : decode cX12_mostOfAll 13 = .ok (.istore 5, 2) := by decide +kernel
theorem dX12_mostOfAll_15 : decode cX12_mostOfAll 15 = .ok (.iload 5, 2) := by decide +kernel
theorem dX12_mostOfAll_17 : decode cX12_mostOfAll 17 = .ok (.ifCond .eq 44, 3) := by decide +kernel
theorem dX12_mostOfAll_20 : decode cX12_mostOfAll 20 = .ok (.aload_n 0, 1) := by decide +kernel
theorem dX12_mostOfAll_21 : decode cX12_mostOfAll 21 = .ok (.iload_n 3, 1) := by decide +kernel
theorem dX12_mostOfAll_22 : decode cX12_mostOfAll 22 = .ok (.iload_n 1, 1) := by decide +kernel
theorem dX12_mostOfAll_23 : decode cX12_mostOfAll 23 = .ok (.iconst 0, 1) := by decide +kernel
theorem dX12_mostOfAll_24 : decode cX12_mostOfAll 24 = .ok (.iconst 0, 1) := by decide +kernel
theorem dX12_mostOfAll_25 : decode cX12_mostOfAll 25 = .ok (.invokevirtual 257, 3) := by decide +kernel
theorem dX12_mostOfAll_28 : decode cX12_mostOfAll 28 = .ok (.aload_n 0, 1) := by decide +kernel
theorem dX12_mostOfAll_29 : decode cX12_mostOfAll 29 = .ok (.iload_n 3, 1) := by decide +kernel
theorem dX12_mostOfAll_30 : decode cX12_mostOfAll 30 = .ok (.invokevirtual 274, 3) := by decide +kernel
theorem dX12_mostOfAll_33 : decode cX12_mostOfAll 33 = .ok (.istore 6, 2) := by decide +kernel
theorem dX12_mostOfAll_35 : decode cX12_mostOfAll 35 = .ok (.iload 6, 2) := by decide +kernel
theorem dX12_mostOfAll_37 : decode cX12_mostOfAll 37 = .ok (.iload 4, 2) := by decide +kernel
theorem dX12_mostOfAll_39 : decode cX12_mostOfAll 39 = .ok (.if_icmp .le 12, 3) := by decide +kernel
theorem dX12_mostOfAll_42 : decode cX12_mostOfAll 42 = .ok (.iload 6, 2) := by decide +kernel
theorem dX12_mostOfAll_44 : decode cX12_mostOfAll 44 = .ok (.istore 4, 2) := by decide +kernel
theorem dX12_mostOfAll_46 : decode cX12_mostOfAll 46 = .ok (.aload_n 0, 1) := by decide +kernel
theorem dX12_mostOfAll_47 : decode cX12_mostOfAll 47 = .ok (.iload_n 3, 1) := by decide +kernel
theorem dX12_mostOfAll_48 : decode cX12_mostOfAll 48 = .ok (.invokevirtual 285, 3) := by decide +kernel
theorem dX12_mostOfAll_51 : decode cX12_mostOfAll 51 = .ok (.aload_n 0, 1) := by decide +kernel
theorem dX12_mostOfAll_52 : decode cX12_mostOfAll 52 = .ok (.iload_n 3, 1) := by decide +kernel
theorem dX12_mostOfAll_53 : decode cX12_mostOfAll 53 = .ok (.invokevirtual 288, 3) := by decide +kernel
theorem dX12_mostOfAll_56 : decode cX12_mostOfAll 56 = .ok (.istore 5, 2) := by decide +kernel
theorem dX12_mostOfAll_58 : decode cX12_mostOfAll 58 = .ok (.goto (-43), 3) := by decide +kernel
theorem dX12_mostOfAll_61 : decode cX12_mostOfAll 61 = .ok (.iload 4, 2) := by decide +kernel
theorem dX12_mostOfAll_63 : decode cX12_mostOfAll 63 = .ok (.ireturn, 1) := by decide +kernel
theorem dX12_worksMany_0 : decode cX12_worksMany 0 = .ok (.aload_n 0, 1) := by decide +kernel
theorem dX12_worksMany_1 : decode cX12_worksMany 1 = .ok (.iload_n 2, 1) := by decide +kernel
theorem dX12_worksMany_2 : decode cX12_worksMany 2 = .ok (.iload_n 3, 1) := by decide +kernel
theorem dX12_worksMany_3 : decode cX12_worksMany 3 = .ok (.invokevirtual 291, 3) := by decide +kernel
theorem dX12_worksMany_6 : decode cX12_worksMany 6 = .ok (.aload_n 0, 1) := by decide +kernel
theorem dX12_worksMany_7 : decode cX12_worksMany 7 = .ok (.getfield 217, 3) := by decide +kernel
theorem dX12_worksMany_10 : decode cX12_worksMany 10 = .ok (.istore 5, 2) := by decide +kernel
theorem dX12_worksMany_12 : decode cX12_worksMany 12 = .ok (.aload_n 0, 1) := by decide +kernel
theorem dX12_worksMany_13 : decode cX12_worksMany 13 = .ok (.iload 5, 2) := by decide +kernel
theorem dX12_worksMany_15 : decode cX12_worksMany 15 = .ok (.invokevirtual 248, 3) := by decide +kernel
theorem dX12_worksMany_18 : decode cX12_worksMany 18 = .ok (.iload 4, 2) := by decide +kernel
theorem dX12_worksMany_20 : decode cX12_worksMany 20 = .ok (.ifCond .le 7, 3) := by decide +kernel
theorem dX12_worksMany_23 : decode cX12_worksMany 23 = .ok (.iconst 1, 1) := by decide +kernel
theorem dX12_worksMany_24 : decode cX12_worksMany 24 = .ok (.goto 4, 3) := by decide +kernel
theorem dX12_worksMany_27 : decode cX12_worksMany 27 = .ok (.iconst 0, 1) := by decide +kernel
theorem dX12_worksMany_28 : decode cX12_worksMany 28 = .ok (.iadd, 1) := by decide +kernel
theorem dX12_worksMany_29 : decode cX12_worksMany 29 = .ok (.istore 6, 2) := by decide +kernel
theorem dX12_worksMany_31 : decode cX12_worksMany 31 = .ok (.iconst 0, 1) := by decide +kernel
theorem dX12_worksMany_32 : decode cX12_worksMany 32 = .ok (.istore 7, 2) := by decide +kernel
theorem dX12_worksMany_34 : decode cX12_worksMany 34 = .ok (.iload 7, 2) := by decide +kernel
theorem dX12_worksMany_36 : decode cX12_worksMany 36 = .ok (.iload_n 1, 1) := by decide +kernel
theorem dX12_worksMany_37 : decode cX12_worksMany 37 = .ok (.if_icmp .ge 87, 3) := by decide +kernel
theorem dX12_worksMany_40 : decode cX12_worksMany 40 = .ok (.iconst 0, 1) := by decide +kernel
theorem dX12_worksMany_41 : decode cX12_worksMany 41 = .ok (.istore 8, 2) := by decide +kernel
theorem dX12_worksMany_43 : decode cX12_worksMany 43 = .ok (.iload 8, 2) := by decide +kernel
theorem dX12_worksMany_45 : decode cX12_worksMany 45 = .ok (.ifCond .ne 59, 3) := by decide +kernel
theorem dX12_worksMany_48 : decode cX12_worksMany 48 = .ok (.iload 6, 2) := by decide +kernel
theorem dX12_worksMany_50 : decode cX12_worksMany 50 = .ok (.ifCond .ne 35, 3) := by decide +kernel
theorem dX12_worksMany_53 : decode cX12_worksMany 53 = .ok (.iinc 5 1, 3) := by decide +kernel
theorem dX12_worksMany_56 : decode cX12_worksMany 56 = .ok (.aload_n 0, 1) := by decide +kernel
theorem dX12_worksMany_57 : decode cX12_worksMany 57 = .ok (.iload 5, 2) := by decide +kernel
theorem dX12_worksMany_59 : decode cX12_worksMany 59 = .ok (.invokevirtual 248, 3) := by decide +kernel
theorem dX12_worksMany_62 : decode cX12_worksMany 62 = .ok (.iload 5, 2) := by decide +kernel
theorem dX12_worksMany_64 : decode cX12_worksMany 64 = .ok (.aload_n 0, 1) := by decide +kernel
theorem dX12_worksMany_65 : decode cX12_worksMany 65 = .ok (.getfield 217, 3) := by decide +kernel
theorem dX12_worksMany_68 : decode cX12_worksMany 68 = .ok (.isub, 1) := by decide +kernel
theorem dX12_worksMany_69 : decode cX12_worksMany 69 = .ok (.iload 4, 2) := by decide +kernel
theorem dX12_worksMany_71 : decode cX12_worksMany 71 = .ok (.if_icmp .ge 7, 3) := by decide +kernel
theorem dX12_worksMany_74 : decode cX12_worksMany 74 = .ok (.iconst 1, 1) := by decide +kernel
theorem dX12_worksMany_75 : decode cX12_worksMany 75 = .ok (.goto 4, 3) := by decide +kernel
theorem dX12_worksMany_78 : decode cX12_worksMany 78 = .ok (.iconst 0, 1) := by decide +kernel
theorem dX12_worksMany_79 : decode cX12_worksMany 79 = .ok (.iadd, 1) := by decide +kernel
theorem dX12_worksMany_80 : decode cX12_worksMany 80 = .ok (.istore 6, 2) := by decide +kernel
theorem dX12_worksMany_82 : decode cX12_worksMany 82 = .ok (.goto (-34), 3) := by decide +kernel
theorem dX12_worksMany_85 : decode cX12_worksMany 85 = .ok (.iinc 6 (-1), 3) := by decide +kernel
theorem dX12_worksMany_88 : decode cX12_worksMany 88 = .ok (.aload_n 0, 1) := by decide +kernel
theorem dX12_worksMany_89 : decode cX12_worksMany 89 = .ok (.aload_n 0, 1) := by decide +kernel
theorem dX12_worksMany_90 : decode cX12_worksMany 90 = .ok (.getfield 47, 3) := by decide +kernel
theorem dX12_worksMany_93 : decode cX12_worksMany 93 = .ok (.iload 7, 2) := by decide +kernel
theorem dX12_worksMany_95 : decode cX12_worksMany 95 = .ok (.iaload, 1) := by decide +kernel
theorem dX12_worksMany_96 : decode cX12_worksMany 96 = .ok (.invokevirtual 294, 3) := by decide +kernel
theorem dX12_worksMany_99 : decode cX12_worksMany 99 = .ok (.istore 8, 2) := by decide +kernel
theorem dX12_worksMany_101 : decode cX12_worksMany 101 = .ok (.goto (-58), 3) := by decide +kernel
theorem dX12_worksMany_104 : decode cX12_worksMany 104 = .ok (.aload_n 0, 1) := by decide +kernel
theorem dX12_worksMany_105 : decode cX12_worksMany 105 = .ok (.getfield 53, 3) := by decide +kernel
theorem dX12_worksMany_108 : decode cX12_worksMany 108 = .ok (.aload_n 0, 1) := by decide +kernel
theorem dX12_worksMany_109 : decode cX12_worksMany 109 = .ok (.getfield 47, 3) := by decide +kernel
theorem dX12_worksMany_112 : decode cX12_worksMany 112 = .ok (.iload 7, 2) := by decide +kernel
theorem dX12_worksMany_114 : decode cX12_worksMany 114 = .ok (.iaload, 1) := by decide +kernel
theorem dX12_worksMany_115 : decode cX12_worksMany 115 = .ok (.iload 5, 2) := by decide +kernel
theorem dX12_worksMany_117 : decode cX12_worksMany 117 = .ok (.iastore, 1) := by decide +kernel
theorem dX12_worksMany_118 : decode cX12_worksMany 118 = .ok (.iinc 7 1, 3) := by decide +kernel
theorem dX12_worksMany_121 : decode cX12_worksMany 121 = .ok (.goto (-87), 3) := by decide +kernel
theorem dX12_worksMany_124 : decode cX12_worksMany 124 = .ok (.return_, 1) := by decide +kernel
theorem dX12_best_0 : decode cX12_best 0 = .ok (.iload_n 1, 1) := by decide +kernel
theorem dX12_best_1 : decode cX12_best 1 = .ok (.invokestatic 103, 3) := by decide +kernel
theorem dX12_best_4 : decode cX12_best 4 = .ok (.ifCond .ne 7, 3) := by decide +kernel
theorem dX12_best_7 : decode cX12_best 7 = .ok (.ldc_w 284, 3) := by decide +kernel
theorem dX12_best_10 : decode cX12_best 10 = .ok (.ireturn, 1) := by decide +kernel
theorem dX12_best_11 : decode cX12_best 11 = .ok (.aload_n 0, 1) := by decide +kernel
theorem dX12_best_12 : decode cX12_best 12 = .ok (.aload_n 0, 1) := by decide +kernel
theorem dX12_best_13 : decode cX12_best 13 = .ok (.getfield 96, 3) := by decide +kernel
theorem dX12_best_16 : decode cX12_best 16 = .ok (.iconst (-1), 1) := by decide +kernel
theorem dX12_best_17 : decode cX12_best 17 = .ok (.invokevirtual 297, 3) := by decide +kernel
theorem dX12_best_20 : decode cX12_best 20 = .ok (.istore_n 2, 1) := by decide +kernel
theorem dX12_best_21 : decode cX12_best 21 = .ok (.iload_n 1, 1) := by decide +kernel
theorem dX12_best_22 : decode cX12_best 22 = .ok (.ifCond .ne 7, 3) := by decide +kernel
theorem dX12_best_25 : decode cX12_best 25 = .ok (.iload_n 2, 1) := by decide +kernel
theorem dX12_best_26 : decode cX12_best 26 = .ok (.goto 11, 3) := by decide +kernel
theorem dX12_best_29 : decode cX12_best 29 = .ok (.aload_n 0, 1) := by decide +kernel
theorem dX12_best_30 : decode cX12_best 30 = .ok (.aload_n 0, 1) := by decide +kernel
theorem dX12_best_31 : decode cX12_best 31 = .ok (.getfield 96, 3) := by decide +kernel
theorem dX12_best_34 : decode cX12_best 34 = .ok (.invokevirtual 300, 3) := by decide +kernel
theorem dX12_best_37 : decode cX12_best 37 = .ok (.ireturn, 1) := by decide +kernel
theorem dX12_fewest_0 : decode cX12_fewest 0 = .ok (.aload_n 0, 1) := by decide +kernel
theorem dX12_fewest_1 : decode cX12_fewest 1 = .ok (.aload_n 0, 1) := by decide +kernel
theorem dX12_fewest_2 : decode cX12_fewest 2 = .ok (.getfield 96, 3) := by decide +kernel
theorem dX12_fewest_5 : decode cX12_fewest 5 = .ok (.iconst (-1), 1) := by decide +kernel
theorem dX12_fewest_6 : decode cX12_fewest 6 = .ok (.invokevirtual 281, 3) := by decide +kernel
theorem dX12_fewest_9 : decode cX12_fewest 9 = .ok (.istore_n 1, 1) := by decide +kernel
theorem dX12_fewest_10 : decode cX12_fewest 10 = .ok (.bipush 9, 2) := by decide +kernel
theorem dX12_fewest_12 : decode cX12_fewest 12 = .ok (.istore_n 2, 1) := by decide +kernel
theorem dX12_fewest_13 : decode cX12_fewest 13 = .ok (.iconst 1, 1) := by decide +kernel
theorem dX12_fewest_14 : decode cX12_fewest 14 = .ok (.istore_n 3, 1) := by decide +kernel
theorem dX12_fewest_15 : decode cX12_fewest 15 = .ok (.iload_n 3, 1) := by decide +kernel
theorem dX12_fewest_16 : decode cX12_fewest 16 = .ok (.ifCond .eq 39, 3) := by decide +kernel
theorem dX12_fewest_19 : decode cX12_fewest 19 = .ok (.aload_n 0, 1) := by decide +kernel
theorem dX12_fewest_20 : decode cX12_fewest 20 = .ok (.iload_n 1, 1) := by decide +kernel
theorem dX12_fewest_21 : decode cX12_fewest 21 = .ok (.iconst 0, 1) := by decide +kernel
theorem dX12_fewest_22 : decode cX12_fewest 22 = .ok (.iconst 0, 1) := by decide +kernel
theorem dX12_fewest_23 : decode cX12_fewest 23 = .ok (.invokevirtual 267, 3) := by decide +kernel
theorem dX12_fewest_26 : decode cX12_fewest 26 = .ok (.aload_n 0, 1) := by decide +kernel
theorem dX12_fewest_27 : decode cX12_fewest 27 = .ok (.iload_n 1, 1) := by decide +kernel
theorem dX12_fewest_28 : decode cX12_fewest 28 = .ok (.invokevirtual 303, 3) := by decide +kernel
theorem dX12_fewest_31 : decode cX12_fewest 31 = .ok (.istore 4, 2) := by decide +kernel
theorem dX12_fewest_33 : decode cX12_fewest 33 = .ok (.iload 4, 2) := by decide +kernel
theorem dX12_fewest_35 : decode cX12_fewest 35 = .ok (.iload_n 2, 1) := by decide +kernel
theorem dX12_fewest_36 : decode cX12_fewest 36 = .ok (.if_icmp .ge 8, 3) := by decide +kernel
theorem dX12_fewest_39 : decode cX12_fewest 39 = .ok (.iload 4, 2) := by decide +kernel
theorem dX12_fewest_41 : decode cX12_fewest 41 = .ok (.goto 4, 3) := by decide +kernel
theorem dX12_fewest_44 : decode cX12_fewest 44 = .ok (.iload_n 2, 1) := by decide +kernel
theorem dX12_fewest_45 : decode cX12_fewest 45 = .ok (.istore_n 2, 1) := by decide +kernel
theorem dX12_fewest_46 : decode cX12_fewest 46 = .ok (.aload_n 0, 1) := by decide +kernel
theorem dX12_fewest_47 : decode cX12_fewest 47 = .ok (.iload_n 1, 1) := by decide +kernel
theorem dX12_fewest_48 : decode cX12_fewest 48 = .ok (.invokevirtual 288, 3) := by decide +kernel
theorem dX12_fewest_51 : decode cX12_fewest 51 = .ok (.istore_n 3, 1) := by decide +kernel
theorem dX12_fewest_52 : decode cX12_fewest 52 = .ok (.goto (-37), 3) := by decide +kernel
theorem dX12_fewest_55 : decode cX12_fewest 55 = .ok (.iload_n 2, 1) := by decide +kernel
theorem dX12_fewest_56 : decode cX12_fewest 56 = .ok (.ireturn, 1) := by decide +kernel
theorem dX12_soonest_0 : decode cX12_soonest 0 = .ok (.iload_n 1, 1) := by decide +kernel
theorem dX12_soonest_1 : decode cX12_soonest 1 = .ok (.iload_n 2, 1) := by decide +kernel
theorem dX12_soonest_2 : decode cX12_soonest 2 = .ok (.iload_n 3, 1) := by decide +kernel
theorem dX12_soonest_3 : decode cX12_soonest 3 = .ok (.invokestatic 232, 3) := by decide +kernel
theorem dX12_soonest_6 : decode cX12_soonest 6 = .ok (.ifCond .ne 5, 3) := by decide +kernel
theorem dX12_soonest_9 : decode cX12_soonest 9 = .ok (.iconst (-1), 1) := by decide +kernel
theorem dX12_soonest_10 : decode cX12_soonest 10 = .ok (.ireturn, 1) := by decide +kernel
theorem dX12_soonest_11 : decode cX12_soonest 11 = .ok (.aload_n 0, 1) := by decide +kernel
theorem dX12_soonest_12 : decode cX12_soonest 12 = .ok (.getfield 96, 3) := by decide +kernel
theorem dX12_soonest_15 : decode cX12_soonest 15 = .ok (.bipush 6, 2) := by decide +kernel
theorem dX12_soonest_17 : decode cX12_soonest 17 = .ok (.if_icmp .ne 6, 3) := by decide +kernel
theorem dX12_soonest_20 : decode cX12_soonest 20 = .ok (.bipush (-2), 2) := by decide +kernel
theorem dX12_soonest_22 : decode cX12_soonest 22 = .ok (.ireturn, 1) := by decide +kernel
theorem dX12_soonest_23 : decode cX12_soonest 23 = .ok (.aload_n 0, 1) := by decide +kernel
theorem dX12_soonest_24 : decode cX12_soonest 24 = .ok (.aload_n 0, 1) := by decide +kernel
theorem dX12_soonest_25 : decode cX12_soonest 25 = .ok (.getfield 96, 3) := by decide +kernel
theorem dX12_soonest_28 : decode cX12_soonest 28 = .ok (.iload_n 1, 1) := by decide +kernel
theorem dX12_soonest_29 : decode cX12_soonest 29 = .ok (.iload_n 2, 1) := by decide +kernel
theorem dX12_soonest_30 : decode cX12_soonest 30 = .ok (.iload_n 3, 1) := by decide +kernel
theorem dX12_soonest_31 : decode cX12_soonest 31 = .ok (.bipush 60, 2) := by decide +kernel
theorem dX12_soonest_33 : decode cX12_soonest 33 = .ok (.iconst 0, 1) := by decide +kernel
theorem dX12_soonest_34 : decode cX12_soonest 34 = .ok (.invokevirtual 213, 3) := by decide +kernel
theorem dX12_soonest_37 : decode cX12_soonest 37 = .ok (.aload_n 0, 1) := by decide +kernel
theorem dX12_soonest_38 : decode cX12_soonest 38 = .ok (.aload_n 0, 1) := by decide +kernel
theorem dX12_soonest_39 : decode cX12_soonest 39 = .ok (.getfield 96, 3) := by decide +kernel
theorem dX12_soonest_42 : decode cX12_soonest 42 = .ok (.iconst 1, 1) := by decide +kernel
theorem dX12_soonest_43 : decode cX12_soonest 43 = .ok (.iadd, 1) := by decide +kernel
theorem dX12_soonest_44 : decode cX12_soonest 44 = .ok (.iconst (-1), 1) := by decide +kernel
theorem dX12_soonest_45 : decode cX12_soonest 45 = .ok (.invokevirtual 281, 3) := by decide +kernel
theorem dX12_soonest_48 : decode cX12_soonest 48 = .ok (.istore 4, 2) := by decide +kernel
theorem dX12_soonest_50 : decode cX12_soonest 50 = .ok (.bipush (-3), 2) := by decide +kernel
theorem dX12_soonest_52 : decode cX12_soonest 52 = .ok (.istore 5, 2) := by decide +kernel
theorem dX12_soonest_54 : decode cX12_soonest 54 = .ok (.iconst 1, 1) := by decide +kernel
theorem dX12_soonest_55 : decode cX12_soonest 55 = .ok (.istore 6, 2) := by decide +kernel
theorem dX12_soonest_57 : decode cX12_soonest 57 = .ok (.iload 6, 2) := by decide +kernel
theorem dX12_soonest_59 : decode cX12_soonest 59 = .ok (.ifCond .eq 63, 3) := by decide +kernel
theorem dX12_soonest_62 : decode cX12_soonest 62 = .ok (.aload_n 0, 1) := by decide +kernel
theorem dX12_soonest_63 : decode cX12_soonest 63 = .ok (.iload 4, 2) := by decide +kernel
theorem dX12_soonest_65 : decode cX12_soonest 65 = .ok (.iconst 0, 1) := by decide +kernel
theorem dX12_soonest_66 : decode cX12_soonest 66 = .ok (.iconst 0, 1) := by decide +kernel
theorem dX12_soonest_67 : decode cX12_soonest 67 = .ok (.invokevirtual 267, 3) := by decide +kernel
theorem dX12_soonest_70 : decode cX12_soonest 70 = .ok (.aload_n 0, 1) := by decide +kernel
theorem dX12_soonest_71 : decode cX12_soonest 71 = .ok (.getfield 53, 3) := by decide +kernel
theorem dX12_soonest_74 : decode cX12_soonest 74 = .ok (.aload_n 0, 1) := by decide +kernel
theorem dX12_soonest_75 : decode cX12_soonest 75 = .ok (.getfield 96, 3) := by decide +kernel
theorem dX12_soonest_78 : decode cX12_soonest 78 = .ok (.iaload, 1) := by decide +kernel
theorem dX12_soonest_79 : decode cX12_soonest 79 = .ok (.istore 7, 2) := by decide +kernel
theorem dX12_soonest_81 : decode cX12_soonest 81 = .ok (.aload_n 0, 1) := by decide +kernel
theorem dX12_soonest_82 : decode cX12_soonest 82 = .ok (.iload 4, 2) := by decide +kernel
theorem dX12_soonest_84 : decode cX12_soonest 84 = .ok (.invokevirtual 303, 3) := by decide +kernel
theorem dX12_soonest_87 : decode cX12_soonest 87 = .ok (.ifCond .ne 20, 3) := by decide +kernel
theorem dX12_soonest_90 : decode cX12_soonest 90 = .ok (.iload 5, 2) := by decide +kernel
theorem dX12_soonest_92 : decode cX12_soonest 92 = .ok (.ifCond .lt 10, 3) := by decide +kernel
theorem dX12_soonest_95 : decode cX12_soonest 95 = .ok (.iload 7, 2) := by decide +kernel
theorem dX12_soonest_97 : decode cX12_soonest 97 = .ok (.iload 5, 2) := by decide +kernel
theorem dX12_soonest_99 : decode cX12_soonest 99 = .ok (.if_icmp .ge 8, 3) := by decide +kernel
theorem dX12_soonest_102 : decode cX12_soonest 102 = .ok (.iload 7, 2) := by decide +kernel
theorem dX12_soonest_104 : decode cX12_soonest 104 = .ok (.goto 5, 3) := by decide +kernel
theorem dX12_soonest_107 : decode cX12_soonest 107 = .ok (.iload 5, 2) := by decide +kernel
theorem dX12_soonest_109 : decode cX12_soonest 109 = .ok (.istore 5, 2) := by decide +kernel
theorem dX12_soonest_111 : decode cX12_soonest 111 = .ok (.aload_n 0, 1) := by decide +kernel
theorem dX12_soonest_112 : decode cX12_soonest 112 = .ok (.iload 4, 2) := by decide +kernel
theorem dX12_soonest_114 : decode cX12_soonest 114 = .ok (.invokevirtual 288, 3) := by decide +kernel
theorem dX12_soonest_117 : decode cX12_soonest 117 = .ok (.istore 6, 2) := by decide +kernel
theorem dX12_soonest_119 : decode cX12_soonest 119 = .ok (.goto (-62), 3) := by decide +kernel
theorem dX12_soonest_122 : decode cX12_soonest 122 = .ok (.iload 5, 2) := by decide +kernel
theorem dX12_soonest_124 : decode cX12_soonest 124 = .ok (.ireturn, 1) := by decide +kernel
theorem dX12_gain_0 : decode cX12_gain 0 = .ok (.iload_n 1, 1) := by decide +kernel
theorem dX12_gain_1 : decode cX12_gain 1 = .ok (.iload_n 2, 1) := by decide +kernel
theorem dX12_gain_2 : decode cX12_gain 2 = .ok (.iload_n 3, 1) := by decide +kernel
theorem dX12_gain_3 : decode cX12_gain 3 = .ok (.invokestatic 232, 3) := by decide +kernel
theorem dX12_gain_6 : decode cX12_gain 6 = .ok (.ifCond .eq 22, 3) := by decide +kernel
theorem dX12_gain_9 : decode cX12_gain 9 = .ok (.iload 4, 2) := by decide +kernel
theorem dX12_gain_11 : decode cX12_gain 11 = .ok (.iload 5, 2) := by decide +kernel
theorem dX12_gain_13 : decode cX12_gain 13 = .ok (.invokestatic 235, 3) := by decide +kernel
theorem dX12_gain_16 : decode cX12_gain 16 = .ok (.ifCond .eq 12, 3) := by decide +kernel
theorem dX12_gain_19 : decode cX12_gain 19 = .ok (.aload_n 0, 1) := by decide +kernel
theorem dX12_gain_20 : decode cX12_gain 20 = .ok (.getfield 96, 3) := by decide +kernel
theorem dX12_gain_23 : decode cX12_gain 23 = .ok (.bipush 6, 2) := by decide +kernel
theorem dX12_gain_25 : decode cX12_gain 25 = .ok (.if_icmp .ne 7, 3) := by decide +kernel
theorem dX12_gain_28 : decode cX12_gain 28 = .ok (.ldc_w 284, 3) := by decide +kernel
theorem dX12_gain_31 : decode cX12_gain 31 = .ok (.ireturn, 1) := by decide +kernel
theorem dX12_gain_32 : decode cX12_gain 32 = .ok (.aload_n 0, 1) := by decide +kernel
theorem dX12_gain_33 : decode cX12_gain 33 = .ok (.aload_n 0, 1) := by decide +kernel
theorem dX12_gain_34 : decode cX12_gain 34 = .ok (.getfield 96, 3) := by decide +kernel
theorem dX12_gain_37 : decode cX12_gain 37 = .ok (.iconst (-1), 1) := by decide +kernel
