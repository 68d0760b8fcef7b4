theorem dM_init_0 : decode bM_init 0 = .ok (.aload_n 0, 1) := by decide +kernel
theorem dM_init_1 : decode bM_init 1 = .ok (.invokespecial 3, 3) := by decide +kernel
theorem dM_init_4 : decode bM_init 4 = .ok (.aload_n 0, 1) := by decide +kernel
theorem dM_init_5 : decode bM_init 5 = .ok (.new 9, 3) := by decide +kernel
theorem dM_init_8 : decode bM_init 8 = .ok (.dup, 1) := by decide +kernel
theorem dM_init_9 : decode bM_init 9 = .ok (.invokespecial 11, 3) := by decide +kernel
theorem dM_init_12 : decode bM_init 12 = .ok (.putfield 12, 3) := by decide +kernel
theorem dM_init_15 : decode bM_init 15 = .ok (.aload_n 0, 1) := by decide +kernel
theorem dM_init_16 : decode bM_init 16 = .ok (.new 16, 3) := by decide +kernel
theorem dM_init_19 : decode bM_init 19 = .ok (.dup, 1) := by decide +kernel
theorem dM_init_20 : decode bM_init 20 = .ok (.invokespecial 18, 3) := by decide +kernel
theorem dM_init_23 : decode bM_init 23 = .ok (.putfield 19, 3) := by decide +kernel
theorem dM_init_26 : decode bM_init 26 = .ok (.aload_n 0, 1) := by decide +kernel
theorem dM_init_27 : decode bM_init 27 = .ok (.new 23, 3) := by decide +kernel
theorem dM_init_30 : decode bM_init 30 = .ok (.dup, 1) := by decide +kernel
theorem dM_init_31 : decode bM_init 31 = .ok (.invokespecial 25, 3) := by decide +kernel
theorem dM_init_34 : decode bM_init 34 = .ok (.putfield 26, 3) := by decide +kernel
theorem dM_init_37 : decode bM_init 37 = .ok (.return_, 1) := by decide +kernel
theorem dM_measure_0 : decode bM_measure 0 = .ok (.iload_n 1, 1) := by decide +kernel
theorem dM_measure_1 : decode bM_measure 1 = .ok (.iload_n 2, 1) := by decide +kernel
theorem dM_measure_2 : decode bM_measure 2 = .ok (.invokestatic 30, 3) := by decide +kernel
theorem dM_measure_5 : decode bM_measure 5 = .ok (.aload_n 0, 1) := by decide +kernel
theorem dM_measure_6 : decode bM_measure 6 = .ok (.getfield 12, 3) := by decide +kernel
theorem dM_measure_9 : decode bM_measure 9 = .ok (.getfield 34, 3) := by decide +kernel
theorem dM_measure_12 : decode bM_measure 12 = .ok (.bipush 12, 2) := by decide +kernel
theorem dM_measure_14 : decode bM_measure 14 = .ok (.if_icmp .lt 13, 3) := by decide +kernel
theorem dM_measure_17 : decode bM_measure 17 = .ok (.new 38, 3) := by decide +kernel
theorem dM_measure_20 : decode bM_measure 20 = .ok (.dup, 1) := by decide +kernel
theorem dM_measure_21 : decode bM_measure 21 = .ok (.ldc 40, 2) := by decide +kernel
theorem dM_measure_23 : decode bM_measure 23 = .ok (.invokespecial 42, 3) := by decide +kernel
theorem dM_measure_26 : decode bM_measure 26 = .ok (.athrow, 1) := by decide +kernel
theorem dM_measure_27 : decode bM_measure 27 = .ok (.aload_n 0, 1) := by decide +kernel
theorem dM_measure_28 : decode bM_measure 28 = .ok (.getfield 12, 3) := by decide +kernel
theorem dM_measure_31 : decode bM_measure 31 = .ok (.iload_n 1, 1) := by decide +kernel
theorem dM_measure_32 : decode bM_measure 32 = .ok (.iload_n 2, 1) := by decide +kernel
theorem dM_measure_33 : decode bM_measure 33 = .ok (.invokevirtual 45, 3) := by decide +kernel
theorem dM_measure_36 : decode bM_measure 36 = .ok (.ireturn, 1) := by decide +kernel
theorem dM_change_0 : decode bM_change 0 = .ok (.aload_n 0, 1) := by decide +kernel
theorem dM_change_1 : decode bM_change 1 = .ok (.iload_n 1, 1) := by decide +kernel
theorem dM_change_2 : decode bM_change 2 = .ok (.invokevirtual 49, 3) := by decide +kernel
theorem dM_change_5 : decode bM_change 5 = .ok (.iload_n 2, 1) := by decide +kernel
theorem dM_change_6 : decode bM_change 6 = .ok (.iload_n 3, 1) := by decide +kernel
theorem dM_change_7 : decode bM_change 7 = .ok (.invokestatic 30, 3) := by decide +kernel
theorem dM_change_10 : decode bM_change 10 = .ok (.aload_n 0, 1) := by decide +kernel
theorem dM_change_11 : decode bM_change 11 = .ok (.getfield 12, 3) := by decide +kernel
theorem dM_change_14 : decode bM_change 14 = .ok (.iload_n 1, 1) := by decide +kernel
theorem dM_change_15 : decode bM_change 15 = .ok (.iload_n 2, 1) := by decide +kernel
theorem dM_change_16 : decode bM_change 16 = .ok (.iload_n 3, 1) := by decide +kernel
theorem dM_change_17 : decode bM_change 17 = .ok (.invokevirtual 53, 3) := by decide +kernel
theorem dM_change_20 : decode bM_change 20 = .ok (.return_, 1) := by decide +kernel
theorem dM_exclude_0 : decode bM_exclude 0 = .ok (.aload_n 0, 1) := by decide +kernel
theorem dM_exclude_1 : decode bM_exclude 1 = .ok (.iload_n 1, 1) := by decide +kernel
theorem dM_exclude_2 : decode bM_exclude 2 = .ok (.iload_n 2, 1) := by decide +kernel
theorem dM_exclude_3 : decode bM_exclude 3 = .ok (.invokevirtual 57, 3) := by decide +kernel
theorem dM_exclude_6 : decode bM_exclude 6 = .ok (.aload_n 0, 1) := by decide +kernel
theorem dM_exclude_7 : decode bM_exclude 7 = .ok (.getfield 12, 3) := by decide +kernel
theorem dM_exclude_10 : decode bM_exclude 10 = .ok (.getfield 60, 3) := by decide +kernel
theorem dM_exclude_13 : decode bM_exclude 13 = .ok (.iload_n 1, 1) := by decide +kernel
theorem dM_exclude_14 : decode bM_exclude 14 = .ok (.iaload, 1) := by decide +kernel
theorem dM_exclude_15 : decode bM_exclude 15 = .ok (.iload_n 2, 1) := by decide +kernel
theorem dM_exclude_16 : decode bM_exclude 16 = .ok (.invokestatic 64, 3) := by decide +kernel
theorem dM_exclude_19 : decode bM_exclude 19 = .ok (.istore 4, 2) := by decide +kernel
theorem dM_exclude_21 : decode bM_exclude 21 = .ok (.aload_n 0, 1) := by decide +kernel
theorem dM_exclude_22 : decode bM_exclude 22 = .ok (.getfield 12, 3) := by decide +kernel
theorem dM_exclude_25 : decode bM_exclude 25 = .ok (.iload_n 1, 1) := by decide +kernel
theorem dM_exclude_26 : decode bM_exclude 26 = .ok (.iload_n 2, 1) := by decide +kernel
theorem dM_exclude_27 : decode bM_exclude 27 = .ok (.iload_n 3, 1) := by decide +kernel
theorem dM_exclude_28 : decode bM_exclude 28 = .ok (.invokevirtual 68, 3) := by decide +kernel
theorem dM_exclude_31 : decode bM_exclude 31 = .ok (.iload 4, 2) := by decide +kernel
theorem dM_exclude_33 : decode bM_exclude 33 = .ok (.ireturn, 1) := by decide +kernel
theorem dM_needs_0 : decode bM_needs 0 = .ok (.aload_n 0, 1) := by decide +kernel
theorem dM_needs_1 : decode bM_needs 1 = .ok (.iload_n 1, 1) := by decide +kernel
theorem dM_needs_2 : decode bM_needs 2 = .ok (.iload_n 2, 1) := by decide +kernel
theorem dM_needs_3 : decode bM_needs 3 = .ok (.invokevirtual 57, 3) := by decide +kernel
theorem dM_needs_6 : decode bM_needs 6 = .ok (.aload_n 0, 1) := by decide +kernel
theorem dM_needs_7 : decode bM_needs 7 = .ok (.getfield 12, 3) := by decide +kernel
theorem dM_needs_10 : decode bM_needs 10 = .ok (.getfield 72, 3) := by decide +kernel
theorem dM_needs_13 : decode bM_needs 13 = .ok (.iload_n 1, 1) := by decide +kernel
theorem dM_needs_14 : decode bM_needs 14 = .ok (.iaload, 1) := by decide +kernel
theorem dM_needs_15 : decode bM_needs 15 = .ok (.iload_n 2, 1) := by decide +kernel
theorem dM_needs_16 : decode bM_needs 16 = .ok (.invokestatic 64, 3) := by decide +kernel
theorem dM_needs_19 : decode bM_needs 19 = .ok (.istore 4, 2) := by decide +kernel
theorem dM_needs_21 : decode bM_needs 21 = .ok (.aload_n 0, 1) := by decide +kernel
theorem dM_needs_22 : decode bM_needs 22 = .ok (.getfield 12, 3) := by decide +kernel
theorem dM_needs_25 : decode bM_needs 25 = .ok (.iload_n 1, 1) := by decide +kernel
theorem dM_needs_26 : decode bM_needs 26 = .ok (.iload_n 2, 1) := by decide +kernel
theorem dM_needs_27 : decode bM_needs 27 = .ok (.iload_n 3, 1) := by decide +kernel
theorem dM_needs_28 : decode bM_needs 28 = .ok (.invokevirtual 75, 3) := by decide +kernel
theorem dM_needs_31 : decode bM_needs 31 = .ok (.iload 4, 2) := by decide +kernel
theorem dM_needs_33 : decode bM_needs 33 = .ok (.ireturn, 1) := by decide +kernel
theorem dM_bonus_0 : decode bM_bonus 0 = .ok (.aload_n 0, 1) := by decide +kernel
theorem dM_bonus_1 : decode bM_bonus 1 = .ok (.iload_n 1, 1) := by decide +kernel
theorem dM_bonus_2 : decode bM_bonus 2 = .ok (.iload_n 2, 1) := by decide +kernel
theorem dM_bonus_3 : decode bM_bonus 3 = .ok (.invokevirtual 57, 3) := by decide +kernel
theorem dM_bonus_6 : decode bM_bonus 6 = .ok (.iload_n 3, 1) := by decide +kernel
theorem dM_bonus_7 : decode bM_bonus 7 = .ok (.sipush (-5000), 3) := by decide +kernel
theorem dM_bonus_10 : decode bM_bonus 10 = .ok (.sipush 5000, 3) := by decide +kernel
theorem dM_bonus_13 : decode bM_bonus 13 = .ok (.invokestatic 78, 3) := by decide +kernel
theorem dM_bonus_16 : decode bM_bonus 16 = .ok (.aload_n 0, 1) := by decide +kernel
theorem dM_bonus_17 : decode bM_bonus 17 = .ok (.getfield 12, 3) := by decide +kernel
theorem dM_bonus_20 : decode bM_bonus 20 = .ok (.getfield 81, 3) := by decide +kernel
theorem dM_bonus_23 : decode bM_bonus 23 = .ok (.iload_n 1, 1) := by decide +kernel
theorem dM_bonus_24 : decode bM_bonus 24 = .ok (.aaload, 1) := by decide +kernel
theorem dM_bonus_25 : decode bM_bonus 25 = .ok (.iload_n 2, 1) := by decide +kernel
theorem dM_bonus_26 : decode bM_bonus 26 = .ok (.iaload, 1) := by decide +kernel
theorem dM_bonus_27 : decode bM_bonus 27 = .ok (.istore 4, 2) := by decide +kernel
theorem dM_bonus_29 : decode bM_bonus 29 = .ok (.aload_n 0, 1) := by decide +kernel
theorem dM_bonus_30 : decode bM_bonus 30 = .ok (.getfield 12, 3) := by decide +kernel
theorem dM_bonus_33 : decode bM_bonus 33 = .ok (.iload_n 1, 1) := by decide +kernel
theorem dM_bonus_34 : decode bM_bonus 34 = .ok (.iload_n 2, 1) := by decide +kernel
theorem dM_bonus_35 : decode bM_bonus 35 = .ok (.iload_n 3, 1) := by decide +kernel
theorem dM_bonus_36 : decode bM_bonus 36 = .ok (.invokevirtual 85, 3) := by decide +kernel
theorem dM_bonus_39 : decode bM_bonus 39 = .ok (.iload 4, 2) := by decide +kernel
theorem dM_bonus_41 : decode bM_bonus 41 = .ok (.ireturn, 1) := by decide +kernel
theorem dM_lawful_0 : decode bM_lawful 0 = .ok (.aload_n 0, 1) := by decide +kernel
theorem dM_lawful_1 : decode bM_lawful 1 = .ok (.iload_n 1, 1) := by decide +kernel
theorem dM_lawful_2 : decode bM_lawful 2 = .ok (.invokevirtual 88, 3) := by decide +kernel
theorem dM_lawful_5 : decode bM_lawful 5 = .ok (.aload_n 0, 1) := by decide +kernel
theorem dM_lawful_6 : decode bM_lawful 6 = .ok (.getfield 12, 3) := by decide +kernel
theorem dM_lawful_9 : decode bM_lawful 9 = .ok (.iload_n 1, 1) := by decide +kernel
theorem dM_lawful_10 : decode bM_lawful 10 = .ok (.invokevirtual 91, 3) := by decide +kernel
theorem dM_lawful_13 : decode bM_lawful 13 = .ok (.ireturn, 1) := by decide +kernel
theorem dM_told_0 : decode bM_told 0 = .ok (.aload_n 0, 1) := by decide +kernel
theorem dM_told_1 : decode bM_told 1 = .ok (.iload_n 1, 1) := by decide +kernel
theorem dM_told_2 : decode bM_told 2 = .ok (.invokevirtual 88, 3) := by decide +kernel
theorem dM_told_5 : decode bM_told 5 = .ok (.iload_n 2, 1) := by decide +kernel
theorem dM_told_6 : decode bM_told 6 = .ok (.iconst 0, 1) := by decide +kernel
theorem dM_told_7 : decode bM_told 7 = .ok (.iconst 1, 1) := by decide +kernel
theorem dM_told_8 : decode bM_told 8 = .ok (.invokestatic 78, 3) := by decide +kernel
theorem dM_told_11 : decode bM_told 11 = .ok (.iload_n 2, 1) := by decide +kernel
theorem dM_told_12 : decode bM_told 12 = .ok (.ifCond .ne 14, 3) := by decide +kernel
theorem dM_told_15 : decode bM_told 15 = .ok (.aload_n 0, 1) := by decide +kernel
theorem dM_told_16 : decode bM_told 16 = .ok (.getfield 12, 3) := by decide +kernel
theorem dM_told_19 : decode bM_told 19 = .ok (.iload_n 1, 1) := by decide +kernel
theorem dM_told_20 : decode bM_told 20 = .ok (.invokevirtual 95, 3) := by decide +kernel
theorem dM_told_23 : decode bM_told 23 = .ok (.goto 11, 3) := by decide +kernel
theorem dM_told_26 : decode bM_told 26 = .ok (.aload_n 0, 1) := by decide +kernel
theorem dM_told_27 : decode bM_told 27 = .ok (.getfield 12, 3) := by decide +kernel
theorem dM_told_30 : decode bM_told 30 = .ok (.iload_n 1, 1) := by decide +kernel
theorem dM_told_31 : decode bM_told 31 = .ok (.invokevirtual 99, 3) := by decide +kernel
theorem dM_told_34 : decode bM_told 34 = .ok (.ireturn, 1) := by decide +kernel
theorem dM_closure_0 : decode bM_closure 0 = .ok (.aload_n 0, 1) := by decide +kernel
theorem dM_closure_1 : decode bM_closure 1 = .ok (.iload_n 1, 1) := by decide +kernel
theorem dM_closure_2 : decode bM_closure 2 = .ok (.invokevirtual 49, 3) := by decide +kernel
theorem dM_closure_5 : decode bM_closure 5 = .ok (.aload_n 0, 1) := by decide +kernel
theorem dM_closure_6 : decode bM_closure 6 = .ok (.getfield 12, 3) := by decide +kernel
theorem dM_closure_9 : decode bM_closure 9 = .ok (.iload_n 1, 1) := by decide +kernel
theorem dM_closure_10 : decode bM_closure 10 = .ok (.invokevirtual 102, 3) := by decide +kernel
theorem dM_closure_13 : decode bM_closure 13 = .ok (.ireturn, 1) := by decide +kernel
theorem dM_best_0 : decode bM_best 0 = .ok (.iload_n 1, 1) := by decide +kernel
theorem dM_best_1 : decode bM_best 1 = .ok (.invokestatic 105, 3) := by decide +kernel
theorem dM_best_4 : decode bM_best 4 = .ok (.aload_n 0, 1) := by decide +kernel
theorem dM_best_5 : decode bM_best 5 = .ok (.getfield 19, 3) := by decide +kernel
theorem dM_best_8 : decode bM_best 8 = .ok (.aload_n 0, 1) := by decide +kernel
theorem dM_best_9 : decode bM_best 9 = .ok (.getfield 12, 3) := by decide +kernel
theorem dM_best_12 : decode bM_best 12 = .ok (.invokevirtual 108, 3) := by decide +kernel
theorem dM_best_15 : decode bM_best 15 = .ok (.aload_n 0, 1) := by decide +kernel
theorem dM_best_16 : decode bM_best 16 = .ok (.getfield 19, 3) := by decide +kernel
theorem dM_best_19 : decode bM_best 19 = .ok (.aload_n 0, 1) := by decide +kernel
theorem dM_best_20 : decode bM_best 20 = .ok (.getfield 19, 3) := by decide +kernel
theorem dM_best_23 : decode bM_best 23 = .ok (.iload_n 1, 1) := by decide +kernel
theorem dM_best_24 : decode bM_best 24 = .ok (.invokevirtual 112, 3) := by decide +kernel
theorem dM_best_27 : decode bM_best 27 = .ok (.invokevirtual 115, 3) := by decide +kernel
theorem dM_best_30 : decode bM_best 30 = .ok (.ireturn, 1) := by decide +kernel
theorem dM_budget_0 : decode bM_budget 0 = .ok (.aload_n 0, 1) := by decide +kernel
theorem dM_budget_1 : decode bM_budget 1 = .ok (.getfield 19, 3) := by decide +kernel
theorem dM_budget_4 : decode bM_budget 4 = .ok (.aload_n 0, 1) := by decide +kernel
theorem dM_budget_5 : decode bM_budget 5 = .ok (.getfield 12, 3) := by decide +kernel
theorem dM_budget_8 : decode bM_budget 8 = .ok (.invokevirtual 108, 3) := by decide +kernel
theorem dM_budget_11 : decode bM_budget 11 = .ok (.aload_n 0, 1) := by decide +kernel
theorem dM_budget_12 : decode bM_budget 12 = .ok (.getfield 19, 3) := by decide +kernel
theorem dM_budget_15 : decode bM_budget 15 = .ok (.iload_n 1, 1) := by decide +kernel
theorem dM_budget_16 : decode bM_budget 16 = .ok (.invokevirtual 118, 3) := by decide +kernel
theorem dM_budget_19 : decode bM_budget 19 = .ok (.istore_n 2, 1) := by decide +kernel
theorem dM_budget_20 : decode bM_budget 20 = .ok (.iload_n 2, 1) := by decide +kernel
theorem dM_budget_21 : decode bM_budget 21 = .ok (.iconst (-1), 1) := by decide +kernel
theorem dM_budget_22 : decode bM_budget 22 = .ok (.if_icmp .ne 7, 3) := by decide +kernel
theorem dM_budget_25 : decode bM_budget 25 = .ok (.iconst (-1), 1) := by decide +kernel
theorem dM_budget_26 : decode bM_budget 26 = .ok (.goto 11, 3) := by decide +kernel
theorem dM_budget_29 : decode bM_budget 29 = .ok (.aload_n 0, 1) := by decide +kernel
theorem dM_budget_30 : decode bM_budget 30 = .ok (.getfield 19, 3) := by decide +kernel
theorem dM_budget_33 : decode bM_budget 33 = .ok (.iload_n 2, 1) := by decide +kernel
theorem dM_budget_34 : decode bM_budget 34 = .ok (.invokevirtual 121, 3) := by decide +kernel
theorem dM_budget_37 : decode bM_budget 37 = .ok (.ireturn, 1) := by decide +kernel
theorem dM_worth_0 : decode bM_worth 0 = .ok (.iload_n 1, 1) := by decide +kernel
theorem dM_worth_1 : decode bM_worth 1 = .ok (.invokestatic 105, 3) := by decide +kernel
theorem dM_worth_4 : decode bM_worth 4 = .ok (.iload_n 2, 1) := by decide +kernel
theorem dM_worth_5 : decode bM_worth 5 = .ok (.invokestatic 105, 3) := by decide +kernel
theorem dM_worth_8 : decode bM_worth 8 = .ok (.iload_n 1, 1) := by decide +kernel
theorem dM_worth_9 : decode bM_worth 9 = .ok (.ldc 124, 2) := by decide +kernel
theorem dM_worth_11 : decode bM_worth 11 = .ok (.if_icmp .gt 11, 3) := by decide +kernel
theorem dM_worth_14 : decode bM_worth 14 = .ok (.iload_n 2, 1) := by decide +kernel
theorem dM_worth_15 : decode bM_worth 15 = .ok (.ldc 124, 2) := by decide +kernel
theorem dM_worth_17 : decode bM_worth 17 = .ok (.iload_n 1, 1) := by decide +kernel
theorem dM_worth_18 : decode bM_worth 18 = .ok (.isub, 1) := by decide +kernel
theorem dM_worth_19 : decode bM_worth 19 = .ok (.if_icmp .le 13, 3) := by decide +kernel
theorem dM_worth_22 : decode bM_worth 22 = .ok (.new 125, 3) := by decide +kernel
theorem dM_worth_25 : decode bM_worth 25 = .ok (.dup, 1) := by decide +kernel
theorem dM_worth_26 : decode bM_worth 26 = .ok (.ldc 127, 2) := by decide +kernel
theorem dM_worth_28 : decode bM_worth 28 = .ok (.invokespecial 129, 3) := by decide +kernel
theorem dM_worth_31 : decode bM_worth 31 = .ok (.athrow, 1) := by decide +kernel
theorem dM_worth_32 : decode bM_worth 32 = .ok (.aload_n 0, 1) := by decide +kernel
theorem dM_worth_33 : decode bM_worth 33 = .ok (.getfield 19, 3) := by decide +kernel
theorem dM_worth_36 : decode bM_worth 36 = .ok (.aload_n 0, 1) := by decide +kernel
theorem dM_worth_37 : decode bM_worth 37 = .ok (.getfield 12, 3) := by decide +kernel
theorem dM_worth_40 : decode bM_worth 40 = .ok (.invokevirtual 108, 3) := by decide +kernel
theorem dM_worth_43 : decode bM_worth 43 = .ok (.aload_n 0, 1) := by decide +kernel
theorem dM_worth_44 : decode bM_worth 44 = .ok (.getfield 19, 3) := by decide +kernel
theorem dM_worth_47 : decode bM_worth 47 = .ok (.aload_n 0, 1) := by decide +kernel
theorem dM_worth_48 : decode bM_worth 48 = .ok (.getfield 19, 3) := by decide +kernel
theorem dM_worth_51 : decode bM_worth 51 = .ok (.iload_n 1, 1) := by decide +kernel
theorem dM_worth_52 : decode bM_worth 52 = .ok (.iload_n 2, 1) := by decide +kernel
theorem dM_worth_53 : decode bM_worth 53 = .ok (.iadd, 1) := by decide +kernel
theorem dM_worth_54 : decode bM_worth 54 = .ok (.invokevirtual 112, 3) := by decide +kernel
theorem dM_worth_57 : decode bM_worth 57 = .ok (.invokevirtual 130, 3) := by decide +kernel
theorem dM_worth_60 : decode bM_worth 60 = .ok (.istore_n 3, 1) := by decide +kernel
theorem dM_worth_61 : decode bM_worth 61 = .ok (.iload_n 3, 1) := by decide +kernel
theorem dM_worth_62 : decode bM_worth 62 = .ok (.aload_n 0, 1) := by decide +kernel
theorem dM_worth_63 : decode bM_worth 63 = .ok (.getfield 19, 3) := by decide +kernel
theorem dM_worth_66 : decode bM_worth 66 = .ok (.aload_n 0, 1) := by decide +kernel
theorem dM_worth_67 : decode bM_worth 67 = .ok (.getfield 19, 3) := by decide +kernel
theorem dM_worth_70 : decode bM_worth 70 = .ok (.iload_n 1, 1) := by decide +kernel
theorem dM_worth_71 : decode bM_worth 71 = .ok (.invokevirtual 112, 3) := by decide +kernel
theorem dM_worth_74 : decode bM_worth 74 = .ok (.invokevirtual 130, 3) := by decide +kernel
theorem dM_worth_77 : decode bM_worth 77 = .ok (.isub, 1) := by decide +kernel
theorem dM_worth_78 : decode bM_worth 78 = .ok (.ireturn, 1) := by decide +kernel
theorem dM_frontier_0 : decode bM_frontier 0 = .ok (.iload_n 1, 1) := by decide +kernel
theorem dM_frontier_1 : decode bM_frontier 1 = .ok (.invokestatic 105, 3) := by decide +kernel
theorem dM_frontier_4 : decode bM_frontier 4 = .ok (.aload_n 0, 1) := by decide +kernel
theorem dM_frontier_5 : decode bM_frontier 5 = .ok (.getfield 19, 3) := by decide +kernel
theorem dM_frontier_8 : decode bM_frontier 8 = .ok (.aload_n 0, 1) := by decide +kernel
theorem dM_frontier_9 : decode bM_frontier 9 = .ok (.getfield 12, 3) := by decide +kernel
theorem dM_frontier_12 : decode bM_frontier 12 = .ok (.invokevirtual 108, 3) := by decide +kernel
theorem dM_frontier_15 : decode bM_frontier 15 = .ok (.iload_n 1, 1) := by decide +kernel
theorem dM_frontier_16 : decode bM_frontier 16 = .ok (.aload_n 0, 1) := by decide +kernel
theorem dM_frontier_17 : decode bM_frontier 17 = .ok (.getfield 19, 3) := by decide +kernel
theorem dM_frontier_20 : decode bM_frontier 20 = .ok (.getfield 133, 3) := by decide +kernel
theorem dM_frontier_23 : decode bM_frontier 23 = .ok (.if_icmp .ge 14, 3) := by decide +kernel
theorem dM_frontier_26 : decode bM_frontier 26 = .ok (.aload_n 0, 1) := by decide +kernel
theorem dM_frontier_27 : decode bM_frontier 27 = .ok (.getfield 19, 3) := by decide +kernel
theorem dM_frontier_30 : decode bM_frontier 30 = .ok (.iload_n 1, 1) := by decide +kernel
theorem dM_frontier_31 : decode bM_frontier 31 = .ok (.invokevirtual 115, 3) := by decide +kernel
theorem dM_frontier_34 : decode bM_frontier 34 = .ok (.goto 4, 3) := by decide +kernel
theorem dM_frontier_37 : decode bM_frontier 37 = .ok (.iconst (-1), 1) := by decide +kernel
theorem dM_frontier_38 : decode bM_frontier 38 = .ok (.ireturn, 1) := by decide +kernel
theorem dM_year_0 : decode bM_year 0 = .ok (.iload_n 1, 1) := by decide +kernel
theorem dM_year_1 : decode bM_year 1 = .ok (.iconst 0, 1) := by decide +kernel
theorem dM_year_2 : decode bM_year 2 = .ok (.iconst 3, 1) := by decide +kernel
theorem dM_year_3 : decode bM_year 3 = .ok (.invokestatic 78, 3) := by decide +kernel
theorem dM_year_6 : decode bM_year 6 = .ok (.iload_n 2, 1) := by decide +kernel
theorem dM_year_7 : decode bM_year 7 = .ok (.iconst 0, 1) := by decide +kernel
theorem dM_year_8 : decode bM_year 8 = .ok (.ldc 136, 2) := by decide +kernel
theorem dM_year_10 : decode bM_year 10 = .ok (.invokestatic 78, 3) := by decide +kernel
theorem dM_year_13 : decode bM_year 13 = .ok (.aload_n 0, 1) := by decide +kernel
theorem dM_year_14 : decode bM_year 14 = .ok (.getfield 26, 3) := by decide +kernel
theorem dM_year_17 : decode bM_year 17 = .ok (.getfield 137, 3) := by decide +kernel
theorem dM_year_20 : decode bM_year 20 = .ok (.iload_n 1, 1) := by decide +kernel
theorem dM_year_21 : decode bM_year 21 = .ok (.iaload, 1) := by decide +kernel
theorem dM_year_22 : decode bM_year 22 = .ok (.istore_n 3, 1) := by decide +kernel
theorem dM_year_23 : decode bM_year 23 = .ok (.aload_n 0, 1) := by decide +kernel
theorem dM_year_24 : decode bM_year 24 = .ok (.getfield 26, 3) := by decide +kernel
theorem dM_year_27 : decode bM_year 27 = .ok (.getfield 137, 3) := by decide +kernel
theorem dM_year_30 : decode bM_year 30 = .ok (.iload_n 1, 1) := by decide +kernel
theorem dM_year_31 : decode bM_year 31 = .ok (.iload_n 2, 1) := by decide +kernel
theorem dM_year_32 : decode bM_year 32 = .ok (.iastore, 1) := by decide +kernel
theorem dM_year_33 : decode bM_year 33 = .ok (.iload_n 3, 1) := by decide +kernel
theorem dM_year_34 : decode bM_year 34 = .ok (.ireturn, 1) := by decide +kernel
theorem dM_plan_0 : decode bM_plan 0 = .ok (.iload_n 1, 1) := by decide +kernel
theorem dM_plan_1 : decode bM_plan 1 = .ok (.iconst 1, 1) := by decide +kernel
theorem dM_plan_2 : decode bM_plan 2 = .ok (.iconst 4, 1) := by decide +kernel
theorem dM_plan_3 : decode bM_plan 3 = .ok (.invokestatic 78, 3) := by decide +kernel
theorem dM_plan_6 : decode bM_plan 6 = .ok (.iload_n 2, 1) := by decide +kernel
theorem dM_plan_7 : decode bM_plan 7 = .ok (.iconst 0, 1) := by decide +kernel
theorem dM_plan_8 : decode bM_plan 8 = .ok (.iload_n 1, 1) := by decide +kernel
theorem dM_plan_9 : decode bM_plan 9 = .ok (.iconst 1, 1) := by decide +kernel
theorem dM_plan_10 : decode bM_plan 10 = .ok (.isub, 1) := by decide +kernel
theorem dM_plan_11 : decode bM_plan 11 = .ok (.invokestatic 78, 3) := by decide +kernel
theorem dM_plan_14 : decode bM_plan 14 = .ok (.aload_n 0, 1) := by decide +kernel
theorem dM_plan_15 : decode bM_plan 15 = .ok (.getfield 26, 3) := by decide +kernel
theorem dM_plan_18 : decode bM_plan 18 = .ok (.aload_n 0, 1) := by decide +kernel
theorem dM_plan_19 : decode bM_plan 19 = .ok (.getfield 12, 3) := by decide +kernel
theorem dM_plan_22 : decode bM_plan 22 = .ok (.iload_n 1, 1) := by decide +kernel
theorem dM_plan_23 : decode bM_plan 23 = .ok (.invokevirtual 140, 3) := by decide +kernel
theorem dM_plan_26 : decode bM_plan 26 = .ok (.aload_n 0, 1) := by decide +kernel
theorem dM_plan_27 : decode bM_plan 27 = .ok (.getfield 26, 3) := by decide +kernel
theorem dM_plan_30 : decode bM_plan 30 = .ok (.iload_n 2, 1) := by decide +kernel
theorem dM_plan_31 : decode bM_plan 31 = .ok (.invokevirtual 144, 3) := by decide +kernel
theorem dM_plan_34 : decode bM_plan 34 = .ok (.ireturn, 1) := by decide +kernel
theorem dM_planned_0 : decode bM_planned 0 = .ok (.iload_n 1, 1) := by decide +kernel
theorem dM_planned_1 : decode bM_planned 1 = .ok (.iconst 1, 1) := by decide +kernel
theorem dM_planned_2 : decode bM_planned 2 = .ok (.iconst 4, 1) := by decide +kernel
theorem dM_planned_3 : decode bM_planned 3 = .ok (.invokestatic 78, 3) := by decide +kernel
theorem dM_planned_6 : decode bM_planned 6 = .ok (.aload_n 0, 1) := by decide +kernel
theorem dM_planned_7 : decode bM_planned 7 = .ok (.getfield 26, 3) := by decide +kernel
theorem dM_planned_10 : decode bM_planned 10 = .ok (.aload_n 0, 1) := by decide +kernel
theorem dM_planned_11 : decode bM_planned 11 = .ok (.getfield 12, 3) := by decide +kernel
theorem dM_planned_14 : decode bM_planned 14 = .ok (.iload_n 1, 1) := by decide +kernel
theorem dM_planned_15 : decode bM_planned 15 = .ok (.invokevirtual 140, 3) := by decide +kernel
theorem dM_planned_18 : decode bM_planned 18 = .ok (.aload_n 0, 1) := by decide +kernel
theorem dM_planned_19 : decode bM_planned 19 = .ok (.getfield 26, 3) := by decide +kernel
theorem dM_planned_22 : decode bM_planned 22 = .ok (.getfield 147, 3) := by decide +kernel
theorem dM_planned_25 : decode bM_planned 25 = .ok (.iconst 0, 1) := by decide +kernel
theorem dM_planned_26 : decode bM_planned 26 = .ok (.aaload, 1) := by decide +kernel
theorem dM_planned_27 : decode bM_planned 27 = .ok (.aload_n 0, 1) := by decide +kernel
theorem dM_planned_28 : decode bM_planned 28 = .ok (.getfield 26, 3) := by decide +kernel
theorem dM_planned_31 : decode bM_planned 31 = .ok (.iconst 0, 1) := by decide +kernel
theorem dM_planned_32 : decode bM_planned 32 = .ok (.invokevirtual 144, 3) := by decide +kernel
theorem dM_planned_35 : decode bM_planned 35 = .ok (.iaload, 1) := by decide +kernel
theorem dM_planned_36 : decode bM_planned 36 = .ok (.ireturn, 1) := by decide +kernel
theorem dM_requireBetween_0 : decode bM_requireBetween 0 = .ok (.iload_n 0, 1) := by decide +kernel
theorem dM_requireBetween_1 : decode bM_requireBetween 1 = .ok (.iload_n 1, 1) := by decide +kernel
theorem dM_requireBetween_2 : decode bM_requireBetween 2 = .ok (.if_icmp .lt 8, 3) := by decide +kernel
theorem dM_requireBetween_5 : decode bM_requireBetween 5 = .ok (.iload_n 0, 1) := by decide +kernel
theorem dM_requireBetween_6 : decode bM_requireBetween 6 = .ok (.iload_n 2, 1) := by decide +kernel
theorem dM_requireBetween_7 : decode bM_requireBetween 7 = .ok (.if_icmp .le 13, 3) := by decide +kernel
theorem dM_requireBetween_10 : decode bM_requireBetween 10 = .ok (.new 125, 3) := by decide +kernel
theorem dM_requireBetween_13 : decode bM_requireBetween 13 = .ok (.dup, 1) := by decide +kernel
theorem dM_requireBetween_14 : decode bM_requireBetween 14 = .ok (.ldc 150, 2) := by decide +kernel
theorem dM_requireBetween_16 : decode bM_requireBetween 16 = .ok (.invokespecial 129, 3) := by decide +kernel
theorem dM_requireBetween_19 : decode bM_requireBetween 19 = .ok (.athrow, 1) := by decide +kernel
theorem dM_requireBetween_20 : decode bM_requireBetween 20 = .ok (.return_, 1) := by decide +kernel
theorem dM_requireNotBelowZero_0 : decode bM_requireNotBelowZero 0 = .ok (.iload_n 0, 1) := by decide +kernel
theorem dM_requireNotBelowZero_1 : decode bM_requireNotBelowZero 1 = .ok (.ifCond .ge 13, 3) := by decide +kernel
theorem dM_requireNotBelowZero_4 : decode bM_requireNotBelowZero 4 = .ok (.new 125, 3) := by decide +kernel
theorem dM_requireNotBelowZero_7 : decode bM_requireNotBelowZero 7 = .ok (.dup, 1) := by decide +kernel
theorem dM_requireNotBelowZero_8 : decode bM_requireNotBelowZero 8 = .ok (.ldc 152, 2) := by decide +kernel
theorem dM_requireNotBelowZero_10 : decode bM_requireNotBelowZero 10 = .ok (.invokespecial 129, 3) := by decide +kernel
theorem dM_requireNotBelowZero_13 : decode bM_requireNotBelowZero 13 = .ok (.athrow, 1) := by decide +kernel
theorem dM_requireNotBelowZero_14 : decode bM_requireNotBelowZero 14 = .ok (.return_, 1) := by decide +kernel
theorem dM_requireCostAndGain_0 : decode bM_requireCostAndGain 0 = .ok (.iload_n 0, 1) := by decide +kernel
theorem dM_requireCostAndGain_1 : decode bM_requireCostAndGain 1 = .ok (.iconst 1, 1) := by decide +kernel
theorem dM_requireCostAndGain_2 : decode bM_requireCostAndGain 2 = .ok (.sipush 10000, 3) := by decide +kernel
theorem dM_requireCostAndGain_5 : decode bM_requireCostAndGain 5 = .ok (.invokestatic 78, 3) := by decide +kernel
theorem dM_requireCostAndGain_8 : decode bM_requireCostAndGain 8 = .ok (.iload_n 1, 1) := by decide +kernel
theorem dM_requireCostAndGain_9 : decode bM_requireCostAndGain 9 = .ok (.iconst 0, 1) := by decide +kernel
theorem dM_requireCostAndGain_10 : decode bM_requireCostAndGain 10 = .ok (.sipush 10000, 3) := by decide +kernel
theorem dM_requireCostAndGain_13 : decode bM_requireCostAndGain 13 = .ok (.invokestatic 78, 3) := by decide +kernel
theorem dM_requireCostAndGain_16 : decode bM_requireCostAndGain 16 = .ok (.return_, 1) := by decide +kernel
theorem dM_requireMeasure_0 : decode bM_requireMeasure 0 = .ok (.iload_n 1, 1) := by decide +kernel
theorem dM_requireMeasure_1 : decode bM_requireMeasure 1 = .ok (.ifCond .lt 14, 3) := by decide +kernel
theorem dM_requireMeasure_4 : decode bM_requireMeasure 4 = .ok (.iload_n 1, 1) := by decide +kernel
theorem dM_requireMeasure_5 : decode bM_requireMeasure 5 = .ok (.aload_n 0, 1) := by decide +kernel
theorem dM_requireMeasure_6 : decode bM_requireMeasure 6 = .ok (.getfield 12, 3) := by decide +kernel
theorem dM_requireMeasure_9 : decode bM_requireMeasure 9 = .ok (.getfield 34, 3) := by decide +kernel
theorem dM_requireMeasure_12 : decode bM_requireMeasure 12 = .ok (.if_icmp .lt 13, 3) := by decide +kernel
theorem dM_requireMeasure_15 : decode bM_requireMeasure 15 = .ok (.new 125, 3) := by decide +kernel
theorem dM_requireMeasure_18 : decode bM_requireMeasure 18 = .ok (.dup, 1) := by decide +kernel
theorem dM_requireMeasure_19 : decode bM_requireMeasure 19 = .ok (.ldc 154, 2) := by decide +kernel
theorem dM_requireMeasure_21 : decode bM_requireMeasure 21 = .ok (.invokespecial 129, 3) := by decide +kernel
theorem dM_requireMeasure_24 : decode bM_requireMeasure 24 = .ok (.athrow, 1) := by decide +kernel
theorem dM_requireMeasure_25 : decode bM_requireMeasure 25 = .ok (.return_, 1) := by decide +kernel
theorem dM_requirePair_0 : decode bM_requirePair 0 = .ok (.aload_n 0, 1) := by decide +kernel
theorem dM_requirePair_1 : decode bM_requirePair 1 = .ok (.iload_n 1, 1) := by decide +kernel
theorem dM_requirePair_2 : decode bM_requirePair 2 = .ok (.invokevirtual 49, 3) := by decide +kernel
theorem dM_requirePair_5 : decode bM_requirePair 5 = .ok (.aload_n 0, 1) := by decide +kernel
theorem dM_requirePair_6 : decode bM_requirePair 6 = .ok (.iload_n 2, 1) := by decide +kernel
theorem dM_requirePair_7 : decode bM_requirePair 7 = .ok (.invokevirtual 49, 3) := by decide +kernel
theorem dM_requirePair_10 : decode bM_requirePair 10 = .ok (.iload_n 1, 1) := by decide +kernel
theorem dM_requirePair_11 : decode bM_requirePair 11 = .ok (.iload_n 2, 1) := by decide +kernel
theorem dM_requirePair_12 : decode bM_requirePair 12 = .ok (.if_icmp .ne 13, 3) := by decide +kernel
theorem dM_requirePair_15 : decode bM_requirePair 15 = .ok (.new 125, 3) := by decide +kernel
theorem dM_requirePair_18 : decode bM_requirePair 18 = .ok (.dup, 1) := by decide +kernel
theorem dM_requirePair_19 : decode bM_requirePair 19 = .ok (.ldc 156, 2) := by decide +kernel
theorem dM_requirePair_21 : decode bM_requirePair 21 = .ok (.invokespecial 129, 3) := by decide +kernel
theorem dM_requirePair_24 : decode bM_requirePair 24 = .ok (.athrow, 1) := by decide +kernel
theorem dM_requirePair_25 : decode bM_requirePair 25 = .ok (.return_, 1) := by decide +kernel
theorem dM_requireSet_0 : decode bM_requireSet 0 = .ok (.iload_n 1, 1) := by decide +kernel
theorem dM_requireSet_1 : decode bM_requireSet 1 = .ok (.ifCond .lt 16, 3) := by decide +kernel
theorem dM_requireSet_4 : decode bM_requireSet 4 = .ok (.iload_n 1, 1) := by decide +kernel
theorem dM_requireSet_5 : decode bM_requireSet 5 = .ok (.iconst 1, 1) := by decide +kernel
theorem dM_requireSet_6 : decode bM_requireSet 6 = .ok (.aload_n 0, 1) := by decide +kernel
theorem dM_requireSet_7 : decode bM_requireSet 7 = .ok (.getfield 12, 3) := by decide +kernel
theorem dM_requireSet_10 : decode bM_requireSet 10 = .ok (.getfield 34, 3) := by decide +kernel
theorem dM_requireSet_13 : decode bM_requireSet 13 = .ok (.ishl, 1) := by decide +kernel
theorem dM_requireSet_14 : decode bM_requireSet 14 = .ok (.if_icmp .lt 13, 3) := by decide +kernel
theorem dM_requireSet_17 : decode bM_requireSet 17 = .ok (.new 125, 3) := by decide +kernel
theorem dM_requireSet_20 : decode bM_requireSet 20 = .ok (.dup, 1) := by decide +kernel
theorem dM_requireSet_21 : decode bM_requireSet 21 = .ok (.ldc 158, 2) := by decide +kernel
theorem dM_requireSet_23 : decode bM_requireSet 23 = .ok (.invokespecial 129, 3) := by decide +kernel
theorem dM_requireSet_26 : decode bM_requireSet 26 = .ok (.athrow, 1) := by decide +kernel
theorem dM_requireSet_27 : decode bM_requireSet 27 = .ok (.return_, 1) := by decide +kernel
theorem dH_init_0 : decode bH_init 0 = .ok (.aload_n 0, 1) := by decide +kernel
theorem dH_init_1 : decode bH_init 1 = .ok (.invokespecial 3, 3) := by decide +kernel
theorem dH_init_4 : decode bH_init 4 = .ok (.aload_n 0, 1) := by decide +kernel
theorem dH_init_5 : decode bH_init 5 = .ok (.bipush 12, 2) := by decide +kernel
theorem dH_init_7 : decode bH_init 7 = .ok (.newarray .int, 2) := by decide +kernel
theorem dH_init_9 : decode bH_init 9 = .ok (.putfield 9, 3) := by decide +kernel
theorem dH_init_12 : decode bH_init 12 = .ok (.aload_n 0, 1) := by decide +kernel
theorem dH_init_13 : decode bH_init 13 = .ok (.bipush 12, 2) := by decide +kernel
theorem dH_init_15 : decode bH_init 15 = .ok (.newarray .int, 2) := by decide +kernel
theorem dH_init_17 : decode bH_init 17 = .ok (.putfield 15, 3) := by decide +kernel
theorem dH_init_20 : decode bH_init 20 = .ok (.aload_n 0, 1) := by decide +kernel
theorem dH_init_21 : decode bH_init 21 = .ok (.bipush 12, 2) := by decide +kernel
theorem dH_init_23 : decode bH_init 23 = .ok (.newarray .int, 2) := by decide +kernel
theorem dH_init_25 : decode bH_init 25 = .ok (.putfield 18, 3) := by decide +kernel
theorem dH_init_28 : decode bH_init 28 = .ok (.aload_n 0, 1) := by decide +kernel
theorem dH_init_29 : decode bH_init 29 = .ok (.bipush 12, 2) := by decide +kernel
theorem dH_init_31 : decode bH_init 31 = .ok (.newarray .int, 2) := by decide +kernel
theorem dH_init_33 : decode bH_init 33 = .ok (.putfield 21, 3) := by decide +kernel
theorem dH_init_36 : decode bH_init 36 = .ok (.aload_n 0, 1) := by decide +kernel
theorem dH_init_37 : decode bH_init 37 = .ok (.bipush 12, 2) := by decide +kernel
theorem dH_init_39 : decode bH_init 39 = .ok (.bipush 12, 2) := by decide +kernel
theorem dH_init_41 : decode bH_init 41 = .ok (.multianewarray 24 2, 4) := by decide +kernel
theorem dH_init_45 : decode bH_init 45 = .ok (.putfield 26, 3) := by decide +kernel
theorem dH_init_48 : decode bH_init 48 = .ok (.return_, 1) := by decide +kernel
theorem dH_add_0 : decode bH_add 0 = .ok (.aload_n 0, 1) := by decide +kernel
theorem dH_add_1 : decode bH_add 1 = .ok (.getfield 29, 3) := by decide +kernel
theorem dH_add_4 : decode bH_add 4 = .ok (.istore_n 3, 1) := by decide +kernel
theorem dH_add_5 : decode bH_add 5 = .ok (.aload_n 0, 1) := by decide +kernel
theorem dH_add_6 : decode bH_add 6 = .ok (.dup, 1) := by decide +kernel
theorem dH_add_7 : decode bH_add 7 = .ok (.getfield 29, 3) := by decide +kernel
theorem dH_add_10 : decode bH_add 10 = .ok (.iconst 1, 1) := by decide +kernel
theorem dH_add_11 : decode bH_add 11 = .ok (.iadd, 1) := by decide +kernel
theorem dH_add_12 : decode bH_add 12 = .ok (.putfield 29, 3) := by decide +kernel
theorem dH_add_15 : decode bH_add 15 = .ok (.aload_n 0, 1) := by decide +kernel
theorem dH_add_16 : decode bH_add 16 = .ok (.iload_n 3, 1) := by decide +kernel
theorem dH_add_17 : decode bH_add 17 = .ok (.iload_n 1, 1) := by decide +kernel
theorem dH_add_18 : decode bH_add 18 = .ok (.iload_n 2, 1) := by decide +kernel
theorem dH_add_19 : decode bH_add 19 = .ok (.invokevirtual 33, 3) := by decide +kernel
theorem dH_add_22 : decode bH_add 22 = .ok (.iload_n 3, 1) := by decide +kernel
theorem dH_add_23 : decode bH_add 23 = .ok (.ireturn, 1) := by decide +kernel
theorem dH_put_0 : decode bH_put 0 = .ok (.aload_n 0, 1) := by decide +kernel
theorem dH_put_1 : decode bH_put 1 = .ok (.getfield 9, 3) := by decide +kernel
theorem dH_put_4 : decode bH_put 4 = .ok (.iload_n 1, 1) := by decide +kernel
theorem dH_put_5 : decode bH_put 5 = .ok (.iload_n 2, 1) := by decide +kernel
theorem dH_put_6 : decode bH_put 6 = .ok (.iastore, 1) := by decide +kernel
theorem dH_put_7 : decode bH_put 7 = .ok (.aload_n 0, 1) := by decide +kernel
theorem dH_put_8 : decode bH_put 8 = .ok (.getfield 15, 3) := by decide +kernel
theorem dH_put_11 : decode bH_put 11 = .ok (.iload_n 1, 1) := by decide +kernel
theorem dH_put_12 : decode bH_put 12 = .ok (.iload_n 3, 1) := by decide +kernel
theorem dH_put_13 : decode bH_put 13 = .ok (.iastore, 1) := by decide +kernel
theorem dH_put_14 : decode bH_put 14 = .ok (.aload_n 0, 1) := by decide +kernel
theorem dH_put_15 : decode bH_put 15 = .ok (.dup, 1) := by decide +kernel
theorem dH_put_16 : decode bH_put 16 = .ok (.getfield 37, 3) := by decide +kernel
theorem dH_put_19 : decode bH_put 19 = .ok (.iconst 1, 1) := by decide +kernel
theorem dH_put_20 : decode bH_put 20 = .ok (.iadd, 1) := by decide +kernel
theorem dH_put_21 : decode bH_put 21 = .ok (.putfield 37, 3) := by decide +kernel
theorem dH_put_24 : decode bH_put 24 = .ok (.return_, 1) := by decide +kernel
theorem dH_putExcluded_0 : decode bH_putExcluded 0 = .ok (.aload_n 0, 1) := by decide +kernel
theorem dH_putExcluded_1 : decode bH_putExcluded 1 = .ok (.getfield 18, 3) := by decide +kernel
theorem dH_putExcluded_4 : decode bH_putExcluded 4 = .ok (.iload_n 1, 1) := by decide +kernel
theorem dH_putExcluded_5 : decode bH_putExcluded 5 = .ok (.aload_n 0, 1) := by decide +kernel
theorem dH_putExcluded_6 : decode bH_putExcluded 6 = .ok (.getfield 18, 3) := by decide +kernel
theorem dH_putExcluded_9 : decode bH_putExcluded 9 = .ok (.iload_n 1, 1) := by decide +kernel
theorem dH_putExcluded_10 : decode bH_putExcluded 10 = .ok (.iaload, 1) := by decide +kernel
theorem dH_putExcluded_11 : decode bH_putExcluded 11 = .ok (.iload_n 2, 1) := by decide +kernel
theorem dH_putExcluded_12 : decode bH_putExcluded 12 = .ok (.iload_n 3, 1) := by decide +kernel
theorem dH_putExcluded_13 : decode bH_putExcluded 13 = .ok (.invokestatic 40, 3) := by decide +kernel
theorem dH_putExcluded_16 : decode bH_putExcluded 16 = .ok (.iastore, 1) := by decide +kernel
theorem dH_putExcluded_17 : decode bH_putExcluded 17 = .ok (.aload_n 0, 1) := by decide +kernel
theorem dH_putExcluded_18 : decode bH_putExcluded 18 = .ok (.getfield 18, 3) := by decide +kernel
theorem dH_putExcluded_21 : decode bH_putExcluded 21 = .ok (.iload_n 2, 1) := by decide +kernel
theorem dH_putExcluded_22 : decode bH_putExcluded 22 = .ok (.aload_n 0, 1) := by decide +kernel
theorem dH_putExcluded_23 : decode bH_putExcluded 23 = .ok (.getfield 18, 3) := by decide +kernel
theorem dH_putExcluded_26 : decode bH_putExcluded 26 = .ok (.iload_n 2, 1) := by decide +kernel
theorem dH_putExcluded_27 : decode bH_putExcluded 27 = .ok (.iaload, 1) := by decide +kernel
theorem dH_putExcluded_28 : decode bH_putExcluded 28 = .ok (.iload_n 1, 1) := by decide +kernel
theorem dH_putExcluded_29 : decode bH_putExcluded 29 = .ok (.iload_n 3, 1) := by decide +kernel
theorem dH_putExcluded_30 : decode bH_putExcluded 30 = .ok (.invokestatic 40, 3) := by decide +kernel
theorem dH_putExcluded_33 : decode bH_putExcluded 33 = .ok (.iastore, 1) := by decide +kernel
theorem dH_putExcluded_34 : decode bH_putExcluded 34 = .ok (.aload_n 0, 1) := by decide +kernel
theorem dH_putExcluded_35 : decode bH_putExcluded 35 = .ok (.dup, 1) := by decide +kernel
theorem dH_putExcluded_36 : decode bH_putExcluded 36 = .ok (.getfield 37, 3) := by decide +kernel
theorem dH_putExcluded_39 : decode bH_putExcluded 39 = .ok (.iconst 1, 1) := by decide +kernel
theorem dH_putExcluded_40 : decode bH_putExcluded 40 = .ok (.iadd, 1) := by decide +kernel
theorem dH_putExcluded_41 : decode bH_putExcluded 41 = .ok (.putfield 37, 3) := by decide +kernel
theorem dH_putExcluded_44 : decode bH_putExcluded 44 = .ok (.return_, 1) := by decide +kernel
theorem dH_putNeeded_0 : decode bH_putNeeded 0 = .ok (.aload_n 0, 1) := by decide +kernel
theorem dH_putNeeded_1 : decode bH_putNeeded 1 = .ok (.getfield 21, 3) := by decide +kernel
theorem dH_putNeeded_4 : decode bH_putNeeded 4 = .ok (.iload_n 1, 1) := by decide +kernel
theorem dH_putNeeded_5 : decode bH_putNeeded 5 = .ok (.aload_n 0, 1) := by decide +kernel
theorem dH_putNeeded_6 : decode bH_putNeeded 6 = .ok (.getfield 21, 3) := by decide +kernel
theorem dH_putNeeded_9 : decode bH_putNeeded 9 = .ok (.iload_n 1, 1) := by decide +kernel
theorem dH_putNeeded_10 : decode bH_putNeeded 10 = .ok (.iaload, 1) := by decide +kernel
theorem dH_putNeeded_11 : decode bH_putNeeded 11 = .ok (.iload_n 2, 1) := by decide +kernel
theorem dH_putNeeded_12 : decode bH_putNeeded 12 = .ok (.iload_n 3, 1) := by decide +kernel
theorem dH_putNeeded_13 : decode bH_putNeeded 13 = .ok (.invokestatic 40, 3) := by decide +kernel
theorem dH_putNeeded_16 : decode bH_putNeeded 16 = .ok (.iastore, 1) := by decide +kernel
theorem dH_putNeeded_17 : decode bH_putNeeded 17 = .ok (.aload_n 0, 1) := by decide +kernel
theorem dH_putNeeded_18 : decode bH_putNeeded 18 = .ok (.dup, 1) := by decide +kernel
theorem dH_putNeeded_19 : decode bH_putNeeded 19 = .ok (.getfield 37, 3) := by decide +kernel
theorem dH_putNeeded_22 : decode bH_putNeeded 22 = .ok (.iconst 1, 1) := by decide +kernel
theorem dH_putNeeded_23 : decode bH_putNeeded 23 = .ok (.iadd, 1) := by decide +kernel
theorem dH_putNeeded_24 : decode bH_putNeeded 24 = .ok (.putfield 37, 3) := by decide +kernel
theorem dH_putNeeded_27 : decode bH_putNeeded 27 = .ok (.return_, 1) := by decide +kernel
theorem dH_putBonus_0 : decode bH_putBonus 0 = .ok (.aload_n 0, 1) := by decide +kernel
theorem dH_putBonus_1 : decode bH_putBonus 1 = .ok (.getfield 26, 3) := by decide +kernel
theorem dH_putBonus_4 : decode bH_putBonus 4 = .ok (.iload_n 1, 1) := by decide +kernel
theorem dH_putBonus_5 : decode bH_putBonus 5 = .ok (.aaload, 1) := by decide +kernel
theorem dH_putBonus_6 : decode bH_putBonus 6 = .ok (.iload_n 2, 1) := by decide +kernel
theorem dH_putBonus_7 : decode bH_putBonus 7 = .ok (.iload_n 3, 1) := by decide +kernel
theorem dH_putBonus_8 : decode bH_putBonus 8 = .ok (.iastore, 1) := by decide +kernel
theorem dH_putBonus_9 : decode bH_putBonus 9 = .ok (.aload_n 0, 1) := by decide +kernel
theorem dH_putBonus_10 : decode bH_putBonus 10 = .ok (.getfield 26, 3) := by decide +kernel
theorem dH_putBonus_13 : decode bH_putBonus 13 = .ok (.iload_n 2, 1) := by decide +kernel
theorem dH_putBonus_14 : decode bH_putBonus 14 = .ok (.aaload, 1) := by decide +kernel
theorem dH_putBonus_15 : decode bH_putBonus 15 = .ok (.iload_n 1, 1) := by decide +kernel
theorem dH_putBonus_16 : decode bH_putBonus 16 = .ok (.iload_n 3, 1) := by decide +kernel
theorem dH_putBonus_17 : decode bH_putBonus 17 = .ok (.iastore, 1) := by decide +kernel
theorem dH_putBonus_18 : decode bH_putBonus 18 = .ok (.aload_n 0, 1) := by decide +kernel
theorem dH_putBonus_19 : decode bH_putBonus 19 = .ok (.dup, 1) := by decide +kernel
theorem dH_putBonus_20 : decode bH_putBonus 20 = .ok (.getfield 37, 3) := by decide +kernel
theorem dH_putBonus_23 : decode bH_putBonus 23 = .ok (.iconst 1, 1) := by decide +kernel
theorem dH_putBonus_24 : decode bH_putBonus 24 = .ok (.iadd, 1) := by decide +kernel
theorem dH_putBonus_25 : decode bH_putBonus 25 = .ok (.putfield 37, 3) := by decide +kernel
theorem dH_putBonus_28 : decode bH_putBonus 28 = .ok (.return_, 1) := by decide +kernel
theorem dH_allows_0 : decode bH_allows 0 = .ok (.iconst 0, 1) := by decide +kernel
theorem dH_allows_1 : decode bH_allows 1 = .ok (.istore_n 2, 1) := by decide +kernel
theorem dH_allows_2 : decode bH_allows 2 = .ok (.iload_n 2, 1) := by decide +kernel
theorem dH_allows_3 : decode bH_allows 3 = .ok (.aload_n 0, 1) := by decide +kernel
theorem dH_allows_4 : decode bH_allows 4 = .ok (.getfield 29, 3) := by decide +kernel
theorem dH_allows_7 : decode bH_allows 7 = .ok (.if_icmp .ge 43, 3) := by decide +kernel
theorem dH_allows_10 : decode bH_allows 10 = .ok (.iload_n 1, 1) := by decide +kernel
theorem dH_allows_11 : decode bH_allows 11 = .ok (.iload_n 2, 1) := by decide +kernel
theorem dH_allows_12 : decode bH_allows 12 = .ok (.invokestatic 44, 3) := by decide +kernel
theorem dH_allows_15 : decode bH_allows 15 = .ok (.ifCond .eq 29, 3) := by decide +kernel
theorem dH_allows_18 : decode bH_allows 18 = .ok (.aload_n 0, 1) := by decide +kernel
theorem dH_allows_19 : decode bH_allows 19 = .ok (.getfield 18, 3) := by decide +kernel
theorem dH_allows_22 : decode bH_allows 22 = .ok (.iload_n 2, 1) := by decide +kernel
theorem dH_allows_23 : decode bH_allows 23 = .ok (.iaload, 1) := by decide +kernel
theorem dH_allows_24 : decode bH_allows 24 = .ok (.iload_n 1, 1) := by decide +kernel
theorem dH_allows_25 : decode bH_allows 25 = .ok (.iand, 1) := by decide +kernel
theorem dH_allows_26 : decode bH_allows 26 = .ok (.ifCond .ne 16, 3) := by decide +kernel
theorem dH_allows_29 : decode bH_allows 29 = .ok (.aload_n 0, 1) := by decide +kernel
theorem dH_allows_30 : decode bH_allows 30 = .ok (.getfield 21, 3) := by decide +kernel
theorem dH_allows_33 : decode bH_allows 33 = .ok (.iload_n 2, 1) := by decide +kernel
theorem dH_allows_34 : decode bH_allows 34 = .ok (.iaload, 1) := by decide +kernel
theorem dH_allows_35 : decode bH_allows 35 = .ok (.iload_n 1, 1) := by decide +kernel
theorem dH_allows_36 : decode bH_allows 36 = .ok (.iconst (-1), 1) := by decide +kernel
theorem dH_allows_37 : decode bH_allows 37 = .ok (.ixor, 1) := by decide +kernel
theorem dH_allows_38 : decode bH_allows 38 = .ok (.iand, 1) := by decide +kernel
theorem dH_allows_39 : decode bH_allows 39 = .ok (.ifCond .eq 5, 3) := by decide +kernel
theorem dH_allows_42 : decode bH_allows 42 = .ok (.iconst 0, 1) := by decide +kernel
theorem dH_allows_43 : decode bH_allows 43 = .ok (.ireturn, 1) := by decide +kernel
theorem dH_allows_44 : decode bH_allows 44 = .ok (.iinc 2 1, 3) := by decide +kernel
theorem dH_allows_47 : decode bH_allows 47 = .ok (.goto (-45), 3) := by decide +kernel
theorem dH_allows_50 : decode bH_allows 50 = .ok (.iconst 1, 1) := by decide +kernel
theorem dH_allows_51 : decode bH_allows 51 = .ok (.ireturn, 1) := by decide +kernel
theorem dH_costOf_0 : decode bH_costOf 0 = .ok (.iconst 0, 1) := by decide +kernel
theorem dH_costOf_1 : decode bH_costOf 1 = .ok (.istore_n 2, 1) := by decide +kernel
theorem dH_costOf_2 : decode bH_costOf 2 = .ok (.iconst 0, 1) := by decide +kernel
theorem dH_costOf_3 : decode bH_costOf 3 = .ok (.istore_n 3, 1) := by decide +kernel
theorem dH_costOf_4 : decode bH_costOf 4 = .ok (.iload_n 3, 1) := by decide +kernel
theorem dH_costOf_5 : decode bH_costOf 5 = .ok (.aload_n 0, 1) := by decide +kernel
theorem dH_costOf_6 : decode bH_costOf 6 = .ok (.getfield 29, 3) := by decide +kernel
theorem dH_costOf_9 : decode bH_costOf 9 = .ok (.if_icmp .ge 26, 3) := by decide +kernel
theorem dH_costOf_12 : decode bH_costOf 12 = .ok (.iload_n 1, 1) := by decide +kernel
theorem dH_costOf_13 : decode bH_costOf 13 = .ok (.iload_n 3, 1) := by decide +kernel
theorem dH_costOf_14 : decode bH_costOf 14 = .ok (.invokestatic 44, 3) := by decide +kernel
theorem dH_costOf_17 : decode bH_costOf 17 = .ok (.ifCond .eq 12, 3) := by decide +kernel
theorem dH_costOf_20 : decode bH_costOf 20 = .ok (.iload_n 2, 1) := by decide +kernel
theorem dH_costOf_21 : decode bH_costOf 21 = .ok (.aload_n 0, 1) := by decide +kernel
theorem dH_costOf_22 : decode bH_costOf 22 = .ok (.getfield 9, 3) := by decide +kernel
theorem dH_costOf_25 : decode bH_costOf 25 = .ok (.iload_n 3, 1) := by decide +kernel
theorem dH_costOf_26 : decode bH_costOf 26 = .ok (.iaload, 1) := by decide +kernel
theorem dH_costOf_27 : decode bH_costOf 27 = .ok (.iadd, 1) := by decide +kernel
theorem dH_costOf_28 : decode bH_costOf 28 = .ok (.istore_n 2, 1) := by decide +kernel
theorem dH_costOf_29 : decode bH_costOf 29 = .ok (.iinc 3 1, 3) := by decide +kernel
theorem dH_costOf_32 : decode bH_costOf 32 = .ok (.goto (-28), 3) := by decide +kernel
theorem dH_costOf_35 : decode bH_costOf 35 = .ok (.iload_n 2, 1) := by decide +kernel
theorem dH_costOf_36 : decode bH_costOf 36 = .ok (.ireturn, 1) := by decide +kernel
theorem dH_gainOf_0 : decode bH_gainOf 0 = .ok (.iconst 0, 1) := by decide +kernel
theorem dH_gainOf_1 : decode bH_gainOf 1 = .ok (.istore_n 2, 1) := by decide +kernel
theorem dH_gainOf_2 : decode bH_gainOf 2 = .ok (.iconst 0, 1) := by decide +kernel
theorem dH_gainOf_3 : decode bH_gainOf 3 = .ok (.istore_n 3, 1) := by decide +kernel
theorem dH_gainOf_4 : decode bH_gainOf 4 = .ok (.iload_n 3, 1) := by decide +kernel
theorem dH_gainOf_5 : decode bH_gainOf 5 = .ok (.aload_n 0, 1) := by decide +kernel
theorem dH_gainOf_6 : decode bH_gainOf 6 = .ok (.getfield 29, 3) := by decide +kernel
theorem dH_gainOf_9 : decode bH_gainOf 9 = .ok (.if_icmp .ge 33, 3) := by decide +kernel
theorem dH_gainOf_12 : decode bH_gainOf 12 = .ok (.iload_n 1, 1) := by decide +kernel
theorem dH_gainOf_13 : decode bH_gainOf 13 = .ok (.iload_n 3, 1) := by decide +kernel
theorem dH_gainOf_14 : decode bH_gainOf 14 = .ok (.invokestatic 44, 3) := by decide +kernel
theorem dH_gainOf_17 : decode bH_gainOf 17 = .ok (.ifCond .eq 19, 3) := by decide +kernel
theorem dH_gainOf_20 : decode bH_gainOf 20 = .ok (.iload_n 2, 1) := by decide +kernel
theorem dH_gainOf_21 : decode bH_gainOf 21 = .ok (.aload_n 0, 1) := by decide +kernel
theorem dH_gainOf_22 : decode bH_gainOf 22 = .ok (.getfield 15, 3) := by decide +kernel
theorem dH_gainOf_25 : decode bH_gainOf 25 = .ok (.iload_n 3, 1) := by decide +kernel
theorem dH_gainOf_26 : decode bH_gainOf 26 = .ok (.iaload, 1) := by decide +kernel
theorem dH_gainOf_27 : decode bH_gainOf 27 = .ok (.aload_n 0, 1) := by decide +kernel
theorem dH_gainOf_28 : decode bH_gainOf 28 = .ok (.iload_n 3, 1) := by decide +kernel
theorem dH_gainOf_29 : decode bH_gainOf 29 = .ok (.iload_n 1, 1) := by decide +kernel
theorem dH_gainOf_30 : decode bH_gainOf 30 = .ok (.invokevirtual 48, 3) := by decide +kernel
theorem dH_gainOf_33 : decode bH_gainOf 33 = .ok (.iadd, 1) := by decide +kernel
theorem dH_gainOf_34 : decode bH_gainOf 34 = .ok (.iadd, 1) := by decide +kernel
theorem dH_gainOf_35 : decode bH_gainOf 35 = .ok (.istore_n 2, 1) := by decide +kernel
theorem dH_gainOf_36 : decode bH_gainOf 36 = .ok (.iinc 3 1, 3) := by decide +kernel
theorem dH_gainOf_39 : decode bH_gainOf 39 = .ok (.goto (-35), 3) := by decide +kernel
theorem dH_gainOf_42 : decode bH_gainOf 42 = .ok (.iload_n 2, 1) := by decide +kernel
theorem dH_gainOf_43 : decode bH_gainOf 43 = .ok (.ireturn, 1) := by decide +kernel
theorem dH_bonusWithEarlier_0 : decode bH_bonusWithEarlier 0 = .ok (.iconst 0, 1) := by decide +kernel
theorem dH_bonusWithEarlier_1 : decode bH_bonusWithEarlier 1 = .ok (.istore_n 3, 1) := by decide +kernel
theorem dH_bonusWithEarlier_2 : decode bH_bonusWithEarlier 2 = .ok (.iconst 0, 1) := by decide +kernel
theorem dH_bonusWithEarlier_3 : decode bH_bonusWithEarlier 3 = .ok (.istore 4, 2) := by decide +kernel
theorem dH_bonusWithEarlier_5 : decode bH_bonusWithEarlier 5 = .ok (.iload 4, 2) := by decide +kernel
theorem dH_bonusWithEarlier_7 : decode bH_bonusWithEarlier 7 = .ok (.iload_n 1, 1) := by decide +kernel
theorem dH_bonusWithEarlier_8 : decode bH_bonusWithEarlier 8 = .ok (.if_icmp .ge 30, 3) := by decide +kernel
theorem dH_bonusWithEarlier_11 : decode bH_bonusWithEarlier 11 = .ok (.iload_n 2, 1) := by decide +kernel
theorem dH_bonusWithEarlier_12 : decode bH_bonusWithEarlier 12 = .ok (.iload 4, 2) := by decide +kernel
theorem dH_bonusWithEarlier_14 : decode bH_bonusWithEarlier 14 = .ok (.invokestatic 44, 3) := by decide +kernel
theorem dH_bonusWithEarlier_17 : decode bH_bonusWithEarlier 17 = .ok (.ifCond .eq 15, 3) := by decide +kernel
theorem dH_bonusWithEarlier_20 : decode bH_bonusWithEarlier 20 = .ok (.iload_n 3, 1) := by decide +kernel
theorem dH_bonusWithEarlier_21 : decode bH_bonusWithEarlier 21 = .ok (.aload_n 0, 1) := by decide +kernel
theorem dH_bonusWithEarlier_22 : decode bH_bonusWithEarlier 22 = .ok (.getfield 26, 3) := by decide +kernel
theorem dH_bonusWithEarlier_25 : decode bH_bonusWithEarlier 25 = .ok (.iload_n 1, 1) := by decide +kernel
theorem dH_bonusWithEarlier_26 : decode bH_bonusWithEarlier 26 = .ok (.aaload, 1) := by decide +kernel
theorem dH_bonusWithEarlier_27 : decode bH_bonusWithEarlier 27 = .ok (.iload 4, 2) := by decide +kernel
theorem dH_bonusWithEarlier_29 : decode bH_bonusWithEarlier 29 = .ok (.iaload, 1) := by decide +kernel
theorem dH_bonusWithEarlier_30 : decode bH_bonusWithEarlier 30 = .ok (.iadd, 1) := by decide +kernel
theorem dH_bonusWithEarlier_31 : decode bH_bonusWithEarlier 31 = .ok (.istore_n 3, 1) := by decide +kernel
theorem dH_bonusWithEarlier_32 : decode bH_bonusWithEarlier 32 = .ok (.iinc 4 1, 3) := by decide +kernel
theorem dH_bonusWithEarlier_35 : decode bH_bonusWithEarlier 35 = .ok (.goto (-30), 3) := by decide +kernel
theorem dH_bonusWithEarlier_38 : decode bH_bonusWithEarlier 38 = .ok (.iload_n 3, 1) := by decide +kernel
theorem dH_bonusWithEarlier_39 : decode bH_bonusWithEarlier 39 = .ok (.ireturn, 1) := by decide +kernel
theorem dH_broughtBy_0 : decode bH_broughtBy 0 = .ok (.iconst 1, 1) := by decide +kernel
theorem dH_broughtBy_1 : decode bH_broughtBy 1 = .ok (.iload_n 1, 1) := by decide +kernel
theorem dH_broughtBy_2 : decode bH_broughtBy 2 = .ok (.ishl, 1) := by decide +kernel
theorem dH_broughtBy_3 : decode bH_broughtBy 3 = .ok (.istore_n 2, 1) := by decide +kernel
theorem dH_broughtBy_4 : decode bH_broughtBy 4 = .ok (.iconst 0, 1) := by decide +kernel
theorem dH_broughtBy_5 : decode bH_broughtBy 5 = .ok (.istore_n 3, 1) := by decide +kernel
theorem dH_broughtBy_6 : decode bH_broughtBy 6 = .ok (.iload_n 3, 1) := by decide +kernel
theorem dH_broughtBy_7 : decode bH_broughtBy 7 = .ok (.aload_n 0, 1) := by decide +kernel
theorem dH_broughtBy_8 : decode bH_broughtBy 8 = .ok (.getfield 29, 3) := by decide +kernel
theorem dH_broughtBy_11 : decode bH_broughtBy 11 = .ok (.if_icmp .ge 15, 3) := by decide +kernel
theorem dH_broughtBy_14 : decode bH_broughtBy 14 = .ok (.aload_n 0, 1) := by decide +kernel
theorem dH_broughtBy_15 : decode bH_broughtBy 15 = .ok (.iload_n 2, 1) := by decide +kernel
theorem dH_broughtBy_16 : decode bH_broughtBy 16 = .ok (.invokevirtual 52, 3) := by decide +kernel
theorem dH_broughtBy_19 : decode bH_broughtBy 19 = .ok (.istore_n 2, 1) := by decide +kernel
theorem dH_broughtBy_20 : decode bH_broughtBy 20 = .ok (.iinc 3 1, 3) := by decide +kernel
theorem dH_broughtBy_23 : decode bH_broughtBy 23 = .ok (.goto (-17), 3) := by decide +kernel
theorem dH_broughtBy_26 : decode bH_broughtBy 26 = .ok (.iload_n 2, 1) := by decide +kernel
theorem dH_broughtBy_27 : decode bH_broughtBy 27 = .ok (.ireturn, 1) := by decide +kernel
theorem dH_withItsNeeds_0 : decode bH_withItsNeeds 0 = .ok (.iload_n 1, 1) := by decide +kernel
theorem dH_withItsNeeds_1 : decode bH_withItsNeeds 1 = .ok (.istore_n 2, 1) := by decide +kernel
theorem dH_withItsNeeds_2 : decode bH_withItsNeeds 2 = .ok (.iconst 0, 1) := by decide +kernel
theorem dH_withItsNeeds_3 : decode bH_withItsNeeds 3 = .ok (.istore_n 3, 1) := by decide +kernel
theorem dH_withItsNeeds_4 : decode bH_withItsNeeds 4 = .ok (.iload_n 3, 1) := by decide +kernel
theorem dH_withItsNeeds_5 : decode bH_withItsNeeds 5 = .ok (.aload_n 0, 1) := by decide +kernel
theorem dH_withItsNeeds_6 : decode bH_withItsNeeds 6 = .ok (.getfield 29, 3) := by decide +kernel
theorem dH_withItsNeeds_9 : decode bH_withItsNeeds 9 = .ok (.if_icmp .ge 26, 3) := by decide +kernel
theorem dH_withItsNeeds_12 : decode bH_withItsNeeds 12 = .ok (.iload_n 1, 1) := by decide +kernel
theorem dH_withItsNeeds_13 : decode bH_withItsNeeds 13 = .ok (.iload_n 3, 1) := by decide +kernel
theorem dH_withItsNeeds_14 : decode bH_withItsNeeds 14 = .ok (.invokestatic 44, 3) := by decide +kernel
theorem dH_withItsNeeds_17 : decode bH_withItsNeeds 17 = .ok (.ifCond .eq 12, 3) := by decide +kernel
theorem dH_withItsNeeds_20 : decode bH_withItsNeeds 20 = .ok (.iload_n 2, 1) := by decide +kernel
theorem dH_withItsNeeds_21 : decode bH_withItsNeeds 21 = .ok (.aload_n 0, 1) := by decide +kernel
theorem dH_withItsNeeds_22 : decode bH_withItsNeeds 22 = .ok (.getfield 21, 3) := by decide +kernel
theorem dH_withItsNeeds_25 : decode bH_withItsNeeds 25 = .ok (.iload_n 3, 1) := by decide +kernel
theorem dH_withItsNeeds_26 : decode bH_withItsNeeds 26 = .ok (.iaload, 1) := by decide +kernel
theorem dH_withItsNeeds_27 : decode bH_withItsNeeds 27 = .ok (.ior, 1) := by decide +kernel
theorem dH_withItsNeeds_28 : decode bH_withItsNeeds 28 = .ok (.istore_n 2, 1) := by decide +kernel
theorem dH_withItsNeeds_29 : decode bH_withItsNeeds 29 = .ok (.iinc 3 1, 3) := by decide +kernel
theorem dH_withItsNeeds_32 : decode bH_withItsNeeds 32 = .ok (.goto (-28), 3) := by decide +kernel
theorem dH_withItsNeeds_35 : decode bH_withItsNeeds 35 = .ok (.iload_n 2, 1) := by decide +kernel
theorem dH_withItsNeeds_36 : decode bH_withItsNeeds 36 = .ok (.ireturn, 1) := by decide +kernel
theorem dH_has_0 : decode bH_has 0 = .ok (.iload_n 0, 1) := by decide +kernel
theorem dH_has_1 : decode bH_has 1 = .ok (.iload_n 1, 1) := by decide +kernel
theorem dH_has_2 : decode bH_has 2 = .ok (.ishr, 1) := by decide +kernel
theorem dH_has_3 : decode bH_has 3 = .ok (.iconst 1, 1) := by decide +kernel
theorem dH_has_4 : decode bH_has 4 = .ok (.iand, 1) := by decide +kernel
theorem dH_has_5 : decode bH_has 5 = .ok (.ifCond .eq 7, 3) := by decide +kernel
theorem dH_has_8 : decode bH_has 8 = .ok (.iconst 1, 1) := by decide +kernel
theorem dH_has_9 : decode bH_has 9 = .ok (.goto 4, 3) := by decide +kernel
theorem dH_has_12 : decode bH_has 12 = .ok (.iconst 0, 1) := by decide +kernel
theorem dH_has_13 : decode bH_has 13 = .ok (.ireturn, 1) := by decide +kernel
theorem dH_with_0 : decode bH_with 0 = .ok (.iconst 1, 1) := by decide +kernel
theorem dH_with_1 : decode bH_with 1 = .ok (.iload_n 1, 1) := by decide +kernel
theorem dH_with_2 : decode bH_with 2 = .ok (.ishl, 1) := by decide +kernel
theorem dH_with_3 : decode bH_with 3 = .ok (.istore_n 3, 1) := by decide +kernel
theorem dH_with_4 : decode bH_with 4 = .ok (.iload_n 2, 1) := by decide +kernel
theorem dH_with_5 : decode bH_with 5 = .ok (.ifCond .eq 9, 3) := by decide +kernel
theorem dH_with_8 : decode bH_with 8 = .ok (.iload_n 0, 1) := by decide +kernel
theorem dH_with_9 : decode bH_with 9 = .ok (.iload_n 3, 1) := by decide +kernel
theorem dH_with_10 : decode bH_with 10 = .ok (.ior, 1) := by decide +kernel
theorem dH_with_11 : decode bH_with 11 = .ok (.goto 8, 3) := by decide +kernel
theorem dH_with_14 : decode bH_with 14 = .ok (.iload_n 0, 1) := by decide +kernel
theorem dH_with_15 : decode bH_with 15 = .ok (.iload_n 3, 1) := by decide +kernel
theorem dH_with_16 : decode bH_with 16 = .ok (.iconst (-1), 1) := by decide +kernel
theorem dH_with_17 : decode bH_with 17 = .ok (.ixor, 1) := by decide +kernel
theorem dH_with_18 : decode bH_with 18 = .ok (.iand, 1) := by decide +kernel
theorem dH_with_19 : decode bH_with 19 = .ok (.ireturn, 1) := by decide +kernel
theorem dA_init_0 : decode bA_init 0 = .ok (.aload_n 0, 1) := by decide +kernel
theorem dA_init_1 : decode bA_init 1 = .ok (.invokespecial 3, 3) := by decide +kernel
theorem dA_init_4 : decode bA_init 4 = .ok (.aload_n 0, 1) := by decide +kernel
theorem dA_init_5 : decode bA_init 5 = .ok (.iconst (-1), 1) := by decide +kernel
theorem dA_init_6 : decode bA_init 6 = .ok (.putfield 9, 3) := by decide +kernel
theorem dA_init_9 : decode bA_init 9 = .ok (.aload_n 0, 1) := by decide +kernel
theorem dA_init_10 : decode bA_init 10 = .ok (.sipush 4096, 3) := by decide +kernel
theorem dA_init_13 : decode bA_init 13 = .ok (.newarray .int, 2) := by decide +kernel
theorem dA_init_15 : decode bA_init 15 = .ok (.putfield 15, 3) := by decide +kernel
theorem dA_init_18 : decode bA_init 18 = .ok (.aload_n 0, 1) := by decide +kernel
theorem dA_init_19 : decode bA_init 19 = .ok (.sipush 4096, 3) := by decide +kernel
theorem dA_init_22 : decode bA_init 22 = .ok (.newarray .int, 2) := by decide +kernel
theorem dA_init_24 : decode bA_init 24 = .ok (.putfield 19, 3) := by decide +kernel
theorem dA_init_27 : decode bA_init 27 = .ok (.return_, 1) := by decide +kernel
theorem dA_setAt_0 : decode bA_setAt 0 = .ok (.aload_n 0, 1) := by decide +kernel
theorem dA_setAt_1 : decode bA_setAt 1 = .ok (.getfield 15, 3) := by decide +kernel
theorem dA_setAt_4 : decode bA_setAt 4 = .ok (.iload_n 1, 1) := by decide +kernel
theorem dA_setAt_5 : decode bA_setAt 5 = .ok (.iaload, 1) := by decide +kernel
theorem dA_setAt_6 : decode bA_setAt 6 = .ok (.sipush 4095, 3) := by decide +kernel
theorem dA_setAt_9 : decode bA_setAt 9 = .ok (.iand, 1) := by decide +kernel
theorem dA_setAt_10 : decode bA_setAt 10 = .ok (.ireturn, 1) := by decide +kernel
theorem dA_costAt_0 : decode bA_costAt 0 = .ok (.aload_n 0, 1) := by decide +kernel
theorem dA_costAt_1 : decode bA_costAt 1 = .ok (.getfield 15, 3) := by decide +kernel
theorem dA_costAt_4 : decode bA_costAt 4 = .ok (.iload_n 1, 1) := by decide +kernel
theorem dA_costAt_5 : decode bA_costAt 5 = .ok (.iaload, 1) := by decide +kernel
theorem dA_costAt_6 : decode bA_costAt 6 = .ok (.bipush 12, 2) := by decide +kernel
theorem dA_costAt_8 : decode bA_costAt 8 = .ok (.ishr, 1) := by decide +kernel
theorem dA_costAt_9 : decode bA_costAt 9 = .ok (.ireturn, 1) := by decide +kernel
theorem dA_gainAt_0 : decode bA_gainAt 0 = .ok (.aload_n 0, 1) := by decide +kernel
theorem dA_gainAt_1 : decode bA_gainAt 1 = .ok (.getfield 19, 3) := by decide +kernel
theorem dA_gainAt_4 : decode bA_gainAt 4 = .ok (.aload_n 0, 1) := by decide +kernel
theorem dA_gainAt_5 : decode bA_gainAt 5 = .ok (.iload_n 1, 1) := by decide +kernel
theorem dA_gainAt_6 : decode bA_gainAt 6 = .ok (.invokevirtual 22, 3) := by decide +kernel
theorem dA_gainAt_9 : decode bA_gainAt 9 = .ok (.iaload, 1) := by decide +kernel
theorem dA_gainAt_10 : decode bA_gainAt 10 = .ok (.ireturn, 1) := by decide +kernel
theorem dA_highestWithin_0 : decode bA_highestWithin 0 = .ok (.iconst 0, 1) := by decide +kernel
theorem dA_highestWithin_1 : decode bA_highestWithin 1 = .ok (.istore_n 2, 1) := by decide +kernel
theorem dA_highestWithin_2 : decode bA_highestWithin 2 = .ok (.iconst 1, 1) := by decide +kernel
theorem dA_highestWithin_3 : decode bA_highestWithin 3 = .ok (.istore_n 3, 1) := by decide +kernel
theorem dA_highestWithin_4 : decode bA_highestWithin 4 = .ok (.iload_n 3, 1) := by decide +kernel
theorem dA_highestWithin_5 : decode bA_highestWithin 5 = .ok (.aload_n 0, 1) := by decide +kernel
theorem dA_highestWithin_6 : decode bA_highestWithin 6 = .ok (.getfield 26, 3) := by decide +kernel
theorem dA_highestWithin_9 : decode bA_highestWithin 9 = .ok (.if_icmp .ge 20, 3) := by decide +kernel
theorem dA_highestWithin_12 : decode bA_highestWithin 12 = .ok (.aload_n 0, 1) := by decide +kernel
theorem dA_highestWithin_13 : decode bA_highestWithin 13 = .ok (.iload_n 3, 1) := by decide +kernel
theorem dA_highestWithin_14 : decode bA_highestWithin 14 = .ok (.invokevirtual 29, 3) := by decide +kernel
theorem dA_highestWithin_17 : decode bA_highestWithin 17 = .ok (.iload_n 1, 1) := by decide +kernel
theorem dA_highestWithin_18 : decode bA_highestWithin 18 = .ok (.if_icmp .gt 11, 3) := by decide +kernel
theorem dA_highestWithin_21 : decode bA_highestWithin 21 = .ok (.iload_n 3, 1) := by decide +kernel
theorem dA_highestWithin_22 : decode bA_highestWithin 22 = .ok (.istore_n 2, 1) := by decide +kernel
theorem dA_highestWithin_23 : decode bA_highestWithin 23 = .ok (.iinc 3 1, 3) := by decide +kernel
theorem dA_highestWithin_26 : decode bA_highestWithin 26 = .ok (.goto (-22), 3) := by decide +kernel
theorem dA_highestWithin_29 : decode bA_highestWithin 29 = .ok (.iload_n 2, 1) := by decide +kernel
theorem dA_highestWithin_30 : decode bA_highestWithin 30 = .ok (.ireturn, 1) := by decide +kernel
theorem dA_lowestGaining_0 : decode bA_lowestGaining 0 = .ok (.iconst 0, 1) := by decide +kernel
theorem dA_lowestGaining_1 : decode bA_lowestGaining 1 = .ok (.istore_n 2, 1) := by decide +kernel
theorem dA_lowestGaining_2 : decode bA_lowestGaining 2 = .ok (.iload_n 2, 1) := by decide +kernel
theorem dA_lowestGaining_3 : decode bA_lowestGaining 3 = .ok (.aload_n 0, 1) := by decide +kernel
theorem dA_lowestGaining_4 : decode bA_lowestGaining 4 = .ok (.getfield 26, 3) := by decide +kernel
theorem dA_lowestGaining_7 : decode bA_lowestGaining 7 = .ok (.if_icmp .ge 20, 3) := by decide +kernel
theorem dA_lowestGaining_10 : decode bA_lowestGaining 10 = .ok (.aload_n 0, 1) := by decide +kernel
theorem dA_lowestGaining_11 : decode bA_lowestGaining 11 = .ok (.iload_n 2, 1) := by decide +kernel
theorem dA_lowestGaining_12 : decode bA_lowestGaining 12 = .ok (.invokevirtual 32, 3) := by decide +kernel
theorem dA_lowestGaining_15 : decode bA_lowestGaining 15 = .ok (.iload_n 1, 1) := by decide +kernel
theorem dA_lowestGaining_16 : decode bA_lowestGaining 16 = .ok (.if_icmp .lt 5, 3) := by decide +kernel
theorem dA_lowestGaining_19 : decode bA_lowestGaining 19 = .ok (.iload_n 2, 1) := by decide +kernel
theorem dA_lowestGaining_20 : decode bA_lowestGaining 20 = .ok (.ireturn, 1) := by decide +kernel
theorem dA_lowestGaining_21 : decode bA_lowestGaining 21 = .ok (.iinc 2 1, 3) := by decide +kernel
theorem dA_lowestGaining_24 : decode bA_lowestGaining 24 = .ok (.goto (-22), 3) := by decide +kernel
theorem dA_lowestGaining_27 : decode bA_lowestGaining 27 = .ok (.iconst (-1), 1) := by decide +kernel
theorem dA_lowestGaining_28 : decode bA_lowestGaining 28 = .ok (.ireturn, 1) := by decide +kernel
theorem dA_bringUpToDate_0 : decode bA_bringUpToDate 0 = .ok (.aload_n 0, 1) := by decide +kernel
theorem dA_bringUpToDate_1 : decode bA_bringUpToDate 1 = .ok (.getfield 9, 3) := by decide +kernel
theorem dA_bringUpToDate_4 : decode bA_bringUpToDate 4 = .ok (.aload_n 1, 1) := by decide +kernel
theorem dA_bringUpToDate_5 : decode bA_bringUpToDate 5 = .ok (.getfield 35, 3) := by decide +kernel
theorem dA_bringUpToDate_8 : decode bA_bringUpToDate 8 = .ok (.if_icmp .ne 4, 3) := by decide +kernel
theorem dA_bringUpToDate_11 : decode bA_bringUpToDate 11 = .ok (.return_, 1) := by decide +kernel
theorem dA_bringUpToDate_12 : decode bA_bringUpToDate 12 = .ok (.aload_n 0, 1) := by decide +kernel
theorem dA_bringUpToDate_13 : decode bA_bringUpToDate 13 = .ok (.getfield 15, 3) := by decide +kernel
theorem dA_bringUpToDate_16 : decode bA_bringUpToDate 16 = .ok (.iconst 0, 1) := by decide +kernel
theorem dA_bringUpToDate_17 : decode bA_bringUpToDate 17 = .ok (.iconst 0, 1) := by decide +kernel
theorem dA_bringUpToDate_18 : decode bA_bringUpToDate 18 = .ok (.iastore, 1) := by decide +kernel
theorem dA_bringUpToDate_19 : decode bA_bringUpToDate 19 = .ok (.aload_n 0, 1) := by decide +kernel
theorem dA_bringUpToDate_20 : decode bA_bringUpToDate 20 = .ok (.getfield 19, 3) := by decide +kernel
theorem dA_bringUpToDate_23 : decode bA_bringUpToDate 23 = .ok (.iconst 0, 1) := by decide +kernel
theorem dA_bringUpToDate_24 : decode bA_bringUpToDate 24 = .ok (.iconst 0, 1) := by decide +kernel
theorem dA_bringUpToDate_25 : decode bA_bringUpToDate 25 = .ok (.iastore, 1) := by decide +kernel
theorem dA_bringUpToDate_26 : decode bA_bringUpToDate 26 = .ok (.iconst 0, 1) := by decide +kernel
theorem dA_bringUpToDate_27 : decode bA_bringUpToDate 27 = .ok (.istore_n 2, 1) := by decide +kernel
theorem dA_bringUpToDate_28 : decode bA_bringUpToDate 28 = .ok (.iload_n 2, 1) := by decide +kernel
theorem dA_bringUpToDate_29 : decode bA_bringUpToDate 29 = .ok (.aload_n 1, 1) := by decide +kernel
theorem dA_bringUpToDate_30 : decode bA_bringUpToDate 30 = .ok (.getfield 38, 3) := by decide +kernel
theorem dA_bringUpToDate_33 : decode bA_bringUpToDate 33 = .ok (.if_icmp .ge 35, 3) := by decide +kernel
theorem dA_bringUpToDate_36 : decode bA_bringUpToDate 36 = .ok (.aload_n 0, 1) := by decide +kernel
theorem dA_bringUpToDate_37 : decode bA_bringUpToDate 37 = .ok (.iconst 1, 1) := by decide +kernel
theorem dA_bringUpToDate_38 : decode bA_bringUpToDate 38 = .ok (.iload_n 2, 1) := by decide +kernel
theorem dA_bringUpToDate_39 : decode bA_bringUpToDate 39 = .ok (.ishl, 1) := by decide +kernel
theorem dA_bringUpToDate_40 : decode bA_bringUpToDate 40 = .ok (.aload_n 1, 1) := by decide +kernel
theorem dA_bringUpToDate_41 : decode bA_bringUpToDate 41 = .ok (.getfield 41, 3) := by decide +kernel
theorem dA_bringUpToDate_44 : decode bA_bringUpToDate 44 = .ok (.iload_n 2, 1) := by decide +kernel
theorem dA_bringUpToDate_45 : decode bA_bringUpToDate 45 = .ok (.iaload, 1) := by decide +kernel
theorem dA_bringUpToDate_46 : decode bA_bringUpToDate 46 = .ok (.bipush 12, 2) := by decide +kernel
theorem dA_bringUpToDate_48 : decode bA_bringUpToDate 48 = .ok (.ishl, 1) := by decide +kernel
theorem dA_bringUpToDate_49 : decode bA_bringUpToDate 49 = .ok (.iconst 1, 1) := by decide +kernel
theorem dA_bringUpToDate_50 : decode bA_bringUpToDate 50 = .ok (.iload_n 2, 1) := by decide +kernel
theorem dA_bringUpToDate_51 : decode bA_bringUpToDate 51 = .ok (.ishl, 1) := by decide +kernel
theorem dA_bringUpToDate_52 : decode bA_bringUpToDate 52 = .ok (.iadd, 1) := by decide +kernel
theorem dA_bringUpToDate_53 : decode bA_bringUpToDate 53 = .ok (.invokevirtual 44, 3) := by decide +kernel
theorem dA_bringUpToDate_56 : decode bA_bringUpToDate 56 = .ok (.aload_n 0, 1) := by decide +kernel
theorem dA_bringUpToDate_57 : decode bA_bringUpToDate 57 = .ok (.iload_n 2, 1) := by decide +kernel
theorem dA_bringUpToDate_58 : decode bA_bringUpToDate 58 = .ok (.aload_n 1, 1) := by decide +kernel
theorem dA_bringUpToDate_59 : decode bA_bringUpToDate 59 = .ok (.invokevirtual 48, 3) := by decide +kernel
theorem dA_bringUpToDate_62 : decode bA_bringUpToDate 62 = .ok (.iinc 2 1, 3) := by decide +kernel
theorem dA_bringUpToDate_65 : decode bA_bringUpToDate 65 = .ok (.goto (-37), 3) := by decide +kernel
theorem dA_bringUpToDate_68 : decode bA_bringUpToDate 68 = .ok (.aload_n 0, 1) := by decide +kernel
theorem dA_bringUpToDate_69 : decode bA_bringUpToDate 69 = .ok (.aload_n 1, 1) := by decide +kernel
theorem dA_bringUpToDate_70 : decode bA_bringUpToDate 70 = .ok (.invokevirtual 52, 3) := by decide +kernel
theorem dA_bringUpToDate_73 : decode bA_bringUpToDate 73 = .ok (.aload_n 0, 1) := by decide +kernel
theorem dA_bringUpToDate_74 : decode bA_bringUpToDate 74 = .ok (.aload_n 1, 1) := by decide +kernel
theorem dA_bringUpToDate_75 : decode bA_bringUpToDate 75 = .ok (.getfield 35, 3) := by decide +kernel
theorem dA_bringUpToDate_78 : decode bA_bringUpToDate 78 = .ok (.putfield 9, 3) := by decide +kernel
theorem dA_bringUpToDate_81 : decode bA_bringUpToDate 81 = .ok (.return_, 1) := by decide +kernel
theorem dA_addSteps_0 : decode bA_addSteps 0 = .ok (.iload_n 1, 1) := by decide +kernel
theorem dA_addSteps_1 : decode bA_addSteps 1 = .ok (.iconst 1, 1) := by decide +kernel
theorem dA_addSteps_2 : decode bA_addSteps 2 = .ok (.isub, 1) := by decide +kernel
theorem dA_addSteps_3 : decode bA_addSteps 3 = .ok (.istore_n 3, 1) := by decide +kernel
theorem dA_addSteps_4 : decode bA_addSteps 4 = .ok (.iload_n 1, 1) := by decide +kernel
theorem dA_addSteps_5 : decode bA_addSteps 5 = .ok (.iconst 1, 1) := by decide +kernel
theorem dA_addSteps_6 : decode bA_addSteps 6 = .ok (.isub, 1) := by decide +kernel
theorem dA_addSteps_7 : decode bA_addSteps 7 = .ok (.istore 4, 2) := by decide +kernel
theorem dA_addSteps_9 : decode bA_addSteps 9 = .ok (.iconst 2, 1) := by decide +kernel
theorem dA_addSteps_10 : decode bA_addSteps 10 = .ok (.iload_n 1, 1) := by decide +kernel
theorem dA_addSteps_11 : decode bA_addSteps 11 = .ok (.imul, 1) := by decide +kernel
theorem dA_addSteps_12 : decode bA_addSteps 12 = .ok (.iconst 1, 1) := by decide +kernel
theorem dA_addSteps_13 : decode bA_addSteps 13 = .ok (.isub, 1) := by decide +kernel
theorem dA_addSteps_14 : decode bA_addSteps 14 = .ok (.istore 5, 2) := by decide +kernel
theorem dA_addSteps_16 : decode bA_addSteps 16 = .ok (.iload 5, 2) := by decide +kernel
theorem dA_addSteps_18 : decode bA_addSteps 18 = .ok (.ifCond .lt 71, 3) := by decide +kernel
theorem dA_addSteps_21 : decode bA_addSteps 21 = .ok (.iload 4, 2) := by decide +kernel
theorem dA_addSteps_23 : decode bA_addSteps 23 = .ok (.ifCond .lt 66, 3) := by decide +kernel
theorem dA_addSteps_26 : decode bA_addSteps 26 = .ok (.iload_n 3, 1) := by decide +kernel
theorem dA_addSteps_27 : decode bA_addSteps 27 = .ok (.ifCond .lt 62, 3) := by decide +kernel
theorem dA_addSteps_30 : decode bA_addSteps 30 = .ok (.aload_n 0, 1) := by decide +kernel
theorem dA_addSteps_31 : decode bA_addSteps 31 = .ok (.getfield 15, 3) := by decide +kernel
theorem dA_addSteps_34 : decode bA_addSteps 34 = .ok (.iload 4, 2) := by decide +kernel
theorem dA_addSteps_36 : decode bA_addSteps 36 = .ok (.iaload, 1) := by decide +kernel
theorem dA_addSteps_37 : decode bA_addSteps 37 = .ok (.iload_n 2, 1) := by decide +kernel
theorem dA_addSteps_38 : decode bA_addSteps 38 = .ok (.iadd, 1) := by decide +kernel
theorem dA_addSteps_39 : decode bA_addSteps 39 = .ok (.istore 6, 2) := by decide +kernel
theorem dA_addSteps_41 : decode bA_addSteps 41 = .ok (.iload 6, 2) := by decide +kernel
theorem dA_addSteps_43 : decode bA_addSteps 43 = .ok (.aload_n 0, 1) := by decide +kernel
theorem dA_addSteps_44 : decode bA_addSteps 44 = .ok (.getfield 15, 3) := by decide +kernel
theorem dA_addSteps_47 : decode bA_addSteps 47 = .ok (.iload_n 3, 1) := by decide +kernel
theorem dA_addSteps_48 : decode bA_addSteps 48 = .ok (.iaload, 1) := by decide +kernel
theorem dA_addSteps_49 : decode bA_addSteps 49 = .ok (.if_icmp .le 18, 3) := by decide +kernel
theorem dA_addSteps_52 : decode bA_addSteps 52 = .ok (.aload_n 0, 1) := by decide +kernel
theorem dA_addSteps_53 : decode bA_addSteps 53 = .ok (.getfield 15, 3) := by decide +kernel
theorem dA_addSteps_56 : decode bA_addSteps 56 = .ok (.iload 5, 2) := by decide +kernel
theorem dA_addSteps_58 : decode bA_addSteps 58 = .ok (.iload 6, 2) := by decide +kernel
theorem dA_addSteps_60 : decode bA_addSteps 60 = .ok (.iastore, 1) := by decide +kernel
theorem dA_addSteps_61 : decode bA_addSteps 61 = .ok (.iinc 4 (-1), 3) := by decide +kernel
theorem dA_addSteps_64 : decode bA_addSteps 64 = .ok (.goto 19, 3) := by decide +kernel
theorem dA_addSteps_67 : decode bA_addSteps 67 = .ok (.aload_n 0, 1) := by decide +kernel
theorem dA_addSteps_68 : decode bA_addSteps 68 = .ok (.getfield 15, 3) := by decide +kernel
theorem dA_addSteps_71 : decode bA_addSteps 71 = .ok (.iload 5, 2) := by decide +kernel
theorem dA_addSteps_73 : decode bA_addSteps 73 = .ok (.aload_n 0, 1) := by decide +kernel
theorem dA_addSteps_74 : decode bA_addSteps 74 = .ok (.getfield 15, 3) := by decide +kernel
theorem dA_addSteps_77 : decode bA_addSteps 77 = .ok (.iload_n 3, 1) := by decide +kernel
theorem dA_addSteps_78 : decode bA_addSteps 78 = .ok (.iaload, 1) := by decide +kernel
theorem dA_addSteps_79 : decode bA_addSteps 79 = .ok (.iastore, 1) := by decide +kernel
theorem dA_addSteps_80 : decode bA_addSteps 80 = .ok (.iinc 3 (-1), 3) := by decide +kernel
theorem dA_addSteps_83 : decode bA_addSteps 83 = .ok (.iinc 5 (-1), 3) := by decide +kernel
theorem dA_addSteps_86 : decode bA_addSteps 86 = .ok (.goto (-70), 3) := by decide +kernel
theorem dA_addSteps_89 : decode bA_addSteps 89 = .ok (.return_, 1) := by decide +kernel
theorem dA_addGains_0 : decode bA_addGains 0 = .ok (.iconst 1, 1) := by decide +kernel
theorem dA_addGains_1 : decode bA_addGains 1 = .ok (.iload_n 1, 1) := by decide +kernel
theorem dA_addGains_2 : decode bA_addGains 2 = .ok (.ishl, 1) := by decide +kernel
theorem dA_addGains_3 : decode bA_addGains 3 = .ok (.istore_n 3, 1) := by decide +kernel
theorem dA_addGains_4 : decode bA_addGains 4 = .ok (.aload_n 0, 1) := by decide +kernel
theorem dA_addGains_5 : decode bA_addGains 5 = .ok (.getfield 19, 3) := by decide +kernel
theorem dA_addGains_8 : decode bA_addGains 8 = .ok (.iload_n 3, 1) := by decide +kernel
theorem dA_addGains_9 : decode bA_addGains 9 = .ok (.aload_n 2, 1) := by decide +kernel
theorem dA_addGains_10 : decode bA_addGains 10 = .ok (.getfield 56, 3) := by decide +kernel
theorem dA_addGains_13 : decode bA_addGains 13 = .ok (.iload_n 1, 1) := by decide +kernel
theorem dA_addGains_14 : decode bA_addGains 14 = .ok (.iaload, 1) := by decide +kernel
theorem dA_addGains_15 : decode bA_addGains 15 = .ok (.iastore, 1) := by decide +kernel
theorem dA_addGains_16 : decode bA_addGains 16 = .ok (.iconst 0, 1) := by decide +kernel
theorem dA_addGains_17 : decode bA_addGains 17 = .ok (.istore 4, 2) := by decide +kernel
theorem dA_addGains_19 : decode bA_addGains 19 = .ok (.iload 4, 2) := by decide +kernel
theorem dA_addGains_21 : decode bA_addGains 21 = .ok (.iload_n 1, 1) := by decide +kernel
theorem dA_addGains_22 : decode bA_addGains 22 = .ok (.if_icmp .ge 89, 3) := by decide +kernel
theorem dA_addGains_25 : decode bA_addGains 25 = .ok (.iconst 1, 1) := by decide +kernel
theorem dA_addGains_26 : decode bA_addGains 26 = .ok (.iload 4, 2) := by decide +kernel
theorem dA_addGains_28 : decode bA_addGains 28 = .ok (.ishl, 1) := by decide +kernel
theorem dA_addGains_29 : decode bA_addGains 29 = .ok (.istore 5, 2) := by decide +kernel
theorem dA_addGains_31 : decode bA_addGains 31 = .ok (.aload_n 2, 1) := by decide +kernel
theorem dA_addGains_32 : decode bA_addGains 32 = .ok (.getfield 57, 3) := by decide +kernel
theorem dA_addGains_35 : decode bA_addGains 35 = .ok (.iload_n 1, 1) := by decide +kernel
theorem dA_addGains_36 : decode bA_addGains 36 = .ok (.aaload, 1) := by decide +kernel
theorem dA_addGains_37 : decode bA_addGains 37 = .ok (.iload 4, 2) := by decide +kernel
theorem dA_addGains_39 : decode bA_addGains 39 = .ok (.iaload, 1) := by decide +kernel
theorem dA_addGains_40 : decode bA_addGains 40 = .ok (.istore 6, 2) := by decide +kernel
theorem dA_addGains_42 : decode bA_addGains 42 = .ok (.iconst 0, 1) := by decide +kernel
theorem dA_addGains_43 : decode bA_addGains 43 = .ok (.istore 7, 2) := by decide +kernel
theorem dA_addGains_45 : decode bA_addGains 45 = .ok (.iload 7, 2) := by decide +kernel
theorem dA_addGains_47 : decode bA_addGains 47 = .ok (.iload 5, 2) := by decide +kernel
theorem dA_addGains_49 : decode bA_addGains 49 = .ok (.if_icmp .ge 56, 3) := by decide +kernel
theorem dA_addGains_52 : decode bA_addGains 52 = .ok (.aload_n 0, 1) := by decide +kernel
theorem dA_addGains_53 : decode bA_addGains 53 = .ok (.getfield 19, 3) := by decide +kernel
theorem dA_addGains_56 : decode bA_addGains 56 = .ok (.iload_n 3, 1) := by decide +kernel
theorem dA_addGains_57 : decode bA_addGains 57 = .ok (.iload 7, 2) := by decide +kernel
theorem dA_addGains_59 : decode bA_addGains 59 = .ok (.ior, 1) := by decide +kernel
theorem dA_addGains_60 : decode bA_addGains 60 = .ok (.iaload, 1) := by decide +kernel
theorem dA_addGains_61 : decode bA_addGains 61 = .ok (.aload_n 0, 1) := by decide +kernel
theorem dA_addGains_62 : decode bA_addGains 62 = .ok (.getfield 19, 3) := by decide +kernel
theorem dA_addGains_65 : decode bA_addGains 65 = .ok (.iload 7, 2) := by decide +kernel
theorem dA_addGains_67 : decode bA_addGains 67 = .ok (.iaload, 1) := by decide +kernel
theorem dA_addGains_68 : decode bA_addGains 68 = .ok (.isub, 1) := by decide +kernel
theorem dA_addGains_69 : decode bA_addGains 69 = .ok (.istore 8, 2) := by decide +kernel
theorem dA_addGains_71 : decode bA_addGains 71 = .ok (.aload_n 0, 1) := by decide +kernel
theorem dA_addGains_72 : decode bA_addGains 72 = .ok (.getfield 19, 3) := by decide +kernel
theorem dA_addGains_75 : decode bA_addGains 75 = .ok (.iload_n 3, 1) := by decide +kernel
theorem dA_addGains_76 : decode bA_addGains 76 = .ok (.iload 5, 2) := by decide +kernel
theorem dA_addGains_78 : decode bA_addGains 78 = .ok (.ior, 1) := by decide +kernel
theorem dA_addGains_79 : decode bA_addGains 79 = .ok (.iload 7, 2) := by decide +kernel
theorem dA_addGains_81 : decode bA_addGains 81 = .ok (.ior, 1) := by decide +kernel
theorem dA_addGains_82 : decode bA_addGains 82 = .ok (.aload_n 0, 1) := by decide +kernel
theorem dA_addGains_83 : decode bA_addGains 83 = .ok (.getfield 19, 3) := by decide +kernel
theorem dA_addGains_86 : decode bA_addGains 86 = .ok (.iload 5, 2) := by decide +kernel
theorem dA_addGains_88 : decode bA_addGains 88 = .ok (.iload 7, 2) := by decide +kernel
theorem dA_addGains_90 : decode bA_addGains 90 = .ok (.ior, 1) := by decide +kernel
theorem dA_addGains_91 : decode bA_addGains 91 = .ok (.iaload, 1) := by decide +kernel
theorem dA_addGains_92 : decode bA_addGains 92 = .ok (.iload 8, 2) := by decide +kernel
theorem dA_addGains_94 : decode bA_addGains 94 = .ok (.iadd, 1) := by decide +kernel
theorem dA_addGains_95 : decode bA_addGains 95 = .ok (.iload 6, 2) := by decide +kernel
theorem dA_addGains_97 : decode bA_addGains 97 = .ok (.iadd, 1) := by decide +kernel
theorem dA_addGains_98 : decode bA_addGains 98 = .ok (.iastore, 1) := by decide +kernel
theorem dA_addGains_99 : decode bA_addGains 99 = .ok (.iinc 7 1, 3) := by decide +kernel
theorem dA_addGains_102 : decode bA_addGains 102 = .ok (.goto (-57), 3) := by decide +kernel
theorem dA_addGains_105 : decode bA_addGains 105 = .ok (.iinc 4 1, 3) := by decide +kernel
theorem dA_addGains_108 : decode bA_addGains 108 = .ok (.goto (-89), 3) := by decide +kernel
theorem dA_addGains_111 : decode bA_addGains 111 = .ok (.return_, 1) := by decide +kernel
theorem dA_keepUnbeaten_0 : decode bA_keepUnbeaten 0 = .ok (.aload_n 0, 1) := by decide +kernel
theorem dA_keepUnbeaten_1 : decode bA_keepUnbeaten 1 = .ok (.iconst 1, 1) := by decide +kernel
theorem dA_keepUnbeaten_2 : decode bA_keepUnbeaten 2 = .ok (.putfield 26, 3) := by decide +kernel
theorem dA_keepUnbeaten_5 : decode bA_keepUnbeaten 5 = .ok (.iconst 1, 1) := by decide +kernel
theorem dA_keepUnbeaten_6 : decode bA_keepUnbeaten 6 = .ok (.istore_n 2, 1) := by decide +kernel
theorem dA_keepUnbeaten_7 : decode bA_keepUnbeaten 7 = .ok (.iload_n 2, 1) := by decide +kernel
theorem dA_keepUnbeaten_8 : decode bA_keepUnbeaten 8 = .ok (.iconst 1, 1) := by decide +kernel
theorem dA_keepUnbeaten_9 : decode bA_keepUnbeaten 9 = .ok (.aload_n 1, 1) := by decide +kernel
theorem dA_keepUnbeaten_10 : decode bA_keepUnbeaten 10 = .ok (.getfield 38, 3) := by decide +kernel
theorem dA_keepUnbeaten_13 : decode bA_keepUnbeaten 13 = .ok (.ishl, 1) := by decide +kernel
theorem dA_keepUnbeaten_14 : decode bA_keepUnbeaten 14 = .ok (.if_icmp .ge 87, 3) := by decide +kernel
theorem dA_keepUnbeaten_17 : decode bA_keepUnbeaten 17 = .ok (.aload_n 0, 1) := by decide +kernel
theorem dA_keepUnbeaten_18 : decode bA_keepUnbeaten 18 = .ok (.iload_n 2, 1) := by decide +kernel
theorem dA_keepUnbeaten_19 : decode bA_keepUnbeaten 19 = .ok (.invokevirtual 22, 3) := by decide +kernel
theorem dA_keepUnbeaten_22 : decode bA_keepUnbeaten 22 = .ok (.istore_n 3, 1) := by decide +kernel
theorem dA_keepUnbeaten_23 : decode bA_keepUnbeaten 23 = .ok (.aload_n 0, 1) := by decide +kernel
theorem dA_keepUnbeaten_24 : decode bA_keepUnbeaten 24 = .ok (.getfield 19, 3) := by decide +kernel
theorem dA_keepUnbeaten_27 : decode bA_keepUnbeaten 27 = .ok (.iload_n 3, 1) := by decide +kernel
theorem dA_keepUnbeaten_28 : decode bA_keepUnbeaten 28 = .ok (.iaload, 1) := by decide +kernel
theorem dA_keepUnbeaten_29 : decode bA_keepUnbeaten 29 = .ok (.aload_n 0, 1) := by decide +kernel
theorem dA_keepUnbeaten_30 : decode bA_keepUnbeaten 30 = .ok (.aload_n 0, 1) := by decide +kernel
theorem dA_keepUnbeaten_31 : decode bA_keepUnbeaten 31 = .ok (.getfield 26, 3) := by decide +kernel
theorem dA_keepUnbeaten_34 : decode bA_keepUnbeaten 34 = .ok (.iconst 1, 1) := by decide +kernel
theorem dA_keepUnbeaten_35 : decode bA_keepUnbeaten 35 = .ok (.isub, 1) := by decide +kernel
theorem dA_keepUnbeaten_36 : decode bA_keepUnbeaten 36 = .ok (.invokevirtual 32, 3) := by decide +kernel
theorem dA_keepUnbeaten_39 : decode bA_keepUnbeaten 39 = .ok (.if_icmp .le 56, 3) := by decide +kernel
theorem dA_keepUnbeaten_42 : decode bA_keepUnbeaten 42 = .ok (.aload_n 1, 1) := by decide +kernel
theorem dA_keepUnbeaten_43 : decode bA_keepUnbeaten 43 = .ok (.iload_n 3, 1) := by decide +kernel
theorem dA_keepUnbeaten_44 : decode bA_keepUnbeaten 44 = .ok (.invokevirtual 61, 3) := by decide +kernel
theorem dA_keepUnbeaten_47 : decode bA_keepUnbeaten 47 = .ok (.ifCond .eq 48, 3) := by decide +kernel
theorem dA_keepUnbeaten_50 : decode bA_keepUnbeaten 50 = .ok (.aload_n 0, 1) := by decide +kernel
theorem dA_keepUnbeaten_51 : decode bA_keepUnbeaten 51 = .ok (.iload_n 2, 1) := by decide +kernel
theorem dA_keepUnbeaten_52 : decode bA_keepUnbeaten 52 = .ok (.invokevirtual 29, 3) := by decide +kernel
theorem dA_keepUnbeaten_55 : decode bA_keepUnbeaten 55 = .ok (.aload_n 0, 1) := by decide +kernel
theorem dA_keepUnbeaten_56 : decode bA_keepUnbeaten 56 = .ok (.aload_n 0, 1) := by decide +kernel
theorem dA_keepUnbeaten_57 : decode bA_keepUnbeaten 57 = .ok (.getfield 26, 3) := by decide +kernel
theorem dA_keepUnbeaten_60 : decode bA_keepUnbeaten 60 = .ok (.iconst 1, 1) := by decide +kernel
theorem dA_keepUnbeaten_61 : decode bA_keepUnbeaten 61 = .ok (.isub, 1) := by decide +kernel
theorem dA_keepUnbeaten_62 : decode bA_keepUnbeaten 62 = .ok (.invokevirtual 29, 3) := by decide +kernel
theorem dA_keepUnbeaten_65 : decode bA_keepUnbeaten 65 = .ok (.if_icmp .le 13, 3) := by decide +kernel
theorem dA_keepUnbeaten_68 : decode bA_keepUnbeaten 68 = .ok (.aload_n 0, 1) := by decide +kernel
theorem dA_keepUnbeaten_69 : decode bA_keepUnbeaten 69 = .ok (.dup, 1) := by decide +kernel
theorem dA_keepUnbeaten_70 : decode bA_keepUnbeaten 70 = .ok (.getfield 26, 3) := by decide +kernel
theorem dA_keepUnbeaten_73 : decode bA_keepUnbeaten 73 = .ok (.iconst 1, 1) := by decide +kernel
theorem dA_keepUnbeaten_74 : decode bA_keepUnbeaten 74 = .ok (.iadd, 1) := by decide +kernel
theorem dA_keepUnbeaten_75 : decode bA_keepUnbeaten 75 = .ok (.putfield 26, 3) := by decide +kernel
theorem dA_keepUnbeaten_78 : decode bA_keepUnbeaten 78 = .ok (.aload_n 0, 1) := by decide +kernel
theorem dA_keepUnbeaten_79 : decode bA_keepUnbeaten 79 = .ok (.getfield 15, 3) := by decide +kernel
theorem dA_keepUnbeaten_82 : decode bA_keepUnbeaten 82 = .ok (.aload_n 0, 1) := by decide +kernel
theorem dA_keepUnbeaten_83 : decode bA_keepUnbeaten 83 = .ok (.getfield 26, 3) := by decide +kernel
theorem dA_keepUnbeaten_86 : decode bA_keepUnbeaten 86 = .ok (.iconst 1, 1) := by decide +kernel
theorem dA_keepUnbeaten_87 : decode bA_keepUnbeaten 87 = .ok (.isub, 1) := by decide +kernel
theorem dA_keepUnbeaten_88 : decode bA_keepUnbeaten 88 = .ok (.aload_n 0, 1) := by decide +kernel
theorem dA_keepUnbeaten_89 : decode bA_keepUnbeaten 89 = .ok (.getfield 15, 3) := by decide +kernel
theorem dA_keepUnbeaten_92 : decode bA_keepUnbeaten 92 = .ok (.iload_n 2, 1) := by decide +kernel
theorem dA_keepUnbeaten_93 : decode bA_keepUnbeaten 93 = .ok (.iaload, 1) := by decide +kernel
theorem dA_keepUnbeaten_94 : decode bA_keepUnbeaten 94 = .ok (.iastore, 1) := by decide +kernel
theorem dA_keepUnbeaten_95 : decode bA_keepUnbeaten 95 = .ok (.iinc 2 1, 3) := by decide +kernel
theorem dA_keepUnbeaten_98 : decode bA_keepUnbeaten 98 = .ok (.goto (-91), 3) := by decide +kernel
theorem dA_keepUnbeaten_101 : decode bA_keepUnbeaten 101 = .ok (.return_, 1) := by decide +kernel
theorem dP_init_0 : decode bP_init 0 = .ok (.aload_n 0, 1) := by decide +kernel
theorem dP_init_1 : decode bP_init 1 = .ok (.invokespecial 3, 3) := by decide +kernel
theorem dP_init_4 : decode bP_init 4 = .ok (.aload_n 0, 1) := by decide +kernel
theorem dP_init_5 : decode bP_init 5 = .ok (.iconst 4, 1) := by decide +kernel
theorem dP_init_6 : decode bP_init 6 = .ok (.newarray .int, 2) := by decide +kernel
theorem dP_init_8 : decode bP_init 8 = .ok (.putfield 9, 3) := by decide +kernel
theorem dP_init_11 : decode bP_init 11 = .ok (.aload_n 0, 1) := by decide +kernel
theorem dP_init_12 : decode bP_init 12 = .ok (.iconst 4, 1) := by decide +kernel
theorem dP_init_13 : decode bP_init 13 = .ok (.bipush 64, 2) := by decide +kernel
theorem dP_init_15 : decode bP_init 15 = .ok (.multianewarray 15 2, 4) := by decide +kernel
theorem dP_init_19 : decode bP_init 19 = .ok (.putfield 17, 3) := by decide +kernel
theorem dP_init_22 : decode bP_init 22 = .ok (.aload_n 0, 1) := by decide +kernel
theorem dP_init_23 : decode bP_init 23 = .ok (.iconst 4, 1) := by decide +kernel
theorem dP_init_24 : decode bP_init 24 = .ok (.bipush 64, 2) := by decide +kernel
theorem dP_init_26 : decode bP_init 26 = .ok (.multianewarray 15 2, 4) := by decide +kernel
theorem dP_init_30 : decode bP_init 30 = .ok (.putfield 20, 3) := by decide +kernel
theorem dP_init_33 : decode bP_init 33 = .ok (.aload_n 0, 1) := by decide +kernel
theorem dP_init_34 : decode bP_init 34 = .ok (.iconst 4, 1) := by decide +kernel
theorem dP_init_35 : decode bP_init 35 = .ok (.newarray .int, 2) := by decide +kernel
theorem dP_init_37 : decode bP_init 37 = .ok (.putfield 23, 3) := by decide +kernel
theorem dP_init_40 : decode bP_init 40 = .ok (.aload_n 0, 1) := by decide +kernel
theorem dP_init_41 : decode bP_init 41 = .ok (.bipush 64, 2) := by decide +kernel
theorem dP_init_43 : decode bP_init 43 = .ok (.newarray .int, 2) := by decide +kernel
theorem dP_init_45 : decode bP_init 45 = .ok (.putfield 26, 3) := by decide +kernel
theorem dP_init_48 : decode bP_init 48 = .ok (.aload_n 0, 1) := by decide +kernel
theorem dP_init_49 : decode bP_init 49 = .ok (.bipush 64, 2) := by decide +kernel
theorem dP_init_51 : decode bP_init 51 = .ok (.newarray .int, 2) := by decide +kernel
theorem dP_init_53 : decode bP_init 53 = .ok (.putfield 29, 3) := by decide +kernel
theorem dP_init_56 : decode bP_init 56 = .ok (.return_, 1) := by decide +kernel
theorem dP_work_0 : decode bP_work 0 = .ok (.aload_n 0, 1) := by decide +kernel
theorem dP_work_1 : decode bP_work 1 = .ok (.invokevirtual 32, 3) := by decide +kernel
theorem dP_work_4 : decode bP_work 4 = .ok (.aload_n 0, 1) := by decide +kernel
theorem dP_work_5 : decode bP_work 5 = .ok (.aload_n 1, 1) := by decide +kernel
theorem dP_work_6 : decode bP_work 6 = .ok (.invokevirtual 35, 3) := by decide +kernel
theorem dP_work_9 : decode bP_work 9 = .ok (.iload_n 2, 1) := by decide +kernel
theorem dP_work_10 : decode bP_work 10 = .ok (.iconst 1, 1) := by decide +kernel
theorem dP_work_11 : decode bP_work 11 = .ok (.isub, 1) := by decide +kernel
theorem dP_work_12 : decode bP_work 12 = .ok (.istore_n 3, 1) := by decide +kernel
theorem dP_work_13 : decode bP_work 13 = .ok (.iload_n 3, 1) := by decide +kernel
theorem dP_work_14 : decode bP_work 14 = .ok (.ifCond .lt 26, 3) := by decide +kernel
theorem dP_work_17 : decode bP_work 17 = .ok (.aload_n 0, 1) := by decide +kernel
theorem dP_work_18 : decode bP_work 18 = .ok (.iload_n 3, 1) := by decide +kernel
theorem dP_work_19 : decode bP_work 19 = .ok (.iload_n 3, 1) := by decide +kernel
theorem dP_work_20 : decode bP_work 20 = .ok (.iload_n 2, 1) := by decide +kernel
theorem dP_work_21 : decode bP_work 21 = .ok (.iconst 1, 1) := by decide +kernel
theorem dP_work_22 : decode bP_work 22 = .ok (.isub, 1) := by decide +kernel
theorem dP_work_23 : decode bP_work 23 = .ok (.if_icmp .ne 7, 3) := by decide +kernel
theorem dP_work_26 : decode bP_work 26 = .ok (.iconst 1, 1) := by decide +kernel
theorem dP_work_27 : decode bP_work 27 = .ok (.goto 4, 3) := by decide +kernel
theorem dP_work_30 : decode bP_work 30 = .ok (.iconst 0, 1) := by decide +kernel
theorem dP_work_31 : decode bP_work 31 = .ok (.invokevirtual 39, 3) := by decide +kernel
theorem dP_work_34 : decode bP_work 34 = .ok (.iinc 3 (-1), 3) := by decide +kernel
theorem dP_work_37 : decode bP_work 37 = .ok (.goto (-24), 3) := by decide +kernel
theorem dP_work_40 : decode bP_work 40 = .ok (.return_, 1) := by decide +kernel
theorem dP_boughtUpTo_0 : decode bP_boughtUpTo 0 = .ok (.iconst 0, 1) := by decide +kernel
theorem dP_boughtUpTo_1 : decode bP_boughtUpTo 1 = .ok (.istore_n 2, 1) := by decide +kernel
theorem dP_boughtUpTo_2 : decode bP_boughtUpTo 2 = .ok (.iconst 0, 1) := by decide +kernel
theorem dP_boughtUpTo_3 : decode bP_boughtUpTo 3 = .ok (.istore_n 3, 1) := by decide +kernel
theorem dP_boughtUpTo_4 : decode bP_boughtUpTo 4 = .ok (.iload_n 3, 1) := by decide +kernel
theorem dP_boughtUpTo_5 : decode bP_boughtUpTo 5 = .ok (.iload_n 1, 1) := by decide +kernel
theorem dP_boughtUpTo_6 : decode bP_boughtUpTo 6 = .ok (.if_icmp .gt 16, 3) := by decide +kernel
theorem dP_boughtUpTo_9 : decode bP_boughtUpTo 9 = .ok (.aload_n 0, 1) := by decide +kernel
theorem dP_boughtUpTo_10 : decode bP_boughtUpTo 10 = .ok (.iload_n 2, 1) := by decide +kernel
theorem dP_boughtUpTo_11 : decode bP_boughtUpTo 11 = .ok (.iload_n 3, 1) := by decide +kernel
theorem dP_boughtUpTo_12 : decode bP_boughtUpTo 12 = .ok (.invokevirtual 43, 3) := by decide +kernel
theorem dP_boughtUpTo_15 : decode bP_boughtUpTo 15 = .ok (.istore_n 2, 1) := by decide +kernel
theorem dP_boughtUpTo_16 : decode bP_boughtUpTo 16 = .ok (.iinc 3 1, 3) := by decide +kernel
theorem dP_boughtUpTo_19 : decode bP_boughtUpTo 19 = .ok (.goto (-15), 3) := by decide +kernel
theorem dP_boughtUpTo_22 : decode bP_boughtUpTo 22 = .ok (.iload_n 2, 1) := by decide +kernel
theorem dP_boughtUpTo_23 : decode bP_boughtUpTo 23 = .ok (.ireturn, 1) := by decide +kernel
theorem dP_fillPurses_0 : decode bP_fillPurses 0 = .ok (.iconst 0, 1) := by decide +kernel
theorem dP_fillPurses_1 : decode bP_fillPurses 1 = .ok (.istore_n 1, 1) := by decide +kernel
theorem dP_fillPurses_2 : decode bP_fillPurses 2 = .ok (.iconst 0, 1) := by decide +kernel
theorem dP_fillPurses_3 : decode bP_fillPurses 3 = .ok (.istore_n 2, 1) := by decide +kernel
theorem dP_fillPurses_4 : decode bP_fillPurses 4 = .ok (.iload_n 2, 1) := by decide +kernel
theorem dP_fillPurses_5 : decode bP_fillPurses 5 = .ok (.iconst 4, 1) := by decide +kernel
theorem dP_fillPurses_6 : decode bP_fillPurses 6 = .ok (.if_icmp .ge 25, 3) := by decide +kernel
theorem dP_fillPurses_9 : decode bP_fillPurses 9 = .ok (.iload_n 1, 1) := by decide +kernel
theorem dP_fillPurses_10 : decode bP_fillPurses 10 = .ok (.aload_n 0, 1) := by decide +kernel
theorem dP_fillPurses_11 : decode bP_fillPurses 11 = .ok (.getfield 9, 3) := by decide +kernel
theorem dP_fillPurses_14 : decode bP_fillPurses 14 = .ok (.iload_n 2, 1) := by decide +kernel
theorem dP_fillPurses_15 : decode bP_fillPurses 15 = .ok (.iaload, 1) := by decide +kernel
theorem dP_fillPurses_16 : decode bP_fillPurses 16 = .ok (.iadd, 1) := by decide +kernel
theorem dP_fillPurses_17 : decode bP_fillPurses 17 = .ok (.istore_n 1, 1) := by decide +kernel
theorem dP_fillPurses_18 : decode bP_fillPurses 18 = .ok (.aload_n 0, 1) := by decide +kernel
theorem dP_fillPurses_19 : decode bP_fillPurses 19 = .ok (.getfield 23, 3) := by decide +kernel
theorem dP_fillPurses_22 : decode bP_fillPurses 22 = .ok (.iload_n 2, 1) := by decide +kernel
theorem dP_fillPurses_23 : decode bP_fillPurses 23 = .ok (.iload_n 1, 1) := by decide +kernel
theorem dP_fillPurses_24 : decode bP_fillPurses 24 = .ok (.iastore, 1) := by decide +kernel
theorem dP_fillPurses_25 : decode bP_fillPurses 25 = .ok (.iinc 2 1, 3) := by decide +kernel
theorem dP_fillPurses_28 : decode bP_fillPurses 28 = .ok (.goto (-24), 3) := by decide +kernel
theorem dP_fillPurses_31 : decode bP_fillPurses 31 = .ok (.return_, 1) := by decide +kernel
theorem dP_judgeSets_0 : decode bP_judgeSets 0 = .ok (.aload_n 0, 1) := by decide +kernel
theorem dP_judgeSets_1 : decode bP_judgeSets 1 = .ok (.iconst 1, 1) := by decide +kernel
theorem dP_judgeSets_2 : decode bP_judgeSets 2 = .ok (.aload_n 1, 1) := by decide +kernel
theorem dP_judgeSets_3 : decode bP_judgeSets 3 = .ok (.getfield 47, 3) := by decide +kernel
theorem dP_judgeSets_6 : decode bP_judgeSets 6 = .ok (.bipush 6, 2) := by decide +kernel
theorem dP_judgeSets_8 : decode bP_judgeSets 8 = .ok (.invokestatic 53, 3) := by decide +kernel
theorem dP_judgeSets_11 : decode bP_judgeSets 11 = .ok (.ishl, 1) := by decide +kernel
theorem dP_judgeSets_12 : decode bP_judgeSets 12 = .ok (.putfield 58, 3) := by decide +kernel
theorem dP_judgeSets_15 : decode bP_judgeSets 15 = .ok (.iconst 0, 1) := by decide +kernel
theorem dP_judgeSets_16 : decode bP_judgeSets 16 = .ok (.istore_n 2, 1) := by decide +kernel
theorem dP_judgeSets_17 : decode bP_judgeSets 17 = .ok (.iload_n 2, 1) := by decide +kernel
theorem dP_judgeSets_18 : decode bP_judgeSets 18 = .ok (.aload_n 0, 1) := by decide +kernel
theorem dP_judgeSets_19 : decode bP_judgeSets 19 = .ok (.getfield 58, 3) := by decide +kernel
theorem dP_judgeSets_22 : decode bP_judgeSets 22 = .ok (.if_icmp .ge 44, 3) := by decide +kernel
theorem dP_judgeSets_25 : decode bP_judgeSets 25 = .ok (.aload_n 0, 1) := by decide +kernel
theorem dP_judgeSets_26 : decode bP_judgeSets 26 = .ok (.getfield 26, 3) := by decide +kernel
theorem dP_judgeSets_29 : decode bP_judgeSets 29 = .ok (.iload_n 2, 1) := by decide +kernel
theorem dP_judgeSets_30 : decode bP_judgeSets 30 = .ok (.aload_n 1, 1) := by decide +kernel
theorem dP_judgeSets_31 : decode bP_judgeSets 31 = .ok (.iload_n 2, 1) := by decide +kernel
theorem dP_judgeSets_32 : decode bP_judgeSets 32 = .ok (.invokevirtual 61, 3) := by decide +kernel
theorem dP_judgeSets_35 : decode bP_judgeSets 35 = .ok (.ifCond .eq 11, 3) := by decide +kernel
theorem dP_judgeSets_38 : decode bP_judgeSets 38 = .ok (.aload_n 1, 1) := by decide +kernel
theorem dP_judgeSets_39 : decode bP_judgeSets 39 = .ok (.iload_n 2, 1) := by decide +kernel
theorem dP_judgeSets_40 : decode bP_judgeSets 40 = .ok (.invokevirtual 65, 3) := by decide +kernel
theorem dP_judgeSets_43 : decode bP_judgeSets 43 = .ok (.goto 5, 3) := by decide +kernel
theorem dP_judgeSets_46 : decode bP_judgeSets 46 = .ok (.ldc 69, 2) := by decide +kernel
theorem dP_judgeSets_48 : decode bP_judgeSets 48 = .ok (.iastore, 1) := by decide +kernel
theorem dP_judgeSets_49 : decode bP_judgeSets 49 = .ok (.aload_n 0, 1) := by decide +kernel
theorem dP_judgeSets_50 : decode bP_judgeSets 50 = .ok (.getfield 29, 3) := by decide +kernel
theorem dP_judgeSets_53 : decode bP_judgeSets 53 = .ok (.iload_n 2, 1) := by decide +kernel
theorem dP_judgeSets_54 : decode bP_judgeSets 54 = .ok (.aload_n 1, 1) := by decide +kernel
theorem dP_judgeSets_55 : decode bP_judgeSets 55 = .ok (.iload_n 2, 1) := by decide +kernel
theorem dP_judgeSets_56 : decode bP_judgeSets 56 = .ok (.invokevirtual 70, 3) := by decide +kernel
theorem dP_judgeSets_59 : decode bP_judgeSets 59 = .ok (.iastore, 1) := by decide +kernel
theorem dP_judgeSets_60 : decode bP_judgeSets 60 = .ok (.iinc 2 1, 3) := by decide +kernel
theorem dP_judgeSets_63 : decode bP_judgeSets 63 = .ok (.goto (-46), 3) := by decide +kernel
theorem dP_judgeSets_66 : decode bP_judgeSets 66 = .ok (.return_, 1) := by decide +kernel
theorem dP_workYear_0 : decode bP_workYear 0 = .ok (.iconst 0, 1) := by decide +kernel
theorem dP_workYear_1 : decode bP_workYear 1 = .ok (.istore_n 3, 1) := by decide +kernel
theorem dP_workYear_2 : decode bP_workYear 2 = .ok (.iload_n 3, 1) := by decide +kernel
theorem dP_workYear_3 : decode bP_workYear 3 = .ok (.aload_n 0, 1) := by decide +kernel
theorem dP_workYear_4 : decode bP_workYear 4 = .ok (.getfield 58, 3) := by decide +kernel
theorem dP_workYear_7 : decode bP_workYear 7 = .ok (.if_icmp .ge 114, 3) := by decide +kernel
theorem dP_workYear_10 : decode bP_workYear 10 = .ok (.aload_n 0, 1) := by decide +kernel
theorem dP_workYear_11 : decode bP_workYear 11 = .ok (.getfield 26, 3) := by decide +kernel
theorem dP_workYear_14 : decode bP_workYear 14 = .ok (.iload_n 3, 1) := by decide +kernel
theorem dP_workYear_15 : decode bP_workYear 15 = .ok (.iaload, 1) := by decide +kernel
theorem dP_workYear_16 : decode bP_workYear 16 = .ok (.aload_n 0, 1) := by decide +kernel
theorem dP_workYear_17 : decode bP_workYear 17 = .ok (.getfield 23, 3) := by decide +kernel
theorem dP_workYear_20 : decode bP_workYear 20 = .ok (.iload_n 1, 1) := by decide +kernel
theorem dP_workYear_21 : decode bP_workYear 21 = .ok (.iaload, 1) := by decide +kernel
theorem dP_workYear_22 : decode bP_workYear 22 = .ok (.if_icmp .gt 93, 3) := by decide +kernel
theorem dP_workYear_25 : decode bP_workYear 25 = .ok (.iload_n 2, 1) := by decide +kernel
theorem dP_workYear_26 : decode bP_workYear 26 = .ok (.ifCond .eq 34, 3) := by decide +kernel
theorem dP_workYear_29 : decode bP_workYear 29 = .ok (.aload_n 0, 1) := by decide +kernel
theorem dP_workYear_30 : decode bP_workYear 30 = .ok (.getfield 17, 3) := by decide +kernel
theorem dP_workYear_33 : decode bP_workYear 33 = .ok (.iload_n 1, 1) := by decide +kernel
theorem dP_workYear_34 : decode bP_workYear 34 = .ok (.aaload, 1) := by decide +kernel
theorem dP_workYear_35 : decode bP_workYear 35 = .ok (.iload_n 3, 1) := by decide +kernel
theorem dP_workYear_36 : decode bP_workYear 36 = .ok (.aload_n 0, 1) := by decide +kernel
theorem dP_workYear_37 : decode bP_workYear 37 = .ok (.getfield 29, 3) := by decide +kernel
theorem dP_workYear_40 : decode bP_workYear 40 = .ok (.iload_n 3, 1) := by decide +kernel
theorem dP_workYear_41 : decode bP_workYear 41 = .ok (.iaload, 1) := by decide +kernel
theorem dP_workYear_42 : decode bP_workYear 42 = .ok (.iastore, 1) := by decide +kernel
theorem dP_workYear_43 : decode bP_workYear 43 = .ok (.aload_n 0, 1) := by decide +kernel
theorem dP_workYear_44 : decode bP_workYear 44 = .ok (.getfield 20, 3) := by decide +kernel
theorem dP_workYear_47 : decode bP_workYear 47 = .ok (.iload_n 1, 1) := by decide +kernel
theorem dP_workYear_48 : decode bP_workYear 48 = .ok (.aaload, 1) := by decide +kernel
theorem dP_workYear_49 : decode bP_workYear 49 = .ok (.iload_n 3, 1) := by decide +kernel
theorem dP_workYear_50 : decode bP_workYear 50 = .ok (.aload_n 0, 1) := by decide +kernel
theorem dP_workYear_51 : decode bP_workYear 51 = .ok (.getfield 26, 3) := by decide +kernel
theorem dP_workYear_54 : decode bP_workYear 54 = .ok (.iload_n 3, 1) := by decide +kernel
theorem dP_workYear_55 : decode bP_workYear 55 = .ok (.iaload, 1) := by decide +kernel
theorem dP_workYear_56 : decode bP_workYear 56 = .ok (.iastore, 1) := by decide +kernel
theorem dP_workYear_57 : decode bP_workYear 57 = .ok (.goto 58, 3) := by decide +kernel
theorem dP_workYear_60 : decode bP_workYear 60 = .ok (.aload_n 0, 1) := by decide +kernel
theorem dP_workYear_61 : decode bP_workYear 61 = .ok (.iload_n 3, 1) := by decide +kernel
theorem dP_workYear_62 : decode bP_workYear 62 = .ok (.iload_n 1, 1) := by decide +kernel
theorem dP_workYear_63 : decode bP_workYear 63 = .ok (.iconst 1, 1) := by decide +kernel
theorem dP_workYear_64 : decode bP_workYear 64 = .ok (.iadd, 1) := by decide +kernel
theorem dP_workYear_65 : decode bP_workYear 65 = .ok (.invokevirtual 43, 3) := by decide +kernel
theorem dP_workYear_68 : decode bP_workYear 68 = .ok (.istore 4, 2) := by decide +kernel
theorem dP_workYear_70 : decode bP_workYear 70 = .ok (.aload_n 0, 1) := by decide +kernel
theorem dP_workYear_71 : decode bP_workYear 71 = .ok (.getfield 17, 3) := by decide +kernel
theorem dP_workYear_74 : decode bP_workYear 74 = .ok (.iload_n 1, 1) := by decide +kernel
theorem dP_workYear_75 : decode bP_workYear 75 = .ok (.aaload, 1) := by decide +kernel
theorem dP_workYear_76 : decode bP_workYear 76 = .ok (.iload_n 3, 1) := by decide +kernel
theorem dP_workYear_77 : decode bP_workYear 77 = .ok (.aload_n 0, 1) := by decide +kernel
theorem dP_workYear_78 : decode bP_workYear 78 = .ok (.getfield 29, 3) := by decide +kernel
theorem dP_workYear_81 : decode bP_workYear 81 = .ok (.iload_n 3, 1) := by decide +kernel
theorem dP_workYear_82 : decode bP_workYear 82 = .ok (.iaload, 1) := by decide +kernel
theorem dP_workYear_83 : decode bP_workYear 83 = .ok (.aload_n 0, 1) := by decide +kernel
theorem dP_workYear_84 : decode bP_workYear 84 = .ok (.getfield 17, 3) := by decide +kernel
theorem dP_workYear_87 : decode bP_workYear 87 = .ok (.iload_n 1, 1) := by decide +kernel
theorem dP_workYear_88 : decode bP_workYear 88 = .ok (.iconst 1, 1) := by decide +kernel
theorem dP_workYear_89 : decode bP_workYear 89 = .ok (.iadd, 1) := by decide +kernel
theorem dP_workYear_90 : decode bP_workYear 90 = .ok (.aaload, 1) := by decide +kernel
theorem dP_workYear_91 : decode bP_workYear 91 = .ok (.iload 4, 2) := by decide +kernel
theorem dP_workYear_93 : decode bP_workYear 93 = .ok (.iaload, 1) := by decide +kernel
theorem dP_workYear_94 : decode bP_workYear 94 = .ok (.iadd, 1) := by decide +kernel
theorem dP_workYear_95 : decode bP_workYear 95 = .ok (.iastore, 1) := by decide +kernel
theorem dP_workYear_96 : decode bP_workYear 96 = .ok (.aload_n 0, 1) := by decide +kernel
theorem dP_workYear_97 : decode bP_workYear 97 = .ok (.getfield 20, 3) := by decide +kernel
theorem dP_workYear_100 : decode bP_workYear 100 = .ok (.iload_n 1, 1) := by decide +kernel
theorem dP_workYear_101 : decode bP_workYear 101 = .ok (.aaload, 1) := by decide +kernel
theorem dP_workYear_102 : decode bP_workYear 102 = .ok (.iload_n 3, 1) := by decide +kernel
theorem dP_workYear_103 : decode bP_workYear 103 = .ok (.aload_n 0, 1) := by decide +kernel
theorem dP_workYear_104 : decode bP_workYear 104 = .ok (.getfield 20, 3) := by decide +kernel
theorem dP_workYear_107 : decode bP_workYear 107 = .ok (.iload_n 1, 1) := by decide +kernel
theorem dP_workYear_108 : decode bP_workYear 108 = .ok (.iconst 1, 1) := by decide +kernel
theorem dP_workYear_109 : decode bP_workYear 109 = .ok (.iadd, 1) := by decide +kernel
theorem dP_workYear_110 : decode bP_workYear 110 = .ok (.aaload, 1) := by decide +kernel
theorem dP_workYear_111 : decode bP_workYear 111 = .ok (.iload 4, 2) := by decide +kernel
theorem dP_workYear_113 : decode bP_workYear 113 = .ok (.iaload, 1) := by decide +kernel
theorem dP_workYear_114 : decode bP_workYear 114 = .ok (.iastore, 1) := by decide +kernel
theorem dP_workYear_115 : decode bP_workYear 115 = .ok (.iinc 3 1, 3) := by decide +kernel
theorem dP_workYear_118 : decode bP_workYear 118 = .ok (.goto (-116), 3) := by decide +kernel
theorem dP_workYear_121 : decode bP_workYear 121 = .ok (.return_, 1) := by decide +kernel
theorem dP_bestFrom_0 : decode bP_bestFrom 0 = .ok (.iload_n 1, 1) := by decide +kernel
theorem dP_bestFrom_1 : decode bP_bestFrom 1 = .ok (.istore_n 3, 1) := by decide +kernel
theorem dP_bestFrom_2 : decode bP_bestFrom 2 = .ok (.iload_n 1, 1) := by decide +kernel
theorem dP_bestFrom_3 : decode bP_bestFrom 3 = .ok (.istore 4, 2) := by decide +kernel
theorem dP_bestFrom_5 : decode bP_bestFrom 5 = .ok (.iload 4, 2) := by decide +kernel
theorem dP_bestFrom_7 : decode bP_bestFrom 7 = .ok (.aload_n 0, 1) := by decide +kernel
theorem dP_bestFrom_8 : decode bP_bestFrom 8 = .ok (.getfield 58, 3) := by decide +kernel
theorem dP_bestFrom_11 : decode bP_bestFrom 11 = .ok (.if_icmp .ge 44, 3) := by decide +kernel
theorem dP_bestFrom_14 : decode bP_bestFrom 14 = .ok (.aload_n 0, 1) := by decide +kernel
theorem dP_bestFrom_15 : decode bP_bestFrom 15 = .ok (.getfield 26, 3) := by decide +kernel
theorem dP_bestFrom_18 : decode bP_bestFrom 18 = .ok (.iload 4, 2) := by decide +kernel
theorem dP_bestFrom_20 : decode bP_bestFrom 20 = .ok (.iaload, 1) := by decide +kernel
theorem dP_bestFrom_21 : decode bP_bestFrom 21 = .ok (.aload_n 0, 1) := by decide +kernel
theorem dP_bestFrom_22 : decode bP_bestFrom 22 = .ok (.getfield 23, 3) := by decide +kernel
theorem dP_bestFrom_25 : decode bP_bestFrom 25 = .ok (.iload_n 2, 1) := by decide +kernel
theorem dP_bestFrom_26 : decode bP_bestFrom 26 = .ok (.iaload, 1) := by decide +kernel
theorem dP_bestFrom_27 : decode bP_bestFrom 27 = .ok (.if_icmp .gt 17, 3) := by decide +kernel
theorem dP_bestFrom_30 : decode bP_bestFrom 30 = .ok (.aload_n 0, 1) := by decide +kernel
theorem dP_bestFrom_31 : decode bP_bestFrom 31 = .ok (.iload_n 2, 1) := by decide +kernel
theorem dP_bestFrom_32 : decode bP_bestFrom 32 = .ok (.iload 4, 2) := by decide +kernel
theorem dP_bestFrom_34 : decode bP_bestFrom 34 = .ok (.iload_n 3, 1) := by decide +kernel
theorem dP_bestFrom_35 : decode bP_bestFrom 35 = .ok (.invokevirtual 73, 3) := by decide +kernel
theorem dP_bestFrom_38 : decode bP_bestFrom 38 = .ok (.ifCond .eq 6, 3) := by decide +kernel
theorem dP_bestFrom_41 : decode bP_bestFrom 41 = .ok (.iload 4, 2) := by decide +kernel
theorem dP_bestFrom_43 : decode bP_bestFrom 43 = .ok (.istore_n 3, 1) := by decide +kernel
theorem dP_bestFrom_44 : decode bP_bestFrom 44 = .ok (.iload 4, 2) := by decide +kernel
theorem dP_bestFrom_46 : decode bP_bestFrom 46 = .ok (.iconst 1, 1) := by decide +kernel
theorem dP_bestFrom_47 : decode bP_bestFrom 47 = .ok (.iadd, 1) := by decide +kernel
theorem dP_bestFrom_48 : decode bP_bestFrom 48 = .ok (.iload_n 1, 1) := by decide +kernel
theorem dP_bestFrom_49 : decode bP_bestFrom 49 = .ok (.ior, 1) := by decide +kernel
theorem dP_bestFrom_50 : decode bP_bestFrom 50 = .ok (.istore 4, 2) := by decide +kernel
theorem dP_bestFrom_52 : decode bP_bestFrom 52 = .ok (.goto (-47), 3) := by decide +kernel
theorem dP_bestFrom_55 : decode bP_bestFrom 55 = .ok (.iload_n 3, 1) := by decide +kernel
theorem dP_bestFrom_56 : decode bP_bestFrom 56 = .ok (.ireturn, 1) := by decide +kernel
theorem dP_isBetter_0 : decode bP_isBetter 0 = .ok (.aload_n 0, 1) := by decide +kernel
theorem dP_isBetter_1 : decode bP_isBetter 1 = .ok (.getfield 17, 3) := by decide +kernel
theorem dP_isBetter_4 : decode bP_isBetter 4 = .ok (.iload_n 1, 1) := by decide +kernel
theorem dP_isBetter_5 : decode bP_isBetter 5 = .ok (.aaload, 1) := by decide +kernel
theorem dP_isBetter_6 : decode bP_isBetter 6 = .ok (.iload_n 2, 1) := by decide +kernel
theorem dP_isBetter_7 : decode bP_isBetter 7 = .ok (.iaload, 1) := by decide +kernel
theorem dP_isBetter_8 : decode bP_isBetter 8 = .ok (.aload_n 0, 1) := by decide +kernel
theorem dP_isBetter_9 : decode bP_isBetter 9 = .ok (.getfield 17, 3) := by decide +kernel
theorem dP_isBetter_12 : decode bP_isBetter 12 = .ok (.iload_n 1, 1) := by decide +kernel
theorem dP_isBetter_13 : decode bP_isBetter 13 = .ok (.aaload, 1) := by decide +kernel
theorem dP_isBetter_14 : decode bP_isBetter 14 = .ok (.iload_n 3, 1) := by decide +kernel
theorem dP_isBetter_15 : decode bP_isBetter 15 = .ok (.iaload, 1) := by decide +kernel
theorem dP_isBetter_16 : decode bP_isBetter 16 = .ok (.if_icmp .eq 28, 3) := by decide +kernel
theorem dP_isBetter_19 : decode bP_isBetter 19 = .ok (.aload_n 0, 1) := by decide +kernel
theorem dP_isBetter_20 : decode bP_isBetter 20 = .ok (.getfield 17, 3) := by decide +kernel
theorem dP_isBetter_23 : decode bP_isBetter 23 = .ok (.iload_n 1, 1) := by decide +kernel
theorem dP_isBetter_24 : decode bP_isBetter 24 = .ok (.aaload, 1) := by decide +kernel
theorem dP_isBetter_25 : decode bP_isBetter 25 = .ok (.iload_n 2, 1) := by decide +kernel
theorem dP_isBetter_26 : decode bP_isBetter 26 = .ok (.iaload, 1) := by decide +kernel
theorem dP_isBetter_27 : decode bP_isBetter 27 = .ok (.aload_n 0, 1) := by decide +kernel
theorem dP_isBetter_28 : decode bP_isBetter 28 = .ok (.getfield 17, 3) := by decide +kernel
theorem dP_isBetter_31 : decode bP_isBetter 31 = .ok (.iload_n 1, 1) := by decide +kernel
theorem dP_isBetter_32 : decode bP_isBetter 32 = .ok (.aaload, 1) := by decide +kernel
theorem dP_isBetter_33 : decode bP_isBetter 33 = .ok (.iload_n 3, 1) := by decide +kernel
theorem dP_isBetter_34 : decode bP_isBetter 34 = .ok (.iaload, 1) := by decide +kernel
theorem dP_isBetter_35 : decode bP_isBetter 35 = .ok (.if_icmp .le 7, 3) := by decide +kernel
theorem dP_isBetter_38 : decode bP_isBetter 38 = .ok (.iconst 1, 1) := by decide +kernel
theorem dP_isBetter_39 : decode bP_isBetter 39 = .ok (.goto 4, 3) := by decide +kernel
theorem dP_isBetter_42 : decode bP_isBetter 42 = .ok (.iconst 0, 1) := by decide +kernel
theorem dP_isBetter_43 : decode bP_isBetter 43 = .ok (.ireturn, 1) := by decide +kernel
theorem dP_isBetter_44 : decode bP_isBetter 44 = .ok (.aload_n 0, 1) := by decide +kernel
theorem dP_isBetter_45 : decode bP_isBetter 45 = .ok (.getfield 20, 3) := by decide +kernel
theorem dP_isBetter_48 : decode bP_isBetter 48 = .ok (.iload_n 1, 1) := by decide +kernel
theorem dP_isBetter_49 : decode bP_isBetter 49 = .ok (.aaload, 1) := by decide +kernel
theorem dP_isBetter_50 : decode bP_isBetter 50 = .ok (.iload_n 2, 1) := by decide +kernel
theorem dP_isBetter_51 : decode bP_isBetter 51 = .ok (.iaload, 1) := by decide +kernel
theorem dP_isBetter_52 : decode bP_isBetter 52 = .ok (.aload_n 0, 1) := by decide +kernel
theorem dP_isBetter_53 : decode bP_isBetter 53 = .ok (.getfield 20, 3) := by decide +kernel
theorem dP_isBetter_56 : decode bP_isBetter 56 = .ok (.iload_n 1, 1) := by decide +kernel
theorem dP_isBetter_57 : decode bP_isBetter 57 = .ok (.aaload, 1) := by decide +kernel
theorem dP_isBetter_58 : decode bP_isBetter 58 = .ok (.iload_n 3, 1) := by decide +kernel
theorem dP_isBetter_59 : decode bP_isBetter 59 = .ok (.iaload, 1) := by decide +kernel
theorem dP_isBetter_60 : decode bP_isBetter 60 = .ok (.if_icmp .ge 7, 3) := by decide +kernel
theorem dP_isBetter_63 : decode bP_isBetter 63 = .ok (.iconst 1, 1) := by decide +kernel
theorem dP_isBetter_64 : decode bP_isBetter 64 = .ok (.goto 4, 3) := by decide +kernel
theorem dP_isBetter_67 : decode bP_isBetter 67 = .ok (.iconst 0, 1) := by decide +kernel
theorem dP_isBetter_68 : decode bP_isBetter 68 = .ok (.ireturn, 1) := by decide +kernel
