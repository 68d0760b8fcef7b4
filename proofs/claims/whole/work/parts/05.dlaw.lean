theorem dL_measure_0 : decode bL_measure 0 = .ok (.aload_n 3, 1) := by decide +kernel
theorem dL_measure_1 : decode bL_measure 1 = .ok (.iconst 0, 1) := by decide +kernel
theorem dL_measure_2 : decode bL_measure 2 = .ok (.aload_n 0, 1) := by decide +kernel
theorem dL_measure_3 : decode bL_measure 3 = .ok (.iload_n 1, 1) := by decide +kernel
theorem dL_measure_4 : decode bL_measure 4 = .ok (.iload_n 2, 1) := by decide +kernel
theorem dL_measure_5 : decode bL_measure 5 = .ok (.invokevirtual 7, 3) := by decide +kernel
theorem dL_measure_8 : decode bL_measure 8 = .ok (.i2l, 1) := by decide +kernel
theorem dL_measure_9 : decode bL_measure 9 = .ok (.lastore, 1) := by decide +kernel
theorem dL_measure_10 : decode bL_measure 10 = .ok (.goto 11, 3) := by decide +kernel
theorem dL_measure_13 : decode bL_measure 13 = .ok (.astore 4, 2) := by decide +kernel
theorem dL_measure_15 : decode bL_measure 15 = .ok (.iconst 1, 1) := by decide +kernel
theorem dL_measure_16 : decode bL_measure 16 = .ok (.ireturn, 1) := by decide +kernel
theorem dL_measure_17 : decode bL_measure 17 = .ok (.astore 4, 2) := by decide +kernel
theorem dL_measure_19 : decode bL_measure 19 = .ok (.iconst 2, 1) := by decide +kernel
theorem dL_measure_20 : decode bL_measure 20 = .ok (.ireturn, 1) := by decide +kernel
theorem dL_measure_21 : decode bL_measure 21 = .ok (.iconst 0, 1) := by decide +kernel
theorem dL_measure_22 : decode bL_measure 22 = .ok (.ireturn, 1) := by decide +kernel
theorem dL_change_0 : decode bL_change 0 = .ok (.aload_n 0, 1) := by decide +kernel
theorem dL_change_1 : decode bL_change 1 = .ok (.iload_n 1, 1) := by decide +kernel
theorem dL_change_2 : decode bL_change 2 = .ok (.iload_n 2, 1) := by decide +kernel
theorem dL_change_3 : decode bL_change 3 = .ok (.iload_n 3, 1) := by decide +kernel
theorem dL_change_4 : decode bL_change 4 = .ok (.invokevirtual 17, 3) := by decide +kernel
theorem dL_change_7 : decode bL_change 7 = .ok (.goto 7, 3) := by decide +kernel
theorem dL_change_10 : decode bL_change 10 = .ok (.astore 4, 2) := by decide +kernel
theorem dL_change_12 : decode bL_change 12 = .ok (.iconst 1, 1) := by decide +kernel
theorem dL_change_13 : decode bL_change 13 = .ok (.ireturn, 1) := by decide +kernel
theorem dL_change_14 : decode bL_change 14 = .ok (.iconst 0, 1) := by decide +kernel
theorem dL_change_15 : decode bL_change 15 = .ok (.ireturn, 1) := by decide +kernel
theorem dL_exclude_0 : decode bL_exclude 0 = .ok (.aload 4, 2) := by decide +kernel
theorem dL_exclude_2 : decode bL_exclude 2 = .ok (.iconst 0, 1) := by decide +kernel
theorem dL_exclude_3 : decode bL_exclude 3 = .ok (.aload_n 0, 1) := by decide +kernel
theorem dL_exclude_4 : decode bL_exclude 4 = .ok (.iload_n 1, 1) := by decide +kernel
theorem dL_exclude_5 : decode bL_exclude 5 = .ok (.iload_n 2, 1) := by decide +kernel
theorem dL_exclude_6 : decode bL_exclude 6 = .ok (.iload_n 3, 1) := by decide +kernel
theorem dL_exclude_7 : decode bL_exclude 7 = .ok (.invokevirtual 21, 3) := by decide +kernel
theorem dL_exclude_10 : decode bL_exclude 10 = .ok (.ifCond .eq 7, 3) := by decide +kernel
theorem dL_exclude_13 : decode bL_exclude 13 = .ok (.lconst 1, 1) := by decide +kernel
theorem dL_exclude_14 : decode bL_exclude 14 = .ok (.goto 4, 3) := by decide +kernel
theorem dL_exclude_17 : decode bL_exclude 17 = .ok (.lconst 0, 1) := by decide +kernel
theorem dL_exclude_18 : decode bL_exclude 18 = .ok (.lastore, 1) := by decide +kernel
theorem dL_exclude_19 : decode bL_exclude 19 = .ok (.goto 7, 3) := by decide +kernel
theorem dL_exclude_22 : decode bL_exclude 22 = .ok (.astore 5, 2) := by decide +kernel
theorem dL_exclude_24 : decode bL_exclude 24 = .ok (.iconst 1, 1) := by decide +kernel
theorem dL_exclude_25 : decode bL_exclude 25 = .ok (.ireturn, 1) := by decide +kernel
theorem dL_exclude_26 : decode bL_exclude 26 = .ok (.iconst 0, 1) := by decide +kernel
theorem dL_exclude_27 : decode bL_exclude 27 = .ok (.ireturn, 1) := by decide +kernel
theorem dL_needs_0 : decode bL_needs 0 = .ok (.aload 4, 2) := by decide +kernel
theorem dL_needs_2 : decode bL_needs 2 = .ok (.iconst 0, 1) := by decide +kernel
theorem dL_needs_3 : decode bL_needs 3 = .ok (.aload_n 0, 1) := by decide +kernel
theorem dL_needs_4 : decode bL_needs 4 = .ok (.iload_n 1, 1) := by decide +kernel
theorem dL_needs_5 : decode bL_needs 5 = .ok (.iload_n 2, 1) := by decide +kernel
theorem dL_needs_6 : decode bL_needs 6 = .ok (.iload_n 3, 1) := by decide +kernel
theorem dL_needs_7 : decode bL_needs 7 = .ok (.invokevirtual 25, 3) := by decide +kernel
theorem dL_needs_10 : decode bL_needs 10 = .ok (.ifCond .eq 7, 3) := by decide +kernel
theorem dL_needs_13 : decode bL_needs 13 = .ok (.lconst 1, 1) := by decide +kernel
theorem dL_needs_14 : decode bL_needs 14 = .ok (.goto 4, 3) := by decide +kernel
theorem dL_needs_17 : decode bL_needs 17 = .ok (.lconst 0, 1) := by decide +kernel
theorem dL_needs_18 : decode bL_needs 18 = .ok (.lastore, 1) := by decide +kernel
theorem dL_needs_19 : decode bL_needs 19 = .ok (.goto 7, 3) := by decide +kernel
theorem dL_needs_22 : decode bL_needs 22 = .ok (.astore 5, 2) := by decide +kernel
theorem dL_needs_24 : decode bL_needs 24 = .ok (.iconst 1, 1) := by decide +kernel
theorem dL_needs_25 : decode bL_needs 25 = .ok (.ireturn, 1) := by decide +kernel
theorem dL_needs_26 : decode bL_needs 26 = .ok (.iconst 0, 1) := by decide +kernel
theorem dL_needs_27 : decode bL_needs 27 = .ok (.ireturn, 1) := by decide +kernel
theorem dL_bonus_0 : decode bL_bonus 0 = .ok (.aload 4, 2) := by decide +kernel
theorem dL_bonus_2 : decode bL_bonus 2 = .ok (.iconst 0, 1) := by decide +kernel
theorem dL_bonus_3 : decode bL_bonus 3 = .ok (.aload_n 0, 1) := by decide +kernel
theorem dL_bonus_4 : decode bL_bonus 4 = .ok (.iload_n 1, 1) := by decide +kernel
theorem dL_bonus_5 : decode bL_bonus 5 = .ok (.iload_n 2, 1) := by decide +kernel
theorem dL_bonus_6 : decode bL_bonus 6 = .ok (.iload_n 3, 1) := by decide +kernel
theorem dL_bonus_7 : decode bL_bonus 7 = .ok (.invokevirtual 28, 3) := by decide +kernel
theorem dL_bonus_10 : decode bL_bonus 10 = .ok (.i2l, 1) := by decide +kernel
theorem dL_bonus_11 : decode bL_bonus 11 = .ok (.lastore, 1) := by decide +kernel
theorem dL_bonus_12 : decode bL_bonus 12 = .ok (.goto 7, 3) := by decide +kernel
theorem dL_bonus_15 : decode bL_bonus 15 = .ok (.astore 5, 2) := by decide +kernel
theorem dL_bonus_17 : decode bL_bonus 17 = .ok (.iconst 1, 1) := by decide +kernel
theorem dL_bonus_18 : decode bL_bonus 18 = .ok (.ireturn, 1) := by decide +kernel
theorem dL_bonus_19 : decode bL_bonus 19 = .ok (.iconst 0, 1) := by decide +kernel
theorem dL_bonus_20 : decode bL_bonus 20 = .ok (.ireturn, 1) := by decide +kernel
theorem dL_lawful_0 : decode bL_lawful 0 = .ok (.aload_n 2, 1) := by decide +kernel
theorem dL_lawful_1 : decode bL_lawful 1 = .ok (.iconst 0, 1) := by decide +kernel
theorem dL_lawful_2 : decode bL_lawful 2 = .ok (.aload_n 0, 1) := by decide +kernel
theorem dL_lawful_3 : decode bL_lawful 3 = .ok (.iload_n 1, 1) := by decide +kernel
theorem dL_lawful_4 : decode bL_lawful 4 = .ok (.invokevirtual 32, 3) := by decide +kernel
theorem dL_lawful_7 : decode bL_lawful 7 = .ok (.ifCond .eq 7, 3) := by decide +kernel
theorem dL_lawful_10 : decode bL_lawful 10 = .ok (.lconst 1, 1) := by decide +kernel
theorem dL_lawful_11 : decode bL_lawful 11 = .ok (.goto 4, 3) := by decide +kernel
theorem dL_lawful_14 : decode bL_lawful 14 = .ok (.lconst 0, 1) := by decide +kernel
theorem dL_lawful_15 : decode bL_lawful 15 = .ok (.lastore, 1) := by decide +kernel
theorem dL_lawful_16 : decode bL_lawful 16 = .ok (.goto 6, 3) := by decide +kernel
theorem dL_lawful_19 : decode bL_lawful 19 = .ok (.astore_n 3, 1) := by decide +kernel
theorem dL_lawful_20 : decode bL_lawful 20 = .ok (.iconst 1, 1) := by decide +kernel
theorem dL_lawful_21 : decode bL_lawful 21 = .ok (.ireturn, 1) := by decide +kernel
theorem dL_lawful_22 : decode bL_lawful 22 = .ok (.iconst 0, 1) := by decide +kernel
theorem dL_lawful_23 : decode bL_lawful 23 = .ok (.ireturn, 1) := by decide +kernel
theorem dL_told_0 : decode bL_told 0 = .ok (.aload_n 3, 1) := by decide +kernel
theorem dL_told_1 : decode bL_told 1 = .ok (.iconst 0, 1) := by decide +kernel
theorem dL_told_2 : decode bL_told 2 = .ok (.aload_n 0, 1) := by decide +kernel
theorem dL_told_3 : decode bL_told 3 = .ok (.iload_n 1, 1) := by decide +kernel
theorem dL_told_4 : decode bL_told 4 = .ok (.iload_n 2, 1) := by decide +kernel
theorem dL_told_5 : decode bL_told 5 = .ok (.invokevirtual 36, 3) := by decide +kernel
theorem dL_told_8 : decode bL_told 8 = .ok (.i2l, 1) := by decide +kernel
theorem dL_told_9 : decode bL_told 9 = .ok (.lastore, 1) := by decide +kernel
theorem dL_told_10 : decode bL_told 10 = .ok (.goto 7, 3) := by decide +kernel
theorem dL_told_13 : decode bL_told 13 = .ok (.astore 4, 2) := by decide +kernel
theorem dL_told_15 : decode bL_told 15 = .ok (.iconst 1, 1) := by decide +kernel
theorem dL_told_16 : decode bL_told 16 = .ok (.ireturn, 1) := by decide +kernel
theorem dL_told_17 : decode bL_told 17 = .ok (.iconst 0, 1) := by decide +kernel
theorem dL_told_18 : decode bL_told 18 = .ok (.ireturn, 1) := by decide +kernel
theorem dL_closure_0 : decode bL_closure 0 = .ok (.aload_n 2, 1) := by decide +kernel
theorem dL_closure_1 : decode bL_closure 1 = .ok (.iconst 0, 1) := by decide +kernel
theorem dL_closure_2 : decode bL_closure 2 = .ok (.aload_n 0, 1) := by decide +kernel
theorem dL_closure_3 : decode bL_closure 3 = .ok (.iload_n 1, 1) := by decide +kernel
theorem dL_closure_4 : decode bL_closure 4 = .ok (.invokevirtual 39, 3) := by decide +kernel
theorem dL_closure_7 : decode bL_closure 7 = .ok (.i2l, 1) := by decide +kernel
theorem dL_closure_8 : decode bL_closure 8 = .ok (.lastore, 1) := by decide +kernel
theorem dL_closure_9 : decode bL_closure 9 = .ok (.goto 6, 3) := by decide +kernel
theorem dL_closure_12 : decode bL_closure 12 = .ok (.astore_n 3, 1) := by decide +kernel
theorem dL_closure_13 : decode bL_closure 13 = .ok (.iconst 1, 1) := by decide +kernel
theorem dL_closure_14 : decode bL_closure 14 = .ok (.ireturn, 1) := by decide +kernel
theorem dL_closure_15 : decode bL_closure 15 = .ok (.iconst 0, 1) := by decide +kernel
theorem dL_closure_16 : decode bL_closure 16 = .ok (.ireturn, 1) := by decide +kernel
theorem dL_best_0 : decode bL_best 0 = .ok (.aload_n 2, 1) := by decide +kernel
theorem dL_best_1 : decode bL_best 1 = .ok (.iconst 0, 1) := by decide +kernel
theorem dL_best_2 : decode bL_best 2 = .ok (.aload_n 0, 1) := by decide +kernel
theorem dL_best_3 : decode bL_best 3 = .ok (.iload_n 1, 1) := by decide +kernel
theorem dL_best_4 : decode bL_best 4 = .ok (.invokevirtual 43, 3) := by decide +kernel
theorem dL_best_7 : decode bL_best 7 = .ok (.i2l, 1) := by decide +kernel
theorem dL_best_8 : decode bL_best 8 = .ok (.lastore, 1) := by decide +kernel
theorem dL_best_9 : decode bL_best 9 = .ok (.goto 6, 3) := by decide +kernel
theorem dL_best_12 : decode bL_best 12 = .ok (.astore_n 3, 1) := by decide +kernel
theorem dL_best_13 : decode bL_best 13 = .ok (.iconst 1, 1) := by decide +kernel
theorem dL_best_14 : decode bL_best 14 = .ok (.ireturn, 1) := by decide +kernel
theorem dL_best_15 : decode bL_best 15 = .ok (.iconst 0, 1) := by decide +kernel
theorem dL_best_16 : decode bL_best 16 = .ok (.ireturn, 1) := by decide +kernel
theorem dL_worth_0 : decode bL_worth 0 = .ok (.aload_n 3, 1) := by decide +kernel
theorem dL_worth_1 : decode bL_worth 1 = .ok (.iconst 0, 1) := by decide +kernel
theorem dL_worth_2 : decode bL_worth 2 = .ok (.aload_n 0, 1) := by decide +kernel
theorem dL_worth_3 : decode bL_worth 3 = .ok (.iload_n 1, 1) := by decide +kernel
theorem dL_worth_4 : decode bL_worth 4 = .ok (.iload_n 2, 1) := by decide +kernel
theorem dL_worth_5 : decode bL_worth 5 = .ok (.invokevirtual 46, 3) := by decide +kernel
theorem dL_worth_8 : decode bL_worth 8 = .ok (.i2l, 1) := by decide +kernel
theorem dL_worth_9 : decode bL_worth 9 = .ok (.lastore, 1) := by decide +kernel
theorem dL_worth_10 : decode bL_worth 10 = .ok (.goto 7, 3) := by decide +kernel
theorem dL_worth_13 : decode bL_worth 13 = .ok (.astore 4, 2) := by decide +kernel
theorem dL_worth_15 : decode bL_worth 15 = .ok (.iconst 1, 1) := by decide +kernel
theorem dL_worth_16 : decode bL_worth 16 = .ok (.ireturn, 1) := by decide +kernel
theorem dL_worth_17 : decode bL_worth 17 = .ok (.iconst 0, 1) := by decide +kernel
theorem dL_worth_18 : decode bL_worth 18 = .ok (.ireturn, 1) := by decide +kernel
theorem dL_frontier_0 : decode bL_frontier 0 = .ok (.aload_n 2, 1) := by decide +kernel
theorem dL_frontier_1 : decode bL_frontier 1 = .ok (.iconst 0, 1) := by decide +kernel
theorem dL_frontier_2 : decode bL_frontier 2 = .ok (.aload_n 0, 1) := by decide +kernel
theorem dL_frontier_3 : decode bL_frontier 3 = .ok (.iload_n 1, 1) := by decide +kernel
theorem dL_frontier_4 : decode bL_frontier 4 = .ok (.invokevirtual 49, 3) := by decide +kernel
theorem dL_frontier_7 : decode bL_frontier 7 = .ok (.i2l, 1) := by decide +kernel
theorem dL_frontier_8 : decode bL_frontier 8 = .ok (.lastore, 1) := by decide +kernel
theorem dL_frontier_9 : decode bL_frontier 9 = .ok (.goto 6, 3) := by decide +kernel
theorem dL_frontier_12 : decode bL_frontier 12 = .ok (.astore_n 3, 1) := by decide +kernel
theorem dL_frontier_13 : decode bL_frontier 13 = .ok (.iconst 1, 1) := by decide +kernel
theorem dL_frontier_14 : decode bL_frontier 14 = .ok (.ireturn, 1) := by decide +kernel
theorem dL_frontier_15 : decode bL_frontier 15 = .ok (.iconst 0, 1) := by decide +kernel
theorem dL_frontier_16 : decode bL_frontier 16 = .ok (.ireturn, 1) := by decide +kernel
theorem dL_year_0 : decode bL_year 0 = .ok (.aload_n 3, 1) := by decide +kernel
theorem dL_year_1 : decode bL_year 1 = .ok (.iconst 0, 1) := by decide +kernel
theorem dL_year_2 : decode bL_year 2 = .ok (.aload_n 0, 1) := by decide +kernel
theorem dL_year_3 : decode bL_year 3 = .ok (.iload_n 1, 1) := by decide +kernel
theorem dL_year_4 : decode bL_year 4 = .ok (.iload_n 2, 1) := by decide +kernel
theorem dL_year_5 : decode bL_year 5 = .ok (.invokevirtual 52, 3) := by decide +kernel
theorem dL_year_8 : decode bL_year 8 = .ok (.i2l, 1) := by decide +kernel
theorem dL_year_9 : decode bL_year 9 = .ok (.lastore, 1) := by decide +kernel
theorem dL_year_10 : decode bL_year 10 = .ok (.goto 7, 3) := by decide +kernel
theorem dL_year_13 : decode bL_year 13 = .ok (.astore 4, 2) := by decide +kernel
theorem dL_year_15 : decode bL_year 15 = .ok (.iconst 1, 1) := by decide +kernel
theorem dL_year_16 : decode bL_year 16 = .ok (.ireturn, 1) := by decide +kernel
theorem dL_year_17 : decode bL_year 17 = .ok (.iconst 0, 1) := by decide +kernel
theorem dL_year_18 : decode bL_year 18 = .ok (.ireturn, 1) := by decide +kernel
theorem dL_plan_0 : decode bL_plan 0 = .ok (.aload_n 3, 1) := by decide +kernel
theorem dL_plan_1 : decode bL_plan 1 = .ok (.iconst 0, 1) := by decide +kernel
theorem dL_plan_2 : decode bL_plan 2 = .ok (.aload_n 0, 1) := by decide +kernel
theorem dL_plan_3 : decode bL_plan 3 = .ok (.iload_n 1, 1) := by decide +kernel
theorem dL_plan_4 : decode bL_plan 4 = .ok (.iload_n 2, 1) := by decide +kernel
theorem dL_plan_5 : decode bL_plan 5 = .ok (.invokevirtual 55, 3) := by decide +kernel
theorem dL_plan_8 : decode bL_plan 8 = .ok (.i2l, 1) := by decide +kernel
theorem dL_plan_9 : decode bL_plan 9 = .ok (.lastore, 1) := by decide +kernel
theorem dL_plan_10 : decode bL_plan 10 = .ok (.goto 7, 3) := by decide +kernel
theorem dL_plan_13 : decode bL_plan 13 = .ok (.astore 4, 2) := by decide +kernel
theorem dL_plan_15 : decode bL_plan 15 = .ok (.iconst 1, 1) := by decide +kernel
theorem dL_plan_16 : decode bL_plan 16 = .ok (.ireturn, 1) := by decide +kernel
theorem dL_plan_17 : decode bL_plan 17 = .ok (.iconst 0, 1) := by decide +kernel
theorem dL_plan_18 : decode bL_plan 18 = .ok (.ireturn, 1) := by decide +kernel
theorem dL_planned_0 : decode bL_planned 0 = .ok (.aload_n 2, 1) := by decide +kernel
theorem dL_planned_1 : decode bL_planned 1 = .ok (.iconst 0, 1) := by decide +kernel
theorem dL_planned_2 : decode bL_planned 2 = .ok (.aload_n 0, 1) := by decide +kernel
theorem dL_planned_3 : decode bL_planned 3 = .ok (.iload_n 1, 1) := by decide +kernel
theorem dL_planned_4 : decode bL_planned 4 = .ok (.invokevirtual 58, 3) := by decide +kernel
theorem dL_planned_7 : decode bL_planned 7 = .ok (.i2l, 1) := by decide +kernel
theorem dL_planned_8 : decode bL_planned 8 = .ok (.lastore, 1) := by decide +kernel
theorem dL_planned_9 : decode bL_planned 9 = .ok (.goto 6, 3) := by decide +kernel
theorem dL_planned_12 : decode bL_planned 12 = .ok (.astore_n 3, 1) := by decide +kernel
theorem dL_planned_13 : decode bL_planned 13 = .ok (.iconst 1, 1) := by decide +kernel
theorem dL_planned_14 : decode bL_planned 14 = .ok (.ireturn, 1) := by decide +kernel
theorem dL_planned_15 : decode bL_planned 15 = .ok (.iconst 0, 1) := by decide +kernel
theorem dL_planned_16 : decode bL_planned 16 = .ok (.ireturn, 1) := by decide +kernel
theorem dL_law_0 : decode code 0 = .ok (.new 8, 3) := by decide +kernel
theorem dL_law_3 : decode code 3 = .ok (.dup, 1) := by decide +kernel
theorem dL_law_4 : decode code 4 = .ok (.invokespecial 61, 3) := by decide +kernel
theorem dL_law_7 : decode code 7 = .ok (.astore_n 1, 1) := by decide +kernel
theorem dL_law_8 : decode code 8 = .ok (.new 62, 3) := by decide +kernel
theorem dL_law_11 : decode code 11 = .ok (.dup, 1) := by decide +kernel
theorem dL_law_12 : decode code 12 = .ok (.invokespecial 64, 3) := by decide +kernel
theorem dL_law_15 : decode code 15 = .ok (.astore_n 2, 1) := by decide +kernel
theorem dL_law_16 : decode code 16 = .ok (.iconst 1, 1) := by decide +kernel
theorem dL_law_17 : decode code 17 = .ok (.newarray .long, 2) := by decide +kernel
theorem dL_law_19 : decode code 19 = .ok (.astore_n 3, 1) := by decide +kernel
theorem dL_law_20 : decode code 20 = .ok (.iconst 0, 1) := by decide +kernel
theorem dL_law_21 : decode code 21 = .ok (.istore 4, 2) := by decide +kernel
theorem dL_law_23 : decode code 23 = .ok (.iload 4, 2) := by decide +kernel
theorem dL_law_25 : decode code 25 = .ok (.aload_n 0, 1) := by decide +kernel
theorem dL_law_26 : decode code 26 = .ok (.arraylength, 1) := by decide +kernel
theorem dL_law_27 : decode code 27 = .ok (.iconst 4, 1) := by decide +kernel
theorem dL_law_28 : decode code 28 = .ok (.isub, 1) := by decide +kernel
theorem dL_law_29 : decode code 29 = .ok (.if_icmp .gt 1087, 3) := by decide +kernel
theorem dL_law_32 : decode code 32 = .ok (.aload_n 0, 1) := by decide +kernel
theorem dL_law_33 : decode code 33 = .ok (.iload 4, 2) := by decide +kernel
theorem dL_law_35 : decode code 35 = .ok (.iaload, 1) := by decide +kernel
theorem dL_law_36 : decode code 36 = .ok (.bipush 15, 2) := by decide +kernel
theorem dL_law_38 : decode code 38 = .ok (.iand, 1) := by decide +kernel
theorem dL_law_39 : decode code 39 = .ok (.tableswitch 1071 0 14 #[73, 141, 201, 304, 407, 487, 550, 618, 674, 730, 755, 823, 879, 947, 1015], 73) := by decide +kernel
theorem dL_law_112 : decode code 112 = .ok (.aload_n 1, 1) := by decide +kernel
theorem dL_law_113 : decode code 113 = .ok (.aload_n 0, 1) := by decide +kernel
theorem dL_law_114 : decode code 114 = .ok (.iload 4, 2) := by decide +kernel
theorem dL_law_116 : decode code 116 = .ok (.iconst 1, 1) := by decide +kernel
theorem dL_law_117 : decode code 117 = .ok (.iadd, 1) := by decide +kernel
theorem dL_law_118 : decode code 118 = .ok (.iaload, 1) := by decide +kernel
theorem dL_law_119 : decode code 119 = .ok (.aload_n 0, 1) := by decide +kernel
theorem dL_law_120 : decode code 120 = .ok (.iload 4, 2) := by decide +kernel
theorem dL_law_122 : decode code 122 = .ok (.iconst 2, 1) := by decide +kernel
theorem dL_law_123 : decode code 123 = .ok (.iadd, 1) := by decide +kernel
theorem dL_law_124 : decode code 124 = .ok (.iaload, 1) := by decide +kernel
theorem dL_law_125 : decode code 125 = .ok (.aload_n 3, 1) := by decide +kernel
theorem dL_law_126 : decode code 126 = .ok (.invokestatic 65, 3) := by decide +kernel
theorem dL_law_129 : decode code 129 = .ok (.istore 5, 2) := by decide +kernel
theorem dL_law_131 : decode code 131 = .ok (.aload_n 2, 1) := by decide +kernel
theorem dL_law_132 : decode code 132 = .ok (.aload_n 0, 1) := by decide +kernel
theorem dL_law_133 : decode code 133 = .ok (.iload 4, 2) := by decide +kernel
theorem dL_law_135 : decode code 135 = .ok (.iconst 1, 1) := by decide +kernel
theorem dL_law_136 : decode code 136 = .ok (.iadd, 1) := by decide +kernel
theorem dL_law_137 : decode code 137 = .ok (.iaload, 1) := by decide +kernel
theorem dL_law_138 : decode code 138 = .ok (.aload_n 0, 1) := by decide +kernel
theorem dL_law_139 : decode code 139 = .ok (.iload 4, 2) := by decide +kernel
theorem dL_law_141 : decode code 141 = .ok (.iconst 2, 1) := by decide +kernel
theorem dL_law_142 : decode code 142 = .ok (.iadd, 1) := by decide +kernel
theorem dL_law_143 : decode code 143 = .ok (.iaload, 1) := by decide +kernel
theorem dL_law_144 : decode code 144 = .ok (.invokevirtual 70, 3) := by decide +kernel
theorem dL_law_147 : decode code 147 = .ok (.istore 6, 2) := by decide +kernel
theorem dL_law_149 : decode code 149 = .ok (.aload_n 2, 1) := by decide +kernel
theorem dL_law_150 : decode code 150 = .ok (.invokevirtual 71, 3) := by decide +kernel
theorem dL_law_153 : decode code 153 = .ok (.iload 5, 2) := by decide +kernel
theorem dL_law_155 : decode code 155 = .ok (.if_icmp .eq 5, 3) := by decide +kernel
theorem dL_law_158 : decode code 158 = .ok (.iconst 0, 1) := by decide +kernel
theorem dL_law_159 : decode code 159 = .ok (.ireturn, 1) := by decide +kernel
theorem dL_law_160 : decode code 160 = .ok (.iload 5, 2) := by decide +kernel
theorem dL_law_162 : decode code 162 = .ok (.ifCond .ne 15, 3) := by decide +kernel
theorem dL_law_165 : decode code 165 = .ok (.aload_n 3, 1) := by decide +kernel
theorem dL_law_166 : decode code 166 = .ok (.iconst 0, 1) := by decide +kernel
theorem dL_law_167 : decode code 167 = .ok (.laload, 1) := by decide +kernel
theorem dL_law_168 : decode code 168 = .ok (.iload 6, 2) := by decide +kernel
theorem dL_law_170 : decode code 170 = .ok (.i2l, 1) := by decide +kernel
theorem dL_law_171 : decode code 171 = .ok (.lcmp, 1) := by decide +kernel
theorem dL_law_172 : decode code 172 = .ok (.ifCond .eq 5, 3) := by decide +kernel
theorem dL_law_175 : decode code 175 = .ok (.iconst 0, 1) := by decide +kernel
theorem dL_law_176 : decode code 176 = .ok (.ireturn, 1) := by decide +kernel
theorem dL_law_177 : decode code 177 = .ok (.goto 933, 3) := by decide +kernel
theorem dL_law_180 : decode code 180 = .ok (.aload_n 1, 1) := by decide +kernel
theorem dL_law_181 : decode code 181 = .ok (.aload_n 0, 1) := by decide +kernel
theorem dL_law_182 : decode code 182 = .ok (.iload 4, 2) := by decide +kernel
theorem dL_law_184 : decode code 184 = .ok (.iconst 1, 1) := by decide +kernel
theorem dL_law_185 : decode code 185 = .ok (.iadd, 1) := by decide +kernel
theorem dL_law_186 : decode code 186 = .ok (.iaload, 1) := by decide +kernel
theorem dL_law_187 : decode code 187 = .ok (.aload_n 0, 1) := by decide +kernel
theorem dL_law_188 : decode code 188 = .ok (.iload 4, 2) := by decide +kernel
theorem dL_law_190 : decode code 190 = .ok (.iconst 2, 1) := by decide +kernel
theorem dL_law_191 : decode code 191 = .ok (.iadd, 1) := by decide +kernel
theorem dL_law_192 : decode code 192 = .ok (.iaload, 1) := by decide +kernel
theorem dL_law_193 : decode code 193 = .ok (.aload_n 0, 1) := by decide +kernel
theorem dL_law_194 : decode code 194 = .ok (.iload 4, 2) := by decide +kernel
theorem dL_law_196 : decode code 196 = .ok (.iconst 3, 1) := by decide +kernel
theorem dL_law_197 : decode code 197 = .ok (.iadd, 1) := by decide +kernel
theorem dL_law_198 : decode code 198 = .ok (.iaload, 1) := by decide +kernel
theorem dL_law_199 : decode code 199 = .ok (.invokestatic 75, 3) := by decide +kernel
theorem dL_law_202 : decode code 202 = .ok (.istore 5, 2) := by decide +kernel
theorem dL_law_204 : decode code 204 = .ok (.aload_n 2, 1) := by decide +kernel
theorem dL_law_205 : decode code 205 = .ok (.aload_n 0, 1) := by decide +kernel
theorem dL_law_206 : decode code 206 = .ok (.iload 4, 2) := by decide +kernel
theorem dL_law_208 : decode code 208 = .ok (.iconst 1, 1) := by decide +kernel
theorem dL_law_209 : decode code 209 = .ok (.iadd, 1) := by decide +kernel
theorem dL_law_210 : decode code 210 = .ok (.iaload, 1) := by decide +kernel
theorem dL_law_211 : decode code 211 = .ok (.aload_n 0, 1) := by decide +kernel
theorem dL_law_212 : decode code 212 = .ok (.iload 4, 2) := by decide +kernel
theorem dL_law_214 : decode code 214 = .ok (.iconst 2, 1) := by decide +kernel
theorem dL_law_215 : decode code 215 = .ok (.iadd, 1) := by decide +kernel
theorem dL_law_216 : decode code 216 = .ok (.iaload, 1) := by decide +kernel
theorem dL_law_217 : decode code 217 = .ok (.aload_n 0, 1) := by decide +kernel
theorem dL_law_218 : decode code 218 = .ok (.iload 4, 2) := by decide +kernel
theorem dL_law_220 : decode code 220 = .ok (.iconst 3, 1) := by decide +kernel
theorem dL_law_221 : decode code 221 = .ok (.iadd, 1) := by decide +kernel
theorem dL_law_222 : decode code 222 = .ok (.iaload, 1) := by decide +kernel
theorem dL_law_223 : decode code 223 = .ok (.invokevirtual 78, 3) := by decide +kernel
theorem dL_law_226 : decode code 226 = .ok (.aload_n 2, 1) := by decide +kernel
theorem dL_law_227 : decode code 227 = .ok (.invokevirtual 71, 3) := by decide +kernel
theorem dL_law_230 : decode code 230 = .ok (.iload 5, 2) := by decide +kernel
theorem dL_law_232 : decode code 232 = .ok (.if_icmp .eq 5, 3) := by decide +kernel
theorem dL_law_235 : decode code 235 = .ok (.iconst 0, 1) := by decide +kernel
theorem dL_law_236 : decode code 236 = .ok (.ireturn, 1) := by decide +kernel
theorem dL_law_237 : decode code 237 = .ok (.goto 873, 3) := by decide +kernel
theorem dL_law_240 : decode code 240 = .ok (.aload_n 1, 1) := by decide +kernel
theorem dL_law_241 : decode code 241 = .ok (.aload_n 0, 1) := by decide +kernel
theorem dL_law_242 : decode code 242 = .ok (.iload 4, 2) := by decide +kernel
theorem dL_law_244 : decode code 244 = .ok (.iconst 1, 1) := by decide +kernel
theorem dL_law_245 : decode code 245 = .ok (.iadd, 1) := by decide +kernel
theorem dL_law_246 : decode code 246 = .ok (.iaload, 1) := by decide +kernel
theorem dL_law_247 : decode code 247 = .ok (.aload_n 0, 1) := by decide +kernel
theorem dL_law_248 : decode code 248 = .ok (.iload 4, 2) := by decide +kernel
theorem dL_law_250 : decode code 250 = .ok (.iconst 2, 1) := by decide +kernel
theorem dL_law_251 : decode code 251 = .ok (.iadd, 1) := by decide +kernel
theorem dL_law_252 : decode code 252 = .ok (.iaload, 1) := by decide +kernel
theorem dL_law_253 : decode code 253 = .ok (.aload_n 0, 1) := by decide +kernel
theorem dL_law_254 : decode code 254 = .ok (.iload 4, 2) := by decide +kernel
theorem dL_law_256 : decode code 256 = .ok (.iconst 3, 1) := by decide +kernel
theorem dL_law_257 : decode code 257 = .ok (.iadd, 1) := by decide +kernel
theorem dL_law_258 : decode code 258 = .ok (.iaload, 1) := by decide +kernel
theorem dL_law_259 : decode code 259 = .ok (.ifCond .eq 7, 3) := by decide +kernel
theorem dL_law_262 : decode code 262 = .ok (.iconst 1, 1) := by decide +kernel
theorem dL_law_263 : decode code 263 = .ok (.goto 4, 3) := by decide +kernel
theorem dL_law_266 : decode code 266 = .ok (.iconst 0, 1) := by decide +kernel
theorem dL_law_267 : decode code 267 = .ok (.aload_n 3, 1) := by decide +kernel
theorem dL_law_268 : decode code 268 = .ok (.invokestatic 79, 3) := by decide +kernel
theorem dL_law_271 : decode code 271 = .ok (.istore 5, 2) := by decide +kernel
theorem dL_law_273 : decode code 273 = .ok (.aload_n 2, 1) := by decide +kernel
theorem dL_law_274 : decode code 274 = .ok (.aload_n 0, 1) := by decide +kernel
theorem dL_law_275 : decode code 275 = .ok (.iload 4, 2) := by decide +kernel
theorem dL_law_277 : decode code 277 = .ok (.iconst 1, 1) := by decide +kernel
theorem dL_law_278 : decode code 278 = .ok (.iadd, 1) := by decide +kernel
theorem dL_law_279 : decode code 279 = .ok (.iaload, 1) := by decide +kernel
theorem dL_law_280 : decode code 280 = .ok (.aload_n 0, 1) := by decide +kernel
theorem dL_law_281 : decode code 281 = .ok (.iload 4, 2) := by decide +kernel
theorem dL_law_283 : decode code 283 = .ok (.iconst 2, 1) := by decide +kernel
theorem dL_law_284 : decode code 284 = .ok (.iadd, 1) := by decide +kernel
theorem dL_law_285 : decode code 285 = .ok (.iaload, 1) := by decide +kernel
theorem dL_law_286 : decode code 286 = .ok (.aload_n 0, 1) := by decide +kernel
theorem dL_law_287 : decode code 287 = .ok (.iload 4, 2) := by decide +kernel
theorem dL_law_289 : decode code 289 = .ok (.iconst 3, 1) := by decide +kernel
theorem dL_law_290 : decode code 290 = .ok (.iadd, 1) := by decide +kernel
theorem dL_law_291 : decode code 291 = .ok (.iaload, 1) := by decide +kernel
theorem dL_law_292 : decode code 292 = .ok (.ifCond .eq 7, 3) := by decide +kernel
theorem dL_law_295 : decode code 295 = .ok (.iconst 1, 1) := by decide +kernel
theorem dL_law_296 : decode code 296 = .ok (.goto 4, 3) := by decide +kernel
theorem dL_law_299 : decode code 299 = .ok (.iconst 0, 1) := by decide +kernel
theorem dL_law_300 : decode code 300 = .ok (.invokevirtual 82, 3) := by decide +kernel
theorem dL_law_303 : decode code 303 = .ok (.istore 6, 2) := by decide +kernel
theorem dL_law_305 : decode code 305 = .ok (.aload_n 2, 1) := by decide +kernel
theorem dL_law_306 : decode code 306 = .ok (.invokevirtual 71, 3) := by decide +kernel
theorem dL_law_309 : decode code 309 = .ok (.iload 5, 2) := by decide +kernel
theorem dL_law_311 : decode code 311 = .ok (.if_icmp .eq 5, 3) := by decide +kernel
theorem dL_law_314 : decode code 314 = .ok (.iconst 0, 1) := by decide +kernel
theorem dL_law_315 : decode code 315 = .ok (.ireturn, 1) := by decide +kernel
theorem dL_law_316 : decode code 316 = .ok (.iload 5, 2) := by decide +kernel
theorem dL_law_318 : decode code 318 = .ok (.ifCond .ne 22, 3) := by decide +kernel
theorem dL_law_321 : decode code 321 = .ok (.aload_n 3, 1) := by decide +kernel
theorem dL_law_322 : decode code 322 = .ok (.iconst 0, 1) := by decide +kernel
theorem dL_law_323 : decode code 323 = .ok (.laload, 1) := by decide +kernel
theorem dL_law_324 : decode code 324 = .ok (.iload 6, 2) := by decide +kernel
theorem dL_law_326 : decode code 326 = .ok (.ifCond .eq 7, 3) := by decide +kernel
theorem dL_law_329 : decode code 329 = .ok (.lconst 1, 1) := by decide +kernel
theorem dL_law_330 : decode code 330 = .ok (.goto 4, 3) := by decide +kernel
theorem dL_law_333 : decode code 333 = .ok (.lconst 0, 1) := by decide +kernel
theorem dL_law_334 : decode code 334 = .ok (.lcmp, 1) := by decide +kernel
theorem dL_law_335 : decode code 335 = .ok (.ifCond .eq 5, 3) := by decide +kernel
theorem dL_law_338 : decode code 338 = .ok (.iconst 0, 1) := by decide +kernel
theorem dL_law_339 : decode code 339 = .ok (.ireturn, 1) := by decide +kernel
theorem dL_law_340 : decode code 340 = .ok (.goto 770, 3) := by decide +kernel
theorem dL_law_343 : decode code 343 = .ok (.aload_n 1, 1) := by decide +kernel
theorem dL_law_344 : decode code 344 = .ok (.aload_n 0, 1) := by decide +kernel
theorem dL_law_345 : decode code 345 = .ok (.iload 4, 2) := by decide +kernel
theorem dL_law_347 : decode code 347 = .ok (.iconst 1, 1) := by decide +kernel
theorem dL_law_348 : decode code 348 = .ok (.iadd, 1) := by decide +kernel
theorem dL_law_349 : decode code 349 = .ok (.iaload, 1) := by decide +kernel
theorem dL_law_350 : decode code 350 = .ok (.aload_n 0, 1) := by decide +kernel
theorem dL_law_351 : decode code 351 = .ok (.iload 4, 2) := by decide +kernel
theorem dL_law_353 : decode code 353 = .ok (.iconst 2, 1) := by decide +kernel
theorem dL_law_354 : decode code 354 = .ok (.iadd, 1) := by decide +kernel
theorem dL_law_355 : decode code 355 = .ok (.iaload, 1) := by decide +kernel
theorem dL_law_356 : decode code 356 = .ok (.aload_n 0, 1) := by decide +kernel
theorem dL_law_357 : decode code 357 = .ok (.iload 4, 2) := by decide +kernel
theorem dL_law_359 : decode code 359 = .ok (.iconst 3, 1) := by decide +kernel
theorem dL_law_360 : decode code 360 = .ok (.iadd, 1) := by decide +kernel
theorem dL_law_361 : decode code 361 = .ok (.iaload, 1) := by decide +kernel
theorem dL_law_362 : decode code 362 = .ok (.ifCond .eq 7, 3) := by decide +kernel
theorem dL_law_365 : decode code 365 = .ok (.iconst 1, 1) := by decide +kernel
theorem dL_law_366 : decode code 366 = .ok (.goto 4, 3) := by decide +kernel
theorem dL_law_369 : decode code 369 = .ok (.iconst 0, 1) := by decide +kernel
theorem dL_law_370 : decode code 370 = .ok (.aload_n 3, 1) := by decide +kernel
theorem dL_law_371 : decode code 371 = .ok (.invokestatic 83, 3) := by decide +kernel
theorem dL_law_374 : decode code 374 = .ok (.istore 5, 2) := by decide +kernel
theorem dL_law_376 : decode code 376 = .ok (.aload_n 2, 1) := by decide +kernel
theorem dL_law_377 : decode code 377 = .ok (.aload_n 0, 1) := by decide +kernel
theorem dL_law_378 : decode code 378 = .ok (.iload 4, 2) := by decide +kernel
theorem dL_law_380 : decode code 380 = .ok (.iconst 1, 1) := by decide +kernel
theorem dL_law_381 : decode code 381 = .ok (.iadd, 1) := by decide +kernel
theorem dL_law_382 : decode code 382 = .ok (.iaload, 1) := by decide +kernel
theorem dL_law_383 : decode code 383 = .ok (.aload_n 0, 1) := by decide +kernel
theorem dL_law_384 : decode code 384 = .ok (.iload 4, 2) := by decide +kernel
theorem dL_law_386 : decode code 386 = .ok (.iconst 2, 1) := by decide +kernel
theorem dL_law_387 : decode code 387 = .ok (.iadd, 1) := by decide +kernel
theorem dL_law_388 : decode code 388 = .ok (.iaload, 1) := by decide +kernel
theorem dL_law_389 : decode code 389 = .ok (.aload_n 0, 1) := by decide +kernel
theorem dL_law_390 : decode code 390 = .ok (.iload 4, 2) := by decide +kernel
theorem dL_law_392 : decode code 392 = .ok (.iconst 3, 1) := by decide +kernel
theorem dL_law_393 : decode code 393 = .ok (.iadd, 1) := by decide +kernel
theorem dL_law_394 : decode code 394 = .ok (.iaload, 1) := by decide +kernel
theorem dL_law_395 : decode code 395 = .ok (.ifCond .eq 7, 3) := by decide +kernel
theorem dL_law_398 : decode code 398 = .ok (.iconst 1, 1) := by decide +kernel
theorem dL_law_399 : decode code 399 = .ok (.goto 4, 3) := by decide +kernel
theorem dL_law_402 : decode code 402 = .ok (.iconst 0, 1) := by decide +kernel
theorem dL_law_403 : decode code 403 = .ok (.invokevirtual 85, 3) := by decide +kernel
theorem dL_law_406 : decode code 406 = .ok (.istore 6, 2) := by decide +kernel
theorem dL_law_408 : decode code 408 = .ok (.aload_n 2, 1) := by decide +kernel
theorem dL_law_409 : decode code 409 = .ok (.invokevirtual 71, 3) := by decide +kernel
theorem dL_law_412 : decode code 412 = .ok (.iload 5, 2) := by decide +kernel
theorem dL_law_414 : decode code 414 = .ok (.if_icmp .eq 5, 3) := by decide +kernel
theorem dL_law_417 : decode code 417 = .ok (.iconst 0, 1) := by decide +kernel
theorem dL_law_418 : decode code 418 = .ok (.ireturn, 1) := by decide +kernel
theorem dL_law_419 : decode code 419 = .ok (.iload 5, 2) := by decide +kernel
theorem dL_law_421 : decode code 421 = .ok (.ifCond .ne 22, 3) := by decide +kernel
theorem dL_law_424 : decode code 424 = .ok (.aload_n 3, 1) := by decide +kernel
theorem dL_law_425 : decode code 425 = .ok (.iconst 0, 1) := by decide +kernel
theorem dL_law_426 : decode code 426 = .ok (.laload, 1) := by decide +kernel
theorem dL_law_427 : decode code 427 = .ok (.iload 6, 2) := by decide +kernel
theorem dL_law_429 : decode code 429 = .ok (.ifCond .eq 7, 3) := by decide +kernel
theorem dL_law_432 : decode code 432 = .ok (.lconst 1, 1) := by decide +kernel
theorem dL_law_433 : decode code 433 = .ok (.goto 4, 3) := by decide +kernel
theorem dL_law_436 : decode code 436 = .ok (.lconst 0, 1) := by decide +kernel
theorem dL_law_437 : decode code 437 = .ok (.lcmp, 1) := by decide +kernel
theorem dL_law_438 : decode code 438 = .ok (.ifCond .eq 5, 3) := by decide +kernel
theorem dL_law_441 : decode code 441 = .ok (.iconst 0, 1) := by decide +kernel
theorem dL_law_442 : decode code 442 = .ok (.ireturn, 1) := by decide +kernel
theorem dL_law_443 : decode code 443 = .ok (.goto 667, 3) := by decide +kernel
theorem dL_law_446 : decode code 446 = .ok (.aload_n 1, 1) := by decide +kernel
theorem dL_law_447 : decode code 447 = .ok (.aload_n 0, 1) := by decide +kernel
theorem dL_law_448 : decode code 448 = .ok (.iload 4, 2) := by decide +kernel
theorem dL_law_450 : decode code 450 = .ok (.iconst 1, 1) := by decide +kernel
theorem dL_law_451 : decode code 451 = .ok (.iadd, 1) := by decide +kernel
theorem dL_law_452 : decode code 452 = .ok (.iaload, 1) := by decide +kernel
theorem dL_law_453 : decode code 453 = .ok (.aload_n 0, 1) := by decide +kernel
theorem dL_law_454 : decode code 454 = .ok (.iload 4, 2) := by decide +kernel
theorem dL_law_456 : decode code 456 = .ok (.iconst 2, 1) := by decide +kernel
theorem dL_law_457 : decode code 457 = .ok (.iadd, 1) := by decide +kernel
theorem dL_law_458 : decode code 458 = .ok (.iaload, 1) := by decide +kernel
theorem dL_law_459 : decode code 459 = .ok (.aload_n 0, 1) := by decide +kernel
theorem dL_law_460 : decode code 460 = .ok (.iload 4, 2) := by decide +kernel
theorem dL_law_462 : decode code 462 = .ok (.iconst 3, 1) := by decide +kernel
theorem dL_law_463 : decode code 463 = .ok (.iadd, 1) := by decide +kernel
theorem dL_law_464 : decode code 464 = .ok (.iaload, 1) := by decide +kernel
theorem dL_law_465 : decode code 465 = .ok (.aload_n 3, 1) := by decide +kernel
theorem dL_law_466 : decode code 466 = .ok (.invokestatic 86, 3) := by decide +kernel
theorem dL_law_469 : decode code 469 = .ok (.istore 5, 2) := by decide +kernel
theorem dL_law_471 : decode code 471 = .ok (.aload_n 2, 1) := by decide +kernel
theorem dL_law_472 : decode code 472 = .ok (.aload_n 0, 1) := by decide +kernel
theorem dL_law_473 : decode code 473 = .ok (.iload 4, 2) := by decide +kernel
theorem dL_law_475 : decode code 475 = .ok (.iconst 1, 1) := by decide +kernel
theorem dL_law_476 : decode code 476 = .ok (.iadd, 1) := by decide +kernel
theorem dL_law_477 : decode code 477 = .ok (.iaload, 1) := by decide +kernel
theorem dL_law_478 : decode code 478 = .ok (.aload_n 0, 1) := by decide +kernel
theorem dL_law_479 : decode code 479 = .ok (.iload 4, 2) := by decide +kernel
theorem dL_law_481 : decode code 481 = .ok (.iconst 2, 1) := by decide +kernel
theorem dL_law_482 : decode code 482 = .ok (.iadd, 1) := by decide +kernel
theorem dL_law_483 : decode code 483 = .ok (.iaload, 1) := by decide +kernel
theorem dL_law_484 : decode code 484 = .ok (.aload_n 0, 1) := by decide +kernel
theorem dL_law_485 : decode code 485 = .ok (.iload 4, 2) := by decide +kernel
theorem dL_law_487 : decode code 487 = .ok (.iconst 3, 1) := by decide +kernel
theorem dL_law_488 : decode code 488 = .ok (.iadd, 1) := by decide +kernel
theorem dL_law_489 : decode code 489 = .ok (.iaload, 1) := by decide +kernel
theorem dL_law_490 : decode code 490 = .ok (.invokevirtual 89, 3) := by decide +kernel
theorem dL_law_493 : decode code 493 = .ok (.istore 6, 2) := by decide +kernel
theorem dL_law_495 : decode code 495 = .ok (.aload_n 2, 1) := by decide +kernel
theorem dL_law_496 : decode code 496 = .ok (.invokevirtual 71, 3) := by decide +kernel
theorem dL_law_499 : decode code 499 = .ok (.iload 5, 2) := by decide +kernel
theorem dL_law_501 : decode code 501 = .ok (.if_icmp .eq 5, 3) := by decide +kernel
theorem dL_law_504 : decode code 504 = .ok (.iconst 0, 1) := by decide +kernel
theorem dL_law_505 : decode code 505 = .ok (.ireturn, 1) := by decide +kernel
theorem dL_law_506 : decode code 506 = .ok (.iload 5, 2) := by decide +kernel
theorem dL_law_508 : decode code 508 = .ok (.ifCond .ne 15, 3) := by decide +kernel
theorem dL_law_511 : decode code 511 = .ok (.aload_n 3, 1) := by decide +kernel
theorem dL_law_512 : decode code 512 = .ok (.iconst 0, 1) := by decide +kernel
theorem dL_law_513 : decode code 513 = .ok (.laload, 1) := by decide +kernel
theorem dL_law_514 : decode code 514 = .ok (.iload 6, 2) := by decide +kernel
theorem dL_law_516 : decode code 516 = .ok (.i2l, 1) := by decide +kernel
theorem dL_law_517 : decode code 517 = .ok (.lcmp, 1) := by decide +kernel
theorem dL_law_518 : decode code 518 = .ok (.ifCond .eq 5, 3) := by decide +kernel
theorem dL_law_521 : decode code 521 = .ok (.iconst 0, 1) := by decide +kernel
theorem dL_law_522 : decode code 522 = .ok (.ireturn, 1) := by decide +kernel
theorem dL_law_523 : decode code 523 = .ok (.goto 587, 3) := by decide +kernel
theorem dL_law_526 : decode code 526 = .ok (.aload_n 1, 1) := by decide +kernel
theorem dL_law_527 : decode code 527 = .ok (.aload_n 0, 1) := by decide +kernel
theorem dL_law_528 : decode code 528 = .ok (.iload 4, 2) := by decide +kernel
theorem dL_law_530 : decode code 530 = .ok (.iconst 1, 1) := by decide +kernel
theorem dL_law_531 : decode code 531 = .ok (.iadd, 1) := by decide +kernel
theorem dL_law_532 : decode code 532 = .ok (.iaload, 1) := by decide +kernel
theorem dL_law_533 : decode code 533 = .ok (.aload_n 3, 1) := by decide +kernel
theorem dL_law_534 : decode code 534 = .ok (.invokestatic 90, 3) := by decide +kernel
theorem dL_law_537 : decode code 537 = .ok (.istore 5, 2) := by decide +kernel
theorem dL_law_539 : decode code 539 = .ok (.aload_n 2, 1) := by decide +kernel
theorem dL_law_540 : decode code 540 = .ok (.aload_n 0, 1) := by decide +kernel
theorem dL_law_541 : decode code 541 = .ok (.iload 4, 2) := by decide +kernel
theorem dL_law_543 : decode code 543 = .ok (.iconst 1, 1) := by decide +kernel
theorem dL_law_544 : decode code 544 = .ok (.iadd, 1) := by decide +kernel
theorem dL_law_545 : decode code 545 = .ok (.iaload, 1) := by decide +kernel
theorem dL_law_546 : decode code 546 = .ok (.invokevirtual 93, 3) := by decide +kernel
theorem dL_law_549 : decode code 549 = .ok (.istore 6, 2) := by decide +kernel
theorem dL_law_551 : decode code 551 = .ok (.aload_n 2, 1) := by decide +kernel
theorem dL_law_552 : decode code 552 = .ok (.invokevirtual 71, 3) := by decide +kernel
theorem dL_law_555 : decode code 555 = .ok (.iload 5, 2) := by decide +kernel
theorem dL_law_557 : decode code 557 = .ok (.if_icmp .eq 5, 3) := by decide +kernel
theorem dL_law_560 : decode code 560 = .ok (.iconst 0, 1) := by decide +kernel
theorem dL_law_561 : decode code 561 = .ok (.ireturn, 1) := by decide +kernel
theorem dL_law_562 : decode code 562 = .ok (.iload 5, 2) := by decide +kernel
theorem dL_law_564 : decode code 564 = .ok (.ifCond .ne 22, 3) := by decide +kernel
theorem dL_law_567 : decode code 567 = .ok (.aload_n 3, 1) := by decide +kernel
theorem dL_law_568 : decode code 568 = .ok (.iconst 0, 1) := by decide +kernel
theorem dL_law_569 : decode code 569 = .ok (.laload, 1) := by decide +kernel
theorem dL_law_570 : decode code 570 = .ok (.iload 6, 2) := by decide +kernel
theorem dL_law_572 : decode code 572 = .ok (.ifCond .eq 7, 3) := by decide +kernel
theorem dL_law_575 : decode code 575 = .ok (.lconst 1, 1) := by decide +kernel
theorem dL_law_576 : decode code 576 = .ok (.goto 4, 3) := by decide +kernel
theorem dL_law_579 : decode code 579 = .ok (.lconst 0, 1) := by decide +kernel
theorem dL_law_580 : decode code 580 = .ok (.lcmp, 1) := by decide +kernel
theorem dL_law_581 : decode code 581 = .ok (.ifCond .eq 5, 3) := by decide +kernel
theorem dL_law_584 : decode code 584 = .ok (.iconst 0, 1) := by decide +kernel
theorem dL_law_585 : decode code 585 = .ok (.ireturn, 1) := by decide +kernel
theorem dL_law_586 : decode code 586 = .ok (.goto 524, 3) := by decide +kernel
theorem dL_law_589 : decode code 589 = .ok (.aload_n 1, 1) := by decide +kernel
theorem dL_law_590 : decode code 590 = .ok (.aload_n 0, 1) := by decide +kernel
theorem dL_law_591 : decode code 591 = .ok (.iload 4, 2) := by decide +kernel
theorem dL_law_593 : decode code 593 = .ok (.iconst 1, 1) := by decide +kernel
theorem dL_law_594 : decode code 594 = .ok (.iadd, 1) := by decide +kernel
theorem dL_law_595 : decode code 595 = .ok (.iaload, 1) := by decide +kernel
theorem dL_law_596 : decode code 596 = .ok (.aload_n 0, 1) := by decide +kernel
theorem dL_law_597 : decode code 597 = .ok (.iload 4, 2) := by decide +kernel
theorem dL_law_599 : decode code 599 = .ok (.iconst 2, 1) := by decide +kernel
theorem dL_law_600 : decode code 600 = .ok (.iadd, 1) := by decide +kernel
theorem dL_law_601 : decode code 601 = .ok (.iaload, 1) := by decide +kernel
theorem dL_law_602 : decode code 602 = .ok (.aload_n 3, 1) := by decide +kernel
theorem dL_law_603 : decode code 603 = .ok (.invokestatic 94, 3) := by decide +kernel
theorem dL_law_606 : decode code 606 = .ok (.istore 5, 2) := by decide +kernel
theorem dL_law_608 : decode code 608 = .ok (.aload_n 2, 1) := by decide +kernel
theorem dL_law_609 : decode code 609 = .ok (.aload_n 0, 1) := by decide +kernel
theorem dL_law_610 : decode code 610 = .ok (.iload 4, 2) := by decide +kernel
theorem dL_law_612 : decode code 612 = .ok (.iconst 1, 1) := by decide +kernel
theorem dL_law_613 : decode code 613 = .ok (.iadd, 1) := by decide +kernel
theorem dL_law_614 : decode code 614 = .ok (.iaload, 1) := by decide +kernel
theorem dL_law_615 : decode code 615 = .ok (.aload_n 0, 1) := by decide +kernel
theorem dL_law_616 : decode code 616 = .ok (.iload 4, 2) := by decide +kernel
theorem dL_law_618 : decode code 618 = .ok (.iconst 2, 1) := by decide +kernel
theorem dL_law_619 : decode code 619 = .ok (.iadd, 1) := by decide +kernel
theorem dL_law_620 : decode code 620 = .ok (.iaload, 1) := by decide +kernel
theorem dL_law_621 : decode code 621 = .ok (.invokevirtual 96, 3) := by decide +kernel
theorem dL_law_624 : decode code 624 = .ok (.istore 6, 2) := by decide +kernel
theorem dL_law_626 : decode code 626 = .ok (.aload_n 2, 1) := by decide +kernel
theorem dL_law_627 : decode code 627 = .ok (.invokevirtual 71, 3) := by decide +kernel
theorem dL_law_630 : decode code 630 = .ok (.iload 5, 2) := by decide +kernel
theorem dL_law_632 : decode code 632 = .ok (.if_icmp .eq 5, 3) := by decide +kernel
theorem dL_law_635 : decode code 635 = .ok (.iconst 0, 1) := by decide +kernel
theorem dL_law_636 : decode code 636 = .ok (.ireturn, 1) := by decide +kernel
theorem dL_law_637 : decode code 637 = .ok (.iload 5, 2) := by decide +kernel
theorem dL_law_639 : decode code 639 = .ok (.ifCond .ne 15, 3) := by decide +kernel
theorem dL_law_642 : decode code 642 = .ok (.aload_n 3, 1) := by decide +kernel
theorem dL_law_643 : decode code 643 = .ok (.iconst 0, 1) := by decide +kernel
theorem dL_law_644 : decode code 644 = .ok (.laload, 1) := by decide +kernel
theorem dL_law_645 : decode code 645 = .ok (.iload 6, 2) := by decide +kernel
theorem dL_law_647 : decode code 647 = .ok (.i2l, 1) := by decide +kernel
theorem dL_law_648 : decode code 648 = .ok (.lcmp, 1) := by decide +kernel
theorem dL_law_649 : decode code 649 = .ok (.ifCond .eq 5, 3) := by decide +kernel
theorem dL_law_652 : decode code 652 = .ok (.iconst 0, 1) := by decide +kernel
theorem dL_law_653 : decode code 653 = .ok (.ireturn, 1) := by decide +kernel
theorem dL_law_654 : decode code 654 = .ok (.goto 456, 3) := by decide +kernel
theorem dL_law_657 : decode code 657 = .ok (.aload_n 1, 1) := by decide +kernel
theorem dL_law_658 : decode code 658 = .ok (.aload_n 0, 1) := by decide +kernel
theorem dL_law_659 : decode code 659 = .ok (.iload 4, 2) := by decide +kernel
theorem dL_law_661 : decode code 661 = .ok (.iconst 1, 1) := by decide +kernel
theorem dL_law_662 : decode code 662 = .ok (.iadd, 1) := by decide +kernel
theorem dL_law_663 : decode code 663 = .ok (.iaload, 1) := by decide +kernel
theorem dL_law_664 : decode code 664 = .ok (.aload_n 3, 1) := by decide +kernel
theorem dL_law_665 : decode code 665 = .ok (.invokestatic 97, 3) := by decide +kernel
theorem dL_law_668 : decode code 668 = .ok (.istore 5, 2) := by decide +kernel
theorem dL_law_670 : decode code 670 = .ok (.aload_n 2, 1) := by decide +kernel
theorem dL_law_671 : decode code 671 = .ok (.aload_n 0, 1) := by decide +kernel
theorem dL_law_672 : decode code 672 = .ok (.iload 4, 2) := by decide +kernel
theorem dL_law_674 : decode code 674 = .ok (.iconst 1, 1) := by decide +kernel
theorem dL_law_675 : decode code 675 = .ok (.iadd, 1) := by decide +kernel
theorem dL_law_676 : decode code 676 = .ok (.iaload, 1) := by decide +kernel
theorem dL_law_677 : decode code 677 = .ok (.invokevirtual 99, 3) := by decide +kernel
theorem dL_law_680 : decode code 680 = .ok (.istore 6, 2) := by decide +kernel
theorem dL_law_682 : decode code 682 = .ok (.aload_n 2, 1) := by decide +kernel
theorem dL_law_683 : decode code 683 = .ok (.invokevirtual 71, 3) := by decide +kernel
theorem dL_law_686 : decode code 686 = .ok (.iload 5, 2) := by decide +kernel
theorem dL_law_688 : decode code 688 = .ok (.if_icmp .eq 5, 3) := by decide +kernel
theorem dL_law_691 : decode code 691 = .ok (.iconst 0, 1) := by decide +kernel
theorem dL_law_692 : decode code 692 = .ok (.ireturn, 1) := by decide +kernel
theorem dL_law_693 : decode code 693 = .ok (.iload 5, 2) := by decide +kernel
theorem dL_law_695 : decode code 695 = .ok (.ifCond .ne 15, 3) := by decide +kernel
theorem dL_law_698 : decode code 698 = .ok (.aload_n 3, 1) := by decide +kernel
theorem dL_law_699 : decode code 699 = .ok (.iconst 0, 1) := by decide +kernel
theorem dL_law_700 : decode code 700 = .ok (.laload, 1) := by decide +kernel
theorem dL_law_701 : decode code 701 = .ok (.iload 6, 2) := by decide +kernel
theorem dL_law_703 : decode code 703 = .ok (.i2l, 1) := by decide +kernel
theorem dL_law_704 : decode code 704 = .ok (.lcmp, 1) := by decide +kernel
theorem dL_law_705 : decode code 705 = .ok (.ifCond .eq 5, 3) := by decide +kernel
theorem dL_law_708 : decode code 708 = .ok (.iconst 0, 1) := by decide +kernel
theorem dL_law_709 : decode code 709 = .ok (.ireturn, 1) := by decide +kernel
theorem dL_law_710 : decode code 710 = .ok (.goto 400, 3) := by decide +kernel
theorem dL_law_713 : decode code 713 = .ok (.aload_n 1, 1) := by decide +kernel
theorem dL_law_714 : decode code 714 = .ok (.aload_n 0, 1) := by decide +kernel
theorem dL_law_715 : decode code 715 = .ok (.iload 4, 2) := by decide +kernel
theorem dL_law_717 : decode code 717 = .ok (.iconst 1, 1) := by decide +kernel
theorem dL_law_718 : decode code 718 = .ok (.iadd, 1) := by decide +kernel
theorem dL_law_719 : decode code 719 = .ok (.iaload, 1) := by decide +kernel
theorem dL_law_720 : decode code 720 = .ok (.aload_n 3, 1) := by decide +kernel
theorem dL_law_721 : decode code 721 = .ok (.invokestatic 100, 3) := by decide +kernel
theorem dL_law_724 : decode code 724 = .ok (.istore 5, 2) := by decide +kernel
theorem dL_law_726 : decode code 726 = .ok (.aload_n 2, 1) := by decide +kernel
theorem dL_law_727 : decode code 727 = .ok (.aload_n 0, 1) := by decide +kernel
theorem dL_law_728 : decode code 728 = .ok (.iload 4, 2) := by decide +kernel
theorem dL_law_730 : decode code 730 = .ok (.iconst 1, 1) := by decide +kernel
theorem dL_law_731 : decode code 731 = .ok (.iadd, 1) := by decide +kernel
theorem dL_law_732 : decode code 732 = .ok (.iaload, 1) := by decide +kernel
theorem dL_law_733 : decode code 733 = .ok (.invokevirtual 102, 3) := by decide +kernel
theorem dL_law_736 : decode code 736 = .ok (.istore 6, 2) := by decide +kernel
theorem dL_law_738 : decode code 738 = .ok (.aload_n 2, 1) := by decide +kernel
theorem dL_law_739 : decode code 739 = .ok (.invokevirtual 71, 3) := by decide +kernel
theorem dL_law_742 : decode code 742 = .ok (.iload 5, 2) := by decide +kernel
theorem dL_law_744 : decode code 744 = .ok (.if_icmp .eq 5, 3) := by decide +kernel
theorem dL_law_747 : decode code 747 = .ok (.iconst 0, 1) := by decide +kernel
theorem dL_law_748 : decode code 748 = .ok (.ireturn, 1) := by decide +kernel
theorem dL_law_749 : decode code 749 = .ok (.iload 5, 2) := by decide +kernel
theorem dL_law_751 : decode code 751 = .ok (.ifCond .ne 15, 3) := by decide +kernel
theorem dL_law_754 : decode code 754 = .ok (.aload_n 3, 1) := by decide +kernel
theorem dL_law_755 : decode code 755 = .ok (.iconst 0, 1) := by decide +kernel
theorem dL_law_756 : decode code 756 = .ok (.laload, 1) := by decide +kernel
theorem dL_law_757 : decode code 757 = .ok (.iload 6, 2) := by decide +kernel
theorem dL_law_759 : decode code 759 = .ok (.i2l, 1) := by decide +kernel
theorem dL_law_760 : decode code 760 = .ok (.lcmp, 1) := by decide +kernel
theorem dL_law_761 : decode code 761 = .ok (.ifCond .eq 5, 3) := by decide +kernel
theorem dL_law_764 : decode code 764 = .ok (.iconst 0, 1) := by decide +kernel
theorem dL_law_765 : decode code 765 = .ok (.ireturn, 1) := by decide +kernel
theorem dL_law_766 : decode code 766 = .ok (.goto 344, 3) := by decide +kernel
theorem dL_law_769 : decode code 769 = .ok (.aload_n 1, 1) := by decide +kernel
theorem dL_law_770 : decode code 770 = .ok (.aload_n 0, 1) := by decide +kernel
theorem dL_law_771 : decode code 771 = .ok (.iload 4, 2) := by decide +kernel
theorem dL_law_773 : decode code 773 = .ok (.iconst 1, 1) := by decide +kernel
theorem dL_law_774 : decode code 774 = .ok (.iadd, 1) := by decide +kernel
theorem dL_law_775 : decode code 775 = .ok (.iaload, 1) := by decide +kernel
theorem dL_law_776 : decode code 776 = .ok (.invokevirtual 103, 3) := by decide +kernel
theorem dL_law_779 : decode code 779 = .ok (.aload_n 2, 1) := by decide +kernel
theorem dL_law_780 : decode code 780 = .ok (.aload_n 0, 1) := by decide +kernel
theorem dL_law_781 : decode code 781 = .ok (.iload 4, 2) := by decide +kernel
theorem dL_law_783 : decode code 783 = .ok (.iconst 1, 1) := by decide +kernel
theorem dL_law_784 : decode code 784 = .ok (.iadd, 1) := by decide +kernel
theorem dL_law_785 : decode code 785 = .ok (.iaload, 1) := by decide +kernel
theorem dL_law_786 : decode code 786 = .ok (.invokevirtual 106, 3) := by decide +kernel
theorem dL_law_789 : decode code 789 = .ok (.if_icmp .eq 321, 3) := by decide +kernel
theorem dL_law_792 : decode code 792 = .ok (.iconst 0, 1) := by decide +kernel
theorem dL_law_793 : decode code 793 = .ok (.ireturn, 1) := by decide +kernel
theorem dL_law_794 : decode code 794 = .ok (.aload_n 1, 1) := by decide +kernel
theorem dL_law_795 : decode code 795 = .ok (.aload_n 0, 1) := by decide +kernel
theorem dL_law_796 : decode code 796 = .ok (.iload 4, 2) := by decide +kernel
theorem dL_law_798 : decode code 798 = .ok (.iconst 1, 1) := by decide +kernel
theorem dL_law_799 : decode code 799 = .ok (.iadd, 1) := by decide +kernel
theorem dL_law_800 : decode code 800 = .ok (.iaload, 1) := by decide +kernel
theorem dL_law_801 : decode code 801 = .ok (.aload_n 0, 1) := by decide +kernel
theorem dL_law_802 : decode code 802 = .ok (.iload 4, 2) := by decide +kernel
theorem dL_law_804 : decode code 804 = .ok (.iconst 2, 1) := by decide +kernel
theorem dL_law_805 : decode code 805 = .ok (.iadd, 1) := by decide +kernel
theorem dL_law_806 : decode code 806 = .ok (.iaload, 1) := by decide +kernel
theorem dL_law_807 : decode code 807 = .ok (.aload_n 3, 1) := by decide +kernel
theorem dL_law_808 : decode code 808 = .ok (.invokestatic 107, 3) := by decide +kernel
theorem dL_law_811 : decode code 811 = .ok (.istore 5, 2) := by decide +kernel
theorem dL_law_813 : decode code 813 = .ok (.aload_n 2, 1) := by decide +kernel
theorem dL_law_814 : decode code 814 = .ok (.aload_n 0, 1) := by decide +kernel
theorem dL_law_815 : decode code 815 = .ok (.iload 4, 2) := by decide +kernel
theorem dL_law_817 : decode code 817 = .ok (.iconst 1, 1) := by decide +kernel
theorem dL_law_818 : decode code 818 = .ok (.iadd, 1) := by decide +kernel
theorem dL_law_819 : decode code 819 = .ok (.iaload, 1) := by decide +kernel
theorem dL_law_820 : decode code 820 = .ok (.aload_n 0, 1) := by decide +kernel
theorem dL_law_821 : decode code 821 = .ok (.iload 4, 2) := by decide +kernel
theorem dL_law_823 : decode code 823 = .ok (.iconst 2, 1) := by decide +kernel
theorem dL_law_824 : decode code 824 = .ok (.iadd, 1) := by decide +kernel
theorem dL_law_825 : decode code 825 = .ok (.iaload, 1) := by decide +kernel
theorem dL_law_826 : decode code 826 = .ok (.invokevirtual 109, 3) := by decide +kernel
theorem dL_law_829 : decode code 829 = .ok (.istore 6, 2) := by decide +kernel
theorem dL_law_831 : decode code 831 = .ok (.aload_n 2, 1) := by decide +kernel
theorem dL_law_832 : decode code 832 = .ok (.invokevirtual 71, 3) := by decide +kernel
theorem dL_law_835 : decode code 835 = .ok (.iload 5, 2) := by decide +kernel
theorem dL_law_837 : decode code 837 = .ok (.if_icmp .eq 5, 3) := by decide +kernel
theorem dL_law_840 : decode code 840 = .ok (.iconst 0, 1) := by decide +kernel
theorem dL_law_841 : decode code 841 = .ok (.ireturn, 1) := by decide +kernel
theorem dL_law_842 : decode code 842 = .ok (.iload 5, 2) := by decide +kernel
theorem dL_law_844 : decode code 844 = .ok (.ifCond .ne 15, 3) := by decide +kernel
theorem dL_law_847 : decode code 847 = .ok (.aload_n 3, 1) := by decide +kernel
theorem dL_law_848 : decode code 848 = .ok (.iconst 0, 1) := by decide +kernel
theorem dL_law_849 : decode code 849 = .ok (.laload, 1) := by decide +kernel
theorem dL_law_850 : decode code 850 = .ok (.iload 6, 2) := by decide +kernel
theorem dL_law_852 : decode code 852 = .ok (.i2l, 1) := by decide +kernel
theorem dL_law_853 : decode code 853 = .ok (.lcmp, 1) := by decide +kernel
theorem dL_law_854 : decode code 854 = .ok (.ifCond .eq 5, 3) := by decide +kernel
theorem dL_law_857 : decode code 857 = .ok (.iconst 0, 1) := by decide +kernel
theorem dL_law_858 : decode code 858 = .ok (.ireturn, 1) := by decide +kernel
theorem dL_law_859 : decode code 859 = .ok (.goto 251, 3) := by decide +kernel
theorem dL_law_862 : decode code 862 = .ok (.aload_n 1, 1) := by decide +kernel
theorem dL_law_863 : decode code 863 = .ok (.aload_n 0, 1) := by decide +kernel
theorem dL_law_864 : decode code 864 = .ok (.iload 4, 2) := by decide +kernel
theorem dL_law_866 : decode code 866 = .ok (.iconst 1, 1) := by decide +kernel
theorem dL_law_867 : decode code 867 = .ok (.iadd, 1) := by decide +kernel
theorem dL_law_868 : decode code 868 = .ok (.iaload, 1) := by decide +kernel
theorem dL_law_869 : decode code 869 = .ok (.aload_n 3, 1) := by decide +kernel
theorem dL_law_870 : decode code 870 = .ok (.invokestatic 110, 3) := by decide +kernel
theorem dL_law_873 : decode code 873 = .ok (.istore 5, 2) := by decide +kernel
theorem dL_law_875 : decode code 875 = .ok (.aload_n 2, 1) := by decide +kernel
theorem dL_law_876 : decode code 876 = .ok (.aload_n 0, 1) := by decide +kernel
theorem dL_law_877 : decode code 877 = .ok (.iload 4, 2) := by decide +kernel
theorem dL_law_879 : decode code 879 = .ok (.iconst 1, 1) := by decide +kernel
theorem dL_law_880 : decode code 880 = .ok (.iadd, 1) := by decide +kernel
theorem dL_law_881 : decode code 881 = .ok (.iaload, 1) := by decide +kernel
theorem dL_law_882 : decode code 882 = .ok (.invokevirtual 112, 3) := by decide +kernel
theorem dL_law_885 : decode code 885 = .ok (.istore 6, 2) := by decide +kernel
theorem dL_law_887 : decode code 887 = .ok (.aload_n 2, 1) := by decide +kernel
theorem dL_law_888 : decode code 888 = .ok (.invokevirtual 71, 3) := by decide +kernel
theorem dL_law_891 : decode code 891 = .ok (.iload 5, 2) := by decide +kernel
theorem dL_law_893 : decode code 893 = .ok (.if_icmp .eq 5, 3) := by decide +kernel
theorem dL_law_896 : decode code 896 = .ok (.iconst 0, 1) := by decide +kernel
theorem dL_law_897 : decode code 897 = .ok (.ireturn, 1) := by decide +kernel
theorem dL_law_898 : decode code 898 = .ok (.iload 5, 2) := by decide +kernel
theorem dL_law_900 : decode code 900 = .ok (.ifCond .ne 15, 3) := by decide +kernel
theorem dL_law_903 : decode code 903 = .ok (.aload_n 3, 1) := by decide +kernel
theorem dL_law_904 : decode code 904 = .ok (.iconst 0, 1) := by decide +kernel
theorem dL_law_905 : decode code 905 = .ok (.laload, 1) := by decide +kernel
theorem dL_law_906 : decode code 906 = .ok (.iload 6, 2) := by decide +kernel
theorem dL_law_908 : decode code 908 = .ok (.i2l, 1) := by decide +kernel
theorem dL_law_909 : decode code 909 = .ok (.lcmp, 1) := by decide +kernel
theorem dL_law_910 : decode code 910 = .ok (.ifCond .eq 5, 3) := by decide +kernel
theorem dL_law_913 : decode code 913 = .ok (.iconst 0, 1) := by decide +kernel
theorem dL_law_914 : decode code 914 = .ok (.ireturn, 1) := by decide +kernel
theorem dL_law_915 : decode code 915 = .ok (.goto 195, 3) := by decide +kernel
theorem dL_law_918 : decode code 918 = .ok (.aload_n 1, 1) := by decide +kernel
theorem dL_law_919 : decode code 919 = .ok (.aload_n 0, 1) := by decide +kernel
theorem dL_law_920 : decode code 920 = .ok (.iload 4, 2) := by decide +kernel
theorem dL_law_922 : decode code 922 = .ok (.iconst 1, 1) := by decide +kernel
theorem dL_law_923 : decode code 923 = .ok (.iadd, 1) := by decide +kernel
theorem dL_law_924 : decode code 924 = .ok (.iaload, 1) := by decide +kernel
theorem dL_law_925 : decode code 925 = .ok (.aload_n 0, 1) := by decide +kernel
theorem dL_law_926 : decode code 926 = .ok (.iload 4, 2) := by decide +kernel
theorem dL_law_928 : decode code 928 = .ok (.iconst 2, 1) := by decide +kernel
theorem dL_law_929 : decode code 929 = .ok (.iadd, 1) := by decide +kernel
theorem dL_law_930 : decode code 930 = .ok (.iaload, 1) := by decide +kernel
theorem dL_law_931 : decode code 931 = .ok (.aload_n 3, 1) := by decide +kernel
theorem dL_law_932 : decode code 932 = .ok (.invokestatic 113, 3) := by decide +kernel
theorem dL_law_935 : decode code 935 = .ok (.istore 5, 2) := by decide +kernel
theorem dL_law_937 : decode code 937 = .ok (.aload_n 2, 1) := by decide +kernel
theorem dL_law_938 : decode code 938 = .ok (.aload_n 0, 1) := by decide +kernel
theorem dL_law_939 : decode code 939 = .ok (.iload 4, 2) := by decide +kernel
theorem dL_law_941 : decode code 941 = .ok (.iconst 1, 1) := by decide +kernel
theorem dL_law_942 : decode code 942 = .ok (.iadd, 1) := by decide +kernel
theorem dL_law_943 : decode code 943 = .ok (.iaload, 1) := by decide +kernel
theorem dL_law_944 : decode code 944 = .ok (.aload_n 0, 1) := by decide +kernel
theorem dL_law_945 : decode code 945 = .ok (.iload 4, 2) := by decide +kernel
theorem dL_law_947 : decode code 947 = .ok (.iconst 2, 1) := by decide +kernel
theorem dL_law_948 : decode code 948 = .ok (.iadd, 1) := by decide +kernel
theorem dL_law_949 : decode code 949 = .ok (.iaload, 1) := by decide +kernel
theorem dL_law_950 : decode code 950 = .ok (.invokevirtual 115, 3) := by decide +kernel
theorem dL_law_953 : decode code 953 = .ok (.istore 6, 2) := by decide +kernel
theorem dL_law_955 : decode code 955 = .ok (.aload_n 2, 1) := by decide +kernel
theorem dL_law_956 : decode code 956 = .ok (.invokevirtual 71, 3) := by decide +kernel
theorem dL_law_959 : decode code 959 = .ok (.iload 5, 2) := by decide +kernel
theorem dL_law_961 : decode code 961 = .ok (.if_icmp .eq 5, 3) := by decide +kernel
theorem dL_law_964 : decode code 964 = .ok (.iconst 0, 1) := by decide +kernel
theorem dL_law_965 : decode code 965 = .ok (.ireturn, 1) := by decide +kernel
theorem dL_law_966 : decode code 966 = .ok (.iload 5, 2) := by decide +kernel
theorem dL_law_968 : decode code 968 = .ok (.ifCond .ne 15, 3) := by decide +kernel
theorem dL_law_971 : decode code 971 = .ok (.aload_n 3, 1) := by decide +kernel
theorem dL_law_972 : decode code 972 = .ok (.iconst 0, 1) := by decide +kernel
theorem dL_law_973 : decode code 973 = .ok (.laload, 1) := by decide +kernel
theorem dL_law_974 : decode code 974 = .ok (.iload 6, 2) := by decide +kernel
theorem dL_law_976 : decode code 976 = .ok (.i2l, 1) := by decide +kernel
theorem dL_law_977 : decode code 977 = .ok (.lcmp, 1) := by decide +kernel
theorem dL_law_978 : decode code 978 = .ok (.ifCond .eq 5, 3) := by decide +kernel
theorem dL_law_981 : decode code 981 = .ok (.iconst 0, 1) := by decide +kernel
theorem dL_law_982 : decode code 982 = .ok (.ireturn, 1) := by decide +kernel
theorem dL_law_983 : decode code 983 = .ok (.goto 127, 3) := by decide +kernel
theorem dL_law_986 : decode code 986 = .ok (.aload_n 1, 1) := by decide +kernel
theorem dL_law_987 : decode code 987 = .ok (.aload_n 0, 1) := by decide +kernel
theorem dL_law_988 : decode code 988 = .ok (.iload 4, 2) := by decide +kernel
theorem dL_law_990 : decode code 990 = .ok (.iconst 1, 1) := by decide +kernel
theorem dL_law_991 : decode code 991 = .ok (.iadd, 1) := by decide +kernel
theorem dL_law_992 : decode code 992 = .ok (.iaload, 1) := by decide +kernel
theorem dL_law_993 : decode code 993 = .ok (.aload_n 0, 1) := by decide +kernel
theorem dL_law_994 : decode code 994 = .ok (.iload 4, 2) := by decide +kernel
theorem dL_law_996 : decode code 996 = .ok (.iconst 2, 1) := by decide +kernel
theorem dL_law_997 : decode code 997 = .ok (.iadd, 1) := by decide +kernel
theorem dL_law_998 : decode code 998 = .ok (.iaload, 1) := by decide +kernel
theorem dL_law_999 : decode code 999 = .ok (.aload_n 3, 1) := by decide +kernel
theorem dL_law_1000 : decode code 1000 = .ok (.invokestatic 116, 3) := by decide +kernel
theorem dL_law_1003 : decode code 1003 = .ok (.istore 5, 2) := by decide +kernel
theorem dL_law_1005 : decode code 1005 = .ok (.aload_n 2, 1) := by decide +kernel
theorem dL_law_1006 : decode code 1006 = .ok (.aload_n 0, 1) := by decide +kernel
theorem dL_law_1007 : decode code 1007 = .ok (.iload 4, 2) := by decide +kernel
theorem dL_law_1009 : decode code 1009 = .ok (.iconst 1, 1) := by decide +kernel
theorem dL_law_1010 : decode code 1010 = .ok (.iadd, 1) := by decide +kernel
theorem dL_law_1011 : decode code 1011 = .ok (.iaload, 1) := by decide +kernel
theorem dL_law_1012 : decode code 1012 = .ok (.aload_n 0, 1) := by decide +kernel
theorem dL_law_1013 : decode code 1013 = .ok (.iload 4, 2) := by decide +kernel
theorem dL_law_1015 : decode code 1015 = .ok (.iconst 2, 1) := by decide +kernel
theorem dL_law_1016 : decode code 1016 = .ok (.iadd, 1) := by decide +kernel
theorem dL_law_1017 : decode code 1017 = .ok (.iaload, 1) := by decide +kernel
theorem dL_law_1018 : decode code 1018 = .ok (.invokevirtual 118, 3) := by decide +kernel
theorem dL_law_1021 : decode code 1021 = .ok (.istore 6, 2) := by decide +kernel
theorem dL_law_1023 : decode code 1023 = .ok (.aload_n 2, 1) := by decide +kernel
theorem dL_law_1024 : decode code 1024 = .ok (.invokevirtual 71, 3) := by decide +kernel
theorem dL_law_1027 : decode code 1027 = .ok (.iload 5, 2) := by decide +kernel
theorem dL_law_1029 : decode code 1029 = .ok (.if_icmp .eq 5, 3) := by decide +kernel
theorem dL_law_1032 : decode code 1032 = .ok (.iconst 0, 1) := by decide +kernel
theorem dL_law_1033 : decode code 1033 = .ok (.ireturn, 1) := by decide +kernel
theorem dL_law_1034 : decode code 1034 = .ok (.iload 5, 2) := by decide +kernel
theorem dL_law_1036 : decode code 1036 = .ok (.ifCond .ne 15, 3) := by decide +kernel
theorem dL_law_1039 : decode code 1039 = .ok (.aload_n 3, 1) := by decide +kernel
theorem dL_law_1040 : decode code 1040 = .ok (.iconst 0, 1) := by decide +kernel
theorem dL_law_1041 : decode code 1041 = .ok (.laload, 1) := by decide +kernel
theorem dL_law_1042 : decode code 1042 = .ok (.iload 6, 2) := by decide +kernel
theorem dL_law_1044 : decode code 1044 = .ok (.i2l, 1) := by decide +kernel
theorem dL_law_1045 : decode code 1045 = .ok (.lcmp, 1) := by decide +kernel
theorem dL_law_1046 : decode code 1046 = .ok (.ifCond .eq 5, 3) := by decide +kernel
theorem dL_law_1049 : decode code 1049 = .ok (.iconst 0, 1) := by decide +kernel
theorem dL_law_1050 : decode code 1050 = .ok (.ireturn, 1) := by decide +kernel
theorem dL_law_1051 : decode code 1051 = .ok (.goto 59, 3) := by decide +kernel
theorem dL_law_1054 : decode code 1054 = .ok (.aload_n 1, 1) := by decide +kernel
theorem dL_law_1055 : decode code 1055 = .ok (.aload_n 0, 1) := by decide +kernel
theorem dL_law_1056 : decode code 1056 = .ok (.iload 4, 2) := by decide +kernel
theorem dL_law_1058 : decode code 1058 = .ok (.iconst 1, 1) := by decide +kernel
theorem dL_law_1059 : decode code 1059 = .ok (.iadd, 1) := by decide +kernel
theorem dL_law_1060 : decode code 1060 = .ok (.iaload, 1) := by decide +kernel
theorem dL_law_1061 : decode code 1061 = .ok (.aload_n 3, 1) := by decide +kernel
theorem dL_law_1062 : decode code 1062 = .ok (.invokestatic 119, 3) := by decide +kernel
theorem dL_law_1065 : decode code 1065 = .ok (.istore 5, 2) := by decide +kernel
theorem dL_law_1067 : decode code 1067 = .ok (.aload_n 2, 1) := by decide +kernel
theorem dL_law_1068 : decode code 1068 = .ok (.aload_n 0, 1) := by decide +kernel
theorem dL_law_1069 : decode code 1069 = .ok (.iload 4, 2) := by decide +kernel
theorem dL_law_1071 : decode code 1071 = .ok (.iconst 1, 1) := by decide +kernel
theorem dL_law_1072 : decode code 1072 = .ok (.iadd, 1) := by decide +kernel
theorem dL_law_1073 : decode code 1073 = .ok (.iaload, 1) := by decide +kernel
theorem dL_law_1074 : decode code 1074 = .ok (.invokevirtual 121, 3) := by decide +kernel
theorem dL_law_1077 : decode code 1077 = .ok (.istore 6, 2) := by decide +kernel
theorem dL_law_1079 : decode code 1079 = .ok (.aload_n 2, 1) := by decide +kernel
theorem dL_law_1080 : decode code 1080 = .ok (.invokevirtual 71, 3) := by decide +kernel
theorem dL_law_1083 : decode code 1083 = .ok (.iload 5, 2) := by decide +kernel
theorem dL_law_1085 : decode code 1085 = .ok (.if_icmp .eq 5, 3) := by decide +kernel
theorem dL_law_1088 : decode code 1088 = .ok (.iconst 0, 1) := by decide +kernel
theorem dL_law_1089 : decode code 1089 = .ok (.ireturn, 1) := by decide +kernel
theorem dL_law_1090 : decode code 1090 = .ok (.iload 5, 2) := by decide +kernel
theorem dL_law_1092 : decode code 1092 = .ok (.ifCond .ne 15, 3) := by decide +kernel
theorem dL_law_1095 : decode code 1095 = .ok (.aload_n 3, 1) := by decide +kernel
theorem dL_law_1096 : decode code 1096 = .ok (.iconst 0, 1) := by decide +kernel
theorem dL_law_1097 : decode code 1097 = .ok (.laload, 1) := by decide +kernel
theorem dL_law_1098 : decode code 1098 = .ok (.iload 6, 2) := by decide +kernel
theorem dL_law_1100 : decode code 1100 = .ok (.i2l, 1) := by decide +kernel
theorem dL_law_1101 : decode code 1101 = .ok (.lcmp, 1) := by decide +kernel
theorem dL_law_1102 : decode code 1102 = .ok (.ifCond .eq 5, 3) := by decide +kernel
theorem dL_law_1105 : decode code 1105 = .ok (.iconst 0, 1) := by decide +kernel
theorem dL_law_1106 : decode code 1106 = .ok (.ireturn, 1) := by decide +kernel
theorem dL_law_1107 : decode code 1107 = .ok (.goto 3, 3) := by decide +kernel
theorem dL_law_1110 : decode code 1110 = .ok (.iinc 4 4, 3) := by decide +kernel
theorem dL_law_1113 : decode code 1113 = .ok (.goto (-1090), 3) := by decide +kernel
theorem dL_law_1116 : decode code 1116 = .ok (.iconst 1, 1) := by decide +kernel
theorem dL_law_1117 : decode code 1117 = .ok (.ireturn, 1) := by decide +kernel
