theorem dR_init_0 : decode bR_init 0 = .ok (.aload_n 0, 1) := by decide +kernel
theorem dR_init_1 : decode bR_init 1 = .ok (.invokespecial 1, 3) := by decide +kernel
theorem dR_init_4 : decode bR_init 4 = .ok (.aload_n 0, 1) := by decide +kernel
theorem dR_init_5 : decode bR_init 5 = .ok (.bipush 12, 2) := by decide +kernel
theorem dR_init_7 : decode bR_init 7 = .ok (.newarray .int, 2) := by decide +kernel
theorem dR_init_9 : decode bR_init 9 = .ok (.putfield 7, 3) := by decide +kernel
theorem dR_init_12 : decode bR_init 12 = .ok (.aload_n 0, 1) := by decide +kernel
theorem dR_init_13 : decode bR_init 13 = .ok (.bipush 12, 2) := by decide +kernel
theorem dR_init_15 : decode bR_init 15 = .ok (.newarray .int, 2) := by decide +kernel
theorem dR_init_17 : decode bR_init 17 = .ok (.putfield 13, 3) := by decide +kernel
theorem dR_init_20 : decode bR_init 20 = .ok (.aload_n 0, 1) := by decide +kernel
theorem dR_init_21 : decode bR_init 21 = .ok (.sipush 144, 3) := by decide +kernel
theorem dR_init_24 : decode bR_init 24 = .ok (.newarray .boolean, 2) := by decide +kernel
theorem dR_init_26 : decode bR_init 26 = .ok (.putfield 16, 3) := by decide +kernel
theorem dR_init_29 : decode bR_init 29 = .ok (.aload_n 0, 1) := by decide +kernel
theorem dR_init_30 : decode bR_init 30 = .ok (.sipush 144, 3) := by decide +kernel
theorem dR_init_33 : decode bR_init 33 = .ok (.newarray .boolean, 2) := by decide +kernel
theorem dR_init_35 : decode bR_init 35 = .ok (.putfield 20, 3) := by decide +kernel
theorem dR_init_38 : decode bR_init 38 = .ok (.aload_n 0, 1) := by decide +kernel
theorem dR_init_39 : decode bR_init 39 = .ok (.sipush 144, 3) := by decide +kernel
theorem dR_init_42 : decode bR_init 42 = .ok (.newarray .int, 2) := by decide +kernel
theorem dR_init_44 : decode bR_init 44 = .ok (.putfield 23, 3) := by decide +kernel
theorem dR_init_47 : decode bR_init 47 = .ok (.aload_n 0, 1) := by decide +kernel
theorem dR_init_48 : decode bR_init 48 = .ok (.iconst 4, 1) := by decide +kernel
theorem dR_init_49 : decode bR_init 49 = .ok (.newarray .int, 2) := by decide +kernel
theorem dR_init_51 : decode bR_init 51 = .ok (.putfield 26, 3) := by decide +kernel
theorem dR_init_54 : decode bR_init 54 = .ok (.aload_n 0, 1) := by decide +kernel
theorem dR_init_55 : decode bR_init 55 = .ok (.sipush 320, 3) := by decide +kernel
theorem dR_init_58 : decode bR_init 58 = .ok (.newarray .int, 2) := by decide +kernel
theorem dR_init_60 : decode bR_init 60 = .ok (.putfield 29, 3) := by decide +kernel
theorem dR_init_63 : decode bR_init 63 = .ok (.aload_n 0, 1) := by decide +kernel
theorem dR_init_64 : decode bR_init 64 = .ok (.sipush 320, 3) := by decide +kernel
theorem dR_init_67 : decode bR_init 67 = .ok (.newarray .int, 2) := by decide +kernel
theorem dR_init_69 : decode bR_init 69 = .ok (.putfield 32, 3) := by decide +kernel
theorem dR_init_72 : decode bR_init 72 = .ok (.aload_n 0, 1) := by decide +kernel
theorem dR_init_73 : decode bR_init 73 = .ok (.sipush 320, 3) := by decide +kernel
theorem dR_init_76 : decode bR_init 76 = .ok (.newarray .int, 2) := by decide +kernel
theorem dR_init_78 : decode bR_init 78 = .ok (.putfield 35, 3) := by decide +kernel
theorem dR_init_81 : decode bR_init 81 = .ok (.return_, 1) := by decide +kernel
theorem dR_thrown_0 : decode bR_thrown 0 = .ok (.aload_n 0, 1) := by decide +kernel
theorem dR_thrown_1 : decode bR_thrown 1 = .ok (.getfield 38, 3) := by decide +kernel
theorem dR_thrown_4 : decode bR_thrown 4 = .ok (.ireturn, 1) := by decide +kernel
theorem dR_in_0 : decode bR_in 0 = .ok (.iload_n 0, 1) := by decide +kernel
theorem dR_in_1 : decode bR_in 1 = .ok (.iload_n 1, 1) := by decide +kernel
theorem dR_in_2 : decode bR_in 2 = .ok (.if_icmp .lt 12, 3) := by decide +kernel
theorem dR_in_5 : decode bR_in 5 = .ok (.iload_n 0, 1) := by decide +kernel
theorem dR_in_6 : decode bR_in 6 = .ok (.iload_n 2, 1) := by decide +kernel
theorem dR_in_7 : decode bR_in 7 = .ok (.if_icmp .gt 7, 3) := by decide +kernel
theorem dR_in_10 : decode bR_in 10 = .ok (.iconst 1, 1) := by decide +kernel
theorem dR_in_11 : decode bR_in 11 = .ok (.goto 4, 3) := by decide +kernel
theorem dR_in_14 : decode bR_in 14 = .ok (.iconst 0, 1) := by decide +kernel
theorem dR_in_15 : decode bR_in 15 = .ok (.ireturn, 1) := by decide +kernel
theorem dR_is_0 : decode bR_is 0 = .ok (.iload_n 1, 1) := by decide +kernel
theorem dR_is_1 : decode bR_is 1 = .ok (.iconst 0, 1) := by decide +kernel
theorem dR_is_2 : decode bR_is 2 = .ok (.aload_n 0, 1) := by decide +kernel
theorem dR_is_3 : decode bR_is 3 = .ok (.getfield 42, 3) := by decide +kernel
theorem dR_is_6 : decode bR_is 6 = .ok (.iconst 1, 1) := by decide +kernel
theorem dR_is_7 : decode bR_is 7 = .ok (.isub, 1) := by decide +kernel
theorem dR_is_8 : decode bR_is 8 = .ok (.invokestatic 45, 3) := by decide +kernel
theorem dR_is_11 : decode bR_is 11 = .ok (.ireturn, 1) := by decide +kernel
theorem dR_good_0 : decode bR_good 0 = .ok (.aload_n 0, 1) := by decide +kernel
theorem dR_good_1 : decode bR_good 1 = .ok (.iload_n 1, 1) := by decide +kernel
theorem dR_good_2 : decode bR_good 2 = .ok (.ifCond .eq 7, 3) := by decide +kernel
theorem dR_good_5 : decode bR_good 5 = .ok (.iconst 0, 1) := by decide +kernel
theorem dR_good_6 : decode bR_good 6 = .ok (.goto 4, 3) := by decide +kernel
theorem dR_good_9 : decode bR_good 9 = .ok (.iconst 1, 1) := by decide +kernel
theorem dR_good_10 : decode bR_good 10 = .ok (.putfield 38, 3) := by decide +kernel
theorem dR_good_13 : decode bR_good 13 = .ok (.iload_n 1, 1) := by decide +kernel
theorem dR_good_14 : decode bR_good 14 = .ok (.ireturn, 1) := by decide +kernel
theorem dR_measure_0 : decode bR_measure 0 = .ok (.aload_n 0, 1) := by decide +kernel
theorem dR_measure_1 : decode bR_measure 1 = .ok (.iload_n 1, 1) := by decide +kernel
theorem dR_measure_2 : decode bR_measure 2 = .ok (.iconst 1, 1) := by decide +kernel
theorem dR_measure_3 : decode bR_measure 3 = .ok (.sipush 10000, 3) := by decide +kernel
theorem dR_measure_6 : decode bR_measure 6 = .ok (.invokestatic 45, 3) := by decide +kernel
theorem dR_measure_9 : decode bR_measure 9 = .ok (.ifCond .eq 18, 3) := by decide +kernel
theorem dR_measure_12 : decode bR_measure 12 = .ok (.iload_n 2, 1) := by decide +kernel
theorem dR_measure_13 : decode bR_measure 13 = .ok (.iconst 0, 1) := by decide +kernel
theorem dR_measure_14 : decode bR_measure 14 = .ok (.sipush 10000, 3) := by decide +kernel
theorem dR_measure_17 : decode bR_measure 17 = .ok (.invokestatic 45, 3) := by decide +kernel
theorem dR_measure_20 : decode bR_measure 20 = .ok (.ifCond .eq 7, 3) := by decide +kernel
theorem dR_measure_23 : decode bR_measure 23 = .ok (.iconst 1, 1) := by decide +kernel
theorem dR_measure_24 : decode bR_measure 24 = .ok (.goto 4, 3) := by decide +kernel
theorem dR_measure_27 : decode bR_measure 27 = .ok (.iconst 0, 1) := by decide +kernel
theorem dR_measure_28 : decode bR_measure 28 = .ok (.invokevirtual 49, 3) := by decide +kernel
theorem dR_measure_31 : decode bR_measure 31 = .ok (.ifCond .ne 5, 3) := by decide +kernel
theorem dR_measure_34 : decode bR_measure 34 = .ok (.iconst 0, 1) := by decide +kernel
theorem dR_measure_35 : decode bR_measure 35 = .ok (.ireturn, 1) := by decide +kernel
theorem dR_measure_36 : decode bR_measure 36 = .ok (.aload_n 0, 1) := by decide +kernel
theorem dR_measure_37 : decode bR_measure 37 = .ok (.getfield 42, 3) := by decide +kernel
theorem dR_measure_40 : decode bR_measure 40 = .ok (.bipush 12, 2) := by decide +kernel
theorem dR_measure_42 : decode bR_measure 42 = .ok (.if_icmp .ne 10, 3) := by decide +kernel
theorem dR_measure_45 : decode bR_measure 45 = .ok (.aload_n 0, 1) := by decide +kernel
theorem dR_measure_46 : decode bR_measure 46 = .ok (.iconst 2, 1) := by decide +kernel
theorem dR_measure_47 : decode bR_measure 47 = .ok (.putfield 38, 3) := by decide +kernel
theorem dR_measure_50 : decode bR_measure 50 = .ok (.iconst 0, 1) := by decide +kernel
theorem dR_measure_51 : decode bR_measure 51 = .ok (.ireturn, 1) := by decide +kernel
theorem dR_measure_52 : decode bR_measure 52 = .ok (.aload_n 0, 1) := by decide +kernel
theorem dR_measure_53 : decode bR_measure 53 = .ok (.getfield 7, 3) := by decide +kernel
theorem dR_measure_56 : decode bR_measure 56 = .ok (.aload_n 0, 1) := by decide +kernel
theorem dR_measure_57 : decode bR_measure 57 = .ok (.getfield 42, 3) := by decide +kernel
theorem dR_measure_60 : decode bR_measure 60 = .ok (.iload_n 1, 1) := by decide +kernel
theorem dR_measure_61 : decode bR_measure 61 = .ok (.iastore, 1) := by decide +kernel
theorem dR_measure_62 : decode bR_measure 62 = .ok (.aload_n 0, 1) := by decide +kernel
theorem dR_measure_63 : decode bR_measure 63 = .ok (.getfield 13, 3) := by decide +kernel
theorem dR_measure_66 : decode bR_measure 66 = .ok (.aload_n 0, 1) := by decide +kernel
theorem dR_measure_67 : decode bR_measure 67 = .ok (.getfield 42, 3) := by decide +kernel
theorem dR_measure_70 : decode bR_measure 70 = .ok (.iload_n 2, 1) := by decide +kernel
theorem dR_measure_71 : decode bR_measure 71 = .ok (.iastore, 1) := by decide +kernel
theorem dR_measure_72 : decode bR_measure 72 = .ok (.aload_n 0, 1) := by decide +kernel
theorem dR_measure_73 : decode bR_measure 73 = .ok (.dup, 1) := by decide +kernel
theorem dR_measure_74 : decode bR_measure 74 = .ok (.getfield 42, 3) := by decide +kernel
theorem dR_measure_77 : decode bR_measure 77 = .ok (.iconst 1, 1) := by decide +kernel
theorem dR_measure_78 : decode bR_measure 78 = .ok (.iadd, 1) := by decide +kernel
theorem dR_measure_79 : decode bR_measure 79 = .ok (.putfield 42, 3) := by decide +kernel
theorem dR_measure_82 : decode bR_measure 82 = .ok (.aload_n 0, 1) := by decide +kernel
theorem dR_measure_83 : decode bR_measure 83 = .ok (.getfield 42, 3) := by decide +kernel
theorem dR_measure_86 : decode bR_measure 86 = .ok (.iconst 1, 1) := by decide +kernel
theorem dR_measure_87 : decode bR_measure 87 = .ok (.isub, 1) := by decide +kernel
theorem dR_measure_88 : decode bR_measure 88 = .ok (.ireturn, 1) := by decide +kernel
theorem dR_change_0 : decode bR_change 0 = .ok (.aload_n 0, 1) := by decide +kernel
theorem dR_change_1 : decode bR_change 1 = .ok (.aload_n 0, 1) := by decide +kernel
theorem dR_change_2 : decode bR_change 2 = .ok (.iload_n 1, 1) := by decide +kernel
theorem dR_change_3 : decode bR_change 3 = .ok (.invokevirtual 53, 3) := by decide +kernel
theorem dR_change_6 : decode bR_change 6 = .ok (.ifCond .eq 29, 3) := by decide +kernel
theorem dR_change_9 : decode bR_change 9 = .ok (.iload_n 2, 1) := by decide +kernel
theorem dR_change_10 : decode bR_change 10 = .ok (.iconst 1, 1) := by decide +kernel
theorem dR_change_11 : decode bR_change 11 = .ok (.sipush 10000, 3) := by decide +kernel
theorem dR_change_14 : decode bR_change 14 = .ok (.invokestatic 45, 3) := by decide +kernel
theorem dR_change_17 : decode bR_change 17 = .ok (.ifCond .eq 18, 3) := by decide +kernel
theorem dR_change_20 : decode bR_change 20 = .ok (.iload_n 3, 1) := by decide +kernel
theorem dR_change_21 : decode bR_change 21 = .ok (.iconst 0, 1) := by decide +kernel
theorem dR_change_22 : decode bR_change 22 = .ok (.sipush 10000, 3) := by decide +kernel
theorem dR_change_25 : decode bR_change 25 = .ok (.invokestatic 45, 3) := by decide +kernel
theorem dR_change_28 : decode bR_change 28 = .ok (.ifCond .eq 7, 3) := by decide +kernel
theorem dR_change_31 : decode bR_change 31 = .ok (.iconst 1, 1) := by decide +kernel
theorem dR_change_32 : decode bR_change 32 = .ok (.goto 4, 3) := by decide +kernel
theorem dR_change_35 : decode bR_change 35 = .ok (.iconst 0, 1) := by decide +kernel
theorem dR_change_36 : decode bR_change 36 = .ok (.invokevirtual 49, 3) := by decide +kernel
theorem dR_change_39 : decode bR_change 39 = .ok (.ifCond .eq 17, 3) := by decide +kernel
theorem dR_change_42 : decode bR_change 42 = .ok (.aload_n 0, 1) := by decide +kernel
theorem dR_change_43 : decode bR_change 43 = .ok (.getfield 7, 3) := by decide +kernel
theorem dR_change_46 : decode bR_change 46 = .ok (.iload_n 1, 1) := by decide +kernel
theorem dR_change_47 : decode bR_change 47 = .ok (.iload_n 2, 1) := by decide +kernel
theorem dR_change_48 : decode bR_change 48 = .ok (.iastore, 1) := by decide +kernel
theorem dR_change_49 : decode bR_change 49 = .ok (.aload_n 0, 1) := by decide +kernel
theorem dR_change_50 : decode bR_change 50 = .ok (.getfield 13, 3) := by decide +kernel
theorem dR_change_53 : decode bR_change 53 = .ok (.iload_n 1, 1) := by decide +kernel
theorem dR_change_54 : decode bR_change 54 = .ok (.iload_n 3, 1) := by decide +kernel
theorem dR_change_55 : decode bR_change 55 = .ok (.iastore, 1) := by decide +kernel
theorem dR_change_56 : decode bR_change 56 = .ok (.return_, 1) := by decide +kernel
theorem dR_exclude_0 : decode bR_exclude 0 = .ok (.aload_n 0, 1) := by decide +kernel
theorem dR_exclude_1 : decode bR_exclude 1 = .ok (.aload_n 0, 1) := by decide +kernel
theorem dR_exclude_2 : decode bR_exclude 2 = .ok (.iload_n 1, 1) := by decide +kernel
theorem dR_exclude_3 : decode bR_exclude 3 = .ok (.invokevirtual 53, 3) := by decide +kernel
theorem dR_exclude_6 : decode bR_exclude 6 = .ok (.ifCond .eq 20, 3) := by decide +kernel
theorem dR_exclude_9 : decode bR_exclude 9 = .ok (.aload_n 0, 1) := by decide +kernel
theorem dR_exclude_10 : decode bR_exclude 10 = .ok (.iload_n 2, 1) := by decide +kernel
theorem dR_exclude_11 : decode bR_exclude 11 = .ok (.invokevirtual 53, 3) := by decide +kernel
theorem dR_exclude_14 : decode bR_exclude 14 = .ok (.ifCond .eq 12, 3) := by decide +kernel
theorem dR_exclude_17 : decode bR_exclude 17 = .ok (.iload_n 1, 1) := by decide +kernel
theorem dR_exclude_18 : decode bR_exclude 18 = .ok (.iload_n 2, 1) := by decide +kernel
theorem dR_exclude_19 : decode bR_exclude 19 = .ok (.if_icmp .eq 7, 3) := by decide +kernel
theorem dR_exclude_22 : decode bR_exclude 22 = .ok (.iconst 1, 1) := by decide +kernel
theorem dR_exclude_23 : decode bR_exclude 23 = .ok (.goto 4, 3) := by decide +kernel
theorem dR_exclude_26 : decode bR_exclude 26 = .ok (.iconst 0, 1) := by decide +kernel
theorem dR_exclude_27 : decode bR_exclude 27 = .ok (.invokevirtual 49, 3) := by decide +kernel
theorem dR_exclude_30 : decode bR_exclude 30 = .ok (.ifCond .ne 5, 3) := by decide +kernel
theorem dR_exclude_33 : decode bR_exclude 33 = .ok (.iconst 0, 1) := by decide +kernel
theorem dR_exclude_34 : decode bR_exclude 34 = .ok (.ireturn, 1) := by decide +kernel
theorem dR_exclude_35 : decode bR_exclude 35 = .ok (.aload_n 0, 1) := by decide +kernel
theorem dR_exclude_36 : decode bR_exclude 36 = .ok (.getfield 16, 3) := by decide +kernel
theorem dR_exclude_39 : decode bR_exclude 39 = .ok (.bipush 12, 2) := by decide +kernel
theorem dR_exclude_41 : decode bR_exclude 41 = .ok (.iload_n 1, 1) := by decide +kernel
theorem dR_exclude_42 : decode bR_exclude 42 = .ok (.imul, 1) := by decide +kernel
theorem dR_exclude_43 : decode bR_exclude 43 = .ok (.iload_n 2, 1) := by decide +kernel
theorem dR_exclude_44 : decode bR_exclude 44 = .ok (.iadd, 1) := by decide +kernel
theorem dR_exclude_45 : decode bR_exclude 45 = .ok (.baload, 1) := by decide +kernel
theorem dR_exclude_46 : decode bR_exclude 46 = .ok (.istore 4, 2) := by decide +kernel
theorem dR_exclude_48 : decode bR_exclude 48 = .ok (.aload_n 0, 1) := by decide +kernel
theorem dR_exclude_49 : decode bR_exclude 49 = .ok (.getfield 16, 3) := by decide +kernel
theorem dR_exclude_52 : decode bR_exclude 52 = .ok (.bipush 12, 2) := by decide +kernel
theorem dR_exclude_54 : decode bR_exclude 54 = .ok (.iload_n 1, 1) := by decide +kernel
theorem dR_exclude_55 : decode bR_exclude 55 = .ok (.imul, 1) := by decide +kernel
theorem dR_exclude_56 : decode bR_exclude 56 = .ok (.iload_n 2, 1) := by decide +kernel
theorem dR_exclude_57 : decode bR_exclude 57 = .ok (.iadd, 1) := by decide +kernel
theorem dR_exclude_58 : decode bR_exclude 58 = .ok (.iload_n 3, 1) := by decide +kernel
theorem dR_exclude_59 : decode bR_exclude 59 = .ok (.bastore, 1) := by decide +kernel
theorem dR_exclude_60 : decode bR_exclude 60 = .ok (.aload_n 0, 1) := by decide +kernel
theorem dR_exclude_61 : decode bR_exclude 61 = .ok (.getfield 16, 3) := by decide +kernel
theorem dR_exclude_64 : decode bR_exclude 64 = .ok (.bipush 12, 2) := by decide +kernel
theorem dR_exclude_66 : decode bR_exclude 66 = .ok (.iload_n 2, 1) := by decide +kernel
theorem dR_exclude_67 : decode bR_exclude 67 = .ok (.imul, 1) := by decide +kernel
theorem dR_exclude_68 : decode bR_exclude 68 = .ok (.iload_n 1, 1) := by decide +kernel
theorem dR_exclude_69 : decode bR_exclude 69 = .ok (.iadd, 1) := by decide +kernel
theorem dR_exclude_70 : decode bR_exclude 70 = .ok (.iload_n 3, 1) := by decide +kernel
theorem dR_exclude_71 : decode bR_exclude 71 = .ok (.bastore, 1) := by decide +kernel
theorem dR_exclude_72 : decode bR_exclude 72 = .ok (.iload 4, 2) := by decide +kernel
theorem dR_exclude_74 : decode bR_exclude 74 = .ok (.ireturn, 1) := by decide +kernel
theorem dR_needs_0 : decode bR_needs 0 = .ok (.aload_n 0, 1) := by decide +kernel
theorem dR_needs_1 : decode bR_needs 1 = .ok (.aload_n 0, 1) := by decide +kernel
theorem dR_needs_2 : decode bR_needs 2 = .ok (.iload_n 1, 1) := by decide +kernel
theorem dR_needs_3 : decode bR_needs 3 = .ok (.invokevirtual 53, 3) := by decide +kernel
theorem dR_needs_6 : decode bR_needs 6 = .ok (.ifCond .eq 20, 3) := by decide +kernel
theorem dR_needs_9 : decode bR_needs 9 = .ok (.aload_n 0, 1) := by decide +kernel
theorem dR_needs_10 : decode bR_needs 10 = .ok (.iload_n 2, 1) := by decide +kernel
theorem dR_needs_11 : decode bR_needs 11 = .ok (.invokevirtual 53, 3) := by decide +kernel
theorem dR_needs_14 : decode bR_needs 14 = .ok (.ifCond .eq 12, 3) := by decide +kernel
theorem dR_needs_17 : decode bR_needs 17 = .ok (.iload_n 1, 1) := by decide +kernel
theorem dR_needs_18 : decode bR_needs 18 = .ok (.iload_n 2, 1) := by decide +kernel
theorem dR_needs_19 : decode bR_needs 19 = .ok (.if_icmp .eq 7, 3) := by decide +kernel
theorem dR_needs_22 : decode bR_needs 22 = .ok (.iconst 1, 1) := by decide +kernel
theorem dR_needs_23 : decode bR_needs 23 = .ok (.goto 4, 3) := by decide +kernel
theorem dR_needs_26 : decode bR_needs 26 = .ok (.iconst 0, 1) := by decide +kernel
theorem dR_needs_27 : decode bR_needs 27 = .ok (.invokevirtual 49, 3) := by decide +kernel
theorem dR_needs_30 : decode bR_needs 30 = .ok (.ifCond .ne 5, 3) := by decide +kernel
theorem dR_needs_33 : decode bR_needs 33 = .ok (.iconst 0, 1) := by decide +kernel
theorem dR_needs_34 : decode bR_needs 34 = .ok (.ireturn, 1) := by decide +kernel
theorem dR_needs_35 : decode bR_needs 35 = .ok (.aload_n 0, 1) := by decide +kernel
theorem dR_needs_36 : decode bR_needs 36 = .ok (.getfield 20, 3) := by decide +kernel
theorem dR_needs_39 : decode bR_needs 39 = .ok (.bipush 12, 2) := by decide +kernel
theorem dR_needs_41 : decode bR_needs 41 = .ok (.iload_n 1, 1) := by decide +kernel
theorem dR_needs_42 : decode bR_needs 42 = .ok (.imul, 1) := by decide +kernel
theorem dR_needs_43 : decode bR_needs 43 = .ok (.iload_n 2, 1) := by decide +kernel
theorem dR_needs_44 : decode bR_needs 44 = .ok (.iadd, 1) := by decide +kernel
theorem dR_needs_45 : decode bR_needs 45 = .ok (.baload, 1) := by decide +kernel
theorem dR_needs_46 : decode bR_needs 46 = .ok (.istore 4, 2) := by decide +kernel
theorem dR_needs_48 : decode bR_needs 48 = .ok (.aload_n 0, 1) := by decide +kernel
theorem dR_needs_49 : decode bR_needs 49 = .ok (.getfield 20, 3) := by decide +kernel
theorem dR_needs_52 : decode bR_needs 52 = .ok (.bipush 12, 2) := by decide +kernel
theorem dR_needs_54 : decode bR_needs 54 = .ok (.iload_n 1, 1) := by decide +kernel
theorem dR_needs_55 : decode bR_needs 55 = .ok (.imul, 1) := by decide +kernel
theorem dR_needs_56 : decode bR_needs 56 = .ok (.iload_n 2, 1) := by decide +kernel
theorem dR_needs_57 : decode bR_needs 57 = .ok (.iadd, 1) := by decide +kernel
theorem dR_needs_58 : decode bR_needs 58 = .ok (.iload_n 3, 1) := by decide +kernel
theorem dR_needs_59 : decode bR_needs 59 = .ok (.bastore, 1) := by decide +kernel
theorem dR_needs_60 : decode bR_needs 60 = .ok (.iload 4, 2) := by decide +kernel
theorem dR_needs_62 : decode bR_needs 62 = .ok (.ireturn, 1) := by decide +kernel
theorem dR_bonus_0 : decode bR_bonus 0 = .ok (.aload_n 0, 1) := by decide +kernel
theorem dR_bonus_1 : decode bR_bonus 1 = .ok (.aload_n 0, 1) := by decide +kernel
theorem dR_bonus_2 : decode bR_bonus 2 = .ok (.iload_n 1, 1) := by decide +kernel
theorem dR_bonus_3 : decode bR_bonus 3 = .ok (.invokevirtual 53, 3) := by decide +kernel
theorem dR_bonus_6 : decode bR_bonus 6 = .ok (.ifCond .eq 33, 3) := by decide +kernel
theorem dR_bonus_9 : decode bR_bonus 9 = .ok (.aload_n 0, 1) := by decide +kernel
theorem dR_bonus_10 : decode bR_bonus 10 = .ok (.iload_n 2, 1) := by decide +kernel
theorem dR_bonus_11 : decode bR_bonus 11 = .ok (.invokevirtual 53, 3) := by decide +kernel
theorem dR_bonus_14 : decode bR_bonus 14 = .ok (.ifCond .eq 25, 3) := by decide +kernel
theorem dR_bonus_17 : decode bR_bonus 17 = .ok (.iload_n 1, 1) := by decide +kernel
theorem dR_bonus_18 : decode bR_bonus 18 = .ok (.iload_n 2, 1) := by decide +kernel
theorem dR_bonus_19 : decode bR_bonus 19 = .ok (.if_icmp .eq 20, 3) := by decide +kernel
theorem dR_bonus_22 : decode bR_bonus 22 = .ok (.iload_n 3, 1) := by decide +kernel
theorem dR_bonus_23 : decode bR_bonus 23 = .ok (.sipush (-5000), 3) := by decide +kernel
theorem dR_bonus_26 : decode bR_bonus 26 = .ok (.sipush 5000, 3) := by decide +kernel
theorem dR_bonus_29 : decode bR_bonus 29 = .ok (.invokestatic 45, 3) := by decide +kernel
theorem dR_bonus_32 : decode bR_bonus 32 = .ok (.ifCond .eq 7, 3) := by decide +kernel
theorem dR_bonus_35 : decode bR_bonus 35 = .ok (.iconst 1, 1) := by decide +kernel
theorem dR_bonus_36 : decode bR_bonus 36 = .ok (.goto 4, 3) := by decide +kernel
theorem dR_bonus_39 : decode bR_bonus 39 = .ok (.iconst 0, 1) := by decide +kernel
theorem dR_bonus_40 : decode bR_bonus 40 = .ok (.invokevirtual 49, 3) := by decide +kernel
theorem dR_bonus_43 : decode bR_bonus 43 = .ok (.ifCond .ne 5, 3) := by decide +kernel
theorem dR_bonus_46 : decode bR_bonus 46 = .ok (.iconst 0, 1) := by decide +kernel
theorem dR_bonus_47 : decode bR_bonus 47 = .ok (.ireturn, 1) := by decide +kernel
theorem dR_bonus_48 : decode bR_bonus 48 = .ok (.aload_n 0, 1) := by decide +kernel
theorem dR_bonus_49 : decode bR_bonus 49 = .ok (.getfield 23, 3) := by decide +kernel
theorem dR_bonus_52 : decode bR_bonus 52 = .ok (.bipush 12, 2) := by decide +kernel
theorem dR_bonus_54 : decode bR_bonus 54 = .ok (.iload_n 1, 1) := by decide +kernel
theorem dR_bonus_55 : decode bR_bonus 55 = .ok (.imul, 1) := by decide +kernel
theorem dR_bonus_56 : decode bR_bonus 56 = .ok (.iload_n 2, 1) := by decide +kernel
theorem dR_bonus_57 : decode bR_bonus 57 = .ok (.iadd, 1) := by decide +kernel
theorem dR_bonus_58 : decode bR_bonus 58 = .ok (.iaload, 1) := by decide +kernel
theorem dR_bonus_59 : decode bR_bonus 59 = .ok (.istore 4, 2) := by decide +kernel
theorem dR_bonus_61 : decode bR_bonus 61 = .ok (.aload_n 0, 1) := by decide +kernel
theorem dR_bonus_62 : decode bR_bonus 62 = .ok (.getfield 23, 3) := by decide +kernel
theorem dR_bonus_65 : decode bR_bonus 65 = .ok (.bipush 12, 2) := by decide +kernel
theorem dR_bonus_67 : decode bR_bonus 67 = .ok (.iload_n 1, 1) := by decide +kernel
theorem dR_bonus_68 : decode bR_bonus 68 = .ok (.imul, 1) := by decide +kernel
theorem dR_bonus_69 : decode bR_bonus 69 = .ok (.iload_n 2, 1) := by decide +kernel
theorem dR_bonus_70 : decode bR_bonus 70 = .ok (.iadd, 1) := by decide +kernel
theorem dR_bonus_71 : decode bR_bonus 71 = .ok (.iload_n 3, 1) := by decide +kernel
theorem dR_bonus_72 : decode bR_bonus 72 = .ok (.iastore, 1) := by decide +kernel
theorem dR_bonus_73 : decode bR_bonus 73 = .ok (.aload_n 0, 1) := by decide +kernel
theorem dR_bonus_74 : decode bR_bonus 74 = .ok (.getfield 23, 3) := by decide +kernel
theorem dR_bonus_77 : decode bR_bonus 77 = .ok (.bipush 12, 2) := by decide +kernel
theorem dR_bonus_79 : decode bR_bonus 79 = .ok (.iload_n 2, 1) := by decide +kernel
theorem dR_bonus_80 : decode bR_bonus 80 = .ok (.imul, 1) := by decide +kernel
theorem dR_bonus_81 : decode bR_bonus 81 = .ok (.iload_n 1, 1) := by decide +kernel
theorem dR_bonus_82 : decode bR_bonus 82 = .ok (.iadd, 1) := by decide +kernel
theorem dR_bonus_83 : decode bR_bonus 83 = .ok (.iload_n 3, 1) := by decide +kernel
theorem dR_bonus_84 : decode bR_bonus 84 = .ok (.iastore, 1) := by decide +kernel
theorem dR_bonus_85 : decode bR_bonus 85 = .ok (.iload 4, 2) := by decide +kernel
theorem dR_bonus_87 : decode bR_bonus 87 = .ok (.ireturn, 1) := by decide +kernel
theorem dR_has_0 : decode bR_has 0 = .ok (.iload_n 0, 1) := by decide +kernel
theorem dR_has_1 : decode bR_has 1 = .ok (.iload_n 1, 1) := by decide +kernel
theorem dR_has_2 : decode bR_has 2 = .ok (.ishr, 1) := by decide +kernel
theorem dR_has_3 : decode bR_has 3 = .ok (.iconst 1, 1) := by decide +kernel
theorem dR_has_4 : decode bR_has 4 = .ok (.iand, 1) := by decide +kernel
theorem dR_has_5 : decode bR_has 5 = .ok (.iconst 1, 1) := by decide +kernel
theorem dR_has_6 : decode bR_has 6 = .ok (.if_icmp .ne 7, 3) := by decide +kernel
theorem dR_has_9 : decode bR_has 9 = .ok (.iconst 1, 1) := by decide +kernel
theorem dR_has_10 : decode bR_has 10 = .ok (.goto 4, 3) := by decide +kernel
theorem dR_has_13 : decode bR_has 13 = .ok (.iconst 0, 1) := by decide +kernel
theorem dR_has_14 : decode bR_has 14 = .ok (.ireturn, 1) := by decide +kernel
theorem dR_isSet_0 : decode bR_isSet 0 = .ok (.iload_n 1, 1) := by decide +kernel
theorem dR_isSet_1 : decode bR_isSet 1 = .ok (.ifCond .lt 16, 3) := by decide +kernel
theorem dR_isSet_4 : decode bR_isSet 4 = .ok (.iload_n 1, 1) := by decide +kernel
theorem dR_isSet_5 : decode bR_isSet 5 = .ok (.aload_n 0, 1) := by decide +kernel
theorem dR_isSet_6 : decode bR_isSet 6 = .ok (.getfield 42, 3) := by decide +kernel
theorem dR_isSet_9 : decode bR_isSet 9 = .ok (.ishr, 1) := by decide +kernel
theorem dR_isSet_10 : decode bR_isSet 10 = .ok (.ifCond .ne 7, 3) := by decide +kernel
theorem dR_isSet_13 : decode bR_isSet 13 = .ok (.iconst 1, 1) := by decide +kernel
theorem dR_isSet_14 : decode bR_isSet 14 = .ok (.goto 4, 3) := by decide +kernel
theorem dR_isSet_17 : decode bR_isSet 17 = .ok (.iconst 0, 1) := by decide +kernel
theorem dR_isSet_18 : decode bR_isSet 18 = .ok (.ireturn, 1) := by decide +kernel
theorem dR_holds_0 : decode bR_holds 0 = .ok (.iconst 1, 1) := by decide +kernel
theorem dR_holds_1 : decode bR_holds 1 = .ok (.istore_n 2, 1) := by decide +kernel
theorem dR_holds_2 : decode bR_holds 2 = .ok (.iconst 0, 1) := by decide +kernel
theorem dR_holds_3 : decode bR_holds 3 = .ok (.istore_n 3, 1) := by decide +kernel
theorem dR_holds_4 : decode bR_holds 4 = .ok (.iload_n 3, 1) := by decide +kernel
theorem dR_holds_5 : decode bR_holds 5 = .ok (.aload_n 0, 1) := by decide +kernel
theorem dR_holds_6 : decode bR_holds 6 = .ok (.getfield 42, 3) := by decide +kernel
theorem dR_holds_9 : decode bR_holds 9 = .ok (.if_icmp .ge 93, 3) := by decide +kernel
theorem dR_holds_12 : decode bR_holds 12 = .ok (.iconst 0, 1) := by decide +kernel
theorem dR_holds_13 : decode bR_holds 13 = .ok (.istore 4, 2) := by decide +kernel
theorem dR_holds_15 : decode bR_holds 15 = .ok (.iload 4, 2) := by decide +kernel
theorem dR_holds_17 : decode bR_holds 17 = .ok (.aload_n 0, 1) := by decide +kernel
theorem dR_holds_18 : decode bR_holds 18 = .ok (.getfield 42, 3) := by decide +kernel
theorem dR_holds_21 : decode bR_holds 21 = .ok (.if_icmp .ge 75, 3) := by decide +kernel
theorem dR_holds_24 : decode bR_holds 24 = .ok (.iload_n 1, 1) := by decide +kernel
theorem dR_holds_25 : decode bR_holds 25 = .ok (.iload_n 3, 1) := by decide +kernel
theorem dR_holds_26 : decode bR_holds 26 = .ok (.invokestatic 57, 3) := by decide +kernel
theorem dR_holds_29 : decode bR_holds 29 = .ok (.ifCond .eq 67, 3) := by decide +kernel
theorem dR_holds_32 : decode bR_holds 32 = .ok (.iload_n 2, 1) := by decide +kernel
theorem dR_holds_33 : decode bR_holds 33 = .ok (.ifCond .eq 55, 3) := by decide +kernel
theorem dR_holds_36 : decode bR_holds 36 = .ok (.iload_n 1, 1) := by decide +kernel
theorem dR_holds_37 : decode bR_holds 37 = .ok (.iload 4, 2) := by decide +kernel
theorem dR_holds_39 : decode bR_holds 39 = .ok (.invokestatic 57, 3) := by decide +kernel
theorem dR_holds_42 : decode bR_holds 42 = .ok (.ifCond .eq 18, 3) := by decide +kernel
theorem dR_holds_45 : decode bR_holds 45 = .ok (.aload_n 0, 1) := by decide +kernel
theorem dR_holds_46 : decode bR_holds 46 = .ok (.getfield 16, 3) := by decide +kernel
theorem dR_holds_49 : decode bR_holds 49 = .ok (.bipush 12, 2) := by decide +kernel
theorem dR_holds_51 : decode bR_holds 51 = .ok (.iload_n 3, 1) := by decide +kernel
theorem dR_holds_52 : decode bR_holds 52 = .ok (.imul, 1) := by decide +kernel
theorem dR_holds_53 : decode bR_holds 53 = .ok (.iload 4, 2) := by decide +kernel
theorem dR_holds_55 : decode bR_holds 55 = .ok (.iadd, 1) := by decide +kernel
theorem dR_holds_56 : decode bR_holds 56 = .ok (.baload, 1) := by decide +kernel
theorem dR_holds_57 : decode bR_holds 57 = .ok (.ifCond .ne 31, 3) := by decide +kernel
theorem dR_holds_60 : decode bR_holds 60 = .ok (.iload_n 1, 1) := by decide +kernel
theorem dR_holds_61 : decode bR_holds 61 = .ok (.iload 4, 2) := by decide +kernel
theorem dR_holds_63 : decode bR_holds 63 = .ok (.invokestatic 57, 3) := by decide +kernel
theorem dR_holds_66 : decode bR_holds 66 = .ok (.ifCond .ne 18, 3) := by decide +kernel
theorem dR_holds_69 : decode bR_holds 69 = .ok (.aload_n 0, 1) := by decide +kernel
theorem dR_holds_70 : decode bR_holds 70 = .ok (.getfield 20, 3) := by decide +kernel
theorem dR_holds_73 : decode bR_holds 73 = .ok (.bipush 12, 2) := by decide +kernel
theorem dR_holds_75 : decode bR_holds 75 = .ok (.iload_n 3, 1) := by decide +kernel
theorem dR_holds_76 : decode bR_holds 76 = .ok (.imul, 1) := by decide +kernel
theorem dR_holds_77 : decode bR_holds 77 = .ok (.iload 4, 2) := by decide +kernel
theorem dR_holds_79 : decode bR_holds 79 = .ok (.iadd, 1) := by decide +kernel
theorem dR_holds_80 : decode bR_holds 80 = .ok (.baload, 1) := by decide +kernel
theorem dR_holds_81 : decode bR_holds 81 = .ok (.ifCond .ne 7, 3) := by decide +kernel
theorem dR_holds_84 : decode bR_holds 84 = .ok (.iconst 1, 1) := by decide +kernel
theorem dR_holds_85 : decode bR_holds 85 = .ok (.goto 4, 3) := by decide +kernel
theorem dR_holds_88 : decode bR_holds 88 = .ok (.iconst 0, 1) := by decide +kernel
theorem dR_holds_89 : decode bR_holds 89 = .ok (.istore_n 2, 1) := by decide +kernel
theorem dR_holds_90 : decode bR_holds 90 = .ok (.iinc 4 1, 3) := by decide +kernel
theorem dR_holds_93 : decode bR_holds 93 = .ok (.goto (-78), 3) := by decide +kernel
theorem dR_holds_96 : decode bR_holds 96 = .ok (.iinc 3 1, 3) := by decide +kernel
theorem dR_holds_99 : decode bR_holds 99 = .ok (.goto (-95), 3) := by decide +kernel
theorem dR_holds_102 : decode bR_holds 102 = .ok (.iload_n 2, 1) := by decide +kernel
theorem dR_holds_103 : decode bR_holds 103 = .ok (.ireturn, 1) := by decide +kernel
theorem dR_costOf_0 : decode bR_costOf 0 = .ok (.iconst 0, 1) := by decide +kernel
theorem dR_costOf_1 : decode bR_costOf 1 = .ok (.istore_n 2, 1) := by decide +kernel
theorem dR_costOf_2 : decode bR_costOf 2 = .ok (.iconst 0, 1) := by decide +kernel
theorem dR_costOf_3 : decode bR_costOf 3 = .ok (.istore_n 3, 1) := by decide +kernel
theorem dR_costOf_4 : decode bR_costOf 4 = .ok (.iload_n 3, 1) := by decide +kernel
theorem dR_costOf_5 : decode bR_costOf 5 = .ok (.aload_n 0, 1) := by decide +kernel
theorem dR_costOf_6 : decode bR_costOf 6 = .ok (.getfield 42, 3) := by decide +kernel
theorem dR_costOf_9 : decode bR_costOf 9 = .ok (.if_icmp .ge 30, 3) := by decide +kernel
theorem dR_costOf_12 : decode bR_costOf 12 = .ok (.iload_n 2, 1) := by decide +kernel
theorem dR_costOf_13 : decode bR_costOf 13 = .ok (.iload_n 1, 1) := by decide +kernel
theorem dR_costOf_14 : decode bR_costOf 14 = .ok (.iload_n 3, 1) := by decide +kernel
theorem dR_costOf_15 : decode bR_costOf 15 = .ok (.invokestatic 57, 3) := by decide +kernel
theorem dR_costOf_18 : decode bR_costOf 18 = .ok (.ifCond .eq 12, 3) := by decide +kernel
theorem dR_costOf_21 : decode bR_costOf 21 = .ok (.aload_n 0, 1) := by decide +kernel
theorem dR_costOf_22 : decode bR_costOf 22 = .ok (.getfield 7, 3) := by decide +kernel
theorem dR_costOf_25 : decode bR_costOf 25 = .ok (.iload_n 3, 1) := by decide +kernel
theorem dR_costOf_26 : decode bR_costOf 26 = .ok (.iaload, 1) := by decide +kernel
theorem dR_costOf_27 : decode bR_costOf 27 = .ok (.goto 4, 3) := by decide +kernel
theorem dR_costOf_30 : decode bR_costOf 30 = .ok (.iconst 0, 1) := by decide +kernel
theorem dR_costOf_31 : decode bR_costOf 31 = .ok (.iadd, 1) := by decide +kernel
theorem dR_costOf_32 : decode bR_costOf 32 = .ok (.istore_n 2, 1) := by decide +kernel
theorem dR_costOf_33 : decode bR_costOf 33 = .ok (.iinc 3 1, 3) := by decide +kernel
theorem dR_costOf_36 : decode bR_costOf 36 = .ok (.goto (-32), 3) := by decide +kernel
theorem dR_costOf_39 : decode bR_costOf 39 = .ok (.iload_n 2, 1) := by decide +kernel
theorem dR_costOf_40 : decode bR_costOf 40 = .ok (.ireturn, 1) := by decide +kernel
theorem dR_gainOf_0 : decode bR_gainOf 0 = .ok (.iconst 0, 1) := by decide +kernel
theorem dR_gainOf_1 : decode bR_gainOf 1 = .ok (.istore_n 2, 1) := by decide +kernel
theorem dR_gainOf_2 : decode bR_gainOf 2 = .ok (.iconst 0, 1) := by decide +kernel
theorem dR_gainOf_3 : decode bR_gainOf 3 = .ok (.istore_n 3, 1) := by decide +kernel
theorem dR_gainOf_4 : decode bR_gainOf 4 = .ok (.iload_n 3, 1) := by decide +kernel
theorem dR_gainOf_5 : decode bR_gainOf 5 = .ok (.aload_n 0, 1) := by decide +kernel
theorem dR_gainOf_6 : decode bR_gainOf 6 = .ok (.getfield 42, 3) := by decide +kernel
theorem dR_gainOf_9 : decode bR_gainOf 9 = .ok (.if_icmp .ge 81, 3) := by decide +kernel
theorem dR_gainOf_12 : decode bR_gainOf 12 = .ok (.iload_n 2, 1) := by decide +kernel
theorem dR_gainOf_13 : decode bR_gainOf 13 = .ok (.iload_n 1, 1) := by decide +kernel
theorem dR_gainOf_14 : decode bR_gainOf 14 = .ok (.iload_n 3, 1) := by decide +kernel
theorem dR_gainOf_15 : decode bR_gainOf 15 = .ok (.invokestatic 57, 3) := by decide +kernel
theorem dR_gainOf_18 : decode bR_gainOf 18 = .ok (.ifCond .eq 12, 3) := by decide +kernel
theorem dR_gainOf_21 : decode bR_gainOf 21 = .ok (.aload_n 0, 1) := by decide +kernel
theorem dR_gainOf_22 : decode bR_gainOf 22 = .ok (.getfield 13, 3) := by decide +kernel
theorem dR_gainOf_25 : decode bR_gainOf 25 = .ok (.iload_n 3, 1) := by decide +kernel
theorem dR_gainOf_26 : decode bR_gainOf 26 = .ok (.iaload, 1) := by decide +kernel
theorem dR_gainOf_27 : decode bR_gainOf 27 = .ok (.goto 4, 3) := by decide +kernel
theorem dR_gainOf_30 : decode bR_gainOf 30 = .ok (.iconst 0, 1) := by decide +kernel
theorem dR_gainOf_31 : decode bR_gainOf 31 = .ok (.iadd, 1) := by decide +kernel
theorem dR_gainOf_32 : decode bR_gainOf 32 = .ok (.istore_n 2, 1) := by decide +kernel
theorem dR_gainOf_33 : decode bR_gainOf 33 = .ok (.iconst 0, 1) := by decide +kernel
theorem dR_gainOf_34 : decode bR_gainOf 34 = .ok (.istore 4, 2) := by decide +kernel
theorem dR_gainOf_36 : decode bR_gainOf 36 = .ok (.iload 4, 2) := by decide +kernel
theorem dR_gainOf_38 : decode bR_gainOf 38 = .ok (.iload_n 3, 1) := by decide +kernel
theorem dR_gainOf_39 : decode bR_gainOf 39 = .ok (.if_icmp .ge 45, 3) := by decide +kernel
theorem dR_gainOf_42 : decode bR_gainOf 42 = .ok (.iload_n 2, 1) := by decide +kernel
theorem dR_gainOf_43 : decode bR_gainOf 43 = .ok (.iload_n 1, 1) := by decide +kernel
theorem dR_gainOf_44 : decode bR_gainOf 44 = .ok (.iload_n 3, 1) := by decide +kernel
theorem dR_gainOf_45 : decode bR_gainOf 45 = .ok (.invokestatic 57, 3) := by decide +kernel
theorem dR_gainOf_48 : decode bR_gainOf 48 = .ok (.ifCond .eq 27, 3) := by decide +kernel
theorem dR_gainOf_51 : decode bR_gainOf 51 = .ok (.iload_n 1, 1) := by decide +kernel
theorem dR_gainOf_52 : decode bR_gainOf 52 = .ok (.iload 4, 2) := by decide +kernel
theorem dR_gainOf_54 : decode bR_gainOf 54 = .ok (.invokestatic 57, 3) := by decide +kernel
theorem dR_gainOf_57 : decode bR_gainOf 57 = .ok (.ifCond .eq 18, 3) := by decide +kernel
theorem dR_gainOf_60 : decode bR_gainOf 60 = .ok (.aload_n 0, 1) := by decide +kernel
theorem dR_gainOf_61 : decode bR_gainOf 61 = .ok (.getfield 23, 3) := by decide +kernel
theorem dR_gainOf_64 : decode bR_gainOf 64 = .ok (.bipush 12, 2) := by decide +kernel
theorem dR_gainOf_66 : decode bR_gainOf 66 = .ok (.iload_n 3, 1) := by decide +kernel
theorem dR_gainOf_67 : decode bR_gainOf 67 = .ok (.imul, 1) := by decide +kernel
theorem dR_gainOf_68 : decode bR_gainOf 68 = .ok (.iload 4, 2) := by decide +kernel
theorem dR_gainOf_70 : decode bR_gainOf 70 = .ok (.iadd, 1) := by decide +kernel
theorem dR_gainOf_71 : decode bR_gainOf 71 = .ok (.iaload, 1) := by decide +kernel
theorem dR_gainOf_72 : decode bR_gainOf 72 = .ok (.goto 4, 3) := by decide +kernel
theorem dR_gainOf_75 : decode bR_gainOf 75 = .ok (.iconst 0, 1) := by decide +kernel
theorem dR_gainOf_76 : decode bR_gainOf 76 = .ok (.iadd, 1) := by decide +kernel
theorem dR_gainOf_77 : decode bR_gainOf 77 = .ok (.istore_n 2, 1) := by decide +kernel
theorem dR_gainOf_78 : decode bR_gainOf 78 = .ok (.iinc 4 1, 3) := by decide +kernel
theorem dR_gainOf_81 : decode bR_gainOf 81 = .ok (.goto (-45), 3) := by decide +kernel
theorem dR_gainOf_84 : decode bR_gainOf 84 = .ok (.iinc 3 1, 3) := by decide +kernel
theorem dR_gainOf_87 : decode bR_gainOf 87 = .ok (.goto (-83), 3) := by decide +kernel
theorem dR_gainOf_90 : decode bR_gainOf 90 = .ok (.iload_n 2, 1) := by decide +kernel
theorem dR_gainOf_91 : decode bR_gainOf 91 = .ok (.ireturn, 1) := by decide +kernel
theorem dR_lawful_0 : decode bR_lawful 0 = .ok (.aload_n 0, 1) := by decide +kernel
theorem dR_lawful_1 : decode bR_lawful 1 = .ok (.aload_n 0, 1) := by decide +kernel
theorem dR_lawful_2 : decode bR_lawful 2 = .ok (.iload_n 1, 1) := by decide +kernel
theorem dR_lawful_3 : decode bR_lawful 3 = .ok (.invokevirtual 61, 3) := by decide +kernel
theorem dR_lawful_6 : decode bR_lawful 6 = .ok (.invokevirtual 49, 3) := by decide +kernel
theorem dR_lawful_9 : decode bR_lawful 9 = .ok (.ifCond .eq 15, 3) := by decide +kernel
theorem dR_lawful_12 : decode bR_lawful 12 = .ok (.aload_n 0, 1) := by decide +kernel
theorem dR_lawful_13 : decode bR_lawful 13 = .ok (.iload_n 1, 1) := by decide +kernel
theorem dR_lawful_14 : decode bR_lawful 14 = .ok (.invokevirtual 64, 3) := by decide +kernel
theorem dR_lawful_17 : decode bR_lawful 17 = .ok (.ifCond .eq 7, 3) := by decide +kernel
theorem dR_lawful_20 : decode bR_lawful 20 = .ok (.iconst 1, 1) := by decide +kernel
theorem dR_lawful_21 : decode bR_lawful 21 = .ok (.goto 4, 3) := by decide +kernel
theorem dR_lawful_24 : decode bR_lawful 24 = .ok (.iconst 0, 1) := by decide +kernel
theorem dR_lawful_25 : decode bR_lawful 25 = .ok (.ireturn, 1) := by decide +kernel
theorem dR_told_0 : decode bR_told 0 = .ok (.aload_n 0, 1) := by decide +kernel
theorem dR_told_1 : decode bR_told 1 = .ok (.aload_n 0, 1) := by decide +kernel
theorem dR_told_2 : decode bR_told 2 = .ok (.iload_n 1, 1) := by decide +kernel
theorem dR_told_3 : decode bR_told 3 = .ok (.invokevirtual 61, 3) := by decide +kernel
theorem dR_told_6 : decode bR_told 6 = .ok (.ifCond .eq 16, 3) := by decide +kernel
theorem dR_told_9 : decode bR_told 9 = .ok (.iload_n 2, 1) := by decide +kernel
theorem dR_told_10 : decode bR_told 10 = .ok (.iconst 0, 1) := by decide +kernel
theorem dR_told_11 : decode bR_told 11 = .ok (.iconst 1, 1) := by decide +kernel
theorem dR_told_12 : decode bR_told 12 = .ok (.invokestatic 45, 3) := by decide +kernel
theorem dR_told_15 : decode bR_told 15 = .ok (.ifCond .eq 7, 3) := by decide +kernel
theorem dR_told_18 : decode bR_told 18 = .ok (.iconst 1, 1) := by decide +kernel
theorem dR_told_19 : decode bR_told 19 = .ok (.goto 4, 3) := by decide +kernel
theorem dR_told_22 : decode bR_told 22 = .ok (.iconst 0, 1) := by decide +kernel
theorem dR_told_23 : decode bR_told 23 = .ok (.invokevirtual 49, 3) := by decide +kernel
theorem dR_told_26 : decode bR_told 26 = .ok (.ifCond .ne 5, 3) := by decide +kernel
theorem dR_told_29 : decode bR_told 29 = .ok (.iconst 0, 1) := by decide +kernel
theorem dR_told_30 : decode bR_told 30 = .ok (.ireturn, 1) := by decide +kernel
theorem dR_told_31 : decode bR_told 31 = .ok (.iload_n 2, 1) := by decide +kernel
theorem dR_told_32 : decode bR_told 32 = .ok (.ifCond .ne 11, 3) := by decide +kernel
theorem dR_told_35 : decode bR_told 35 = .ok (.aload_n 0, 1) := by decide +kernel
theorem dR_told_36 : decode bR_told 36 = .ok (.iload_n 1, 1) := by decide +kernel
theorem dR_told_37 : decode bR_told 37 = .ok (.invokevirtual 67, 3) := by decide +kernel
theorem dR_told_40 : decode bR_told 40 = .ok (.goto 8, 3) := by decide +kernel
theorem dR_told_43 : decode bR_told 43 = .ok (.aload_n 0, 1) := by decide +kernel
theorem dR_told_44 : decode bR_told 44 = .ok (.iload_n 1, 1) := by decide +kernel
theorem dR_told_45 : decode bR_told 45 = .ok (.invokevirtual 71, 3) := by decide +kernel
theorem dR_told_48 : decode bR_told 48 = .ok (.ireturn, 1) := by decide +kernel
theorem dR_closure_0 : decode bR_closure 0 = .ok (.aload_n 0, 1) := by decide +kernel
theorem dR_closure_1 : decode bR_closure 1 = .ok (.aload_n 0, 1) := by decide +kernel
theorem dR_closure_2 : decode bR_closure 2 = .ok (.iload_n 1, 1) := by decide +kernel
theorem dR_closure_3 : decode bR_closure 3 = .ok (.invokevirtual 53, 3) := by decide +kernel
theorem dR_closure_6 : decode bR_closure 6 = .ok (.invokevirtual 49, 3) := by decide +kernel
theorem dR_closure_9 : decode bR_closure 9 = .ok (.ifCond .ne 5, 3) := by decide +kernel
theorem dR_closure_12 : decode bR_closure 12 = .ok (.iconst 0, 1) := by decide +kernel
theorem dR_closure_13 : decode bR_closure 13 = .ok (.ireturn, 1) := by decide +kernel
theorem dR_closure_14 : decode bR_closure 14 = .ok (.iconst 1, 1) := by decide +kernel
theorem dR_closure_15 : decode bR_closure 15 = .ok (.iload_n 1, 1) := by decide +kernel
theorem dR_closure_16 : decode bR_closure 16 = .ok (.ishl, 1) := by decide +kernel
theorem dR_closure_17 : decode bR_closure 17 = .ok (.istore_n 2, 1) := by decide +kernel
theorem dR_closure_18 : decode bR_closure 18 = .ok (.iconst 0, 1) := by decide +kernel
theorem dR_closure_19 : decode bR_closure 19 = .ok (.istore_n 3, 1) := by decide +kernel
theorem dR_closure_20 : decode bR_closure 20 = .ok (.iload_n 3, 1) := by decide +kernel
theorem dR_closure_21 : decode bR_closure 21 = .ok (.aload_n 0, 1) := by decide +kernel
theorem dR_closure_22 : decode bR_closure 22 = .ok (.getfield 42, 3) := by decide +kernel
theorem dR_closure_25 : decode bR_closure 25 = .ok (.if_icmp .ge 81, 3) := by decide +kernel
theorem dR_closure_28 : decode bR_closure 28 = .ok (.iconst 0, 1) := by decide +kernel
theorem dR_closure_29 : decode bR_closure 29 = .ok (.istore 4, 2) := by decide +kernel
theorem dR_closure_31 : decode bR_closure 31 = .ok (.iload 4, 2) := by decide +kernel
theorem dR_closure_33 : decode bR_closure 33 = .ok (.aload_n 0, 1) := by decide +kernel
theorem dR_closure_34 : decode bR_closure 34 = .ok (.getfield 42, 3) := by decide +kernel
theorem dR_closure_37 : decode bR_closure 37 = .ok (.if_icmp .ge 63, 3) := by decide +kernel
theorem dR_closure_40 : decode bR_closure 40 = .ok (.iconst 0, 1) := by decide +kernel
theorem dR_closure_41 : decode bR_closure 41 = .ok (.istore 5, 2) := by decide +kernel
theorem dR_closure_43 : decode bR_closure 43 = .ok (.iload 5, 2) := by decide +kernel
theorem dR_closure_45 : decode bR_closure 45 = .ok (.aload_n 0, 1) := by decide +kernel
theorem dR_closure_46 : decode bR_closure 46 = .ok (.getfield 42, 3) := by decide +kernel
theorem dR_closure_49 : decode bR_closure 49 = .ok (.if_icmp .ge 45, 3) := by decide +kernel
theorem dR_closure_52 : decode bR_closure 52 = .ok (.iload_n 2, 1) := by decide +kernel
theorem dR_closure_53 : decode bR_closure 53 = .ok (.iload_n 2, 1) := by decide +kernel
theorem dR_closure_54 : decode bR_closure 54 = .ok (.iload 4, 2) := by decide +kernel
theorem dR_closure_56 : decode bR_closure 56 = .ok (.invokestatic 57, 3) := by decide +kernel
theorem dR_closure_59 : decode bR_closure 59 = .ok (.ifCond .eq 26, 3) := by decide +kernel
theorem dR_closure_62 : decode bR_closure 62 = .ok (.aload_n 0, 1) := by decide +kernel
theorem dR_closure_63 : decode bR_closure 63 = .ok (.getfield 20, 3) := by decide +kernel
theorem dR_closure_66 : decode bR_closure 66 = .ok (.bipush 12, 2) := by decide +kernel
theorem dR_closure_68 : decode bR_closure 68 = .ok (.iload 4, 2) := by decide +kernel
theorem dR_closure_70 : decode bR_closure 70 = .ok (.imul, 1) := by decide +kernel
theorem dR_closure_71 : decode bR_closure 71 = .ok (.iload 5, 2) := by decide +kernel
theorem dR_closure_73 : decode bR_closure 73 = .ok (.iadd, 1) := by decide +kernel
theorem dR_closure_74 : decode bR_closure 74 = .ok (.baload, 1) := by decide +kernel
theorem dR_closure_75 : decode bR_closure 75 = .ok (.ifCond .eq 10, 3) := by decide +kernel
theorem dR_closure_78 : decode bR_closure 78 = .ok (.iconst 1, 1) := by decide +kernel
theorem dR_closure_79 : decode bR_closure 79 = .ok (.iload 5, 2) := by decide +kernel
theorem dR_closure_81 : decode bR_closure 81 = .ok (.ishl, 1) := by decide +kernel
theorem dR_closure_82 : decode bR_closure 82 = .ok (.goto 4, 3) := by decide +kernel
theorem dR_closure_85 : decode bR_closure 85 = .ok (.iconst 0, 1) := by decide +kernel
theorem dR_closure_86 : decode bR_closure 86 = .ok (.ior, 1) := by decide +kernel
theorem dR_closure_87 : decode bR_closure 87 = .ok (.istore_n 2, 1) := by decide +kernel
theorem dR_closure_88 : decode bR_closure 88 = .ok (.iinc 5 1, 3) := by decide +kernel
theorem dR_closure_91 : decode bR_closure 91 = .ok (.goto (-48), 3) := by decide +kernel
theorem dR_closure_94 : decode bR_closure 94 = .ok (.iinc 4 1, 3) := by decide +kernel
theorem dR_closure_97 : decode bR_closure 97 = .ok (.goto (-66), 3) := by decide +kernel
theorem dR_closure_100 : decode bR_closure 100 = .ok (.iinc 3 1, 3) := by decide +kernel
theorem dR_closure_103 : decode bR_closure 103 = .ok (.goto (-83), 3) := by decide +kernel
theorem dR_closure_106 : decode bR_closure 106 = .ok (.iload_n 2, 1) := by decide +kernel
theorem dR_closure_107 : decode bR_closure 107 = .ok (.ireturn, 1) := by decide +kernel
theorem dR_bestOf_0 : decode bR_bestOf 0 = .ok (.iconst 0, 1) := by decide +kernel
theorem dR_bestOf_1 : decode bR_bestOf 1 = .ok (.istore_n 3, 1) := by decide +kernel
theorem dR_bestOf_2 : decode bR_bestOf 2 = .ok (.iconst 0, 1) := by decide +kernel
theorem dR_bestOf_3 : decode bR_bestOf 3 = .ok (.istore 4, 2) := by decide +kernel
theorem dR_bestOf_5 : decode bR_bestOf 5 = .ok (.iconst 0, 1) := by decide +kernel
theorem dR_bestOf_6 : decode bR_bestOf 6 = .ok (.istore 5, 2) := by decide +kernel
theorem dR_bestOf_8 : decode bR_bestOf 8 = .ok (.iconst 1, 1) := by decide +kernel
theorem dR_bestOf_9 : decode bR_bestOf 9 = .ok (.aload_n 0, 1) := by decide +kernel
theorem dR_bestOf_10 : decode bR_bestOf 10 = .ok (.getfield 42, 3) := by decide +kernel
theorem dR_bestOf_13 : decode bR_bestOf 13 = .ok (.ishl, 1) := by decide +kernel
theorem dR_bestOf_14 : decode bR_bestOf 14 = .ok (.istore 6, 2) := by decide +kernel
theorem dR_bestOf_16 : decode bR_bestOf 16 = .ok (.iconst 1, 1) := by decide +kernel
theorem dR_bestOf_17 : decode bR_bestOf 17 = .ok (.istore 7, 2) := by decide +kernel
theorem dR_bestOf_19 : decode bR_bestOf 19 = .ok (.iload 7, 2) := by decide +kernel
theorem dR_bestOf_21 : decode bR_bestOf 21 = .ok (.iload 6, 2) := by decide +kernel
theorem dR_bestOf_23 : decode bR_bestOf 23 = .ok (.if_icmp .ge 74, 3) := by decide +kernel
theorem dR_bestOf_26 : decode bR_bestOf 26 = .ok (.aload_n 0, 1) := by decide +kernel
theorem dR_bestOf_27 : decode bR_bestOf 27 = .ok (.iload 7, 2) := by decide +kernel
theorem dR_bestOf_29 : decode bR_bestOf 29 = .ok (.invokevirtual 67, 3) := by decide +kernel
theorem dR_bestOf_32 : decode bR_bestOf 32 = .ok (.istore 8, 2) := by decide +kernel
theorem dR_bestOf_34 : decode bR_bestOf 34 = .ok (.iload 8, 2) := by decide +kernel
theorem dR_bestOf_36 : decode bR_bestOf 36 = .ok (.i2l, 1) := by decide +kernel
theorem dR_bestOf_37 : decode bR_bestOf 37 = .ok (.lload_n 1, 1) := by decide +kernel
theorem dR_bestOf_38 : decode bR_bestOf 38 = .ok (.lcmp, 1) := by decide +kernel
theorem dR_bestOf_39 : decode bR_bestOf 39 = .ok (.ifCond .gt 52, 3) := by decide +kernel
theorem dR_bestOf_42 : decode bR_bestOf 42 = .ok (.aload_n 0, 1) := by decide +kernel
theorem dR_bestOf_43 : decode bR_bestOf 43 = .ok (.iload 7, 2) := by decide +kernel
theorem dR_bestOf_45 : decode bR_bestOf 45 = .ok (.invokevirtual 64, 3) := by decide +kernel
theorem dR_bestOf_48 : decode bR_bestOf 48 = .ok (.ifCond .eq 43, 3) := by decide +kernel
theorem dR_bestOf_51 : decode bR_bestOf 51 = .ok (.aload_n 0, 1) := by decide +kernel
theorem dR_bestOf_52 : decode bR_bestOf 52 = .ok (.iload 7, 2) := by decide +kernel
theorem dR_bestOf_54 : decode bR_bestOf 54 = .ok (.invokevirtual 71, 3) := by decide +kernel
theorem dR_bestOf_57 : decode bR_bestOf 57 = .ok (.istore 9, 2) := by decide +kernel
theorem dR_bestOf_59 : decode bR_bestOf 59 = .ok (.iload 9, 2) := by decide +kernel
theorem dR_bestOf_61 : decode bR_bestOf 61 = .ok (.iload 4, 2) := by decide +kernel
theorem dR_bestOf_63 : decode bR_bestOf 63 = .ok (.if_icmp .gt 17, 3) := by decide +kernel
theorem dR_bestOf_66 : decode bR_bestOf 66 = .ok (.iload 9, 2) := by decide +kernel
theorem dR_bestOf_68 : decode bR_bestOf 68 = .ok (.iload 4, 2) := by decide +kernel
theorem dR_bestOf_70 : decode bR_bestOf 70 = .ok (.if_icmp .ne 21, 3) := by decide +kernel
theorem dR_bestOf_73 : decode bR_bestOf 73 = .ok (.iload 8, 2) := by decide +kernel
theorem dR_bestOf_75 : decode bR_bestOf 75 = .ok (.iload 5, 2) := by decide +kernel
theorem dR_bestOf_77 : decode bR_bestOf 77 = .ok (.if_icmp .ge 14, 3) := by decide +kernel
theorem dR_bestOf_80 : decode bR_bestOf 80 = .ok (.iload 7, 2) := by decide +kernel
theorem dR_bestOf_82 : decode bR_bestOf 82 = .ok (.istore_n 3, 1) := by decide +kernel
theorem dR_bestOf_83 : decode bR_bestOf 83 = .ok (.iload 9, 2) := by decide +kernel
theorem dR_bestOf_85 : decode bR_bestOf 85 = .ok (.istore 4, 2) := by decide +kernel
theorem dR_bestOf_87 : decode bR_bestOf 87 = .ok (.iload 8, 2) := by decide +kernel
theorem dR_bestOf_89 : decode bR_bestOf 89 = .ok (.istore 5, 2) := by decide +kernel
theorem dR_bestOf_91 : decode bR_bestOf 91 = .ok (.iinc 7 1, 3) := by decide +kernel
theorem dR_bestOf_94 : decode bR_bestOf 94 = .ok (.goto (-75), 3) := by decide +kernel
theorem dR_bestOf_97 : decode bR_bestOf 97 = .ok (.iload_n 3, 1) := by decide +kernel
theorem dR_bestOf_98 : decode bR_bestOf 98 = .ok (.ireturn, 1) := by decide +kernel
theorem dR_best_0 : decode bR_best 0 = .ok (.aload_n 0, 1) := by decide +kernel
theorem dR_best_1 : decode bR_best 1 = .ok (.iload_n 1, 1) := by decide +kernel
theorem dR_best_2 : decode bR_best 2 = .ok (.ifCond .lt 7, 3) := by decide +kernel
theorem dR_best_5 : decode bR_best 5 = .ok (.iconst 1, 1) := by decide +kernel
theorem dR_best_6 : decode bR_best 6 = .ok (.goto 4, 3) := by decide +kernel
theorem dR_best_9 : decode bR_best 9 = .ok (.iconst 0, 1) := by decide +kernel
theorem dR_best_10 : decode bR_best 10 = .ok (.invokevirtual 49, 3) := by decide +kernel
theorem dR_best_13 : decode bR_best 13 = .ok (.ifCond .eq 12, 3) := by decide +kernel
theorem dR_best_16 : decode bR_best 16 = .ok (.aload_n 0, 1) := by decide +kernel
theorem dR_best_17 : decode bR_best 17 = .ok (.iload_n 1, 1) := by decide +kernel
theorem dR_best_18 : decode bR_best 18 = .ok (.i2l, 1) := by decide +kernel
theorem dR_best_19 : decode bR_best 19 = .ok (.invokevirtual 74, 3) := by decide +kernel
theorem dR_best_22 : decode bR_best 22 = .ok (.goto 4, 3) := by decide +kernel
theorem dR_best_25 : decode bR_best 25 = .ok (.iconst 0, 1) := by decide +kernel
theorem dR_best_26 : decode bR_best 26 = .ok (.ireturn, 1) := by decide +kernel
theorem dR_budget_0 : decode bR_budget 0 = .ok (.aload_n 0, 1) := by decide +kernel
theorem dR_budget_1 : decode bR_budget 1 = .ok (.iconst 0, 1) := by decide +kernel
theorem dR_budget_2 : decode bR_budget 2 = .ok (.putfield 38, 3) := by decide +kernel
theorem dR_budget_5 : decode bR_budget 5 = .ok (.iconst (-1), 1) := by decide +kernel
theorem dR_budget_6 : decode bR_budget 6 = .ok (.istore_n 2, 1) := by decide +kernel
theorem dR_budget_7 : decode bR_budget 7 = .ok (.iconst 1, 1) := by decide +kernel
theorem dR_budget_8 : decode bR_budget 8 = .ok (.aload_n 0, 1) := by decide +kernel
theorem dR_budget_9 : decode bR_budget 9 = .ok (.getfield 42, 3) := by decide +kernel
theorem dR_budget_12 : decode bR_budget 12 = .ok (.ishl, 1) := by decide +kernel
theorem dR_budget_13 : decode bR_budget 13 = .ok (.istore_n 3, 1) := by decide +kernel
theorem dR_budget_14 : decode bR_budget 14 = .ok (.iconst 0, 1) := by decide +kernel
theorem dR_budget_15 : decode bR_budget 15 = .ok (.istore 4, 2) := by decide +kernel
theorem dR_budget_17 : decode bR_budget 17 = .ok (.iload 4, 2) := by decide +kernel
theorem dR_budget_19 : decode bR_budget 19 = .ok (.iload_n 3, 1) := by decide +kernel
theorem dR_budget_20 : decode bR_budget 20 = .ok (.if_icmp .ge 50, 3) := by decide +kernel
theorem dR_budget_23 : decode bR_budget 23 = .ok (.aload_n 0, 1) := by decide +kernel
theorem dR_budget_24 : decode bR_budget 24 = .ok (.iload 4, 2) := by decide +kernel
theorem dR_budget_26 : decode bR_budget 26 = .ok (.invokevirtual 67, 3) := by decide +kernel
theorem dR_budget_29 : decode bR_budget 29 = .ok (.istore 5, 2) := by decide +kernel
theorem dR_budget_31 : decode bR_budget 31 = .ok (.iload_n 2, 1) := by decide +kernel
theorem dR_budget_32 : decode bR_budget 32 = .ok (.iconst (-1), 1) := by decide +kernel
theorem dR_budget_33 : decode bR_budget 33 = .ok (.if_icmp .eq 9, 3) := by decide +kernel
theorem dR_budget_36 : decode bR_budget 36 = .ok (.iload 5, 2) := by decide +kernel
theorem dR_budget_38 : decode bR_budget 38 = .ok (.iload_n 2, 1) := by decide +kernel
theorem dR_budget_39 : decode bR_budget 39 = .ok (.if_icmp .ge 25, 3) := by decide +kernel
theorem dR_budget_42 : decode bR_budget 42 = .ok (.aload_n 0, 1) := by decide +kernel
theorem dR_budget_43 : decode bR_budget 43 = .ok (.iload 4, 2) := by decide +kernel
theorem dR_budget_45 : decode bR_budget 45 = .ok (.invokevirtual 71, 3) := by decide +kernel
theorem dR_budget_48 : decode bR_budget 48 = .ok (.iload_n 1, 1) := by decide +kernel
theorem dR_budget_49 : decode bR_budget 49 = .ok (.if_icmp .lt 15, 3) := by decide +kernel
theorem dR_budget_52 : decode bR_budget 52 = .ok (.aload_n 0, 1) := by decide +kernel
theorem dR_budget_53 : decode bR_budget 53 = .ok (.iload 4, 2) := by decide +kernel
theorem dR_budget_55 : decode bR_budget 55 = .ok (.invokevirtual 64, 3) := by decide +kernel
theorem dR_budget_58 : decode bR_budget 58 = .ok (.ifCond .eq 6, 3) := by decide +kernel
theorem dR_budget_61 : decode bR_budget 61 = .ok (.iload 5, 2) := by decide +kernel
theorem dR_budget_63 : decode bR_budget 63 = .ok (.istore_n 2, 1) := by decide +kernel
theorem dR_budget_64 : decode bR_budget 64 = .ok (.iinc 4 1, 3) := by decide +kernel
theorem dR_budget_67 : decode bR_budget 67 = .ok (.goto (-50), 3) := by decide +kernel
theorem dR_budget_70 : decode bR_budget 70 = .ok (.iload_n 2, 1) := by decide +kernel
theorem dR_budget_71 : decode bR_budget 71 = .ok (.ireturn, 1) := by decide +kernel
theorem dR_worth_0 : decode bR_worth 0 = .ok (.aload_n 0, 1) := by decide +kernel
theorem dR_worth_1 : decode bR_worth 1 = .ok (.iload_n 1, 1) := by decide +kernel
theorem dR_worth_2 : decode bR_worth 2 = .ok (.ifCond .lt 23, 3) := by decide +kernel
theorem dR_worth_5 : decode bR_worth 5 = .ok (.iload_n 2, 1) := by decide +kernel
theorem dR_worth_6 : decode bR_worth 6 = .ok (.ifCond .lt 19, 3) := by decide +kernel
theorem dR_worth_9 : decode bR_worth 9 = .ok (.iload_n 1, 1) := by decide +kernel
theorem dR_worth_10 : decode bR_worth 10 = .ok (.i2l, 1) := by decide +kernel
theorem dR_worth_11 : decode bR_worth 11 = .ok (.iload_n 2, 1) := by decide +kernel
theorem dR_worth_12 : decode bR_worth 12 = .ok (.i2l, 1) := by decide +kernel
theorem dR_worth_13 : decode bR_worth 13 = .ok (.ladd, 1) := by decide +kernel
theorem dR_worth_14 : decode bR_worth 14 = .ok (.ldc2_w 78, 3) := by decide +kernel
theorem dR_worth_17 : decode bR_worth 17 = .ok (.lcmp, 1) := by decide +kernel
theorem dR_worth_18 : decode bR_worth 18 = .ok (.ifCond .gt 7, 3) := by decide +kernel
theorem dR_worth_21 : decode bR_worth 21 = .ok (.iconst 1, 1) := by decide +kernel
theorem dR_worth_22 : decode bR_worth 22 = .ok (.goto 4, 3) := by decide +kernel
theorem dR_worth_25 : decode bR_worth 25 = .ok (.iconst 0, 1) := by decide +kernel
theorem dR_worth_26 : decode bR_worth 26 = .ok (.invokevirtual 49, 3) := by decide +kernel
theorem dR_worth_29 : decode bR_worth 29 = .ok (.ifCond .ne 5, 3) := by decide +kernel
theorem dR_worth_32 : decode bR_worth 32 = .ok (.iconst 0, 1) := by decide +kernel
theorem dR_worth_33 : decode bR_worth 33 = .ok (.ireturn, 1) := by decide +kernel
theorem dR_worth_34 : decode bR_worth 34 = .ok (.aload_n 0, 1) := by decide +kernel
theorem dR_worth_35 : decode bR_worth 35 = .ok (.aload_n 0, 1) := by decide +kernel
theorem dR_worth_36 : decode bR_worth 36 = .ok (.iload_n 1, 1) := by decide +kernel
theorem dR_worth_37 : decode bR_worth 37 = .ok (.i2l, 1) := by decide +kernel
theorem dR_worth_38 : decode bR_worth 38 = .ok (.iload_n 2, 1) := by decide +kernel
theorem dR_worth_39 : decode bR_worth 39 = .ok (.i2l, 1) := by decide +kernel
theorem dR_worth_40 : decode bR_worth 40 = .ok (.ladd, 1) := by decide +kernel
theorem dR_worth_41 : decode bR_worth 41 = .ok (.invokevirtual 74, 3) := by decide +kernel
theorem dR_worth_44 : decode bR_worth 44 = .ok (.invokevirtual 71, 3) := by decide +kernel
theorem dR_worth_47 : decode bR_worth 47 = .ok (.aload_n 0, 1) := by decide +kernel
theorem dR_worth_48 : decode bR_worth 48 = .ok (.aload_n 0, 1) := by decide +kernel
theorem dR_worth_49 : decode bR_worth 49 = .ok (.iload_n 1, 1) := by decide +kernel
theorem dR_worth_50 : decode bR_worth 50 = .ok (.i2l, 1) := by decide +kernel
theorem dR_worth_51 : decode bR_worth 51 = .ok (.invokevirtual 74, 3) := by decide +kernel
theorem dR_worth_54 : decode bR_worth 54 = .ok (.invokevirtual 71, 3) := by decide +kernel
theorem dR_worth_57 : decode bR_worth 57 = .ok (.isub, 1) := by decide +kernel
theorem dR_worth_58 : decode bR_worth 58 = .ok (.ireturn, 1) := by decide +kernel
theorem dR_dearer_0 : decode bR_dearer 0 = .ok (.iconst (-1), 1) := by decide +kernel
theorem dR_dearer_1 : decode bR_dearer 1 = .ok (.istore_n 3, 1) := by decide +kernel
theorem dR_dearer_2 : decode bR_dearer 2 = .ok (.iconst 0, 1) := by decide +kernel
theorem dR_dearer_3 : decode bR_dearer 3 = .ok (.istore 4, 2) := by decide +kernel
theorem dR_dearer_5 : decode bR_dearer 5 = .ok (.iconst 0, 1) := by decide +kernel
theorem dR_dearer_6 : decode bR_dearer 6 = .ok (.istore 5, 2) := by decide +kernel
theorem dR_dearer_8 : decode bR_dearer 8 = .ok (.iconst 1, 1) := by decide +kernel
theorem dR_dearer_9 : decode bR_dearer 9 = .ok (.aload_n 0, 1) := by decide +kernel
theorem dR_dearer_10 : decode bR_dearer 10 = .ok (.getfield 42, 3) := by decide +kernel
theorem dR_dearer_13 : decode bR_dearer 13 = .ok (.ishl, 1) := by decide +kernel
theorem dR_dearer_14 : decode bR_dearer 14 = .ok (.istore 6, 2) := by decide +kernel
theorem dR_dearer_16 : decode bR_dearer 16 = .ok (.iconst 0, 1) := by decide +kernel
theorem dR_dearer_17 : decode bR_dearer 17 = .ok (.istore 7, 2) := by decide +kernel
theorem dR_dearer_19 : decode bR_dearer 19 = .ok (.iload 7, 2) := by decide +kernel
theorem dR_dearer_21 : decode bR_dearer 21 = .ok (.iload 6, 2) := by decide +kernel
theorem dR_dearer_23 : decode bR_dearer 23 = .ok (.if_icmp .ge 100, 3) := by decide +kernel
theorem dR_dearer_26 : decode bR_dearer 26 = .ok (.aload_n 0, 1) := by decide +kernel
theorem dR_dearer_27 : decode bR_dearer 27 = .ok (.iload 7, 2) := by decide +kernel
theorem dR_dearer_29 : decode bR_dearer 29 = .ok (.invokevirtual 67, 3) := by decide +kernel
theorem dR_dearer_32 : decode bR_dearer 32 = .ok (.istore 8, 2) := by decide +kernel
theorem dR_dearer_34 : decode bR_dearer 34 = .ok (.iload 8, 2) := by decide +kernel
theorem dR_dearer_36 : decode bR_dearer 36 = .ok (.iload_n 1, 1) := by decide +kernel
theorem dR_dearer_37 : decode bR_dearer 37 = .ok (.if_icmp .le 19, 3) := by decide +kernel
theorem dR_dearer_40 : decode bR_dearer 40 = .ok (.iload_n 3, 1) := by decide +kernel
theorem dR_dearer_41 : decode bR_dearer 41 = .ok (.iconst (-1), 1) := by decide +kernel
theorem dR_dearer_42 : decode bR_dearer 42 = .ok (.if_icmp .eq 10, 3) := by decide +kernel
theorem dR_dearer_45 : decode bR_dearer 45 = .ok (.iload 8, 2) := by decide +kernel
theorem dR_dearer_47 : decode bR_dearer 47 = .ok (.iload 4, 2) := by decide +kernel
theorem dR_dearer_49 : decode bR_dearer 49 = .ok (.if_icmp .gt 7, 3) := by decide +kernel
theorem dR_dearer_52 : decode bR_dearer 52 = .ok (.iconst 1, 1) := by decide +kernel
theorem dR_dearer_53 : decode bR_dearer 53 = .ok (.goto 4, 3) := by decide +kernel
theorem dR_dearer_56 : decode bR_dearer 56 = .ok (.iconst 0, 1) := by decide +kernel
theorem dR_dearer_57 : decode bR_dearer 57 = .ok (.istore 9, 2) := by decide +kernel
theorem dR_dearer_59 : decode bR_dearer 59 = .ok (.iload 9, 2) := by decide +kernel
theorem dR_dearer_61 : decode bR_dearer 61 = .ok (.ifCond .eq 56, 3) := by decide +kernel
theorem dR_dearer_64 : decode bR_dearer 64 = .ok (.aload_n 0, 1) := by decide +kernel
theorem dR_dearer_65 : decode bR_dearer 65 = .ok (.iload 7, 2) := by decide +kernel
theorem dR_dearer_67 : decode bR_dearer 67 = .ok (.invokevirtual 64, 3) := by decide +kernel
theorem dR_dearer_70 : decode bR_dearer 70 = .ok (.ifCond .eq 47, 3) := by decide +kernel
theorem dR_dearer_73 : decode bR_dearer 73 = .ok (.aload_n 0, 1) := by decide +kernel
theorem dR_dearer_74 : decode bR_dearer 74 = .ok (.iload 7, 2) := by decide +kernel
theorem dR_dearer_76 : decode bR_dearer 76 = .ok (.invokevirtual 71, 3) := by decide +kernel
theorem dR_dearer_79 : decode bR_dearer 79 = .ok (.istore 10, 2) := by decide +kernel
theorem dR_dearer_81 : decode bR_dearer 81 = .ok (.iload 10, 2) := by decide +kernel
theorem dR_dearer_83 : decode bR_dearer 83 = .ok (.iload_n 2, 1) := by decide +kernel
theorem dR_dearer_84 : decode bR_dearer 84 = .ok (.if_icmp .le 33, 3) := by decide +kernel
theorem dR_dearer_87 : decode bR_dearer 87 = .ok (.iload_n 3, 1) := by decide +kernel
theorem dR_dearer_88 : decode bR_dearer 88 = .ok (.iconst (-1), 1) := by decide +kernel
theorem dR_dearer_89 : decode bR_dearer 89 = .ok (.if_icmp .eq 17, 3) := by decide +kernel
theorem dR_dearer_92 : decode bR_dearer 92 = .ok (.iload 8, 2) := by decide +kernel
theorem dR_dearer_94 : decode bR_dearer 94 = .ok (.iload 4, 2) := by decide +kernel
theorem dR_dearer_96 : decode bR_dearer 96 = .ok (.if_icmp .lt 10, 3) := by decide +kernel
theorem dR_dearer_99 : decode bR_dearer 99 = .ok (.iload 10, 2) := by decide +kernel
theorem dR_dearer_101 : decode bR_dearer 101 = .ok (.iload 5, 2) := by decide +kernel
theorem dR_dearer_103 : decode bR_dearer 103 = .ok (.if_icmp .le 14, 3) := by decide +kernel
theorem dR_dearer_106 : decode bR_dearer 106 = .ok (.iload 7, 2) := by decide +kernel
theorem dR_dearer_108 : decode bR_dearer 108 = .ok (.istore_n 3, 1) := by decide +kernel
theorem dR_dearer_109 : decode bR_dearer 109 = .ok (.iload 8, 2) := by decide +kernel
theorem dR_dearer_111 : decode bR_dearer 111 = .ok (.istore 4, 2) := by decide +kernel
theorem dR_dearer_113 : decode bR_dearer 113 = .ok (.iload 10, 2) := by decide +kernel
theorem dR_dearer_115 : decode bR_dearer 115 = .ok (.istore 5, 2) := by decide +kernel
theorem dR_dearer_117 : decode bR_dearer 117 = .ok (.iinc 7 1, 3) := by decide +kernel
theorem dR_dearer_120 : decode bR_dearer 120 = .ok (.goto (-101), 3) := by decide +kernel
theorem dR_dearer_123 : decode bR_dearer 123 = .ok (.iload_n 3, 1) := by decide +kernel
theorem dR_dearer_124 : decode bR_dearer 124 = .ok (.ireturn, 1) := by decide +kernel
theorem dR_frontier_0 : decode bR_frontier 0 = .ok (.aload_n 0, 1) := by decide +kernel
theorem dR_frontier_1 : decode bR_frontier 1 = .ok (.iload_n 1, 1) := by decide +kernel
theorem dR_frontier_2 : decode bR_frontier 2 = .ok (.ifCond .lt 7, 3) := by decide +kernel
theorem dR_frontier_5 : decode bR_frontier 5 = .ok (.iconst 1, 1) := by decide +kernel
theorem dR_frontier_6 : decode bR_frontier 6 = .ok (.goto 4, 3) := by decide +kernel
theorem dR_frontier_9 : decode bR_frontier 9 = .ok (.iconst 0, 1) := by decide +kernel
theorem dR_frontier_10 : decode bR_frontier 10 = .ok (.invokevirtual 49, 3) := by decide +kernel
theorem dR_frontier_13 : decode bR_frontier 13 = .ok (.ifCond .ne 5, 3) := by decide +kernel
theorem dR_frontier_16 : decode bR_frontier 16 = .ok (.iconst 0, 1) := by decide +kernel
theorem dR_frontier_17 : decode bR_frontier 17 = .ok (.ireturn, 1) := by decide +kernel
theorem dR_frontier_18 : decode bR_frontier 18 = .ok (.iconst 0, 1) := by decide +kernel
theorem dR_frontier_19 : decode bR_frontier 19 = .ok (.istore_n 2, 1) := by decide +kernel
theorem dR_frontier_20 : decode bR_frontier 20 = .ok (.iconst 0, 1) := by decide +kernel
theorem dR_frontier_21 : decode bR_frontier 21 = .ok (.istore_n 3, 1) := by decide +kernel
theorem dR_frontier_22 : decode bR_frontier 22 = .ok (.iload_n 3, 1) := by decide +kernel
theorem dR_frontier_23 : decode bR_frontier 23 = .ok (.iload_n 1, 1) := by decide +kernel
theorem dR_frontier_24 : decode bR_frontier 24 = .ok (.if_icmp .ge 29, 3) := by decide +kernel
theorem dR_frontier_27 : decode bR_frontier 27 = .ok (.iload_n 2, 1) := by decide +kernel
theorem dR_frontier_28 : decode bR_frontier 28 = .ok (.iconst (-1), 1) := by decide +kernel
theorem dR_frontier_29 : decode bR_frontier 29 = .ok (.if_icmp .eq 24, 3) := by decide +kernel
theorem dR_frontier_32 : decode bR_frontier 32 = .ok (.aload_n 0, 1) := by decide +kernel
theorem dR_frontier_33 : decode bR_frontier 33 = .ok (.aload_n 0, 1) := by decide +kernel
theorem dR_frontier_34 : decode bR_frontier 34 = .ok (.iload_n 2, 1) := by decide +kernel
theorem dR_frontier_35 : decode bR_frontier 35 = .ok (.invokevirtual 67, 3) := by decide +kernel
theorem dR_frontier_38 : decode bR_frontier 38 = .ok (.aload_n 0, 1) := by decide +kernel
theorem dR_frontier_39 : decode bR_frontier 39 = .ok (.iload_n 2, 1) := by decide +kernel
theorem dR_frontier_40 : decode bR_frontier 40 = .ok (.invokevirtual 71, 3) := by decide +kernel
theorem dR_frontier_43 : decode bR_frontier 43 = .ok (.invokevirtual 80, 3) := by decide +kernel
theorem dR_frontier_46 : decode bR_frontier 46 = .ok (.istore_n 2, 1) := by decide +kernel
theorem dR_frontier_47 : decode bR_frontier 47 = .ok (.iinc 3 1, 3) := by decide +kernel
theorem dR_frontier_50 : decode bR_frontier 50 = .ok (.goto (-28), 3) := by decide +kernel
theorem dR_frontier_53 : decode bR_frontier 53 = .ok (.iload_n 2, 1) := by decide +kernel
theorem dR_frontier_54 : decode bR_frontier 54 = .ok (.ireturn, 1) := by decide +kernel
theorem dR_year_0 : decode bR_year 0 = .ok (.aload_n 0, 1) := by decide +kernel
theorem dR_year_1 : decode bR_year 1 = .ok (.iload_n 1, 1) := by decide +kernel
theorem dR_year_2 : decode bR_year 2 = .ok (.iconst 0, 1) := by decide +kernel
theorem dR_year_3 : decode bR_year 3 = .ok (.iconst 3, 1) := by decide +kernel
theorem dR_year_4 : decode bR_year 4 = .ok (.invokestatic 45, 3) := by decide +kernel
theorem dR_year_7 : decode bR_year 7 = .ok (.ifCond .eq 17, 3) := by decide +kernel
theorem dR_year_10 : decode bR_year 10 = .ok (.iload_n 2, 1) := by decide +kernel
theorem dR_year_11 : decode bR_year 11 = .ok (.iconst 0, 1) := by decide +kernel
theorem dR_year_12 : decode bR_year 12 = .ok (.ldc 84, 2) := by decide +kernel
theorem dR_year_14 : decode bR_year 14 = .ok (.invokestatic 45, 3) := by decide +kernel
theorem dR_year_17 : decode bR_year 17 = .ok (.ifCond .eq 7, 3) := by decide +kernel
theorem dR_year_20 : decode bR_year 20 = .ok (.iconst 1, 1) := by decide +kernel
theorem dR_year_21 : decode bR_year 21 = .ok (.goto 4, 3) := by decide +kernel
theorem dR_year_24 : decode bR_year 24 = .ok (.iconst 0, 1) := by decide +kernel
theorem dR_year_25 : decode bR_year 25 = .ok (.invokevirtual 49, 3) := by decide +kernel
theorem dR_year_28 : decode bR_year 28 = .ok (.ifCond .ne 5, 3) := by decide +kernel
theorem dR_year_31 : decode bR_year 31 = .ok (.iconst 0, 1) := by decide +kernel
theorem dR_year_32 : decode bR_year 32 = .ok (.ireturn, 1) := by decide +kernel
theorem dR_year_33 : decode bR_year 33 = .ok (.aload_n 0, 1) := by decide +kernel
theorem dR_year_34 : decode bR_year 34 = .ok (.getfield 26, 3) := by decide +kernel
theorem dR_year_37 : decode bR_year 37 = .ok (.iload_n 1, 1) := by decide +kernel
theorem dR_year_38 : decode bR_year 38 = .ok (.iaload, 1) := by decide +kernel
theorem dR_year_39 : decode bR_year 39 = .ok (.istore_n 3, 1) := by decide +kernel
theorem dR_year_40 : decode bR_year 40 = .ok (.aload_n 0, 1) := by decide +kernel
theorem dR_year_41 : decode bR_year 41 = .ok (.getfield 26, 3) := by decide +kernel
theorem dR_year_44 : decode bR_year 44 = .ok (.iload_n 1, 1) := by decide +kernel
theorem dR_year_45 : decode bR_year 45 = .ok (.iload_n 2, 1) := by decide +kernel
theorem dR_year_46 : decode bR_year 46 = .ok (.iastore, 1) := by decide +kernel
theorem dR_year_47 : decode bR_year 47 = .ok (.iload_n 3, 1) := by decide +kernel
theorem dR_year_48 : decode bR_year 48 = .ok (.ireturn, 1) := by decide +kernel
theorem dR_work_0 : decode bR_work 0 = .ok (.iconst 1, 1) := by decide +kernel
theorem dR_work_1 : decode bR_work 1 = .ok (.aload_n 0, 1) := by decide +kernel
theorem dR_work_2 : decode bR_work 2 = .ok (.getfield 42, 3) := by decide +kernel
theorem dR_work_5 : decode bR_work 5 = .ok (.bipush 6, 2) := by decide +kernel
theorem dR_work_7 : decode bR_work 7 = .ok (.if_icmp .ge 10, 3) := by decide +kernel
theorem dR_work_10 : decode bR_work 10 = .ok (.aload_n 0, 1) := by decide +kernel
theorem dR_work_11 : decode bR_work 11 = .ok (.getfield 42, 3) := by decide +kernel
theorem dR_work_14 : decode bR_work 14 = .ok (.goto 5, 3) := by decide +kernel
theorem dR_work_17 : decode bR_work 17 = .ok (.bipush 6, 2) := by decide +kernel
theorem dR_work_19 : decode bR_work 19 = .ok (.ishl, 1) := by decide +kernel
theorem dR_work_20 : decode bR_work 20 = .ok (.istore_n 2, 1) := by decide +kernel
theorem dR_work_21 : decode bR_work 21 = .ok (.iconst 0, 1) := by decide +kernel
theorem dR_work_22 : decode bR_work 22 = .ok (.istore_n 3, 1) := by decide +kernel
theorem dR_work_23 : decode bR_work 23 = .ok (.iload_n 3, 1) := by decide +kernel
theorem dR_work_24 : decode bR_work 24 = .ok (.iload_n 2, 1) := by decide +kernel
theorem dR_work_25 : decode bR_work 25 = .ok (.if_icmp .ge 37, 3) := by decide +kernel
theorem dR_work_28 : decode bR_work 28 = .ok (.aload_n 0, 1) := by decide +kernel
theorem dR_work_29 : decode bR_work 29 = .ok (.getfield 29, 3) := by decide +kernel
theorem dR_work_32 : decode bR_work 32 = .ok (.bipush 64, 2) := by decide +kernel
theorem dR_work_34 : decode bR_work 34 = .ok (.iload_n 1, 1) := by decide +kernel
theorem dR_work_35 : decode bR_work 35 = .ok (.imul, 1) := by decide +kernel
theorem dR_work_36 : decode bR_work 36 = .ok (.iload_n 3, 1) := by decide +kernel
theorem dR_work_37 : decode bR_work 37 = .ok (.iadd, 1) := by decide +kernel
theorem dR_work_38 : decode bR_work 38 = .ok (.iconst 0, 1) := by decide +kernel
theorem dR_work_39 : decode bR_work 39 = .ok (.iastore, 1) := by decide +kernel
theorem dR_work_40 : decode bR_work 40 = .ok (.aload_n 0, 1) := by decide +kernel
theorem dR_work_41 : decode bR_work 41 = .ok (.getfield 32, 3) := by decide +kernel
theorem dR_work_44 : decode bR_work 44 = .ok (.bipush 64, 2) := by decide +kernel
theorem dR_work_46 : decode bR_work 46 = .ok (.iload_n 1, 1) := by decide +kernel
theorem dR_work_47 : decode bR_work 47 = .ok (.imul, 1) := by decide +kernel
theorem dR_work_48 : decode bR_work 48 = .ok (.iload_n 3, 1) := by decide +kernel
theorem dR_work_49 : decode bR_work 49 = .ok (.iadd, 1) := by decide +kernel
theorem dR_work_50 : decode bR_work 50 = .ok (.aload_n 0, 1) := by decide +kernel
theorem dR_work_51 : decode bR_work 51 = .ok (.iload_n 3, 1) := by decide +kernel
theorem dR_work_52 : decode bR_work 52 = .ok (.invokevirtual 67, 3) := by decide +kernel
theorem dR_work_55 : decode bR_work 55 = .ok (.iastore, 1) := by decide +kernel
theorem dR_work_56 : decode bR_work 56 = .ok (.iinc 3 1, 3) := by decide +kernel
theorem dR_work_59 : decode bR_work 59 = .ok (.goto (-36), 3) := by decide +kernel
theorem dR_work_62 : decode bR_work 62 = .ok (.iload_n 1, 1) := by decide +kernel
theorem dR_work_63 : decode bR_work 63 = .ok (.iconst 1, 1) := by decide +kernel
theorem dR_work_64 : decode bR_work 64 = .ok (.isub, 1) := by decide +kernel
theorem dR_work_65 : decode bR_work 65 = .ok (.istore_n 3, 1) := by decide +kernel
theorem dR_work_66 : decode bR_work 66 = .ok (.iload_n 3, 1) := by decide +kernel
theorem dR_work_67 : decode bR_work 67 = .ok (.ifCond .lt 64, 3) := by decide +kernel
theorem dR_work_70 : decode bR_work 70 = .ok (.iconst 0, 1) := by decide +kernel
theorem dR_work_71 : decode bR_work 71 = .ok (.istore 4, 2) := by decide +kernel
theorem dR_work_73 : decode bR_work 73 = .ok (.iconst 0, 1) := by decide +kernel
theorem dR_work_74 : decode bR_work 74 = .ok (.istore 5, 2) := by decide +kernel
theorem dR_work_76 : decode bR_work 76 = .ok (.iload 5, 2) := by decide +kernel
theorem dR_work_78 : decode bR_work 78 = .ok (.iload_n 3, 1) := by decide +kernel
theorem dR_work_79 : decode bR_work 79 = .ok (.if_icmp .gt 21, 3) := by decide +kernel
theorem dR_work_82 : decode bR_work 82 = .ok (.iload 4, 2) := by decide +kernel
theorem dR_work_84 : decode bR_work 84 = .ok (.aload_n 0, 1) := by decide +kernel
theorem dR_work_85 : decode bR_work 85 = .ok (.getfield 26, 3) := by decide +kernel
theorem dR_work_88 : decode bR_work 88 = .ok (.iload 5, 2) := by decide +kernel
theorem dR_work_90 : decode bR_work 90 = .ok (.iaload, 1) := by decide +kernel
theorem dR_work_91 : decode bR_work 91 = .ok (.iadd, 1) := by decide +kernel
theorem dR_work_92 : decode bR_work 92 = .ok (.istore 4, 2) := by decide +kernel
theorem dR_work_94 : decode bR_work 94 = .ok (.iinc 5 1, 3) := by decide +kernel
theorem dR_work_97 : decode bR_work 97 = .ok (.goto (-21), 3) := by decide +kernel
theorem dR_work_100 : decode bR_work 100 = .ok (.iconst 0, 1) := by decide +kernel
theorem dR_work_101 : decode bR_work 101 = .ok (.istore 5, 2) := by decide +kernel
theorem dR_work_103 : decode bR_work 103 = .ok (.iload 5, 2) := by decide +kernel
theorem dR_work_105 : decode bR_work 105 = .ok (.iload_n 2, 1) := by decide +kernel
theorem dR_work_106 : decode bR_work 106 = .ok (.if_icmp .ge 19, 3) := by decide +kernel
theorem dR_work_109 : decode bR_work 109 = .ok (.aload_n 0, 1) := by decide +kernel
theorem dR_work_110 : decode bR_work 110 = .ok (.iload_n 3, 1) := by decide +kernel
theorem dR_work_111 : decode bR_work 111 = .ok (.iload 5, 2) := by decide +kernel
theorem dR_work_113 : decode bR_work 113 = .ok (.iload_n 2, 1) := by decide +kernel
theorem dR_work_114 : decode bR_work 114 = .ok (.iload 4, 2) := by decide +kernel
theorem dR_work_116 : decode bR_work 116 = .ok (.invokevirtual 85, 3) := by decide +kernel
theorem dR_work_119 : decode bR_work 119 = .ok (.iinc 5 1, 3) := by decide +kernel
theorem dR_work_122 : decode bR_work 122 = .ok (.goto (-19), 3) := by decide +kernel
theorem dR_work_125 : decode bR_work 125 = .ok (.iinc 3 (-1), 3) := by decide +kernel
theorem dR_work_128 : decode bR_work 128 = .ok (.goto (-62), 3) := by decide +kernel
theorem dR_work_131 : decode bR_work 131 = .ok (.return_, 1) := by decide +kernel
theorem dR_workOf_0 : decode bR_workOf 0 = .ok (.bipush 64, 2) := by decide +kernel
theorem dR_workOf_2 : decode bR_workOf 2 = .ok (.iload_n 1, 1) := by decide +kernel
theorem dR_workOf_3 : decode bR_workOf 3 = .ok (.imul, 1) := by decide +kernel
theorem dR_workOf_4 : decode bR_workOf 4 = .ok (.iload_n 2, 1) := by decide +kernel
theorem dR_workOf_5 : decode bR_workOf 5 = .ok (.iadd, 1) := by decide +kernel
theorem dR_workOf_6 : decode bR_workOf 6 = .ok (.istore 5, 2) := by decide +kernel
theorem dR_workOf_8 : decode bR_workOf 8 = .ok (.aload_n 0, 1) := by decide +kernel
theorem dR_workOf_9 : decode bR_workOf 9 = .ok (.getfield 35, 3) := by decide +kernel
theorem dR_workOf_12 : decode bR_workOf 12 = .ok (.iload 5, 2) := by decide +kernel
theorem dR_workOf_14 : decode bR_workOf 14 = .ok (.iconst (-1), 1) := by decide +kernel
theorem dR_workOf_15 : decode bR_workOf 15 = .ok (.iastore, 1) := by decide +kernel
theorem dR_workOf_16 : decode bR_workOf 16 = .ok (.iload_n 2, 1) := by decide +kernel
theorem dR_workOf_17 : decode bR_workOf 17 = .ok (.istore 6, 2) := by decide +kernel
theorem dR_workOf_19 : decode bR_workOf 19 = .ok (.iload 6, 2) := by decide +kernel
theorem dR_workOf_21 : decode bR_workOf 21 = .ok (.iload_n 3, 1) := by decide +kernel
theorem dR_workOf_22 : decode bR_workOf 22 = .ok (.if_icmp .ge 172, 3) := by decide +kernel
theorem dR_workOf_25 : decode bR_workOf 25 = .ok (.bipush 64, 2) := by decide +kernel
theorem dR_workOf_27 : decode bR_workOf 27 = .ok (.iload_n 1, 1) := by decide +kernel
theorem dR_workOf_28 : decode bR_workOf 28 = .ok (.iconst 1, 1) := by decide +kernel
theorem dR_workOf_29 : decode bR_workOf 29 = .ok (.iadd, 1) := by decide +kernel
theorem dR_workOf_30 : decode bR_workOf 30 = .ok (.imul, 1) := by decide +kernel
theorem dR_workOf_31 : decode bR_workOf 31 = .ok (.iload 6, 2) := by decide +kernel
theorem dR_workOf_33 : decode bR_workOf 33 = .ok (.iadd, 1) := by decide +kernel
theorem dR_workOf_34 : decode bR_workOf 34 = .ok (.istore 7, 2) := by decide +kernel
theorem dR_workOf_36 : decode bR_workOf 36 = .ok (.iload 6, 2) := by decide +kernel
theorem dR_workOf_38 : decode bR_workOf 38 = .ok (.iload_n 2, 1) := by decide +kernel
theorem dR_workOf_39 : decode bR_workOf 39 = .ok (.iand, 1) := by decide +kernel
theorem dR_workOf_40 : decode bR_workOf 40 = .ok (.iload_n 2, 1) := by decide +kernel
theorem dR_workOf_41 : decode bR_workOf 41 = .ok (.if_icmp .ne 27, 3) := by decide +kernel
theorem dR_workOf_44 : decode bR_workOf 44 = .ok (.aload_n 0, 1) := by decide +kernel
theorem dR_workOf_45 : decode bR_workOf 45 = .ok (.iload 6, 2) := by decide +kernel
theorem dR_workOf_47 : decode bR_workOf 47 = .ok (.invokevirtual 67, 3) := by decide +kernel
theorem dR_workOf_50 : decode bR_workOf 50 = .ok (.iload 4, 2) := by decide +kernel
theorem dR_workOf_52 : decode bR_workOf 52 = .ok (.if_icmp .gt 16, 3) := by decide +kernel
theorem dR_workOf_55 : decode bR_workOf 55 = .ok (.aload_n 0, 1) := by decide +kernel
theorem dR_workOf_56 : decode bR_workOf 56 = .ok (.iload 6, 2) := by decide +kernel
theorem dR_workOf_58 : decode bR_workOf 58 = .ok (.invokevirtual 64, 3) := by decide +kernel
theorem dR_workOf_61 : decode bR_workOf 61 = .ok (.ifCond .eq 7, 3) := by decide +kernel
theorem dR_workOf_64 : decode bR_workOf 64 = .ok (.iconst 1, 1) := by decide +kernel
theorem dR_workOf_65 : decode bR_workOf 65 = .ok (.goto 4, 3) := by decide +kernel
theorem dR_workOf_68 : decode bR_workOf 68 = .ok (.iconst 0, 1) := by decide +kernel
theorem dR_workOf_69 : decode bR_workOf 69 = .ok (.istore 8, 2) := by decide +kernel
theorem dR_workOf_71 : decode bR_workOf 71 = .ok (.iload 8, 2) := by decide +kernel
theorem dR_workOf_73 : decode bR_workOf 73 = .ok (.ifCond .eq 115, 3) := by decide +kernel
theorem dR_workOf_76 : decode bR_workOf 76 = .ok (.aload_n 0, 1) := by decide +kernel
theorem dR_workOf_77 : decode bR_workOf 77 = .ok (.iload 6, 2) := by decide +kernel
theorem dR_workOf_79 : decode bR_workOf 79 = .ok (.invokevirtual 71, 3) := by decide +kernel
theorem dR_workOf_82 : decode bR_workOf 82 = .ok (.aload_n 0, 1) := by decide +kernel
theorem dR_workOf_83 : decode bR_workOf 83 = .ok (.getfield 29, 3) := by decide +kernel
theorem dR_workOf_86 : decode bR_workOf 86 = .ok (.iload 7, 2) := by decide +kernel
theorem dR_workOf_88 : decode bR_workOf 88 = .ok (.iaload, 1) := by decide +kernel
theorem dR_workOf_89 : decode bR_workOf 89 = .ok (.iadd, 1) := by decide +kernel
theorem dR_workOf_90 : decode bR_workOf 90 = .ok (.istore 9, 2) := by decide +kernel
theorem dR_workOf_92 : decode bR_workOf 92 = .ok (.aload_n 0, 1) := by decide +kernel
theorem dR_workOf_93 : decode bR_workOf 93 = .ok (.getfield 35, 3) := by decide +kernel
theorem dR_workOf_96 : decode bR_workOf 96 = .ok (.iload 5, 2) := by decide +kernel
theorem dR_workOf_98 : decode bR_workOf 98 = .ok (.iaload, 1) := by decide +kernel
theorem dR_workOf_99 : decode bR_workOf 99 = .ok (.iconst (-1), 1) := by decide +kernel
theorem dR_workOf_100 : decode bR_workOf 100 = .ok (.if_icmp .eq 44, 3) := by decide +kernel
theorem dR_workOf_103 : decode bR_workOf 103 = .ok (.iload 9, 2) := by decide +kernel
theorem dR_workOf_105 : decode bR_workOf 105 = .ok (.aload_n 0, 1) := by decide +kernel
theorem dR_workOf_106 : decode bR_workOf 106 = .ok (.getfield 29, 3) := by decide +kernel
theorem dR_workOf_109 : decode bR_workOf 109 = .ok (.iload 5, 2) := by decide +kernel
theorem dR_workOf_111 : decode bR_workOf 111 = .ok (.iaload, 1) := by decide +kernel
theorem dR_workOf_112 : decode bR_workOf 112 = .ok (.if_icmp .gt 32, 3) := by decide +kernel
theorem dR_workOf_115 : decode bR_workOf 115 = .ok (.iload 9, 2) := by decide +kernel
theorem dR_workOf_117 : decode bR_workOf 117 = .ok (.aload_n 0, 1) := by decide +kernel
theorem dR_workOf_118 : decode bR_workOf 118 = .ok (.getfield 29, 3) := by decide +kernel
theorem dR_workOf_121 : decode bR_workOf 121 = .ok (.iload 5, 2) := by decide +kernel
theorem dR_workOf_123 : decode bR_workOf 123 = .ok (.iaload, 1) := by decide +kernel
theorem dR_workOf_124 : decode bR_workOf 124 = .ok (.if_icmp .ne 24, 3) := by decide +kernel
theorem dR_workOf_127 : decode bR_workOf 127 = .ok (.aload_n 0, 1) := by decide +kernel
theorem dR_workOf_128 : decode bR_workOf 128 = .ok (.getfield 32, 3) := by decide +kernel
theorem dR_workOf_131 : decode bR_workOf 131 = .ok (.iload 7, 2) := by decide +kernel
theorem dR_workOf_133 : decode bR_workOf 133 = .ok (.iaload, 1) := by decide +kernel
theorem dR_workOf_134 : decode bR_workOf 134 = .ok (.aload_n 0, 1) := by decide +kernel
theorem dR_workOf_135 : decode bR_workOf 135 = .ok (.getfield 32, 3) := by decide +kernel
theorem dR_workOf_138 : decode bR_workOf 138 = .ok (.iload 5, 2) := by decide +kernel
theorem dR_workOf_140 : decode bR_workOf 140 = .ok (.iaload, 1) := by decide +kernel
theorem dR_workOf_141 : decode bR_workOf 141 = .ok (.if_icmp .ge 7, 3) := by decide +kernel
theorem dR_workOf_144 : decode bR_workOf 144 = .ok (.iconst 1, 1) := by decide +kernel
theorem dR_workOf_145 : decode bR_workOf 145 = .ok (.goto 4, 3) := by decide +kernel
theorem dR_workOf_148 : decode bR_workOf 148 = .ok (.iconst 0, 1) := by decide +kernel
theorem dR_workOf_149 : decode bR_workOf 149 = .ok (.istore 10, 2) := by decide +kernel
theorem dR_workOf_151 : decode bR_workOf 151 = .ok (.iload 10, 2) := by decide +kernel
theorem dR_workOf_153 : decode bR_workOf 153 = .ok (.ifCond .eq 35, 3) := by decide +kernel
theorem dR_workOf_156 : decode bR_workOf 156 = .ok (.aload_n 0, 1) := by decide +kernel
theorem dR_workOf_157 : decode bR_workOf 157 = .ok (.getfield 35, 3) := by decide +kernel
theorem dR_workOf_160 : decode bR_workOf 160 = .ok (.iload 5, 2) := by decide +kernel
theorem dR_workOf_162 : decode bR_workOf 162 = .ok (.iload 6, 2) := by decide +kernel
theorem dR_workOf_164 : decode bR_workOf 164 = .ok (.iastore, 1) := by decide +kernel
theorem dR_workOf_165 : decode bR_workOf 165 = .ok (.aload_n 0, 1) := by decide +kernel
theorem dR_workOf_166 : decode bR_workOf 166 = .ok (.getfield 29, 3) := by decide +kernel
theorem dR_workOf_169 : decode bR_workOf 169 = .ok (.iload 5, 2) := by decide +kernel
theorem dR_workOf_171 : decode bR_workOf 171 = .ok (.iload 9, 2) := by decide +kernel
theorem dR_workOf_173 : decode bR_workOf 173 = .ok (.iastore, 1) := by decide +kernel
theorem dR_workOf_174 : decode bR_workOf 174 = .ok (.aload_n 0, 1) := by decide +kernel
theorem dR_workOf_175 : decode bR_workOf 175 = .ok (.getfield 32, 3) := by decide +kernel
theorem dR_workOf_178 : decode bR_workOf 178 = .ok (.iload 5, 2) := by decide +kernel
theorem dR_workOf_180 : decode bR_workOf 180 = .ok (.aload_n 0, 1) := by decide +kernel
theorem dR_workOf_181 : decode bR_workOf 181 = .ok (.getfield 32, 3) := by decide +kernel
theorem dR_workOf_184 : decode bR_workOf 184 = .ok (.iload 7, 2) := by decide +kernel
theorem dR_workOf_186 : decode bR_workOf 186 = .ok (.iaload, 1) := by decide +kernel
theorem dR_workOf_187 : decode bR_workOf 187 = .ok (.iastore, 1) := by decide +kernel
theorem dR_workOf_188 : decode bR_workOf 188 = .ok (.iinc 6 1, 3) := by decide +kernel
theorem dR_workOf_191 : decode bR_workOf 191 = .ok (.goto (-172), 3) := by decide +kernel
theorem dR_workOf_194 : decode bR_workOf 194 = .ok (.return_, 1) := by decide +kernel
theorem dR_plan_0 : decode bR_plan 0 = .ok (.aload_n 0, 1) := by decide +kernel
theorem dR_plan_1 : decode bR_plan 1 = .ok (.iload_n 1, 1) := by decide +kernel
theorem dR_plan_2 : decode bR_plan 2 = .ok (.iconst 1, 1) := by decide +kernel
theorem dR_plan_3 : decode bR_plan 3 = .ok (.iconst 4, 1) := by decide +kernel
theorem dR_plan_4 : decode bR_plan 4 = .ok (.invokestatic 45, 3) := by decide +kernel
theorem dR_plan_7 : decode bR_plan 7 = .ok (.ifCond .eq 18, 3) := by decide +kernel
theorem dR_plan_10 : decode bR_plan 10 = .ok (.iload_n 2, 1) := by decide +kernel
theorem dR_plan_11 : decode bR_plan 11 = .ok (.iconst 0, 1) := by decide +kernel
theorem dR_plan_12 : decode bR_plan 12 = .ok (.iload_n 1, 1) := by decide +kernel
theorem dR_plan_13 : decode bR_plan 13 = .ok (.iconst 1, 1) := by decide +kernel
theorem dR_plan_14 : decode bR_plan 14 = .ok (.isub, 1) := by decide +kernel
theorem dR_plan_15 : decode bR_plan 15 = .ok (.invokestatic 45, 3) := by decide +kernel
theorem dR_plan_18 : decode bR_plan 18 = .ok (.ifCond .eq 7, 3) := by decide +kernel
theorem dR_plan_21 : decode bR_plan 21 = .ok (.iconst 1, 1) := by decide +kernel
theorem dR_plan_22 : decode bR_plan 22 = .ok (.goto 4, 3) := by decide +kernel
theorem dR_plan_25 : decode bR_plan 25 = .ok (.iconst 0, 1) := by decide +kernel
theorem dR_plan_26 : decode bR_plan 26 = .ok (.invokevirtual 49, 3) := by decide +kernel
theorem dR_plan_29 : decode bR_plan 29 = .ok (.ifCond .ne 5, 3) := by decide +kernel
theorem dR_plan_32 : decode bR_plan 32 = .ok (.iconst 0, 1) := by decide +kernel
theorem dR_plan_33 : decode bR_plan 33 = .ok (.ireturn, 1) := by decide +kernel
theorem dR_plan_34 : decode bR_plan 34 = .ok (.aload_n 0, 1) := by decide +kernel
theorem dR_plan_35 : decode bR_plan 35 = .ok (.iload_n 1, 1) := by decide +kernel
theorem dR_plan_36 : decode bR_plan 36 = .ok (.invokevirtual 89, 3) := by decide +kernel
theorem dR_plan_39 : decode bR_plan 39 = .ok (.iconst 0, 1) := by decide +kernel
theorem dR_plan_40 : decode bR_plan 40 = .ok (.istore_n 3, 1) := by decide +kernel
theorem dR_plan_41 : decode bR_plan 41 = .ok (.iconst 0, 1) := by decide +kernel
theorem dR_plan_42 : decode bR_plan 42 = .ok (.istore 4, 2) := by decide +kernel
theorem dR_plan_44 : decode bR_plan 44 = .ok (.iload 4, 2) := by decide +kernel
theorem dR_plan_46 : decode bR_plan 46 = .ok (.iload_n 2, 1) := by decide +kernel
theorem dR_plan_47 : decode bR_plan 47 = .ok (.if_icmp .gt 22, 3) := by decide +kernel
theorem dR_plan_50 : decode bR_plan 50 = .ok (.aload_n 0, 1) := by decide +kernel
theorem dR_plan_51 : decode bR_plan 51 = .ok (.getfield 35, 3) := by decide +kernel
theorem dR_plan_54 : decode bR_plan 54 = .ok (.bipush 64, 2) := by decide +kernel
theorem dR_plan_56 : decode bR_plan 56 = .ok (.iload 4, 2) := by decide +kernel
theorem dR_plan_58 : decode bR_plan 58 = .ok (.imul, 1) := by decide +kernel
theorem dR_plan_59 : decode bR_plan 59 = .ok (.iload_n 3, 1) := by decide +kernel
theorem dR_plan_60 : decode bR_plan 60 = .ok (.iadd, 1) := by decide +kernel
theorem dR_plan_61 : decode bR_plan 61 = .ok (.iaload, 1) := by decide +kernel
theorem dR_plan_62 : decode bR_plan 62 = .ok (.istore_n 3, 1) := by decide +kernel
theorem dR_plan_63 : decode bR_plan 63 = .ok (.iinc 4 1, 3) := by decide +kernel
theorem dR_plan_66 : decode bR_plan 66 = .ok (.goto (-22), 3) := by decide +kernel
theorem dR_plan_69 : decode bR_plan 69 = .ok (.iload_n 3, 1) := by decide +kernel
theorem dR_plan_70 : decode bR_plan 70 = .ok (.ireturn, 1) := by decide +kernel
theorem dR_planned_0 : decode bR_planned 0 = .ok (.aload_n 0, 1) := by decide +kernel
theorem dR_planned_1 : decode bR_planned 1 = .ok (.iload_n 1, 1) := by decide +kernel
theorem dR_planned_2 : decode bR_planned 2 = .ok (.iconst 1, 1) := by decide +kernel
theorem dR_planned_3 : decode bR_planned 3 = .ok (.iconst 4, 1) := by decide +kernel
theorem dR_planned_4 : decode bR_planned 4 = .ok (.invokestatic 45, 3) := by decide +kernel
theorem dR_planned_7 : decode bR_planned 7 = .ok (.invokevirtual 49, 3) := by decide +kernel
theorem dR_planned_10 : decode bR_planned 10 = .ok (.ifCond .ne 5, 3) := by decide +kernel
theorem dR_planned_13 : decode bR_planned 13 = .ok (.iconst 0, 1) := by decide +kernel
theorem dR_planned_14 : decode bR_planned 14 = .ok (.ireturn, 1) := by decide +kernel
theorem dR_planned_15 : decode bR_planned 15 = .ok (.aload_n 0, 1) := by decide +kernel
theorem dR_planned_16 : decode bR_planned 16 = .ok (.iload_n 1, 1) := by decide +kernel
theorem dR_planned_17 : decode bR_planned 17 = .ok (.invokevirtual 89, 3) := by decide +kernel
theorem dR_planned_20 : decode bR_planned 20 = .ok (.aload_n 0, 1) := by decide +kernel
theorem dR_planned_21 : decode bR_planned 21 = .ok (.getfield 29, 3) := by decide +kernel
theorem dR_planned_24 : decode bR_planned 24 = .ok (.iconst 0, 1) := by decide +kernel
theorem dR_planned_25 : decode bR_planned 25 = .ok (.iaload, 1) := by decide +kernel
theorem dR_planned_26 : decode bR_planned 26 = .ok (.ireturn, 1) := by decide +kernel
