theorem dX4_init_0 : decode cX4_init 0 = .ok (.aload_n 0, 1) := by decide +kernel
theorem dX4_init_1 : decode cX4_init 1 = .ok (.invokespecial 3, 3) := by decide +kernel
theorem dX4_init_4 : decode cX4_init 4 = .ok (.aload_n 0, 1) := by decide +kernel
theorem dX4_init_5 : decode cX4_init 5 = .ok (.sipush 240, 3) := by decide +kernel
theorem dX4_init_8 : decode cX4_init 8 = .ok (.newarray .int, 2) := by decide +kernel
theorem dX4_init_10 : decode cX4_init 10 = .ok (.putfield 11, 3) := by decide +kernel
theorem dX4_init_13 : decode cX4_init 13 = .ok (.aload_n 0, 1) := by decide +kernel
theorem dX4_init_14 : decode cX4_init 14 = .ok (.bipush 32, 2) := by decide +kernel
theorem dX4_init_16 : decode cX4_init 16 = .ok (.newarray .int, 2) := by decide +kernel
theorem dX4_init_18 : decode cX4_init 18 = .ok (.putfield 17, 3) := by decide +kernel
theorem dX4_init_21 : decode cX4_init 21 = .ok (.return_, 1) := by decide +kernel
theorem dX4_read_0 : decode cX4_read 0 = .ok (.aload_n 0, 1) := by decide +kernel
theorem dX4_read_1 : decode cX4_read 1 = .ok (.iconst 0, 1) := by decide +kernel
theorem dX4_read_2 : decode cX4_read 2 = .ok (.putfield 20, 3) := by decide +kernel
theorem dX4_read_5 : decode cX4_read 5 = .ok (.aload_n 1, 1) := by decide +kernel
theorem dX4_read_6 : decode cX4_read 6 = .ok (.invokevirtual 24, 3) := by decide +kernel
theorem dX4_read_9 : decode cX4_read 9 = .ok (.iconst 0, 1) := by decide +kernel
theorem dX4_read_10 : decode cX4_read 10 = .ok (.istore_n 2, 1) := by decide +kernel
theorem dX4_read_11 : decode cX4_read 11 = .ok (.iload_n 2, 1) := by decide +kernel
theorem dX4_read_12 : decode cX4_read 12 = .ok (.sipush 240, 3) := by decide +kernel
theorem dX4_read_15 : decode cX4_read 15 = .ok (.if_icmp .gt 40, 3) := by decide +kernel
theorem dX4_read_18 : decode cX4_read 18 = .ok (.aload_n 0, 1) := by decide +kernel
theorem dX4_read_19 : decode cX4_read 19 = .ok (.aload_n 1, 1) := by decide +kernel
theorem dX4_read_20 : decode cX4_read 20 = .ok (.invokevirtual 27, 3) := by decide +kernel
theorem dX4_read_23 : decode cX4_read 23 = .ok (.ifCond .ne 5, 3) := by decide +kernel
theorem dX4_read_26 : decode cX4_read 26 = .ok (.iconst 0, 1) := by decide +kernel
theorem dX4_read_27 : decode cX4_read 27 = .ok (.ireturn, 1) := by decide +kernel
theorem dX4_read_28 : decode cX4_read 28 = .ok (.aload_n 1, 1) := by decide +kernel
theorem dX4_read_29 : decode cX4_read 29 = .ok (.invokevirtual 31, 3) := by decide +kernel
theorem dX4_read_32 : decode cX4_read 32 = .ok (.iconst (-1), 1) := by decide +kernel
theorem dX4_read_33 : decode cX4_read 33 = .ok (.if_icmp .ne 5, 3) := by decide +kernel
theorem dX4_read_36 : decode cX4_read 36 = .ok (.iconst 1, 1) := by decide +kernel
theorem dX4_read_37 : decode cX4_read 37 = .ok (.ireturn, 1) := by decide +kernel
theorem dX4_read_38 : decode cX4_read 38 = .ok (.aload_n 1, 1) := by decide +kernel
theorem dX4_read_39 : decode cX4_read 39 = .ok (.bipush 59, 2) := by decide +kernel
theorem dX4_read_41 : decode cX4_read 41 = .ok (.invokevirtual 35, 3) := by decide +kernel
theorem dX4_read_44 : decode cX4_read 44 = .ok (.ifCond .ne 5, 3) := by decide +kernel
theorem dX4_read_47 : decode cX4_read 47 = .ok (.iconst 0, 1) := by decide +kernel
theorem dX4_read_48 : decode cX4_read 48 = .ok (.ireturn, 1) := by decide +kernel
theorem dX4_read_49 : decode cX4_read 49 = .ok (.iinc 2 1, 3) := by decide +kernel
theorem dX4_read_52 : decode cX4_read 52 = .ok (.goto (-41), 3) := by decide +kernel
theorem dX4_read_55 : decode cX4_read 55 = .ok (.iconst 0, 1) := by decide +kernel
theorem dX4_read_56 : decode cX4_read 56 = .ok (.ireturn, 1) := by decide +kernel
theorem dX4_readClause_0 : decode cX4_readClause 0 = .ok (.aload_n 1, 1) := by decide +kernel
theorem dX4_readClause_1 : decode cX4_readClause 1 = .ok (.bipush 121, 2) := by decide +kernel
theorem dX4_readClause_3 : decode cX4_readClause 3 = .ok (.invokevirtual 35, 3) := by decide +kernel
theorem dX4_readClause_6 : decode cX4_readClause 6 = .ok (.ifCond .eq 12, 3) := by decide +kernel
theorem dX4_readClause_9 : decode cX4_readClause 9 = .ok (.aload_n 1, 1) := by decide +kernel
theorem dX4_readClause_10 : decode cX4_readClause 10 = .ok (.bipush 58, 2) := by decide +kernel
theorem dX4_readClause_12 : decode cX4_readClause 12 = .ok (.invokevirtual 35, 3) := by decide +kernel
theorem dX4_readClause_15 : decode cX4_readClause 15 = .ok (.ifCond .ne 5, 3) := by decide +kernel
theorem dX4_readClause_18 : decode cX4_readClause 18 = .ok (.iconst 0, 1) := by decide +kernel
theorem dX4_readClause_19 : decode cX4_readClause 19 = .ok (.ireturn, 1) := by decide +kernel
theorem dX4_readClause_20 : decode cX4_readClause 20 = .ok (.aload_n 1, 1) := by decide +kernel
theorem dX4_readClause_21 : decode cX4_readClause 21 = .ok (.invokevirtual 31, 3) := by decide +kernel
theorem dX4_readClause_24 : decode cX4_readClause 24 = .ok (.bipush 33, 2) := by decide +kernel
theorem dX4_readClause_26 : decode cX4_readClause 26 = .ok (.if_icmp .eq 16, 3) := by decide +kernel
theorem dX4_readClause_29 : decode cX4_readClause 29 = .ok (.aload_n 1, 1) := by decide +kernel
theorem dX4_readClause_30 : decode cX4_readClause 30 = .ok (.invokevirtual 31, 3) := by decide +kernel
theorem dX4_readClause_33 : decode cX4_readClause 33 = .ok (.bipush 40, 2) := by decide +kernel
theorem dX4_readClause_35 : decode cX4_readClause 35 = .ok (.if_icmp .eq 7, 3) := by decide +kernel
theorem dX4_readClause_38 : decode cX4_readClause 38 = .ok (.iconst 1, 1) := by decide +kernel
theorem dX4_readClause_39 : decode cX4_readClause 39 = .ok (.goto 4, 3) := by decide +kernel
theorem dX4_readClause_42 : decode cX4_readClause 42 = .ok (.iconst 0, 1) := by decide +kernel
theorem dX4_readClause_43 : decode cX4_readClause 43 = .ok (.istore_n 2, 1) := by decide +kernel
theorem dX4_readClause_44 : decode cX4_readClause 44 = .ok (.iload_n 2, 1) := by decide +kernel
theorem dX4_readClause_45 : decode cX4_readClause 45 = .ok (.ifCond .eq 32, 3) := by decide +kernel
theorem dX4_readClause_48 : decode cX4_readClause 48 = .ok (.aload_n 0, 1) := by decide +kernel
theorem dX4_readClause_49 : decode cX4_readClause 49 = .ok (.aload_n 1, 1) := by decide +kernel
theorem dX4_readClause_50 : decode cX4_readClause 50 = .ok (.iconst 0, 1) := by decide +kernel
theorem dX4_readClause_51 : decode cX4_readClause 51 = .ok (.invokevirtual 39, 3) := by decide +kernel
theorem dX4_readClause_54 : decode cX4_readClause 54 = .ok (.ifCond .ne 5, 3) := by decide +kernel
theorem dX4_readClause_57 : decode cX4_readClause 57 = .ok (.iconst 0, 1) := by decide +kernel
theorem dX4_readClause_58 : decode cX4_readClause 58 = .ok (.ireturn, 1) := by decide +kernel
theorem dX4_readClause_59 : decode cX4_readClause 59 = .ok (.aload_n 1, 1) := by decide +kernel
theorem dX4_readClause_60 : decode cX4_readClause 60 = .ok (.invokevirtual 31, 3) := by decide +kernel
theorem dX4_readClause_63 : decode cX4_readClause 63 = .ok (.invokestatic 43, 3) := by decide +kernel
theorem dX4_readClause_66 : decode cX4_readClause 66 = .ok (.ifCond .ne 11, 3) := by decide +kernel
theorem dX4_readClause_69 : decode cX4_readClause 69 = .ok (.aload_n 0, 1) := by decide +kernel
theorem dX4_readClause_70 : decode cX4_readClause 70 = .ok (.bipush (-7), 2) := by decide +kernel
theorem dX4_readClause_72 : decode cX4_readClause 72 = .ok (.invokevirtual 46, 3) := by decide +kernel
theorem dX4_readClause_75 : decode cX4_readClause 75 = .ok (.iconst 1, 1) := by decide +kernel
theorem dX4_readClause_76 : decode cX4_readClause 76 = .ok (.ireturn, 1) := by decide +kernel
theorem dX4_readClause_77 : decode cX4_readClause 77 = .ok (.aload_n 0, 1) := by decide +kernel
theorem dX4_readClause_78 : decode cX4_readClause 78 = .ok (.aload_n 1, 1) := by decide +kernel
theorem dX4_readClause_79 : decode cX4_readClause 79 = .ok (.iconst 0, 1) := by decide +kernel
theorem dX4_readClause_80 : decode cX4_readClause 80 = .ok (.iload_n 2, 1) := by decide +kernel
theorem dX4_readClause_81 : decode cX4_readClause 81 = .ok (.invokevirtual 50, 3) := by decide +kernel
theorem dX4_readClause_84 : decode cX4_readClause 84 = .ok (.ifCond .eq 24, 3) := by decide +kernel
theorem dX4_readClause_87 : decode cX4_readClause 87 = .ok (.aload_n 1, 1) := by decide +kernel
theorem dX4_readClause_88 : decode cX4_readClause 88 = .ok (.bipush 63, 2) := by decide +kernel
theorem dX4_readClause_90 : decode cX4_readClause 90 = .ok (.invokevirtual 35, 3) := by decide +kernel
theorem dX4_readClause_93 : decode cX4_readClause 93 = .ok (.ifCond .eq 15, 3) := by decide +kernel
theorem dX4_readClause_96 : decode cX4_readClause 96 = .ok (.aload_n 0, 1) := by decide +kernel
theorem dX4_readClause_97 : decode cX4_readClause 97 = .ok (.aload_n 1, 1) := by decide +kernel
theorem dX4_readClause_98 : decode cX4_readClause 98 = .ok (.invokevirtual 54, 3) := by decide +kernel
theorem dX4_readClause_101 : decode cX4_readClause 101 = .ok (.ifCond .eq 7, 3) := by decide +kernel
theorem dX4_readClause_104 : decode cX4_readClause 104 = .ok (.iconst 1, 1) := by decide +kernel
theorem dX4_readClause_105 : decode cX4_readClause 105 = .ok (.goto 4, 3) := by decide +kernel
theorem dX4_readClause_108 : decode cX4_readClause 108 = .ok (.iconst 0, 1) := by decide +kernel
theorem dX4_readClause_109 : decode cX4_readClause 109 = .ok (.ireturn, 1) := by decide +kernel
theorem dX4_readGuarded_0 : decode cX4_readGuarded 0 = .ok (.aload_n 0, 1) := by decide +kernel
theorem dX4_readGuarded_1 : decode cX4_readGuarded 1 = .ok (.getfield 20, 3) := by decide +kernel
theorem dX4_readGuarded_4 : decode cX4_readGuarded 4 = .ok (.istore_n 2, 1) := by decide +kernel
theorem dX4_readGuarded_5 : decode cX4_readGuarded 5 = .ok (.aload_n 0, 1) := by decide +kernel
theorem dX4_readGuarded_6 : decode cX4_readGuarded 6 = .ok (.sipush (-1000), 3) := by decide +kernel
theorem dX4_readGuarded_9 : decode cX4_readGuarded 9 = .ok (.invokevirtual 46, 3) := by decide +kernel
theorem dX4_readGuarded_12 : decode cX4_readGuarded 12 = .ok (.aload_n 0, 1) := by decide +kernel
theorem dX4_readGuarded_13 : decode cX4_readGuarded 13 = .ok (.aload_n 1, 1) := by decide +kernel
theorem dX4_readGuarded_14 : decode cX4_readGuarded 14 = .ok (.iconst 0, 1) := by decide +kernel
theorem dX4_readGuarded_15 : decode cX4_readGuarded 15 = .ok (.invokevirtual 39, 3) := by decide +kernel
theorem dX4_readGuarded_18 : decode cX4_readGuarded 18 = .ok (.ifCond .ne 5, 3) := by decide +kernel
theorem dX4_readGuarded_21 : decode cX4_readGuarded 21 = .ok (.iconst 0, 1) := by decide +kernel
theorem dX4_readGuarded_22 : decode cX4_readGuarded 22 = .ok (.ireturn, 1) := by decide +kernel
theorem dX4_readGuarded_23 : decode cX4_readGuarded 23 = .ok (.aload_n 0, 1) := by decide +kernel
theorem dX4_readGuarded_24 : decode cX4_readGuarded 24 = .ok (.bipush (-7), 2) := by decide +kernel
theorem dX4_readGuarded_26 : decode cX4_readGuarded 26 = .ok (.invokevirtual 46, 3) := by decide +kernel
theorem dX4_readGuarded_29 : decode cX4_readGuarded 29 = .ok (.iload_n 2, 1) := by decide +kernel
theorem dX4_readGuarded_30 : decode cX4_readGuarded 30 = .ok (.aload_n 0, 1) := by decide +kernel
theorem dX4_readGuarded_31 : decode cX4_readGuarded 31 = .ok (.getfield 11, 3) := by decide +kernel
theorem dX4_readGuarded_34 : decode cX4_readGuarded 34 = .ok (.arraylength, 1) := by decide +kernel
theorem dX4_readGuarded_35 : decode cX4_readGuarded 35 = .ok (.if_icmp .ge 17, 3) := by decide +kernel
theorem dX4_readGuarded_38 : decode cX4_readGuarded 38 = .ok (.aload_n 0, 1) := by decide +kernel
theorem dX4_readGuarded_39 : decode cX4_readGuarded 39 = .ok (.getfield 11, 3) := by decide +kernel
theorem dX4_readGuarded_42 : decode cX4_readGuarded 42 = .ok (.iload_n 2, 1) := by decide +kernel
theorem dX4_readGuarded_43 : decode cX4_readGuarded 43 = .ok (.sipush (-1000), 3) := by decide +kernel
theorem dX4_readGuarded_46 : decode cX4_readGuarded 46 = .ok (.aload_n 0, 1) := by decide +kernel
theorem dX4_readGuarded_47 : decode cX4_readGuarded 47 = .ok (.getfield 20, 3) := by decide +kernel
theorem dX4_readGuarded_50 : decode cX4_readGuarded 50 = .ok (.isub, 1) := by decide +kernel
theorem dX4_readGuarded_51 : decode cX4_readGuarded 51 = .ok (.iastore, 1) := by decide +kernel
theorem dX4_readGuarded_52 : decode cX4_readGuarded 52 = .ok (.iconst 1, 1) := by decide +kernel
theorem dX4_readGuarded_53 : decode cX4_readGuarded 53 = .ok (.ireturn, 1) := by decide +kernel
theorem dX4_readCondition_0 : decode cX4_readCondition 0 = .ok (.aload_n 0, 1) := by decide +kernel
theorem dX4_readCondition_1 : decode cX4_readCondition 1 = .ok (.aload_n 1, 1) := by decide +kernel
theorem dX4_readCondition_2 : decode cX4_readCondition 2 = .ok (.iload_n 2, 1) := by decide +kernel
theorem dX4_readCondition_3 : decode cX4_readCondition 3 = .ok (.iload_n 3, 1) := by decide +kernel
theorem dX4_readCondition_4 : decode cX4_readCondition 4 = .ok (.invokevirtual 57, 3) := by decide +kernel
theorem dX4_readCondition_7 : decode cX4_readCondition 7 = .ok (.ifCond .ne 5, 3) := by decide +kernel
theorem dX4_readCondition_10 : decode cX4_readCondition 10 = .ok (.iconst 0, 1) := by decide +kernel
theorem dX4_readCondition_11 : decode cX4_readCondition 11 = .ok (.ireturn, 1) := by decide +kernel
theorem dX4_readCondition_12 : decode cX4_readCondition 12 = .ok (.iconst 0, 1) := by decide +kernel
theorem dX4_readCondition_13 : decode cX4_readCondition 13 = .ok (.istore 4, 2) := by decide +kernel
theorem dX4_readCondition_15 : decode cX4_readCondition 15 = .ok (.iload 4, 2) := by decide +kernel
theorem dX4_readCondition_17 : decode cX4_readCondition 17 = .ok (.sipush 240, 3) := by decide +kernel
theorem dX4_readCondition_20 : decode cX4_readCondition 20 = .ok (.if_icmp .gt 36, 3) := by decide +kernel
theorem dX4_readCondition_23 : decode cX4_readCondition 23 = .ok (.aload_n 1, 1) := by decide +kernel
theorem dX4_readCondition_24 : decode cX4_readCondition 24 = .ok (.bipush 124, 2) := by decide +kernel
theorem dX4_readCondition_26 : decode cX4_readCondition 26 = .ok (.invokevirtual 35, 3) := by decide +kernel
theorem dX4_readCondition_29 : decode cX4_readCondition 29 = .ok (.ifCond .eq 27, 3) := by decide +kernel
theorem dX4_readCondition_32 : decode cX4_readCondition 32 = .ok (.aload_n 0, 1) := by decide +kernel
theorem dX4_readCondition_33 : decode cX4_readCondition 33 = .ok (.aload_n 1, 1) := by decide +kernel
theorem dX4_readCondition_34 : decode cX4_readCondition 34 = .ok (.iload_n 2, 1) := by decide +kernel
theorem dX4_readCondition_35 : decode cX4_readCondition 35 = .ok (.iconst 0, 1) := by decide +kernel
theorem dX4_readCondition_36 : decode cX4_readCondition 36 = .ok (.invokevirtual 57, 3) := by decide +kernel
theorem dX4_readCondition_39 : decode cX4_readCondition 39 = .ok (.ifCond .ne 5, 3) := by decide +kernel
theorem dX4_readCondition_42 : decode cX4_readCondition 42 = .ok (.iconst 0, 1) := by decide +kernel
theorem dX4_readCondition_43 : decode cX4_readCondition 43 = .ok (.ireturn, 1) := by decide +kernel
theorem dX4_readCondition_44 : decode cX4_readCondition 44 = .ok (.aload_n 0, 1) := by decide +kernel
theorem dX4_readCondition_45 : decode cX4_readCondition 45 = .ok (.bipush (-124), 2) := by decide +kernel
theorem dX4_readCondition_47 : decode cX4_readCondition 47 = .ok (.invokevirtual 46, 3) := by decide +kernel
theorem dX4_readCondition_50 : decode cX4_readCondition 50 = .ok (.iinc 4 1, 3) := by decide +kernel
theorem dX4_readCondition_53 : decode cX4_readCondition 53 = .ok (.goto (-38), 3) := by decide +kernel
theorem dX4_readCondition_56 : decode cX4_readCondition 56 = .ok (.iconst 1, 1) := by decide +kernel
theorem dX4_readCondition_57 : decode cX4_readCondition 57 = .ok (.ireturn, 1) := by decide +kernel
theorem dX4_readTruth_0 : decode cX4_readTruth 0 = .ok (.aload_n 0, 1) := by decide +kernel
theorem dX4_readTruth_1 : decode cX4_readTruth 1 = .ok (.aload_n 1, 1) := by decide +kernel
theorem dX4_readTruth_2 : decode cX4_readTruth 2 = .ok (.iload_n 2, 1) := by decide +kernel
theorem dX4_readTruth_3 : decode cX4_readTruth 3 = .ok (.iload_n 3, 1) := by decide +kernel
theorem dX4_readTruth_4 : decode cX4_readTruth 4 = .ok (.invokevirtual 60, 3) := by decide +kernel
theorem dX4_readTruth_7 : decode cX4_readTruth 7 = .ok (.ifCond .ne 5, 3) := by decide +kernel
theorem dX4_readTruth_10 : decode cX4_readTruth 10 = .ok (.iconst 0, 1) := by decide +kernel
theorem dX4_readTruth_11 : decode cX4_readTruth 11 = .ok (.ireturn, 1) := by decide +kernel
theorem dX4_readTruth_12 : decode cX4_readTruth 12 = .ok (.iconst 0, 1) := by decide +kernel
theorem dX4_readTruth_13 : decode cX4_readTruth 13 = .ok (.istore 4, 2) := by decide +kernel
theorem dX4_readTruth_15 : decode cX4_readTruth 15 = .ok (.iload 4, 2) := by decide +kernel
theorem dX4_readTruth_17 : decode cX4_readTruth 17 = .ok (.sipush 240, 3) := by decide +kernel
theorem dX4_readTruth_20 : decode cX4_readTruth 20 = .ok (.if_icmp .gt 36, 3) := by decide +kernel
theorem dX4_readTruth_23 : decode cX4_readTruth 23 = .ok (.aload_n 1, 1) := by decide +kernel
theorem dX4_readTruth_24 : decode cX4_readTruth 24 = .ok (.bipush 38, 2) := by decide +kernel
theorem dX4_readTruth_26 : decode cX4_readTruth 26 = .ok (.invokevirtual 35, 3) := by decide +kernel
theorem dX4_readTruth_29 : decode cX4_readTruth 29 = .ok (.ifCond .eq 27, 3) := by decide +kernel
theorem dX4_readTruth_32 : decode cX4_readTruth 32 = .ok (.aload_n 0, 1) := by decide +kernel
theorem dX4_readTruth_33 : decode cX4_readTruth 33 = .ok (.aload_n 1, 1) := by decide +kernel
theorem dX4_readTruth_34 : decode cX4_readTruth 34 = .ok (.iload_n 2, 1) := by decide +kernel
theorem dX4_readTruth_35 : decode cX4_readTruth 35 = .ok (.iconst 0, 1) := by decide +kernel
theorem dX4_readTruth_36 : decode cX4_readTruth 36 = .ok (.invokevirtual 60, 3) := by decide +kernel
theorem dX4_readTruth_39 : decode cX4_readTruth 39 = .ok (.ifCond .ne 5, 3) := by decide +kernel
theorem dX4_readTruth_42 : decode cX4_readTruth 42 = .ok (.iconst 0, 1) := by decide +kernel
theorem dX4_readTruth_43 : decode cX4_readTruth 43 = .ok (.ireturn, 1) := by decide +kernel
theorem dX4_readTruth_44 : decode cX4_readTruth 44 = .ok (.aload_n 0, 1) := by decide +kernel
theorem dX4_readTruth_45 : decode cX4_readTruth 45 = .ok (.bipush (-38), 2) := by decide +kernel
theorem dX4_readTruth_47 : decode cX4_readTruth 47 = .ok (.invokevirtual 46, 3) := by decide +kernel
theorem dX4_readTruth_50 : decode cX4_readTruth 50 = .ok (.iinc 4 1, 3) := by decide +kernel
theorem dX4_readTruth_53 : decode cX4_readTruth 53 = .ok (.goto (-38), 3) := by decide +kernel
theorem dX4_readTruth_56 : decode cX4_readTruth 56 = .ok (.iconst 1, 1) := by decide +kernel
theorem dX4_readTruth_57 : decode cX4_readTruth 57 = .ok (.ireturn, 1) := by decide +kernel
theorem dX4_readUnit_0 : decode cX4_readUnit 0 = .ok (.aload_n 1, 1) := by decide +kernel
theorem dX4_readUnit_1 : decode cX4_readUnit 1 = .ok (.invokevirtual 31, 3) := by decide +kernel
theorem dX4_readUnit_4 : decode cX4_readUnit 4 = .ok (.istore 4, 2) := by decide +kernel
theorem dX4_readUnit_6 : decode cX4_readUnit 6 = .ok (.iload_n 3, 1) := by decide +kernel
theorem dX4_readUnit_7 : decode cX4_readUnit 7 = .ok (.ifCond .ne 83, 3) := by decide +kernel
theorem dX4_readUnit_10 : decode cX4_readUnit 10 = .ok (.iload 4, 2) := by decide +kernel
theorem dX4_readUnit_12 : decode cX4_readUnit 12 = .ok (.bipush 33, 2) := by decide +kernel
theorem dX4_readUnit_14 : decode cX4_readUnit 14 = .ok (.if_icmp .eq 10, 3) := by decide +kernel
theorem dX4_readUnit_17 : decode cX4_readUnit 17 = .ok (.iload 4, 2) := by decide +kernel
theorem dX4_readUnit_19 : decode cX4_readUnit 19 = .ok (.bipush 40, 2) := by decide +kernel
theorem dX4_readUnit_21 : decode cX4_readUnit 21 = .ok (.if_icmp .ne 69, 3) := by decide +kernel
theorem dX4_readUnit_24 : decode cX4_readUnit 24 = .ok (.iload_n 2, 1) := by decide +kernel
theorem dX4_readUnit_25 : decode cX4_readUnit 25 = .ok (.bipush 6, 2) := by decide +kernel
theorem dX4_readUnit_27 : decode cX4_readUnit 27 = .ok (.if_icmp .lt 5, 3) := by decide +kernel
theorem dX4_readUnit_30 : decode cX4_readUnit 30 = .ok (.iconst 0, 1) := by decide +kernel
theorem dX4_readUnit_31 : decode cX4_readUnit 31 = .ok (.ireturn, 1) := by decide +kernel
theorem dX4_readUnit_32 : decode cX4_readUnit 32 = .ok (.aload_n 1, 1) := by decide +kernel
theorem dX4_readUnit_33 : decode cX4_readUnit 33 = .ok (.invokevirtual 63, 3) := by decide +kernel
theorem dX4_readUnit_36 : decode cX4_readUnit 36 = .ok (.iload 4, 2) := by decide +kernel
theorem dX4_readUnit_38 : decode cX4_readUnit 38 = .ok (.bipush 40, 2) := by decide +kernel
theorem dX4_readUnit_40 : decode cX4_readUnit 40 = .ok (.if_icmp .ne 30, 3) := by decide +kernel
theorem dX4_readUnit_43 : decode cX4_readUnit 43 = .ok (.aload_n 0, 1) := by decide +kernel
theorem dX4_readUnit_44 : decode cX4_readUnit 44 = .ok (.aload_n 1, 1) := by decide +kernel
theorem dX4_readUnit_45 : decode cX4_readUnit 45 = .ok (.iload_n 2, 1) := by decide +kernel
theorem dX4_readUnit_46 : decode cX4_readUnit 46 = .ok (.iconst 1, 1) := by decide +kernel
theorem dX4_readUnit_47 : decode cX4_readUnit 47 = .ok (.iadd, 1) := by decide +kernel
theorem dX4_readUnit_48 : decode cX4_readUnit 48 = .ok (.iconst 0, 1) := by decide +kernel
theorem dX4_readUnit_49 : decode cX4_readUnit 49 = .ok (.invokevirtual 50, 3) := by decide +kernel
theorem dX4_readUnit_52 : decode cX4_readUnit 52 = .ok (.ifCond .eq 16, 3) := by decide +kernel
theorem dX4_readUnit_55 : decode cX4_readUnit 55 = .ok (.aload_n 1, 1) := by decide +kernel
theorem dX4_readUnit_56 : decode cX4_readUnit 56 = .ok (.bipush 41, 2) := by decide +kernel
theorem dX4_readUnit_58 : decode cX4_readUnit 58 = .ok (.invokevirtual 35, 3) := by decide +kernel
theorem dX4_readUnit_61 : decode cX4_readUnit 61 = .ok (.ifCond .eq 7, 3) := by decide +kernel
theorem dX4_readUnit_64 : decode cX4_readUnit 64 = .ok (.iconst 1, 1) := by decide +kernel
theorem dX4_readUnit_65 : decode cX4_readUnit 65 = .ok (.goto 4, 3) := by decide +kernel
theorem dX4_readUnit_68 : decode cX4_readUnit 68 = .ok (.iconst 0, 1) := by decide +kernel
theorem dX4_readUnit_69 : decode cX4_readUnit 69 = .ok (.ireturn, 1) := by decide +kernel
theorem dX4_readUnit_70 : decode cX4_readUnit 70 = .ok (.aload_n 0, 1) := by decide +kernel
theorem dX4_readUnit_71 : decode cX4_readUnit 71 = .ok (.aload_n 1, 1) := by decide +kernel
theorem dX4_readUnit_72 : decode cX4_readUnit 72 = .ok (.iload_n 2, 1) := by decide +kernel
theorem dX4_readUnit_73 : decode cX4_readUnit 73 = .ok (.iconst 1, 1) := by decide +kernel
theorem dX4_readUnit_74 : decode cX4_readUnit 74 = .ok (.iadd, 1) := by decide +kernel
theorem dX4_readUnit_75 : decode cX4_readUnit 75 = .ok (.iconst 0, 1) := by decide +kernel
theorem dX4_readUnit_76 : decode cX4_readUnit 76 = .ok (.invokevirtual 60, 3) := by decide +kernel
theorem dX4_readUnit_79 : decode cX4_readUnit 79 = .ok (.istore 5, 2) := by decide +kernel
theorem dX4_readUnit_81 : decode cX4_readUnit 81 = .ok (.aload_n 0, 1) := by decide +kernel
theorem dX4_readUnit_82 : decode cX4_readUnit 82 = .ok (.bipush (-33), 2) := by decide +kernel
theorem dX4_readUnit_84 : decode cX4_readUnit 84 = .ok (.invokevirtual 46, 3) := by decide +kernel
theorem dX4_readUnit_87 : decode cX4_readUnit 87 = .ok (.iload 5, 2) := by decide +kernel
theorem dX4_readUnit_89 : decode cX4_readUnit 89 = .ok (.ireturn, 1) := by decide +kernel
theorem dX4_readUnit_90 : decode cX4_readUnit 90 = .ok (.iload_n 3, 1) := by decide +kernel
theorem dX4_readUnit_91 : decode cX4_readUnit 91 = .ok (.ifCond .ne 14, 3) := by decide +kernel
theorem dX4_readUnit_94 : decode cX4_readUnit 94 = .ok (.aload_n 0, 1) := by decide +kernel
theorem dX4_readUnit_95 : decode cX4_readUnit 95 = .ok (.aload_n 1, 1) := by decide +kernel
theorem dX4_readUnit_96 : decode cX4_readUnit 96 = .ok (.iload_n 2, 1) := by decide +kernel
theorem dX4_readUnit_97 : decode cX4_readUnit 97 = .ok (.invokevirtual 39, 3) := by decide +kernel
theorem dX4_readUnit_100 : decode cX4_readUnit 100 = .ok (.ifCond .ne 5, 3) := by decide +kernel
theorem dX4_readUnit_103 : decode cX4_readUnit 103 = .ok (.iconst 0, 1) := by decide +kernel
theorem dX4_readUnit_104 : decode cX4_readUnit 104 = .ok (.ireturn, 1) := by decide +kernel
theorem dX4_readUnit_105 : decode cX4_readUnit 105 = .ok (.aload_n 1, 1) := by decide +kernel
theorem dX4_readUnit_106 : decode cX4_readUnit 106 = .ok (.invokevirtual 31, 3) := by decide +kernel
theorem dX4_readUnit_109 : decode cX4_readUnit 109 = .ok (.istore 5, 2) := by decide +kernel
theorem dX4_readUnit_111 : decode cX4_readUnit 111 = .ok (.iload 5, 2) := by decide +kernel
theorem dX4_readUnit_113 : decode cX4_readUnit 113 = .ok (.invokestatic 43, 3) := by decide +kernel
theorem dX4_readUnit_116 : decode cX4_readUnit 116 = .ok (.ifCond .ne 5, 3) := by decide +kernel
theorem dX4_readUnit_119 : decode cX4_readUnit 119 = .ok (.iconst 0, 1) := by decide +kernel
theorem dX4_readUnit_120 : decode cX4_readUnit 120 = .ok (.ireturn, 1) := by decide +kernel
theorem dX4_readUnit_121 : decode cX4_readUnit 121 = .ok (.aload_n 1, 1) := by decide +kernel
theorem dX4_readUnit_122 : decode cX4_readUnit 122 = .ok (.invokevirtual 63, 3) := by decide +kernel
theorem dX4_readUnit_125 : decode cX4_readUnit 125 = .ok (.aload_n 0, 1) := by decide +kernel
theorem dX4_readUnit_126 : decode cX4_readUnit 126 = .ok (.aload_n 1, 1) := by decide +kernel
theorem dX4_readUnit_127 : decode cX4_readUnit 127 = .ok (.iload_n 2, 1) := by decide +kernel
theorem dX4_readUnit_128 : decode cX4_readUnit 128 = .ok (.invokevirtual 39, 3) := by decide +kernel
theorem dX4_readUnit_131 : decode cX4_readUnit 131 = .ok (.istore 6, 2) := by decide +kernel
theorem dX4_readUnit_133 : decode cX4_readUnit 133 = .ok (.aload_n 0, 1) := by decide +kernel
theorem dX4_readUnit_134 : decode cX4_readUnit 134 = .ok (.iload 5, 2) := by decide +kernel
theorem dX4_readUnit_136 : decode cX4_readUnit 136 = .ok (.ineg, 1) := by decide +kernel
theorem dX4_readUnit_137 : decode cX4_readUnit 137 = .ok (.invokevirtual 46, 3) := by decide +kernel
theorem dX4_readUnit_140 : decode cX4_readUnit 140 = .ok (.iload 6, 2) := by decide +kernel
theorem dX4_readUnit_142 : decode cX4_readUnit 142 = .ok (.ireturn, 1) := by decide +kernel
theorem dX4_readSum_0 : decode cX4_readSum 0 = .ok (.aload_n 0, 1) := by decide +kernel
theorem dX4_readSum_1 : decode cX4_readSum 1 = .ok (.aload_n 1, 1) := by decide +kernel
theorem dX4_readSum_2 : decode cX4_readSum 2 = .ok (.iload_n 2, 1) := by decide +kernel
theorem dX4_readSum_3 : decode cX4_readSum 3 = .ok (.invokevirtual 66, 3) := by decide +kernel
theorem dX4_readSum_6 : decode cX4_readSum 6 = .ok (.istore_n 3, 1) := by decide +kernel
theorem dX4_readSum_7 : decode cX4_readSum 7 = .ok (.iconst 0, 1) := by decide +kernel
theorem dX4_readSum_8 : decode cX4_readSum 8 = .ok (.istore 4, 2) := by decide +kernel
theorem dX4_readSum_10 : decode cX4_readSum 10 = .ok (.iload 4, 2) := by decide +kernel
theorem dX4_readSum_12 : decode cX4_readSum 12 = .ok (.sipush 240, 3) := by decide +kernel
theorem dX4_readSum_15 : decode cX4_readSum 15 = .ok (.if_icmp .gt 53, 3) := by decide +kernel
theorem dX4_readSum_18 : decode cX4_readSum 18 = .ok (.iload_n 3, 1) := by decide +kernel
theorem dX4_readSum_19 : decode cX4_readSum 19 = .ok (.ifCond .eq 49, 3) := by decide +kernel
theorem dX4_readSum_22 : decode cX4_readSum 22 = .ok (.aload_n 1, 1) := by decide +kernel
theorem dX4_readSum_23 : decode cX4_readSum 23 = .ok (.invokevirtual 31, 3) := by decide +kernel
theorem dX4_readSum_26 : decode cX4_readSum 26 = .ok (.istore 5, 2) := by decide +kernel
theorem dX4_readSum_28 : decode cX4_readSum 28 = .ok (.iload 5, 2) := by decide +kernel
theorem dX4_readSum_30 : decode cX4_readSum 30 = .ok (.bipush 43, 2) := by decide +kernel
theorem dX4_readSum_32 : decode cX4_readSum 32 = .ok (.if_icmp .eq 12, 3) := by decide +kernel
theorem dX4_readSum_35 : decode cX4_readSum 35 = .ok (.iload 5, 2) := by decide +kernel
theorem dX4_readSum_37 : decode cX4_readSum 37 = .ok (.bipush 45, 2) := by decide +kernel
theorem dX4_readSum_39 : decode cX4_readSum 39 = .ok (.if_icmp .eq 5, 3) := by decide +kernel
theorem dX4_readSum_42 : decode cX4_readSum 42 = .ok (.iconst 1, 1) := by decide +kernel
theorem dX4_readSum_43 : decode cX4_readSum 43 = .ok (.ireturn, 1) := by decide +kernel
theorem dX4_readSum_44 : decode cX4_readSum 44 = .ok (.aload_n 1, 1) := by decide +kernel
theorem dX4_readSum_45 : decode cX4_readSum 45 = .ok (.invokevirtual 63, 3) := by decide +kernel
theorem dX4_readSum_48 : decode cX4_readSum 48 = .ok (.aload_n 0, 1) := by decide +kernel
theorem dX4_readSum_49 : decode cX4_readSum 49 = .ok (.aload_n 1, 1) := by decide +kernel
theorem dX4_readSum_50 : decode cX4_readSum 50 = .ok (.iload_n 2, 1) := by decide +kernel
theorem dX4_readSum_51 : decode cX4_readSum 51 = .ok (.invokevirtual 66, 3) := by decide +kernel
theorem dX4_readSum_54 : decode cX4_readSum 54 = .ok (.istore_n 3, 1) := by decide +kernel
theorem dX4_readSum_55 : decode cX4_readSum 55 = .ok (.aload_n 0, 1) := by decide +kernel
theorem dX4_readSum_56 : decode cX4_readSum 56 = .ok (.iload 5, 2) := by decide +kernel
theorem dX4_readSum_58 : decode cX4_readSum 58 = .ok (.ineg, 1) := by decide +kernel
theorem dX4_readSum_59 : decode cX4_readSum 59 = .ok (.invokevirtual 46, 3) := by decide +kernel
theorem dX4_readSum_62 : decode cX4_readSum 62 = .ok (.iinc 4 1, 3) := by decide +kernel
theorem dX4_readSum_65 : decode cX4_readSum 65 = .ok (.goto (-55), 3) := by decide +kernel
theorem dX4_readSum_68 : decode cX4_readSum 68 = .ok (.iload_n 3, 1) := by decide +kernel
theorem dX4_readSum_69 : decode cX4_readSum 69 = .ok (.ireturn, 1) := by decide +kernel
theorem dX4_readTerm_0 : decode cX4_readTerm 0 = .ok (.aload_n 0, 1) := by decide +kernel
theorem dX4_readTerm_1 : decode cX4_readTerm 1 = .ok (.aload_n 1, 1) := by decide +kernel
theorem dX4_readTerm_2 : decode cX4_readTerm 2 = .ok (.iload_n 2, 1) := by decide +kernel
theorem dX4_readTerm_3 : decode cX4_readTerm 3 = .ok (.invokevirtual 69, 3) := by decide +kernel
theorem dX4_readTerm_6 : decode cX4_readTerm 6 = .ok (.istore_n 3, 1) := by decide +kernel
theorem dX4_readTerm_7 : decode cX4_readTerm 7 = .ok (.iconst 0, 1) := by decide +kernel
theorem dX4_readTerm_8 : decode cX4_readTerm 8 = .ok (.istore 4, 2) := by decide +kernel
theorem dX4_readTerm_10 : decode cX4_readTerm 10 = .ok (.iload 4, 2) := by decide +kernel
theorem dX4_readTerm_12 : decode cX4_readTerm 12 = .ok (.sipush 240, 3) := by decide +kernel
theorem dX4_readTerm_15 : decode cX4_readTerm 15 = .ok (.if_icmp .gt 53, 3) := by decide +kernel
theorem dX4_readTerm_18 : decode cX4_readTerm 18 = .ok (.iload_n 3, 1) := by decide +kernel
theorem dX4_readTerm_19 : decode cX4_readTerm 19 = .ok (.ifCond .eq 49, 3) := by decide +kernel
theorem dX4_readTerm_22 : decode cX4_readTerm 22 = .ok (.aload_n 1, 1) := by decide +kernel
theorem dX4_readTerm_23 : decode cX4_readTerm 23 = .ok (.invokevirtual 31, 3) := by decide +kernel
theorem dX4_readTerm_26 : decode cX4_readTerm 26 = .ok (.istore 5, 2) := by decide +kernel
theorem dX4_readTerm_28 : decode cX4_readTerm 28 = .ok (.iload 5, 2) := by decide +kernel
theorem dX4_readTerm_30 : decode cX4_readTerm 30 = .ok (.bipush 42, 2) := by decide +kernel
theorem dX4_readTerm_32 : decode cX4_readTerm 32 = .ok (.if_icmp .eq 12, 3) := by decide +kernel
theorem dX4_readTerm_35 : decode cX4_readTerm 35 = .ok (.iload 5, 2) := by decide +kernel
theorem dX4_readTerm_37 : decode cX4_readTerm 37 = .ok (.bipush 47, 2) := by decide +kernel
theorem dX4_readTerm_39 : decode cX4_readTerm 39 = .ok (.if_icmp .eq 5, 3) := by decide +kernel
theorem dX4_readTerm_42 : decode cX4_readTerm 42 = .ok (.iconst 1, 1) := by decide +kernel
theorem dX4_readTerm_43 : decode cX4_readTerm 43 = .ok (.ireturn, 1) := by decide +kernel
theorem dX4_readTerm_44 : decode cX4_readTerm 44 = .ok (.aload_n 1, 1) := by decide +kernel
theorem dX4_readTerm_45 : decode cX4_readTerm 45 = .ok (.invokevirtual 63, 3) := by decide +kernel
theorem dX4_readTerm_48 : decode cX4_readTerm 48 = .ok (.aload_n 0, 1) := by decide +kernel
theorem dX4_readTerm_49 : decode cX4_readTerm 49 = .ok (.aload_n 1, 1) := by decide +kernel
theorem dX4_readTerm_50 : decode cX4_readTerm 50 = .ok (.iload_n 2, 1) := by decide +kernel
theorem dX4_readTerm_51 : decode cX4_readTerm 51 = .ok (.invokevirtual 69, 3) := by decide +kernel
theorem dX4_readTerm_54 : decode cX4_readTerm 54 = .ok (.istore_n 3, 1) := by decide +kernel
theorem dX4_readTerm_55 : decode cX4_readTerm 55 = .ok (.aload_n 0, 1) := by decide +kernel
theorem dX4_readTerm_56 : decode cX4_readTerm 56 = .ok (.iload 5, 2) := by decide +kernel
theorem dX4_readTerm_58 : decode cX4_readTerm 58 = .ok (.ineg, 1) := by decide +kernel
theorem dX4_readTerm_59 : decode cX4_readTerm 59 = .ok (.invokevirtual 46, 3) := by decide +kernel
theorem dX4_readTerm_62 : decode cX4_readTerm 62 = .ok (.iinc 4 1, 3) := by decide +kernel
theorem dX4_readTerm_65 : decode cX4_readTerm 65 = .ok (.goto (-55), 3) := by decide +kernel
theorem dX4_readTerm_68 : decode cX4_readTerm 68 = .ok (.iload_n 3, 1) := by decide +kernel
theorem dX4_readTerm_69 : decode cX4_readTerm 69 = .ok (.ireturn, 1) := by decide +kernel
theorem dX4_readAtom_0 : decode cX4_readAtom 0 = .ok (.aload_n 1, 1) := by decide +kernel
theorem dX4_readAtom_1 : decode cX4_readAtom 1 = .ok (.invokevirtual 31, 3) := by decide +kernel
theorem dX4_readAtom_4 : decode cX4_readAtom 4 = .ok (.istore_n 3, 1) := by decide +kernel
theorem dX4_readAtom_5 : decode cX4_readAtom 5 = .ok (.iload_n 3, 1) := by decide +kernel
theorem dX4_readAtom_6 : decode cX4_readAtom 6 = .ok (.bipush 91, 2) := by decide +kernel
theorem dX4_readAtom_8 : decode cX4_readAtom 8 = .ok (.if_icmp .ne 41, 3) := by decide +kernel
theorem dX4_readAtom_11 : decode cX4_readAtom 11 = .ok (.iload_n 2, 1) := by decide +kernel
theorem dX4_readAtom_12 : decode cX4_readAtom 12 = .ok (.bipush 6, 2) := by decide +kernel
theorem dX4_readAtom_14 : decode cX4_readAtom 14 = .ok (.if_icmp .lt 5, 3) := by decide +kernel
theorem dX4_readAtom_17 : decode cX4_readAtom 17 = .ok (.iconst 0, 1) := by decide +kernel
theorem dX4_readAtom_18 : decode cX4_readAtom 18 = .ok (.ireturn, 1) := by decide +kernel
theorem dX4_readAtom_19 : decode cX4_readAtom 19 = .ok (.aload_n 1, 1) := by decide +kernel
theorem dX4_readAtom_20 : decode cX4_readAtom 20 = .ok (.invokevirtual 63, 3) := by decide +kernel
theorem dX4_readAtom_23 : decode cX4_readAtom 23 = .ok (.aload_n 0, 1) := by decide +kernel
theorem dX4_readAtom_24 : decode cX4_readAtom 24 = .ok (.aload_n 1, 1) := by decide +kernel
theorem dX4_readAtom_25 : decode cX4_readAtom 25 = .ok (.iload_n 2, 1) := by decide +kernel
theorem dX4_readAtom_26 : decode cX4_readAtom 26 = .ok (.iconst 1, 1) := by decide +kernel
theorem dX4_readAtom_27 : decode cX4_readAtom 27 = .ok (.iadd, 1) := by decide +kernel
theorem dX4_readAtom_28 : decode cX4_readAtom 28 = .ok (.invokevirtual 39, 3) := by decide +kernel
theorem dX4_readAtom_31 : decode cX4_readAtom 31 = .ok (.ifCond .eq 16, 3) := by decide +kernel
theorem dX4_readAtom_34 : decode cX4_readAtom 34 = .ok (.aload_n 1, 1) := by decide +kernel
theorem dX4_readAtom_35 : decode cX4_readAtom 35 = .ok (.bipush 93, 2) := by decide +kernel
theorem dX4_readAtom_37 : decode cX4_readAtom 37 = .ok (.invokevirtual 35, 3) := by decide +kernel
theorem dX4_readAtom_40 : decode cX4_readAtom 40 = .ok (.ifCond .eq 7, 3) := by decide +kernel
theorem dX4_readAtom_43 : decode cX4_readAtom 43 = .ok (.iconst 1, 1) := by decide +kernel
theorem dX4_readAtom_44 : decode cX4_readAtom 44 = .ok (.goto 4, 3) := by decide +kernel
theorem dX4_readAtom_47 : decode cX4_readAtom 47 = .ok (.iconst 0, 1) := by decide +kernel
theorem dX4_readAtom_48 : decode cX4_readAtom 48 = .ok (.ireturn, 1) := by decide +kernel
theorem dX4_readAtom_49 : decode cX4_readAtom 49 = .ok (.iload_n 3, 1) := by decide +kernel
theorem dX4_readAtom_50 : decode cX4_readAtom 50 = .ok (.invokestatic 72, 3) := by decide +kernel
theorem dX4_readAtom_53 : decode cX4_readAtom 53 = .ok (.istore 4, 2) := by decide +kernel
theorem dX4_readAtom_55 : decode cX4_readAtom 55 = .ok (.iload 4, 2) := by decide +kernel
theorem dX4_readAtom_57 : decode cX4_readAtom 57 = .ok (.iconst (-1), 1) := by decide +kernel
theorem dX4_readAtom_58 : decode cX4_readAtom 58 = .ok (.if_icmp .eq 17, 3) := by decide +kernel
theorem dX4_readAtom_61 : decode cX4_readAtom 61 = .ok (.aload_n 1, 1) := by decide +kernel
theorem dX4_readAtom_62 : decode cX4_readAtom 62 = .ok (.invokevirtual 63, 3) := by decide +kernel
theorem dX4_readAtom_65 : decode cX4_readAtom 65 = .ok (.aload_n 0, 1) := by decide +kernel
theorem dX4_readAtom_66 : decode cX4_readAtom 66 = .ok (.iconst (-1), 1) := by decide +kernel
theorem dX4_readAtom_67 : decode cX4_readAtom 67 = .ok (.iload 4, 2) := by decide +kernel
theorem dX4_readAtom_69 : decode cX4_readAtom 69 = .ok (.isub, 1) := by decide +kernel
theorem dX4_readAtom_70 : decode cX4_readAtom 70 = .ok (.invokevirtual 46, 3) := by decide +kernel
theorem dX4_readAtom_73 : decode cX4_readAtom 73 = .ok (.iconst 1, 1) := by decide +kernel
theorem dX4_readAtom_74 : decode cX4_readAtom 74 = .ok (.ireturn, 1) := by decide +kernel
theorem dX4_readAtom_75 : decode cX4_readAtom 75 = .ok (.aload_n 1, 1) := by decide +kernel
theorem dX4_readAtom_76 : decode cX4_readAtom 76 = .ok (.iconst 4, 1) := by decide +kernel
theorem dX4_readAtom_77 : decode cX4_readAtom 77 = .ok (.invokevirtual 76, 3) := by decide +kernel
theorem dX4_readAtom_80 : decode cX4_readAtom 80 = .ok (.istore 5, 2) := by decide +kernel
theorem dX4_readAtom_82 : decode cX4_readAtom 82 = .ok (.iload 5, 2) := by decide +kernel
theorem dX4_readAtom_84 : decode cX4_readAtom 84 = .ok (.iconst (-1), 1) := by decide +kernel
theorem dX4_readAtom_85 : decode cX4_readAtom 85 = .ok (.if_icmp .ne 5, 3) := by decide +kernel
theorem dX4_readAtom_88 : decode cX4_readAtom 88 = .ok (.iconst 0, 1) := by decide +kernel
theorem dX4_readAtom_89 : decode cX4_readAtom 89 = .ok (.ireturn, 1) := by decide +kernel
theorem dX4_readAtom_90 : decode cX4_readAtom 90 = .ok (.aload_n 0, 1) := by decide +kernel
theorem dX4_readAtom_91 : decode cX4_readAtom 91 = .ok (.iload 5, 2) := by decide +kernel
theorem dX4_readAtom_93 : decode cX4_readAtom 93 = .ok (.invokevirtual 46, 3) := by decide +kernel
theorem dX4_readAtom_96 : decode cX4_readAtom 96 = .ok (.iconst 1, 1) := by decide +kernel
theorem dX4_readAtom_97 : decode cX4_readAtom 97 = .ok (.ireturn, 1) := by decide +kernel
theorem dX4_letterOf_0 : decode cX4_letterOf 0 = .ok (.iconst 0, 1) := by decide +kernel
theorem dX4_letterOf_1 : decode cX4_letterOf 1 = .ok (.istore_n 1, 1) := by decide +kernel
theorem dX4_letterOf_2 : decode cX4_letterOf 2 = .ok (.iload_n 1, 1) := by decide +kernel
theorem dX4_letterOf_3 : decode cX4_letterOf 3 = .ok (.bipush 6, 2) := by decide +kernel
theorem dX4_letterOf_5 : decode cX4_letterOf 5 = .ok (.if_icmp .ge 21, 3) := by decide +kernel
theorem dX4_letterOf_8 : decode cX4_letterOf 8 = .ok (.ldc 79, 2) := by decide +kernel
theorem dX4_letterOf_10 : decode cX4_letterOf 10 = .ok (.iload_n 1, 1) := by decide +kernel
theorem dX4_letterOf_11 : decode cX4_letterOf 11 = .ok (.invokevirtual 81, 3) := by decide +kernel
theorem dX4_letterOf_14 : decode cX4_letterOf 14 = .ok (.iload_n 0, 1) := by decide +kernel
theorem dX4_letterOf_15 : decode cX4_letterOf 15 = .ok (.if_icmp .ne 5, 3) := by decide +kernel
theorem dX4_letterOf_18 : decode cX4_letterOf 18 = .ok (.iload_n 1, 1) := by decide +kernel
theorem dX4_letterOf_19 : decode cX4_letterOf 19 = .ok (.ireturn, 1) := by decide +kernel
theorem dX4_letterOf_20 : decode cX4_letterOf 20 = .ok (.iinc 1 1, 3) := by decide +kernel
theorem dX4_letterOf_23 : decode cX4_letterOf 23 = .ok (.goto (-21), 3) := by decide +kernel
theorem dX4_letterOf_26 : decode cX4_letterOf 26 = .ok (.iconst (-1), 1) := by decide +kernel
theorem dX4_letterOf_27 : decode cX4_letterOf 27 = .ok (.ireturn, 1) := by decide +kernel
theorem dX4_isComparison_0 : decode cX4_isComparison 0 = .ok (.iload_n 0, 1) := by decide +kernel
theorem dX4_isComparison_1 : decode cX4_isComparison 1 = .ok (.bipush 61, 2) := by decide +kernel
theorem dX4_isComparison_3 : decode cX4_isComparison 3 = .ok (.if_icmp .eq 15, 3) := by decide +kernel
theorem dX4_isComparison_6 : decode cX4_isComparison 6 = .ok (.iload_n 0, 1) := by decide +kernel
theorem dX4_isComparison_7 : decode cX4_isComparison 7 = .ok (.bipush 60, 2) := by decide +kernel
theorem dX4_isComparison_9 : decode cX4_isComparison 9 = .ok (.if_icmp .eq 9, 3) := by decide +kernel
theorem dX4_isComparison_12 : decode cX4_isComparison 12 = .ok (.iload_n 0, 1) := by decide +kernel
theorem dX4_isComparison_13 : decode cX4_isComparison 13 = .ok (.bipush 62, 2) := by decide +kernel
theorem dX4_isComparison_15 : decode cX4_isComparison 15 = .ok (.if_icmp .ne 7, 3) := by decide +kernel
theorem dX4_isComparison_18 : decode cX4_isComparison 18 = .ok (.iconst 1, 1) := by decide +kernel
theorem dX4_isComparison_19 : decode cX4_isComparison 19 = .ok (.goto 4, 3) := by decide +kernel
theorem dX4_isComparison_22 : decode cX4_isComparison 22 = .ok (.iconst 0, 1) := by decide +kernel
theorem dX4_isComparison_23 : decode cX4_isComparison 23 = .ok (.ireturn, 1) := by decide +kernel
theorem dX4_emit_0 : decode cX4_emit 0 = .ok (.aload_n 0, 1) := by decide +kernel
theorem dX4_emit_1 : decode cX4_emit 1 = .ok (.getfield 20, 3) := by decide +kernel
theorem dX4_emit_4 : decode cX4_emit 4 = .ok (.aload_n 0, 1) := by decide +kernel
theorem dX4_emit_5 : decode cX4_emit 5 = .ok (.getfield 11, 3) := by decide +kernel
theorem dX4_emit_8 : decode cX4_emit 8 = .ok (.arraylength, 1) := by decide +kernel
theorem dX4_emit_9 : decode cX4_emit 9 = .ok (.if_icmp .ge 23, 3) := by decide +kernel
theorem dX4_emit_12 : decode cX4_emit 12 = .ok (.aload_n 0, 1) := by decide +kernel
theorem dX4_emit_13 : decode cX4_emit 13 = .ok (.getfield 11, 3) := by decide +kernel
theorem dX4_emit_16 : decode cX4_emit 16 = .ok (.aload_n 0, 1) := by decide +kernel
theorem dX4_emit_17 : decode cX4_emit 17 = .ok (.getfield 20, 3) := by decide +kernel
theorem dX4_emit_20 : decode cX4_emit 20 = .ok (.iload_n 1, 1) := by decide +kernel
theorem dX4_emit_21 : decode cX4_emit 21 = .ok (.iastore, 1) := by decide +kernel
theorem dX4_emit_22 : decode cX4_emit 22 = .ok (.aload_n 0, 1) := by decide +kernel
theorem dX4_emit_23 : decode cX4_emit 23 = .ok (.dup, 1) := by decide +kernel
theorem dX4_emit_24 : decode cX4_emit 24 = .ok (.getfield 20, 3) := by decide +kernel
theorem dX4_emit_27 : decode cX4_emit 27 = .ok (.iconst 1, 1) := by decide +kernel
theorem dX4_emit_28 : decode cX4_emit 28 = .ok (.iadd, 1) := by decide +kernel
theorem dX4_emit_29 : decode cX4_emit 29 = .ok (.putfield 20, 3) := by decide +kernel
theorem dX4_emit_32 : decode cX4_emit 32 = .ok (.return_, 1) := by decide +kernel
theorem dX4_worth_0 : decode cX4_worth 0 = .ok (.aload_n 0, 1) := by decide +kernel
theorem dX4_worth_1 : decode cX4_worth 1 = .ok (.iconst 0, 1) := by decide +kernel
theorem dX4_worth_2 : decode cX4_worth 2 = .ok (.putfield 87, 3) := by decide +kernel
theorem dX4_worth_5 : decode cX4_worth 5 = .ok (.iconst 0, 1) := by decide +kernel
theorem dX4_worth_6 : decode cX4_worth 6 = .ok (.istore_n 2, 1) := by decide +kernel
theorem dX4_worth_7 : decode cX4_worth 7 = .ok (.iconst 0, 1) := by decide +kernel
theorem dX4_worth_8 : decode cX4_worth 8 = .ok (.istore_n 3, 1) := by decide +kernel
theorem dX4_worth_9 : decode cX4_worth 9 = .ok (.iload_n 3, 1) := by decide +kernel
theorem dX4_worth_10 : decode cX4_worth 10 = .ok (.aload_n 0, 1) := by decide +kernel
theorem dX4_worth_11 : decode cX4_worth 11 = .ok (.getfield 20, 3) := by decide +kernel
theorem dX4_worth_14 : decode cX4_worth 14 = .ok (.if_icmp .ge 145, 3) := by decide +kernel
theorem dX4_worth_17 : decode cX4_worth 17 = .ok (.iload_n 2, 1) := by decide +kernel
theorem dX4_worth_18 : decode cX4_worth 18 = .ok (.aload_n 0, 1) := by decide +kernel
theorem dX4_worth_19 : decode cX4_worth 19 = .ok (.getfield 20, 3) := by decide +kernel
theorem dX4_worth_22 : decode cX4_worth 22 = .ok (.if_icmp .ge 137, 3) := by decide +kernel
theorem dX4_worth_25 : decode cX4_worth 25 = .ok (.aload_n 0, 1) := by decide +kernel
theorem dX4_worth_26 : decode cX4_worth 26 = .ok (.getfield 11, 3) := by decide +kernel
theorem dX4_worth_29 : decode cX4_worth 29 = .ok (.iload_n 2, 1) := by decide +kernel
theorem dX4_worth_30 : decode cX4_worth 30 = .ok (.iaload, 1) := by decide +kernel
theorem dX4_worth_31 : decode cX4_worth 31 = .ok (.istore 4, 2) := by decide +kernel
theorem dX4_worth_33 : decode cX4_worth 33 = .ok (.iinc 2 1, 3) := by decide +kernel
theorem dX4_worth_36 : decode cX4_worth 36 = .ok (.iload 4, 2) := by decide +kernel
theorem dX4_worth_38 : decode cX4_worth 38 = .ok (.ifCond .lt 12, 3) := by decide +kernel
theorem dX4_worth_41 : decode cX4_worth 41 = .ok (.aload_n 0, 1) := by decide +kernel
theorem dX4_worth_42 : decode cX4_worth 42 = .ok (.iload 4, 2) := by decide +kernel
theorem dX4_worth_44 : decode cX4_worth 44 = .ok (.invokevirtual 90, 3) := by decide +kernel
theorem dX4_worth_47 : decode cX4_worth 47 = .ok (.goto 106, 3) := by decide +kernel
theorem dX4_worth_50 : decode cX4_worth 50 = .ok (.iload 4, 2) := by decide +kernel
theorem dX4_worth_52 : decode cX4_worth 52 = .ok (.bipush (-6), 2) := by decide +kernel
theorem dX4_worth_54 : decode cX4_worth 54 = .ok (.if_icmp .lt 16, 3) := by decide +kernel
theorem dX4_worth_57 : decode cX4_worth 57 = .ok (.aload_n 0, 1) := by decide +kernel
theorem dX4_worth_58 : decode cX4_worth 58 = .ok (.aload_n 1, 1) := by decide +kernel
theorem dX4_worth_59 : decode cX4_worth 59 = .ok (.iconst (-1), 1) := by decide +kernel
theorem dX4_worth_60 : decode cX4_worth 60 = .ok (.iload 4, 2) := by decide +kernel
theorem dX4_worth_62 : decode cX4_worth 62 = .ok (.isub, 1) := by decide +kernel
theorem dX4_worth_63 : decode cX4_worth 63 = .ok (.iaload, 1) := by decide +kernel
theorem dX4_worth_64 : decode cX4_worth 64 = .ok (.invokevirtual 90, 3) := by decide +kernel
theorem dX4_worth_67 : decode cX4_worth 67 = .ok (.goto 86, 3) := by decide +kernel
theorem dX4_worth_70 : decode cX4_worth 70 = .ok (.iload 4, 2) := by decide +kernel
theorem dX4_worth_72 : decode cX4_worth 72 = .ok (.bipush (-7), 2) := by decide +kernel
theorem dX4_worth_74 : decode cX4_worth 74 = .ok (.if_icmp .ne 8, 3) := by decide +kernel
theorem dX4_worth_77 : decode cX4_worth 77 = .ok (.aload_n 0, 1) := by decide +kernel
theorem dX4_worth_78 : decode cX4_worth 78 = .ok (.invokevirtual 93, 3) := by decide +kernel
theorem dX4_worth_81 : decode cX4_worth 81 = .ok (.ireturn, 1) := by decide +kernel
theorem dX4_worth_82 : decode cX4_worth 82 = .ok (.iload 4, 2) := by decide +kernel
theorem dX4_worth_84 : decode cX4_worth 84 = .ok (.sipush (-1000), 3) := by decide +kernel
theorem dX4_worth_87 : decode cX4_worth 87 = .ok (.if_icmp .gt 24, 3) := by decide +kernel
theorem dX4_worth_90 : decode cX4_worth 90 = .ok (.aload_n 0, 1) := by decide +kernel
theorem dX4_worth_91 : decode cX4_worth 91 = .ok (.invokevirtual 93, 3) := by decide +kernel
theorem dX4_worth_94 : decode cX4_worth 94 = .ok (.ifCond .ne 12, 3) := by decide +kernel
theorem dX4_worth_97 : decode cX4_worth 97 = .ok (.sipush (-1000), 3) := by decide +kernel
theorem dX4_worth_100 : decode cX4_worth 100 = .ok (.iload 4, 2) := by decide +kernel
theorem dX4_worth_102 : decode cX4_worth 102 = .ok (.isub, 1) := by decide +kernel
theorem dX4_worth_103 : decode cX4_worth 103 = .ok (.goto 4, 3) := by decide +kernel
theorem dX4_worth_106 : decode cX4_worth 106 = .ok (.iload_n 2, 1) := by decide +kernel
theorem dX4_worth_107 : decode cX4_worth 107 = .ok (.istore_n 2, 1) := by decide +kernel
theorem dX4_worth_108 : decode cX4_worth 108 = .ok (.goto 45, 3) := by decide +kernel
theorem dX4_worth_111 : decode cX4_worth 111 = .ok (.iload 4, 2) := by decide +kernel
theorem dX4_worth_113 : decode cX4_worth 113 = .ok (.bipush (-33), 2) := by decide +kernel
theorem dX4_worth_115 : decode cX4_worth 115 = .ok (.if_icmp .ne 16, 3) := by decide +kernel
theorem dX4_worth_118 : decode cX4_worth 118 = .ok (.aload_n 0, 1) := by decide +kernel
theorem dX4_worth_119 : decode cX4_worth 119 = .ok (.iconst 1, 1) := by decide +kernel
theorem dX4_worth_120 : decode cX4_worth 120 = .ok (.aload_n 0, 1) := by decide +kernel
theorem dX4_worth_121 : decode cX4_worth 121 = .ok (.invokevirtual 93, 3) := by decide +kernel
theorem dX4_worth_124 : decode cX4_worth 124 = .ok (.isub, 1) := by decide +kernel
theorem dX4_worth_125 : decode cX4_worth 125 = .ok (.invokevirtual 90, 3) := by decide +kernel
theorem dX4_worth_128 : decode cX4_worth 128 = .ok (.goto 25, 3) := by decide +kernel
theorem dX4_worth_131 : decode cX4_worth 131 = .ok (.aload_n 0, 1) := by decide +kernel
theorem dX4_worth_132 : decode cX4_worth 132 = .ok (.invokevirtual 93, 3) := by decide +kernel
theorem dX4_worth_135 : decode cX4_worth 135 = .ok (.istore 5, 2) := by decide +kernel
theorem dX4_worth_137 : decode cX4_worth 137 = .ok (.aload_n 0, 1) := by decide +kernel
theorem dX4_worth_138 : decode cX4_worth 138 = .ok (.iload 4, 2) := by decide +kernel
theorem dX4_worth_140 : decode cX4_worth 140 = .ok (.ineg, 1) := by decide +kernel
theorem dX4_worth_141 : decode cX4_worth 141 = .ok (.aload_n 0, 1) := by decide +kernel
theorem dX4_worth_142 : decode cX4_worth 142 = .ok (.invokevirtual 93, 3) := by decide +kernel
theorem dX4_worth_145 : decode cX4_worth 145 = .ok (.iload 5, 2) := by decide +kernel
theorem dX4_worth_147 : decode cX4_worth 147 = .ok (.invokestatic 96, 3) := by decide +kernel
theorem dX4_worth_150 : decode cX4_worth 150 = .ok (.invokevirtual 90, 3) := by decide +kernel
theorem dX4_worth_153 : decode cX4_worth 153 = .ok (.iinc 3 1, 3) := by decide +kernel
theorem dX4_worth_156 : decode cX4_worth 156 = .ok (.goto (-147), 3) := by decide +kernel
theorem dX4_worth_159 : decode cX4_worth 159 = .ok (.iconst 0, 1) := by decide +kernel
theorem dX4_worth_160 : decode cX4_worth 160 = .ok (.ireturn, 1) := by decide +kernel
theorem dX4_push_0 : decode cX4_push 0 = .ok (.aload_n 0, 1) := by decide +kernel
theorem dX4_push_1 : decode cX4_push 1 = .ok (.getfield 87, 3) := by decide +kernel
theorem dX4_push_4 : decode cX4_push 4 = .ok (.aload_n 0, 1) := by decide +kernel
theorem dX4_push_5 : decode cX4_push 5 = .ok (.getfield 17, 3) := by decide +kernel
theorem dX4_push_8 : decode cX4_push 8 = .ok (.arraylength, 1) := by decide +kernel
theorem dX4_push_9 : decode cX4_push 9 = .ok (.if_icmp .ge 23, 3) := by decide +kernel
theorem dX4_push_12 : decode cX4_push 12 = .ok (.aload_n 0, 1) := by decide +kernel
theorem dX4_push_13 : decode cX4_push 13 = .ok (.getfield 17, 3) := by decide +kernel
theorem dX4_push_16 : decode cX4_push 16 = .ok (.aload_n 0, 1) := by decide +kernel
theorem dX4_push_17 : decode cX4_push 17 = .ok (.getfield 87, 3) := by decide +kernel
theorem dX4_push_20 : decode cX4_push 20 = .ok (.iload_n 1, 1) := by decide +kernel
theorem dX4_push_21 : decode cX4_push 21 = .ok (.iastore, 1) := by decide +kernel
theorem dX4_push_22 : decode cX4_push 22 = .ok (.aload_n 0, 1) := by decide +kernel
theorem dX4_push_23 : decode cX4_push 23 = .ok (.dup, 1) := by decide +kernel
theorem dX4_push_24 : decode cX4_push 24 = .ok (.getfield 87, 3) := by decide +kernel
theorem dX4_push_27 : decode cX4_push 27 = .ok (.iconst 1, 1) := by decide +kernel
theorem dX4_push_28 : decode cX4_push 28 = .ok (.iadd, 1) := by decide +kernel
theorem dX4_push_29 : decode cX4_push 29 = .ok (.putfield 87, 3) := by decide +kernel
theorem dX4_push_32 : decode cX4_push 32 = .ok (.return_, 1) := by decide +kernel
theorem dX4_pop_0 : decode cX4_pop 0 = .ok (.aload_n 0, 1) := by decide +kernel
theorem dX4_pop_1 : decode cX4_pop 1 = .ok (.getfield 87, 3) := by decide +kernel
theorem dX4_pop_4 : decode cX4_pop 4 = .ok (.ifCond .ne 5, 3) := by decide +kernel
theorem dX4_pop_7 : decode cX4_pop 7 = .ok (.iconst 0, 1) := by decide +kernel
theorem dX4_pop_8 : decode cX4_pop 8 = .ok (.ireturn, 1) := by decide +kernel
theorem dX4_pop_9 : decode cX4_pop 9 = .ok (.aload_n 0, 1) := by decide +kernel
theorem dX4_pop_10 : decode cX4_pop 10 = .ok (.dup, 1) := by decide +kernel
theorem dX4_pop_11 : decode cX4_pop 11 = .ok (.getfield 87, 3) := by decide +kernel
theorem dX4_pop_14 : decode cX4_pop 14 = .ok (.iconst 1, 1) := by decide +kernel
theorem dX4_pop_15 : decode cX4_pop 15 = .ok (.isub, 1) := by decide +kernel
theorem dX4_pop_16 : decode cX4_pop 16 = .ok (.putfield 87, 3) := by decide +kernel
theorem dX4_pop_19 : decode cX4_pop 19 = .ok (.aload_n 0, 1) := by decide +kernel
theorem dX4_pop_20 : decode cX4_pop 20 = .ok (.getfield 17, 3) := by decide +kernel
theorem dX4_pop_23 : decode cX4_pop 23 = .ok (.aload_n 0, 1) := by decide +kernel
theorem dX4_pop_24 : decode cX4_pop 24 = .ok (.getfield 87, 3) := by decide +kernel
theorem dX4_pop_27 : decode cX4_pop 27 = .ok (.iaload, 1) := by decide +kernel
theorem dX4_pop_28 : decode cX4_pop 28 = .ok (.ireturn, 1) := by decide +kernel
theorem dX4_joined_0 : decode cX4_joined 0 = .ok (.iload_n 0, 1) := by decide +kernel
theorem dX4_joined_1 : decode cX4_joined 1 = .ok (.lookupswitch 139 #[(38, 100), (42, 120), (47, 108), (60, 78), (61, 67), (62, 89), (124, 104)], 67) := by decide +kernel
theorem dX4_joined_68 : decode cX4_joined 68 = .ok (.iload_n 1, 1) := by decide +kernel
theorem dX4_joined_69 : decode cX4_joined 69 = .ok (.iload_n 2, 1) := by decide +kernel
theorem dX4_joined_70 : decode cX4_joined 70 = .ok (.if_icmp .ne 7, 3) := by decide +kernel
theorem dX4_joined_73 : decode cX4_joined 73 = .ok (.iconst 1, 1) := by decide +kernel
theorem dX4_joined_74 : decode cX4_joined 74 = .ok (.goto 4, 3) := by decide +kernel
theorem dX4_joined_77 : decode cX4_joined 77 = .ok (.iconst 0, 1) := by decide +kernel
theorem dX4_joined_78 : decode cX4_joined 78 = .ok (.ireturn, 1) := by decide +kernel
theorem dX4_joined_79 : decode cX4_joined 79 = .ok (.iload_n 1, 1) := by decide +kernel
theorem dX4_joined_80 : decode cX4_joined 80 = .ok (.iload_n 2, 1) := by decide +kernel
theorem dX4_joined_81 : decode cX4_joined 81 = .ok (.if_icmp .ge 7, 3) := by decide +kernel
theorem dX4_joined_84 : decode cX4_joined 84 = .ok (.iconst 1, 1) := by decide +kernel
theorem dX4_joined_85 : decode cX4_joined 85 = .ok (.goto 4, 3) := by decide +kernel
theorem dX4_joined_88 : decode cX4_joined 88 = .ok (.iconst 0, 1) := by decide +kernel
theorem dX4_joined_89 : decode cX4_joined 89 = .ok (.ireturn, 1) := by decide +kernel
theorem dX4_joined_90 : decode cX4_joined 90 = .ok (.iload_n 1, 1) := by decide +kernel
theorem dX4_joined_91 : decode cX4_joined 91 = .ok (.iload_n 2, 1) := by decide +kernel
theorem dX4_joined_92 : decode cX4_joined 92 = .ok (.if_icmp .le 7, 3) := by decide +kernel
theorem dX4_joined_95 : decode cX4_joined 95 = .ok (.iconst 1, 1) := by decide +kernel
theorem dX4_joined_96 : decode cX4_joined 96 = .ok (.goto 4, 3) := by decide +kernel
theorem dX4_joined_99 : decode cX4_joined 99 = .ok (.iconst 0, 1) := by decide +kernel
theorem dX4_joined_100 : decode cX4_joined 100 = .ok (.ireturn, 1) := by decide +kernel
theorem dX4_joined_101 : decode cX4_joined 101 = .ok (.iload_n 1, 1) := by decide +kernel
theorem dX4_joined_102 : decode cX4_joined 102 = .ok (.iload_n 2, 1) := by decide +kernel
theorem dX4_joined_103 : decode cX4_joined 103 = .ok (.iand, 1) := by decide +kernel
theorem dX4_joined_104 : decode cX4_joined 104 = .ok (.ireturn, 1) := by decide +kernel
theorem dX4_joined_105 : decode cX4_joined 105 = .ok (.iload_n 1, 1) := by decide +kernel
theorem dX4_joined_106 : decode cX4_joined 106 = .ok (.iload_n 2, 1) := by decide +kernel
theorem dX4_joined_107 : decode cX4_joined 107 = .ok (.ior, 1) := by decide +kernel
theorem dX4_joined_108 : decode cX4_joined 108 = .ok (.ireturn, 1) := by decide +kernel
theorem dX4_joined_109 : decode cX4_joined 109 = .ok (.iload_n 2, 1) := by decide +kernel
theorem dX4_joined_110 : decode cX4_joined 110 = .ok (.ifCond .ne 7, 3) := by decide +kernel
theorem dX4_joined_113 : decode cX4_joined 113 = .ok (.iconst 0, 1) := by decide +kernel
theorem dX4_joined_114 : decode cX4_joined 114 = .ok (.goto 6, 3) := by decide +kernel
theorem dX4_joined_117 : decode cX4_joined 117 = .ok (.iload_n 1, 1) := by decide +kernel
theorem dX4_joined_118 : decode cX4_joined 118 = .ok (.iload_n 2, 1) := by decide +kernel
theorem dX4_joined_119 : decode cX4_joined 119 = .ok (.idiv, 1) := by decide +kernel
theorem dX4_joined_120 : decode cX4_joined 120 = .ok (.ireturn, 1) := by decide +kernel
theorem dX4_joined_121 : decode cX4_joined 121 = .ok (.ldc2_w 100, 3) := by decide +kernel
theorem dX4_joined_124 : decode cX4_joined 124 = .ok (.ldc2_w 102, 3) := by decide +kernel
theorem dX4_joined_127 : decode cX4_joined 127 = .ok (.iload_n 1, 1) := by decide +kernel
theorem dX4_joined_128 : decode cX4_joined 128 = .ok (.i2l, 1) := by decide +kernel
theorem dX4_joined_129 : decode cX4_joined 129 = .ok (.iload_n 2, 1) := by decide +kernel
theorem dX4_joined_130 : decode cX4_joined 130 = .ok (.i2l, 1) := by decide +kernel
theorem dX4_joined_131 : decode cX4_joined 131 = .ok (.lmul, 1) := by decide +kernel
theorem dX4_joined_132 : decode cX4_joined 132 = .ok (.invokestatic 104, 3) := by decide +kernel
theorem dX4_joined_135 : decode cX4_joined 135 = .ok (.invokestatic 110, 3) := by decide +kernel
theorem dX4_joined_138 : decode cX4_joined 138 = .ok (.l2i, 1) := by decide +kernel
theorem dX4_joined_139 : decode cX4_joined 139 = .ok (.ireturn, 1) := by decide +kernel
theorem dX4_joined_140 : decode cX4_joined 140 = .ok (.ldc 113, 2) := by decide +kernel
theorem dX4_joined_142 : decode cX4_joined 142 = .ok (.ldc 114, 2) := by decide +kernel
theorem dX4_joined_144 : decode cX4_joined 144 = .ok (.iload_n 0, 1) := by decide +kernel
theorem dX4_joined_145 : decode cX4_joined 145 = .ok (.bipush 43, 2) := by decide +kernel
theorem dX4_joined_147 : decode cX4_joined 147 = .ok (.if_icmp .ne 9, 3) := by decide +kernel
theorem dX4_joined_150 : decode cX4_joined 150 = .ok (.iload_n 1, 1) := by decide +kernel
theorem dX4_joined_151 : decode cX4_joined 151 = .ok (.iload_n 2, 1) := by decide +kernel
theorem dX4_joined_152 : decode cX4_joined 152 = .ok (.iadd, 1) := by decide +kernel
theorem dX4_joined_153 : decode cX4_joined 153 = .ok (.goto 6, 3) := by decide +kernel
theorem dX4_joined_156 : decode cX4_joined 156 = .ok (.iload_n 1, 1) := by decide +kernel
theorem dX4_joined_157 : decode cX4_joined 157 = .ok (.iload_n 2, 1) := by decide +kernel
theorem dX4_joined_158 : decode cX4_joined 158 = .ok (.isub, 1) := by decide +kernel
theorem dX4_joined_159 : decode cX4_joined 159 = .ok (.invokestatic 115, 3) := by decide +kernel
theorem dX4_joined_162 : decode cX4_joined 162 = .ok (.invokestatic 118, 3) := by decide +kernel
theorem dX4_joined_165 : decode cX4_joined 165 = .ok (.ireturn, 1) := by decide +kernel
theorem dX5_init_0 : decode cX5_init 0 = .ok (.aload_n 0, 1) := by decide +kernel
theorem dX5_init_1 : decode cX5_init 1 = .ok (.invokespecial 3, 3) := by decide +kernel
theorem dX5_init_4 : decode cX5_init 4 = .ok (.aload_n 0, 1) := by decide +kernel
theorem dX5_init_5 : decode cX5_init 5 = .ok (.bipush 48, 2) := by decide +kernel
theorem dX5_init_7 : decode cX5_init 7 = .ok (.newarray .int, 2) := by decide +kernel
theorem dX5_init_9 : decode cX5_init 9 = .ok (.putfield 11, 3) := by decide +kernel
theorem dX5_init_12 : decode cX5_init 12 = .ok (.return_, 1) := by decide +kernel
theorem dX5_size_0 : decode cX5_size 0 = .ok (.aload_n 0, 1) := by decide +kernel
theorem dX5_size_1 : decode cX5_size 1 = .ok (.getfield 15, 3) := by decide +kernel
theorem dX5_size_4 : decode cX5_size 4 = .ok (.ireturn, 1) := by decide +kernel
theorem dX5_part_0 : decode cX5_part 0 = .ok (.aload_n 0, 1) := by decide +kernel
theorem dX5_part_1 : decode cX5_part 1 = .ok (.getfield 11, 3) := by decide +kernel
theorem dX5_part_4 : decode cX5_part 4 = .ok (.iload_n 1, 1) := by decide +kernel
theorem dX5_part_5 : decode cX5_part 5 = .ok (.iconst 3, 1) := by decide +kernel
theorem dX5_part_6 : decode cX5_part 6 = .ok (.imul, 1) := by decide +kernel
theorem dX5_part_7 : decode cX5_part 7 = .ok (.iload_n 2, 1) := by decide +kernel
theorem dX5_part_8 : decode cX5_part 8 = .ok (.iadd, 1) := by decide +kernel
theorem dX5_part_9 : decode cX5_part 9 = .ok (.iaload, 1) := by decide +kernel
theorem dX5_part_10 : decode cX5_part 10 = .ok (.ireturn, 1) := by decide +kernel
theorem dX5_read_0 : decode cX5_read 0 = .ok (.aload_n 0, 1) := by decide +kernel
theorem dX5_read_1 : decode cX5_read 1 = .ok (.iconst 0, 1) := by decide +kernel
theorem dX5_read_2 : decode cX5_read 2 = .ok (.putfield 15, 3) := by decide +kernel
theorem dX5_read_5 : decode cX5_read 5 = .ok (.aload_n 1, 1) := by decide +kernel
theorem dX5_read_6 : decode cX5_read 6 = .ok (.invokevirtual 19, 3) := by decide +kernel
theorem dX5_read_9 : decode cX5_read 9 = .ok (.aload_n 0, 1) := by decide +kernel
theorem dX5_read_10 : decode cX5_read 10 = .ok (.getfield 15, 3) := by decide +kernel
theorem dX5_read_13 : decode cX5_read 13 = .ok (.bipush 16, 2) := by decide +kernel
theorem dX5_read_15 : decode cX5_read 15 = .ok (.if_icmp .ge 59, 3) := by decide +kernel
theorem dX5_read_18 : decode cX5_read 18 = .ok (.aload_n 0, 1) := by decide +kernel
theorem dX5_read_19 : decode cX5_read 19 = .ok (.aload_n 1, 1) := by decide +kernel
theorem dX5_read_20 : decode cX5_read 20 = .ok (.aload_n 0, 1) := by decide +kernel
theorem dX5_read_21 : decode cX5_read 21 = .ok (.getfield 15, 3) := by decide +kernel
theorem dX5_read_24 : decode cX5_read 24 = .ok (.iconst 3, 1) := by decide +kernel
theorem dX5_read_25 : decode cX5_read 25 = .ok (.imul, 1) := by decide +kernel
theorem dX5_read_26 : decode cX5_read 26 = .ok (.invokevirtual 24, 3) := by decide +kernel
theorem dX5_read_29 : decode cX5_read 29 = .ok (.ifCond .ne 5, 3) := by decide +kernel
theorem dX5_read_32 : decode cX5_read 32 = .ok (.iconst 0, 1) := by decide +kernel
theorem dX5_read_33 : decode cX5_read 33 = .ok (.ireturn, 1) := by decide +kernel
theorem dX5_read_34 : decode cX5_read 34 = .ok (.aload_n 0, 1) := by decide +kernel
theorem dX5_read_35 : decode cX5_read 35 = .ok (.dup, 1) := by decide +kernel
theorem dX5_read_36 : decode cX5_read 36 = .ok (.getfield 15, 3) := by decide +kernel
theorem dX5_read_39 : decode cX5_read 39 = .ok (.iconst 1, 1) := by decide +kernel
theorem dX5_read_40 : decode cX5_read 40 = .ok (.iadd, 1) := by decide +kernel
theorem dX5_read_41 : decode cX5_read 41 = .ok (.putfield 15, 3) := by decide +kernel
theorem dX5_read_44 : decode cX5_read 44 = .ok (.aload_n 1, 1) := by decide +kernel
theorem dX5_read_45 : decode cX5_read 45 = .ok (.invokevirtual 28, 3) := by decide +kernel
theorem dX5_read_48 : decode cX5_read 48 = .ok (.iconst (-1), 1) := by decide +kernel
theorem dX5_read_49 : decode cX5_read 49 = .ok (.if_icmp .ne 5, 3) := by decide +kernel
theorem dX5_read_52 : decode cX5_read 52 = .ok (.iconst 1, 1) := by decide +kernel
theorem dX5_read_53 : decode cX5_read 53 = .ok (.ireturn, 1) := by decide +kernel
theorem dX5_read_54 : decode cX5_read 54 = .ok (.aload_n 0, 1) := by decide +kernel
theorem dX5_read_55 : decode cX5_read 55 = .ok (.getfield 15, 3) := by decide +kernel
theorem dX5_read_58 : decode cX5_read 58 = .ok (.bipush 16, 2) := by decide +kernel
theorem dX5_read_60 : decode cX5_read 60 = .ok (.if_icmp .eq 12, 3) := by decide +kernel
theorem dX5_read_63 : decode cX5_read 63 = .ok (.aload_n 1, 1) := by decide +kernel
theorem dX5_read_64 : decode cX5_read 64 = .ok (.bipush 59, 2) := by decide +kernel
theorem dX5_read_66 : decode cX5_read 66 = .ok (.invokevirtual 32, 3) := by decide +kernel
theorem dX5_read_69 : decode cX5_read 69 = .ok (.ifCond .ne (-60), 3) := by decide +kernel
theorem dX5_read_72 : decode cX5_read 72 = .ok (.iconst 0, 1) := by decide +kernel
theorem dX5_read_73 : decode cX5_read 73 = .ok (.ireturn, 1) := by decide +kernel
theorem dX5_read_74 : decode cX5_read 74 = .ok (.iconst 0, 1) := by decide +kernel
theorem dX5_read_75 : decode cX5_read 75 = .ok (.ireturn, 1) := by decide +kernel
theorem dX5_readStep_0 : decode cX5_readStep 0 = .ok (.aload_n 1, 1) := by decide +kernel
theorem dX5_readStep_1 : decode cX5_readStep 1 = .ok (.invokevirtual 28, 3) := by decide +kernel
theorem dX5_readStep_4 : decode cX5_readStep 4 = .ok (.invokestatic 36, 3) := by decide +kernel
theorem dX5_readStep_7 : decode cX5_readStep 7 = .ok (.istore_n 3, 1) := by decide +kernel
theorem dX5_readStep_8 : decode cX5_readStep 8 = .ok (.iload_n 3, 1) := by decide +kernel
theorem dX5_readStep_9 : decode cX5_readStep 9 = .ok (.iconst (-1), 1) := by decide +kernel
theorem dX5_readStep_10 : decode cX5_readStep 10 = .ok (.if_icmp .ne 5, 3) := by decide +kernel
theorem dX5_readStep_13 : decode cX5_readStep 13 = .ok (.iconst 0, 1) := by decide +kernel
theorem dX5_readStep_14 : decode cX5_readStep 14 = .ok (.ireturn, 1) := by decide +kernel
theorem dX5_readStep_15 : decode cX5_readStep 15 = .ok (.aload_n 1, 1) := by decide +kernel
theorem dX5_readStep_16 : decode cX5_readStep 16 = .ok (.invokevirtual 40, 3) := by decide +kernel
theorem dX5_readStep_19 : decode cX5_readStep 19 = .ok (.aload_n 0, 1) := by decide +kernel
theorem dX5_readStep_20 : decode cX5_readStep 20 = .ok (.getfield 11, 3) := by decide +kernel
theorem dX5_readStep_23 : decode cX5_readStep 23 = .ok (.iload_n 2, 1) := by decide +kernel
theorem dX5_readStep_24 : decode cX5_readStep 24 = .ok (.iload_n 3, 1) := by decide +kernel
theorem dX5_readStep_25 : decode cX5_readStep 25 = .ok (.iastore, 1) := by decide +kernel
theorem dX5_readStep_26 : decode cX5_readStep 26 = .ok (.aload_n 0, 1) := by decide +kernel
theorem dX5_readStep_27 : decode cX5_readStep 27 = .ok (.getfield 11, 3) := by decide +kernel
theorem dX5_readStep_30 : decode cX5_readStep 30 = .ok (.iload_n 2, 1) := by decide +kernel
theorem dX5_readStep_31 : decode cX5_readStep 31 = .ok (.iconst 1, 1) := by decide +kernel
theorem dX5_readStep_32 : decode cX5_readStep 32 = .ok (.iadd, 1) := by decide +kernel
theorem dX5_readStep_33 : decode cX5_readStep 33 = .ok (.aload_n 1, 1) := by decide +kernel
theorem dX5_readStep_34 : decode cX5_readStep 34 = .ok (.invokevirtual 43, 3) := by decide +kernel
theorem dX5_readStep_37 : decode cX5_readStep 37 = .ok (.iastore, 1) := by decide +kernel
theorem dX5_readStep_38 : decode cX5_readStep 38 = .ok (.aload_n 0, 1) := by decide +kernel
theorem dX5_readStep_39 : decode cX5_readStep 39 = .ok (.getfield 11, 3) := by decide +kernel
theorem dX5_readStep_42 : decode cX5_readStep 42 = .ok (.iload_n 2, 1) := by decide +kernel
theorem dX5_readStep_43 : decode cX5_readStep 43 = .ok (.iconst 2, 1) := by decide +kernel
theorem dX5_readStep_44 : decode cX5_readStep 44 = .ok (.iadd, 1) := by decide +kernel
theorem dX5_readStep_45 : decode cX5_readStep 45 = .ok (.iconst (-1), 1) := by decide +kernel
theorem dX5_readStep_46 : decode cX5_readStep 46 = .ok (.iastore, 1) := by decide +kernel
theorem dX5_readStep_47 : decode cX5_readStep 47 = .ok (.aload_n 0, 1) := by decide +kernel
theorem dX5_readStep_48 : decode cX5_readStep 48 = .ok (.getfield 11, 3) := by decide +kernel
theorem dX5_readStep_51 : decode cX5_readStep 51 = .ok (.iload_n 2, 1) := by decide +kernel
theorem dX5_readStep_52 : decode cX5_readStep 52 = .ok (.iconst 1, 1) := by decide +kernel
theorem dX5_readStep_53 : decode cX5_readStep 53 = .ok (.iadd, 1) := by decide +kernel
theorem dX5_readStep_54 : decode cX5_readStep 54 = .ok (.iaload, 1) := by decide +kernel
theorem dX5_readStep_55 : decode cX5_readStep 55 = .ok (.iconst (-1), 1) := by decide +kernel
theorem dX5_readStep_56 : decode cX5_readStep 56 = .ok (.if_icmp .ne 5, 3) := by decide +kernel
theorem dX5_readStep_59 : decode cX5_readStep 59 = .ok (.iconst 0, 1) := by decide +kernel
theorem dX5_readStep_60 : decode cX5_readStep 60 = .ok (.ireturn, 1) := by decide +kernel
theorem dX5_readStep_61 : decode cX5_readStep 61 = .ok (.iload_n 3, 1) := by decide +kernel
theorem dX5_readStep_62 : decode cX5_readStep 62 = .ok (.ifCond .eq 15, 3) := by decide +kernel
theorem dX5_readStep_65 : decode cX5_readStep 65 = .ok (.iload_n 3, 1) := by decide +kernel
theorem dX5_readStep_66 : decode cX5_readStep 66 = .ok (.iconst 1, 1) := by decide +kernel
theorem dX5_readStep_67 : decode cX5_readStep 67 = .ok (.if_icmp .eq 10, 3) := by decide +kernel
theorem dX5_readStep_70 : decode cX5_readStep 70 = .ok (.iload_n 3, 1) := by decide +kernel
theorem dX5_readStep_71 : decode cX5_readStep 71 = .ok (.iconst 4, 1) := by decide +kernel
theorem dX5_readStep_72 : decode cX5_readStep 72 = .ok (.if_icmp .eq 5, 3) := by decide +kernel
theorem dX5_readStep_75 : decode cX5_readStep 75 = .ok (.iconst 1, 1) := by decide +kernel
theorem dX5_readStep_76 : decode cX5_readStep 76 = .ok (.ireturn, 1) := by decide +kernel
theorem dX5_readStep_77 : decode cX5_readStep 77 = .ok (.aload_n 1, 1) := by decide +kernel
theorem dX5_readStep_78 : decode cX5_readStep 78 = .ok (.invokevirtual 43, 3) := by decide +kernel
theorem dX5_readStep_81 : decode cX5_readStep 81 = .ok (.istore 4, 2) := by decide +kernel
theorem dX5_readStep_83 : decode cX5_readStep 83 = .ok (.iload_n 3, 1) := by decide +kernel
theorem dX5_readStep_84 : decode cX5_readStep 84 = .ok (.iconst 1, 1) := by decide +kernel
theorem dX5_readStep_85 : decode cX5_readStep 85 = .ok (.if_icmp .ne 15, 3) := by decide +kernel
theorem dX5_readStep_88 : decode cX5_readStep 88 = .ok (.iload 4, 2) := by decide +kernel
theorem dX5_readStep_90 : decode cX5_readStep 90 = .ok (.iconst 2, 1) := by decide +kernel
theorem dX5_readStep_91 : decode cX5_readStep 91 = .ok (.if_icmp .le 9, 3) := by decide +kernel
theorem dX5_readStep_94 : decode cX5_readStep 94 = .ok (.aload_n 1, 1) := by decide +kernel
theorem dX5_readStep_95 : decode cX5_readStep 95 = .ok (.invokevirtual 46, 3) := by decide +kernel
theorem dX5_readStep_98 : decode cX5_readStep 98 = .ok (.iconst 0, 1) := by decide +kernel
theorem dX5_readStep_99 : decode cX5_readStep 99 = .ok (.ireturn, 1) := by decide +kernel
theorem dX5_readStep_100 : decode cX5_readStep 100 = .ok (.aload_n 0, 1) := by decide +kernel
theorem dX5_readStep_101 : decode cX5_readStep 101 = .ok (.getfield 11, 3) := by decide +kernel
theorem dX5_readStep_104 : decode cX5_readStep 104 = .ok (.iload_n 2, 1) := by decide +kernel
theorem dX5_readStep_105 : decode cX5_readStep 105 = .ok (.iconst 2, 1) := by decide +kernel
theorem dX5_readStep_106 : decode cX5_readStep 106 = .ok (.iadd, 1) := by decide +kernel
theorem dX5_readStep_107 : decode cX5_readStep 107 = .ok (.iload 4, 2) := by decide +kernel
theorem dX5_readStep_109 : decode cX5_readStep 109 = .ok (.iastore, 1) := by decide +kernel
theorem dX5_readStep_110 : decode cX5_readStep 110 = .ok (.iload 4, 2) := by decide +kernel
theorem dX5_readStep_112 : decode cX5_readStep 112 = .ok (.iconst (-1), 1) := by decide +kernel
theorem dX5_readStep_113 : decode cX5_readStep 113 = .ok (.if_icmp .eq 7, 3) := by decide +kernel
theorem dX5_readStep_116 : decode cX5_readStep 116 = .ok (.iconst 1, 1) := by decide +kernel
theorem dX5_readStep_117 : decode cX5_readStep 117 = .ok (.goto 4, 3) := by decide +kernel
theorem dX5_readStep_120 : decode cX5_readStep 120 = .ok (.iconst 0, 1) := by decide +kernel
theorem dX5_readStep_121 : decode cX5_readStep 121 = .ok (.ireturn, 1) := by decide +kernel
theorem dX5_kindOf_0 : decode cX5_kindOf 0 = .ok (.iconst 0, 1) := by decide +kernel
theorem dX5_kindOf_1 : decode cX5_kindOf 1 = .ok (.istore_n 1, 1) := by decide +kernel
theorem dX5_kindOf_2 : decode cX5_kindOf 2 = .ok (.iload_n 1, 1) := by decide +kernel
theorem dX5_kindOf_3 : decode cX5_kindOf 3 = .ok (.bipush 6, 2) := by decide +kernel
theorem dX5_kindOf_5 : decode cX5_kindOf 5 = .ok (.if_icmp .ge 21, 3) := by decide +kernel
theorem dX5_kindOf_8 : decode cX5_kindOf 8 = .ok (.ldc 49, 2) := by decide +kernel
theorem dX5_kindOf_10 : decode cX5_kindOf 10 = .ok (.iload_n 1, 1) := by decide +kernel
theorem dX5_kindOf_11 : decode cX5_kindOf 11 = .ok (.invokevirtual 51, 3) := by decide +kernel
theorem dX5_kindOf_14 : decode cX5_kindOf 14 = .ok (.iload_n 0, 1) := by decide +kernel
theorem dX5_kindOf_15 : decode cX5_kindOf 15 = .ok (.if_icmp .ne 5, 3) := by decide +kernel
theorem dX5_kindOf_18 : decode cX5_kindOf 18 = .ok (.iload_n 1, 1) := by decide +kernel
theorem dX5_kindOf_19 : decode cX5_kindOf 19 = .ok (.ireturn, 1) := by decide +kernel
theorem dX5_kindOf_20 : decode cX5_kindOf 20 = .ok (.iinc 1 1, 3) := by decide +kernel
theorem dX5_kindOf_23 : decode cX5_kindOf 23 = .ok (.goto (-21), 3) := by decide +kernel
theorem dX5_kindOf_26 : decode cX5_kindOf 26 = .ok (.iconst (-1), 1) := by decide +kernel
theorem dX5_kindOf_27 : decode cX5_kindOf 27 = .ok (.ireturn, 1) := by decide +kernel
theorem dX6_init_0 : decode cX6_init 0 = .ok (.aload_n 0, 1) := by decide +kernel
theorem dX6_init_1 : decode cX6_init 1 = .ok (.invokespecial 3, 3) := by decide +kernel
theorem dX6_init_4 : decode cX6_init 4 = .ok (.aload_n 0, 1) := by decide +kernel
theorem dX6_init_5 : decode cX6_init 5 = .ok (.sipush 2296, 3) := by decide +kernel
theorem dX6_init_8 : decode cX6_init 8 = .ok (.newarray .int, 2) := by decide +kernel
theorem dX6_init_10 : decode cX6_init 10 = .ok (.putfield 11, 3) := by decide +kernel
theorem dX6_init_13 : decode cX6_init 13 = .ok (.aload_n 0, 1) := by decide +kernel
theorem dX6_init_14 : decode cX6_init 14 = .ok (.sipush 400, 3) := by decide +kernel
theorem dX6_init_17 : decode cX6_init 17 = .ok (.newarray .int, 2) := by decide +kernel
theorem dX6_init_19 : decode cX6_init 19 = .ok (.putfield 15, 3) := by decide +kernel
theorem dX6_init_22 : decode cX6_init 22 = .ok (.aload_n 0, 1) := by decide +kernel
theorem dX6_init_23 : decode cX6_init 23 = .ok (.bipush 56, 2) := by decide +kernel
theorem dX6_init_25 : decode cX6_init 25 = .ok (.newarray .int, 2) := by decide +kernel
theorem dX6_init_27 : decode cX6_init 27 = .ok (.putfield 18, 3) := by decide +kernel
theorem dX6_init_30 : decode cX6_init 30 = .ok (.aload_n 0, 1) := by decide +kernel
theorem dX6_init_31 : decode cX6_init 31 = .ok (.sipush 400, 3) := by decide +kernel
theorem dX6_init_34 : decode cX6_init 34 = .ok (.newarray .int, 2) := by decide +kernel
theorem dX6_init_36 : decode cX6_init 36 = .ok (.putfield 21, 3) := by decide +kernel
theorem dX6_init_39 : decode cX6_init 39 = .ok (.return_, 1) := by decide +kernel
theorem dX6_clear_0 : decode cX6_clear 0 = .ok (.aload_n 0, 1) := by decide +kernel
theorem dX6_clear_1 : decode cX6_clear 1 = .ok (.iconst 0, 1) := by decide +kernel
theorem dX6_clear_2 : decode cX6_clear 2 = .ok (.putfield 24, 3) := by decide +kernel
theorem dX6_clear_5 : decode cX6_clear 5 = .ok (.aload_n 0, 1) := by decide +kernel
theorem dX6_clear_6 : decode cX6_clear 6 = .ok (.iconst 0, 1) := by decide +kernel
theorem dX6_clear_7 : decode cX6_clear 7 = .ok (.putfield 28, 3) := by decide +kernel
theorem dX6_clear_10 : decode cX6_clear 10 = .ok (.return_, 1) := by decide +kernel
theorem dX6_acts_0 : decode cX6_acts 0 = .ok (.aload_n 0, 1) := by decide +kernel
theorem dX6_acts_1 : decode cX6_acts 1 = .ok (.getfield 24, 3) := by decide +kernel
theorem dX6_acts_4 : decode cX6_acts 4 = .ok (.ireturn, 1) := by decide +kernel
theorem dX6_note_0 : decode cX6_note 0 = .ok (.aload_n 1, 1) := by decide +kernel
theorem dX6_note_1 : decode cX6_note 1 = .ok (.aload_n 0, 1) := by decide +kernel
theorem dX6_note_2 : decode cX6_note 2 = .ok (.getfield 11, 3) := by decide +kernel
theorem dX6_note_5 : decode cX6_note 5 = .ok (.aload_n 0, 1) := by decide +kernel
theorem dX6_note_6 : decode cX6_note 6 = .ok (.getfield 32, 3) := by decide +kernel
theorem dX6_note_9 : decode cX6_note 9 = .ok (.invokevirtual 35, 3) := by decide +kernel
theorem dX6_note_12 : decode cX6_note 12 = .ok (.return_, 1) := by decide +kernel
theorem dX6_keepAct_0 : decode cX6_keepAct 0 = .ok (.aload_n 0, 1) := by decide +kernel
theorem dX6_keepAct_1 : decode cX6_keepAct 1 = .ok (.aload_n 0, 1) := by decide +kernel
theorem dX6_keepAct_2 : decode cX6_keepAct 2 = .ok (.getfield 32, 3) := by decide +kernel
theorem dX6_keepAct_5 : decode cX6_keepAct 5 = .ok (.iconst 1, 1) := by decide +kernel
theorem dX6_keepAct_6 : decode cX6_keepAct 6 = .ok (.iadd, 1) := by decide +kernel
theorem dX6_keepAct_7 : decode cX6_keepAct 7 = .ok (.bipush 41, 2) := by decide +kernel
theorem dX6_keepAct_9 : decode cX6_keepAct 9 = .ok (.irem, 1) := by decide +kernel
theorem dX6_keepAct_10 : decode cX6_keepAct 10 = .ok (.putfield 32, 3) := by decide +kernel
theorem dX6_keepAct_13 : decode cX6_keepAct 13 = .ok (.aload_n 0, 1) := by decide +kernel
theorem dX6_keepAct_14 : decode cX6_keepAct 14 = .ok (.bipush 40, 2) := by decide +kernel
theorem dX6_keepAct_16 : decode cX6_keepAct 16 = .ok (.aload_n 0, 1) := by decide +kernel
theorem dX6_keepAct_17 : decode cX6_keepAct 17 = .ok (.getfield 24, 3) := by decide +kernel
theorem dX6_keepAct_20 : decode cX6_keepAct 20 = .ok (.iconst 1, 1) := by decide +kernel
theorem dX6_keepAct_21 : decode cX6_keepAct 21 = .ok (.iadd, 1) := by decide +kernel
theorem dX6_keepAct_22 : decode cX6_keepAct 22 = .ok (.invokestatic 39, 3) := by decide +kernel
theorem dX6_keepAct_25 : decode cX6_keepAct 25 = .ok (.putfield 24, 3) := by decide +kernel
theorem dX6_keepAct_28 : decode cX6_keepAct 28 = .ok (.return_, 1) := by decide +kernel
theorem dX6_takeBack_0 : decode cX6_takeBack 0 = .ok (.aload_n 0, 1) := by decide +kernel
theorem dX6_takeBack_1 : decode cX6_takeBack 1 = .ok (.getfield 24, 3) := by decide +kernel
theorem dX6_takeBack_4 : decode cX6_takeBack 4 = .ok (.ifCond .ne 5, 3) := by decide +kernel
theorem dX6_takeBack_7 : decode cX6_takeBack 7 = .ok (.iconst 0, 1) := by decide +kernel
theorem dX6_takeBack_8 : decode cX6_takeBack 8 = .ok (.ireturn, 1) := by decide +kernel
theorem dX6_takeBack_9 : decode cX6_takeBack 9 = .ok (.aload_n 0, 1) := by decide +kernel
theorem dX6_takeBack_10 : decode cX6_takeBack 10 = .ok (.aload_n 0, 1) := by decide +kernel
theorem dX6_takeBack_11 : decode cX6_takeBack 11 = .ok (.getfield 32, 3) := by decide +kernel
theorem dX6_takeBack_14 : decode cX6_takeBack 14 = .ok (.bipush 41, 2) := by decide +kernel
theorem dX6_takeBack_16 : decode cX6_takeBack 16 = .ok (.iadd, 1) := by decide +kernel
theorem dX6_takeBack_17 : decode cX6_takeBack 17 = .ok (.iconst 1, 1) := by decide +kernel
theorem dX6_takeBack_18 : decode cX6_takeBack 18 = .ok (.isub, 1) := by decide +kernel
theorem dX6_takeBack_19 : decode cX6_takeBack 19 = .ok (.bipush 41, 2) := by decide +kernel
theorem dX6_takeBack_21 : decode cX6_takeBack 21 = .ok (.irem, 1) := by decide +kernel
theorem dX6_takeBack_22 : decode cX6_takeBack 22 = .ok (.putfield 32, 3) := by decide +kernel
theorem dX6_takeBack_25 : decode cX6_takeBack 25 = .ok (.aload_n 0, 1) := by decide +kernel
theorem dX6_takeBack_26 : decode cX6_takeBack 26 = .ok (.dup, 1) := by decide +kernel
theorem dX6_takeBack_27 : decode cX6_takeBack 27 = .ok (.getfield 24, 3) := by decide +kernel
theorem dX6_takeBack_30 : decode cX6_takeBack 30 = .ok (.iconst 1, 1) := by decide +kernel
theorem dX6_takeBack_31 : decode cX6_takeBack 31 = .ok (.isub, 1) := by decide +kernel
theorem dX6_takeBack_32 : decode cX6_takeBack 32 = .ok (.putfield 24, 3) := by decide +kernel
theorem dX6_takeBack_35 : decode cX6_takeBack 35 = .ok (.aload_n 1, 1) := by decide +kernel
theorem dX6_takeBack_36 : decode cX6_takeBack 36 = .ok (.aload_n 0, 1) := by decide +kernel
theorem dX6_takeBack_37 : decode cX6_takeBack 37 = .ok (.getfield 11, 3) := by decide +kernel
theorem dX6_takeBack_40 : decode cX6_takeBack 40 = .ok (.aload_n 0, 1) := by decide +kernel
theorem dX6_takeBack_41 : decode cX6_takeBack 41 = .ok (.getfield 32, 3) := by decide +kernel
theorem dX6_takeBack_44 : decode cX6_takeBack 44 = .ok (.invokevirtual 45, 3) := by decide +kernel
theorem dX6_takeBack_47 : decode cX6_takeBack 47 = .ok (.iconst 1, 1) := by decide +kernel
theorem dX6_takeBack_48 : decode cX6_takeBack 48 = .ok (.ireturn, 1) := by decide +kernel
theorem dX6_logged_0 : decode cX6_logged 0 = .ok (.bipush 60, 2) := by decide +kernel
theorem dX6_logged_2 : decode cX6_logged 2 = .ok (.aload_n 1, 1) := by decide +kernel
theorem dX6_logged_3 : decode cX6_logged 3 = .ok (.invokevirtual 48, 3) := by decide +kernel
theorem dX6_logged_6 : decode cX6_logged 6 = .ok (.invokestatic 39, 3) := by decide +kernel
theorem dX6_logged_9 : decode cX6_logged 9 = .ok (.ireturn, 1) := by decide +kernel
theorem dX6_write_0 : decode cX6_write 0 = .ok (.aload_n 1, 1) := by decide +kernel
theorem dX6_write_1 : decode cX6_write 1 = .ok (.invokevirtual 48, 3) := by decide +kernel
theorem dX6_write_4 : decode cX6_write 4 = .ok (.bipush 100, 2) := by decide +kernel
theorem dX6_write_6 : decode cX6_write 6 = .ok (.irem, 1) := by decide +kernel
theorem dX6_write_7 : decode cX6_write 7 = .ok (.iconst 4, 1) := by decide +kernel
theorem dX6_write_8 : decode cX6_write 8 = .ok (.imul, 1) := by decide +kernel
theorem dX6_write_9 : decode cX6_write 9 = .ok (.istore 6, 2) := by decide +kernel
theorem dX6_write_11 : decode cX6_write 11 = .ok (.aload_n 0, 1) := by decide +kernel
theorem dX6_write_12 : decode cX6_write 12 = .ok (.getfield 15, 3) := by decide +kernel
theorem dX6_write_15 : decode cX6_write 15 = .ok (.iload 6, 2) := by decide +kernel
theorem dX6_write_17 : decode cX6_write 17 = .ok (.iload_n 2, 1) := by decide +kernel
theorem dX6_write_18 : decode cX6_write 18 = .ok (.iastore, 1) := by decide +kernel
theorem dX6_write_19 : decode cX6_write 19 = .ok (.aload_n 0, 1) := by decide +kernel
theorem dX6_write_20 : decode cX6_write 20 = .ok (.getfield 15, 3) := by decide +kernel
theorem dX6_write_23 : decode cX6_write 23 = .ok (.iload 6, 2) := by decide +kernel
theorem dX6_write_25 : decode cX6_write 25 = .ok (.iconst 1, 1) := by decide +kernel
theorem dX6_write_26 : decode cX6_write 26 = .ok (.iadd, 1) := by decide +kernel
theorem dX6_write_27 : decode cX6_write 27 = .ok (.iload_n 3, 1) := by decide +kernel
theorem dX6_write_28 : decode cX6_write 28 = .ok (.iastore, 1) := by decide +kernel
theorem dX6_write_29 : decode cX6_write 29 = .ok (.aload_n 0, 1) := by decide +kernel
theorem dX6_write_30 : decode cX6_write 30 = .ok (.getfield 15, 3) := by decide +kernel
theorem dX6_write_33 : decode cX6_write 33 = .ok (.iload 6, 2) := by decide +kernel
theorem dX6_write_35 : decode cX6_write 35 = .ok (.iconst 2, 1) := by decide +kernel
theorem dX6_write_36 : decode cX6_write 36 = .ok (.iadd, 1) := by decide +kernel
theorem dX6_write_37 : decode cX6_write 37 = .ok (.iload 4, 2) := by decide +kernel
theorem dX6_write_39 : decode cX6_write 39 = .ok (.iastore, 1) := by decide +kernel
theorem dX6_write_40 : decode cX6_write 40 = .ok (.aload_n 0, 1) := by decide +kernel
theorem dX6_write_41 : decode cX6_write 41 = .ok (.getfield 15, 3) := by decide +kernel
theorem dX6_write_44 : decode cX6_write 44 = .ok (.iload 6, 2) := by decide +kernel
theorem dX6_write_46 : decode cX6_write 46 = .ok (.iconst 3, 1) := by decide +kernel
theorem dX6_write_47 : decode cX6_write 47 = .ok (.iadd, 1) := by decide +kernel
theorem dX6_write_48 : decode cX6_write 48 = .ok (.iload 5, 2) := by decide +kernel
theorem dX6_write_50 : decode cX6_write 50 = .ok (.iastore, 1) := by decide +kernel
theorem dX6_write_51 : decode cX6_write 51 = .ok (.aload_n 1, 1) := by decide +kernel
theorem dX6_write_52 : decode cX6_write 52 = .ok (.invokevirtual 52, 3) := by decide +kernel
theorem dX6_write_55 : decode cX6_write 55 = .ok (.return_, 1) := by decide +kernel
theorem dX6_logEntry_0 : decode cX6_logEntry 0 = .ok (.aload_n 0, 1) := by decide +kernel
theorem dX6_logEntry_1 : decode cX6_logEntry 1 = .ok (.getfield 15, 3) := by decide +kernel
theorem dX6_logEntry_4 : decode cX6_logEntry 4 = .ok (.aload_n 1, 1) := by decide +kernel
theorem dX6_logEntry_5 : decode cX6_logEntry 5 = .ok (.invokevirtual 48, 3) := by decide +kernel
theorem dX6_logEntry_8 : decode cX6_logEntry 8 = .ok (.iconst 1, 1) := by decide +kernel
theorem dX6_logEntry_9 : decode cX6_logEntry 9 = .ok (.isub, 1) := by decide +kernel
theorem dX6_logEntry_10 : decode cX6_logEntry 10 = .ok (.iload_n 2, 1) := by decide +kernel
theorem dX6_logEntry_11 : decode cX6_logEntry 11 = .ok (.isub, 1) := by decide +kernel
theorem dX6_logEntry_12 : decode cX6_logEntry 12 = .ok (.bipush 100, 2) := by decide +kernel
theorem dX6_logEntry_14 : decode cX6_logEntry 14 = .ok (.irem, 1) := by decide +kernel
theorem dX6_logEntry_15 : decode cX6_logEntry 15 = .ok (.iconst 4, 1) := by decide +kernel
theorem dX6_logEntry_16 : decode cX6_logEntry 16 = .ok (.imul, 1) := by decide +kernel
theorem dX6_logEntry_17 : decode cX6_logEntry 17 = .ok (.iload_n 3, 1) := by decide +kernel
theorem dX6_logEntry_18 : decode cX6_logEntry 18 = .ok (.iadd, 1) := by decide +kernel
theorem dX6_logEntry_19 : decode cX6_logEntry 19 = .ok (.iaload, 1) := by decide +kernel
theorem dX6_logEntry_20 : decode cX6_logEntry 20 = .ok (.ireturn, 1) := by decide +kernel
theorem dX6_keepImage_0 : decode cX6_keepImage 0 = .ok (.aload_n 1, 1) := by decide +kernel
theorem dX6_keepImage_1 : decode cX6_keepImage 1 = .ok (.aload_n 0, 1) := by decide +kernel
theorem dX6_keepImage_2 : decode cX6_keepImage 2 = .ok (.getfield 18, 3) := by decide +kernel
theorem dX6_keepImage_5 : decode cX6_keepImage 5 = .ok (.iconst 0, 1) := by decide +kernel
theorem dX6_keepImage_6 : decode cX6_keepImage 6 = .ok (.invokevirtual 35, 3) := by decide +kernel
theorem dX6_keepImage_9 : decode cX6_keepImage 9 = .ok (.aload_n 0, 1) := by decide +kernel
theorem dX6_keepImage_10 : decode cX6_keepImage 10 = .ok (.getfield 15, 3) := by decide +kernel
theorem dX6_keepImage_13 : decode cX6_keepImage 13 = .ok (.iconst 0, 1) := by decide +kernel
theorem dX6_keepImage_14 : decode cX6_keepImage 14 = .ok (.aload_n 0, 1) := by decide +kernel
theorem dX6_keepImage_15 : decode cX6_keepImage 15 = .ok (.getfield 21, 3) := by decide +kernel
theorem dX6_keepImage_18 : decode cX6_keepImage 18 = .ok (.iconst 0, 1) := by decide +kernel
theorem dX6_keepImage_19 : decode cX6_keepImage 19 = .ok (.aload_n 0, 1) := by decide +kernel
theorem dX6_keepImage_20 : decode cX6_keepImage 20 = .ok (.getfield 15, 3) := by decide +kernel
theorem dX6_keepImage_23 : decode cX6_keepImage 23 = .ok (.arraylength, 1) := by decide +kernel
theorem dX6_keepImage_24 : decode cX6_keepImage 24 = .ok (.invokestatic 55, 3) := by decide +kernel
theorem dX6_keepImage_27 : decode cX6_keepImage 27 = .ok (.aload_n 0, 1) := by decide +kernel
theorem dX6_keepImage_28 : decode cX6_keepImage 28 = .ok (.iconst 1, 1) := by decide +kernel
theorem dX6_keepImage_29 : decode cX6_keepImage 29 = .ok (.putfield 28, 3) := by decide +kernel
theorem dX6_keepImage_32 : decode cX6_keepImage 32 = .ok (.return_, 1) := by decide +kernel
theorem dX6_restoreImage_0 : decode cX6_restoreImage 0 = .ok (.aload_n 0, 1) := by decide +kernel
theorem dX6_restoreImage_1 : decode cX6_restoreImage 1 = .ok (.getfield 28, 3) := by decide +kernel
theorem dX6_restoreImage_4 : decode cX6_restoreImage 4 = .ok (.ifCond .ne 5, 3) := by decide +kernel
theorem dX6_restoreImage_7 : decode cX6_restoreImage 7 = .ok (.iconst 0, 1) := by decide +kernel
theorem dX6_restoreImage_8 : decode cX6_restoreImage 8 = .ok (.ireturn, 1) := by decide +kernel
theorem dX6_restoreImage_9 : decode cX6_restoreImage 9 = .ok (.aload_n 1, 1) := by decide +kernel
theorem dX6_restoreImage_10 : decode cX6_restoreImage 10 = .ok (.aload_n 0, 1) := by decide +kernel
theorem dX6_restoreImage_11 : decode cX6_restoreImage 11 = .ok (.getfield 18, 3) := by decide +kernel
theorem dX6_restoreImage_14 : decode cX6_restoreImage 14 = .ok (.iconst 0, 1) := by decide +kernel
theorem dX6_restoreImage_15 : decode cX6_restoreImage 15 = .ok (.invokevirtual 45, 3) := by decide +kernel
theorem dX6_restoreImage_18 : decode cX6_restoreImage 18 = .ok (.aload_n 0, 1) := by decide +kernel
theorem dX6_restoreImage_19 : decode cX6_restoreImage 19 = .ok (.getfield 21, 3) := by decide +kernel
theorem dX6_restoreImage_22 : decode cX6_restoreImage 22 = .ok (.iconst 0, 1) := by decide +kernel
theorem dX6_restoreImage_23 : decode cX6_restoreImage 23 = .ok (.aload_n 0, 1) := by decide +kernel
theorem dX6_restoreImage_24 : decode cX6_restoreImage 24 = .ok (.getfield 15, 3) := by decide +kernel
theorem dX6_restoreImage_27 : decode cX6_restoreImage 27 = .ok (.iconst 0, 1) := by decide +kernel
theorem dX6_restoreImage_28 : decode cX6_restoreImage 28 = .ok (.aload_n 0, 1) := by decide +kernel
theorem dX6_restoreImage_29 : decode cX6_restoreImage 29 = .ok (.getfield 15, 3) := by decide +kernel
theorem dX6_restoreImage_32 : decode cX6_restoreImage 32 = .ok (.arraylength, 1) := by decide +kernel
theorem dX6_restoreImage_33 : decode cX6_restoreImage 33 = .ok (.invokestatic 55, 3) := by decide +kernel
theorem dX6_restoreImage_36 : decode cX6_restoreImage 36 = .ok (.aload_n 0, 1) := by decide +kernel
theorem dX6_restoreImage_37 : decode cX6_restoreImage 37 = .ok (.iconst 0, 1) := by decide +kernel
theorem dX6_restoreImage_38 : decode cX6_restoreImage 38 = .ok (.putfield 24, 3) := by decide +kernel
theorem dX6_restoreImage_41 : decode cX6_restoreImage 41 = .ok (.iconst 1, 1) := by decide +kernel
theorem dX6_restoreImage_42 : decode cX6_restoreImage 42 = .ok (.ireturn, 1) := by decide +kernel
theorem dX7_init_0 : decode cX7_init 0 = .ok (.aload_n 0, 1) := by decide +kernel
theorem dX7_init_1 : decode cX7_init 1 = .ok (.invokespecial 5, 3) := by decide +kernel
theorem dX7_init_4 : decode cX7_init 4 = .ok (.aload_n 0, 1) := by decide +kernel
theorem dX7_init_5 : decode cX7_init 5 = .ok (.bipush 9, 2) := by decide +kernel
theorem dX7_init_7 : decode cX7_init 7 = .ok (.newarray .int, 2) := by decide +kernel
theorem dX7_init_9 : decode cX7_init 9 = .ok (.putfield 13, 3) := by decide +kernel
theorem dX7_init_12 : decode cX7_init 12 = .ok (.aload_n 0, 1) := by decide +kernel
theorem dX7_init_13 : decode cX7_init 13 = .ok (.bipush 7, 2) := by decide +kernel
theorem dX7_init_15 : decode cX7_init 15 = .ok (.newarray .int, 2) := by decide +kernel
theorem dX7_init_17 : decode cX7_init 17 = .ok (.putfield 17, 3) := by decide +kernel
theorem dX7_init_20 : decode cX7_init 20 = .ok (.aload_n 0, 1) := by decide +kernel
theorem dX7_init_21 : decode cX7_init 21 = .ok (.sipush 128, 3) := by decide +kernel
theorem dX7_init_24 : decode cX7_init 24 = .ok (.newarray .int, 2) := by decide +kernel
theorem dX7_init_26 : decode cX7_init 26 = .ok (.putfield 20, 3) := by decide +kernel
theorem dX7_init_29 : decode cX7_init 29 = .ok (.aload_n 0, 1) := by decide +kernel
theorem dX7_init_30 : decode cX7_init 30 = .ok (.sipush 896, 3) := by decide +kernel
theorem dX7_init_33 : decode cX7_init 33 = .ok (.newarray .int, 2) := by decide +kernel
theorem dX7_init_35 : decode cX7_init 35 = .ok (.putfield 23, 3) := by decide +kernel
theorem dX7_init_38 : decode cX7_init 38 = .ok (.aload_n 0, 1) := by decide +kernel
theorem dX7_init_39 : decode cX7_init 39 = .ok (.aload_n 1, 1) := by decide +kernel
theorem dX7_init_40 : decode cX7_init 40 = .ok (.putfield 26, 3) := by decide +kernel
theorem dX7_init_43 : decode cX7_init 43 = .ok (.aload_n 0, 1) := by decide +kernel
theorem dX7_init_44 : decode cX7_init 44 = .ok (.aload_n 2, 1) := by decide +kernel
theorem dX7_init_45 : decode cX7_init 45 = .ok (.putfield 30, 3) := by decide +kernel
theorem dX7_init_48 : decode cX7_init 48 = .ok (.aload_n 0, 1) := by decide +kernel
theorem dX7_init_49 : decode cX7_init 49 = .ok (.aload_n 3, 1) := by decide +kernel
theorem dX7_init_50 : decode cX7_init 50 = .ok (.putfield 34, 3) := by decide +kernel
theorem dX7_init_53 : decode cX7_init 53 = .ok (.return_, 1) := by decide +kernel
theorem dX7_digits_0 : decode cX7_digits 0 = .ok (.aload_n 0, 1) := by decide +kernel
theorem dX7_digits_1 : decode cX7_digits 1 = .ok (.getfield 38, 3) := by decide +kernel
theorem dX7_digits_4 : decode cX7_digits 4 = .ok (.ireturn, 1) := by decide +kernel
theorem dX7_worth_0 : decode cX7_worth 0 = .ok (.aload_n 0, 1) := by decide +kernel
theorem dX7_worth_1 : decode cX7_worth 1 = .ok (.getfield 42, 3) := by decide +kernel
theorem dX7_worth_4 : decode cX7_worth 4 = .ok (.ireturn, 1) := by decide +kernel
theorem dX7_leastPossible_0 : decode cX7_leastPossible 0 = .ok (.iconst 0, 1) := by decide +kernel
theorem dX7_leastPossible_1 : decode cX7_leastPossible 1 = .ok (.istore_n 2, 1) := by decide +kernel
theorem dX7_leastPossible_2 : decode cX7_leastPossible 2 = .ok (.iconst 0, 1) := by decide +kernel
theorem dX7_leastPossible_3 : decode cX7_leastPossible 3 = .ok (.istore_n 3, 1) := by decide +kernel
theorem dX7_leastPossible_4 : decode cX7_leastPossible 4 = .ok (.iconst 0, 1) := by decide +kernel
theorem dX7_leastPossible_5 : decode cX7_leastPossible 5 = .ok (.istore 4, 2) := by decide +kernel
theorem dX7_leastPossible_7 : decode cX7_leastPossible 7 = .ok (.iload 4, 2) := by decide +kernel
theorem dX7_leastPossible_9 : decode cX7_leastPossible 9 = .ok (.aload_n 0, 1) := by decide +kernel
theorem dX7_leastPossible_10 : decode cX7_leastPossible 10 = .ok (.getfield 26, 3) := by decide +kernel
theorem dX7_leastPossible_13 : decode cX7_leastPossible 13 = .ok (.invokevirtual 45, 3) := by decide +kernel
theorem dX7_leastPossible_16 : decode cX7_leastPossible 16 = .ok (.if_icmp .ge 69, 3) := by decide +kernel
theorem dX7_leastPossible_19 : decode cX7_leastPossible 19 = .ok (.aload_n 0, 1) := by decide +kernel
theorem dX7_leastPossible_20 : decode cX7_leastPossible 20 = .ok (.getfield 34, 3) := by decide +kernel
theorem dX7_leastPossible_23 : decode cX7_leastPossible 23 = .ok (.iload 4, 2) := by decide +kernel
theorem dX7_leastPossible_25 : decode cX7_leastPossible 25 = .ok (.invokevirtual 48, 3) := by decide +kernel
theorem dX7_leastPossible_28 : decode cX7_leastPossible 28 = .ok (.istore 5, 2) := by decide +kernel
theorem dX7_leastPossible_30 : decode cX7_leastPossible 30 = .ok (.aload_n 0, 1) := by decide +kernel
theorem dX7_leastPossible_31 : decode cX7_leastPossible 31 = .ok (.getfield 30, 3) := by decide +kernel
theorem dX7_leastPossible_34 : decode cX7_leastPossible 34 = .ok (.aload_n 0, 1) := by decide +kernel
theorem dX7_leastPossible_35 : decode cX7_leastPossible 35 = .ok (.getfield 34, 3) := by decide +kernel
theorem dX7_leastPossible_38 : decode cX7_leastPossible 38 = .ok (.iload 5, 2) := by decide +kernel
theorem dX7_leastPossible_40 : decode cX7_leastPossible 40 = .ok (.iload_n 1, 1) := by decide +kernel
theorem dX7_leastPossible_41 : decode cX7_leastPossible 41 = .ok (.invokevirtual 54, 3) := by decide +kernel
theorem dX7_leastPossible_44 : decode cX7_leastPossible 44 = .ok (.istore 6, 2) := by decide +kernel
theorem dX7_leastPossible_46 : decode cX7_leastPossible 46 = .ok (.iload_n 2, 1) := by decide +kernel
theorem dX7_leastPossible_47 : decode cX7_leastPossible 47 = .ok (.iload 6, 2) := by decide +kernel
theorem dX7_leastPossible_49 : decode cX7_leastPossible 49 = .ok (.iadd, 1) := by decide +kernel
theorem dX7_leastPossible_50 : decode cX7_leastPossible 50 = .ok (.istore_n 2, 1) := by decide +kernel
theorem dX7_leastPossible_51 : decode cX7_leastPossible 51 = .ok (.iload_n 3, 1) := by decide +kernel
theorem dX7_leastPossible_52 : decode cX7_leastPossible 52 = .ok (.iload 6, 2) := by decide +kernel
theorem dX7_leastPossible_54 : decode cX7_leastPossible 54 = .ok (.aload_n 0, 1) := by decide +kernel
theorem dX7_leastPossible_55 : decode cX7_leastPossible 55 = .ok (.getfield 30, 3) := by decide +kernel
theorem dX7_leastPossible_58 : decode cX7_leastPossible 58 = .ok (.iload 5, 2) := by decide +kernel
theorem dX7_leastPossible_60 : decode cX7_leastPossible 60 = .ok (.iload_n 1, 1) := by decide +kernel
theorem dX7_leastPossible_61 : decode cX7_leastPossible 61 = .ok (.aload_n 0, 1) := by decide +kernel
theorem dX7_leastPossible_62 : decode cX7_leastPossible 62 = .ok (.getfield 34, 3) := by decide +kernel
theorem dX7_leastPossible_65 : decode cX7_leastPossible 65 = .ok (.iload 5, 2) := by decide +kernel
theorem dX7_leastPossible_67 : decode cX7_leastPossible 67 = .ok (.invokevirtual 60, 3) := by decide +kernel
theorem dX7_leastPossible_70 : decode cX7_leastPossible 70 = .ok (.iconst 1, 1) := by decide +kernel
theorem dX7_leastPossible_71 : decode cX7_leastPossible 71 = .ok (.invokevirtual 63, 3) := by decide +kernel
theorem dX7_leastPossible_74 : decode cX7_leastPossible 74 = .ok (.iadd, 1) := by decide +kernel
theorem dX7_leastPossible_75 : decode cX7_leastPossible 75 = .ok (.invokestatic 67, 3) := by decide +kernel
theorem dX7_leastPossible_78 : decode cX7_leastPossible 78 = .ok (.istore_n 3, 1) := by decide +kernel
theorem dX7_leastPossible_79 : decode cX7_leastPossible 79 = .ok (.iinc 4 1, 3) := by decide +kernel
theorem dX7_leastPossible_82 : decode cX7_leastPossible 82 = .ok (.goto (-75), 3) := by decide +kernel
theorem dX7_leastPossible_85 : decode cX7_leastPossible 85 = .ok (.iload_n 2, 1) := by decide +kernel
theorem dX7_leastPossible_86 : decode cX7_leastPossible 86 = .ok (.iload_n 3, 1) := by decide +kernel
theorem dX7_leastPossible_87 : decode cX7_leastPossible 87 = .ok (.invokestatic 67, 3) := by decide +kernel
theorem dX7_leastPossible_90 : decode cX7_leastPossible 90 = .ok (.ireturn, 1) := by decide +kernel
theorem dX7_findSoonest_0 : decode cX7_findSoonest 0 = .ok (.aload_n 0, 1) := by decide +kernel
theorem dX7_findSoonest_1 : decode cX7_findSoonest 1 = .ok (.iload_n 1, 1) := by decide +kernel
theorem dX7_findSoonest_2 : decode cX7_findSoonest 2 = .ok (.invokevirtual 73, 3) := by decide +kernel
theorem dX7_findSoonest_5 : decode cX7_findSoonest 5 = .ok (.iconst 1, 1) := by decide +kernel
theorem dX7_findSoonest_6 : decode cX7_findSoonest 6 = .ok (.aload_n 0, 1) := by decide +kernel
theorem dX7_findSoonest_7 : decode cX7_findSoonest 7 = .ok (.getfield 77, 3) := by decide +kernel
theorem dX7_findSoonest_10 : decode cX7_findSoonest 10 = .ok (.ishl, 1) := by decide +kernel
theorem dX7_findSoonest_11 : decode cX7_findSoonest 11 = .ok (.iconst 1, 1) := by decide +kernel
theorem dX7_findSoonest_12 : decode cX7_findSoonest 12 = .ok (.isub, 1) := by decide +kernel
theorem dX7_findSoonest_13 : decode cX7_findSoonest 13 = .ok (.istore_n 2, 1) := by decide +kernel
theorem dX7_findSoonest_14 : decode cX7_findSoonest 14 = .ok (.aload_n 0, 1) := by decide +kernel
theorem dX7_findSoonest_15 : decode cX7_findSoonest 15 = .ok (.getfield 23, 3) := by decide +kernel
theorem dX7_findSoonest_18 : decode cX7_findSoonest 18 = .ok (.iload_n 2, 1) := by decide +kernel
theorem dX7_findSoonest_19 : decode cX7_findSoonest 19 = .ok (.aload_n 0, 1) := by decide +kernel
theorem dX7_findSoonest_20 : decode cX7_findSoonest 20 = .ok (.getfield 20, 3) := by decide +kernel
theorem dX7_findSoonest_23 : decode cX7_findSoonest 23 = .ok (.iload_n 2, 1) := by decide +kernel
theorem dX7_findSoonest_24 : decode cX7_findSoonest 24 = .ok (.iaload, 1) := by decide +kernel
theorem dX7_findSoonest_25 : decode cX7_findSoonest 25 = .ok (.iastore, 1) := by decide +kernel
theorem dX7_findSoonest_26 : decode cX7_findSoonest 26 = .ok (.iload_n 2, 1) := by decide +kernel
theorem dX7_findSoonest_27 : decode cX7_findSoonest 27 = .ok (.iconst 1, 1) := by decide +kernel
theorem dX7_findSoonest_28 : decode cX7_findSoonest 28 = .ok (.isub, 1) := by decide +kernel
theorem dX7_findSoonest_29 : decode cX7_findSoonest 29 = .ok (.istore_n 3, 1) := by decide +kernel
theorem dX7_findSoonest_30 : decode cX7_findSoonest 30 = .ok (.iload_n 3, 1) := by decide +kernel
theorem dX7_findSoonest_31 : decode cX7_findSoonest 31 = .ok (.ifCond .lt 67, 3) := by decide +kernel
theorem dX7_findSoonest_34 : decode cX7_findSoonest 34 = .ok (.aload_n 0, 1) := by decide +kernel
theorem dX7_findSoonest_35 : decode cX7_findSoonest 35 = .ok (.getfield 23, 3) := by decide +kernel
theorem dX7_findSoonest_38 : decode cX7_findSoonest 38 = .ok (.iload_n 3, 1) := by decide +kernel
theorem dX7_findSoonest_39 : decode cX7_findSoonest 39 = .ok (.ldc 80, 2) := by decide +kernel
theorem dX7_findSoonest_41 : decode cX7_findSoonest 41 = .ok (.iastore, 1) := by decide +kernel
theorem dX7_findSoonest_42 : decode cX7_findSoonest 42 = .ok (.iconst 0, 1) := by decide +kernel
theorem dX7_findSoonest_43 : decode cX7_findSoonest 43 = .ok (.istore 4, 2) := by decide +kernel
theorem dX7_findSoonest_45 : decode cX7_findSoonest 45 = .ok (.iload 4, 2) := by decide +kernel
theorem dX7_findSoonest_47 : decode cX7_findSoonest 47 = .ok (.aload_n 0, 1) := by decide +kernel
theorem dX7_findSoonest_48 : decode cX7_findSoonest 48 = .ok (.getfield 77, 3) := by decide +kernel
theorem dX7_findSoonest_51 : decode cX7_findSoonest 51 = .ok (.if_icmp .ge 41, 3) := by decide +kernel
theorem dX7_findSoonest_54 : decode cX7_findSoonest 54 = .ok (.iload_n 3, 1) := by decide +kernel
theorem dX7_findSoonest_55 : decode cX7_findSoonest 55 = .ok (.iload 4, 2) := by decide +kernel
theorem dX7_findSoonest_57 : decode cX7_findSoonest 57 = .ok (.ishr, 1) := by decide +kernel
theorem dX7_findSoonest_58 : decode cX7_findSoonest 58 = .ok (.iconst 1, 1) := by decide +kernel
theorem dX7_findSoonest_59 : decode cX7_findSoonest 59 = .ok (.iand, 1) := by decide +kernel
theorem dX7_findSoonest_60 : decode cX7_findSoonest 60 = .ok (.ifCond .ne 26, 3) := by decide +kernel
theorem dX7_findSoonest_63 : decode cX7_findSoonest 63 = .ok (.aload_n 0, 1) := by decide +kernel
theorem dX7_findSoonest_64 : decode cX7_findSoonest 64 = .ok (.getfield 23, 3) := by decide +kernel
theorem dX7_findSoonest_67 : decode cX7_findSoonest 67 = .ok (.iload_n 3, 1) := by decide +kernel
theorem dX7_findSoonest_68 : decode cX7_findSoonest 68 = .ok (.aload_n 0, 1) := by decide +kernel
theorem dX7_findSoonest_69 : decode cX7_findSoonest 69 = .ok (.getfield 23, 3) := by decide +kernel
theorem dX7_findSoonest_72 : decode cX7_findSoonest 72 = .ok (.iload_n 3, 1) := by decide +kernel
theorem dX7_findSoonest_73 : decode cX7_findSoonest 73 = .ok (.iaload, 1) := by decide +kernel
theorem dX7_findSoonest_74 : decode cX7_findSoonest 74 = .ok (.aload_n 0, 1) := by decide +kernel
theorem dX7_findSoonest_75 : decode cX7_findSoonest 75 = .ok (.iload_n 3, 1) := by decide +kernel
theorem dX7_findSoonest_76 : decode cX7_findSoonest 76 = .ok (.iload 4, 2) := by decide +kernel
theorem dX7_findSoonest_78 : decode cX7_findSoonest 78 = .ok (.iload_n 1, 1) := by decide +kernel
theorem dX7_findSoonest_79 : decode cX7_findSoonest 79 = .ok (.invokevirtual 81, 3) := by decide +kernel
theorem dX7_findSoonest_82 : decode cX7_findSoonest 82 = .ok (.invokestatic 85, 3) := by decide +kernel
theorem dX7_findSoonest_85 : decode cX7_findSoonest 85 = .ok (.iastore, 1) := by decide +kernel
theorem dX7_findSoonest_86 : decode cX7_findSoonest 86 = .ok (.iinc 4 1, 3) := by decide +kernel
theorem dX7_findSoonest_89 : decode cX7_findSoonest 89 = .ok (.goto (-44), 3) := by decide +kernel
theorem dX7_findSoonest_92 : decode cX7_findSoonest 92 = .ok (.iinc 3 (-1), 3) := by decide +kernel
theorem dX7_findSoonest_95 : decode cX7_findSoonest 95 = .ok (.goto (-65), 3) := by decide +kernel
theorem dX7_findSoonest_98 : decode cX7_findSoonest 98 = .ok (.aload_n 0, 1) := by decide +kernel
theorem dX7_findSoonest_99 : decode cX7_findSoonest 99 = .ok (.aload_n 0, 1) := by decide +kernel
theorem dX7_findSoonest_100 : decode cX7_findSoonest 100 = .ok (.getfield 23, 3) := by decide +kernel
theorem dX7_findSoonest_103 : decode cX7_findSoonest 103 = .ok (.iconst 0, 1) := by decide +kernel
theorem dX7_findSoonest_104 : decode cX7_findSoonest 104 = .ok (.iaload, 1) := by decide +kernel
theorem dX7_findSoonest_105 : decode cX7_findSoonest 105 = .ok (.putfield 42, 3) := by decide +kernel
theorem dX7_findSoonest_108 : decode cX7_findSoonest 108 = .ok (.aload_n 0, 1) := by decide +kernel
theorem dX7_findSoonest_109 : decode cX7_findSoonest 109 = .ok (.iconst 0, 1) := by decide +kernel
theorem dX7_findSoonest_110 : decode cX7_findSoonest 110 = .ok (.putfield 38, 3) := by decide +kernel
theorem dX7_findSoonest_113 : decode cX7_findSoonest 113 = .ok (.iconst 0, 1) := by decide +kernel
theorem dX7_findSoonest_114 : decode cX7_findSoonest 114 = .ok (.istore_n 3, 1) := by decide +kernel
theorem dX7_findSoonest_115 : decode cX7_findSoonest 115 = .ok (.iconst 0, 1) := by decide +kernel
theorem dX7_findSoonest_116 : decode cX7_findSoonest 116 = .ok (.istore 4, 2) := by decide +kernel
theorem dX7_findSoonest_118 : decode cX7_findSoonest 118 = .ok (.iload 4, 2) := by decide +kernel
theorem dX7_findSoonest_120 : decode cX7_findSoonest 120 = .ok (.aload_n 0, 1) := by decide +kernel
theorem dX7_findSoonest_121 : decode cX7_findSoonest 121 = .ok (.getfield 77, 3) := by decide +kernel
theorem dX7_findSoonest_124 : decode cX7_findSoonest 124 = .ok (.if_icmp .ge 80, 3) := by decide +kernel
theorem dX7_findSoonest_127 : decode cX7_findSoonest 127 = .ok (.iconst 0, 1) := by decide +kernel
theorem dX7_findSoonest_128 : decode cX7_findSoonest 128 = .ok (.istore 5, 2) := by decide +kernel
theorem dX7_findSoonest_130 : decode cX7_findSoonest 130 = .ok (.iload 5, 2) := by decide +kernel
theorem dX7_findSoonest_132 : decode cX7_findSoonest 132 = .ok (.aload_n 0, 1) := by decide +kernel
theorem dX7_findSoonest_133 : decode cX7_findSoonest 133 = .ok (.getfield 77, 3) := by decide +kernel
theorem dX7_findSoonest_136 : decode cX7_findSoonest 136 = .ok (.iconst 1, 1) := by decide +kernel
theorem dX7_findSoonest_137 : decode cX7_findSoonest 137 = .ok (.isub, 1) := by decide +kernel
theorem dX7_findSoonest_138 : decode cX7_findSoonest 138 = .ok (.if_icmp .ge 34, 3) := by decide +kernel
theorem dX7_findSoonest_141 : decode cX7_findSoonest 141 = .ok (.iload_n 3, 1) := by decide +kernel
theorem dX7_findSoonest_142 : decode cX7_findSoonest 142 = .ok (.iload 5, 2) := by decide +kernel
theorem dX7_findSoonest_144 : decode cX7_findSoonest 144 = .ok (.ishr, 1) := by decide +kernel
theorem dX7_findSoonest_145 : decode cX7_findSoonest 145 = .ok (.iconst 1, 1) := by decide +kernel
theorem dX7_findSoonest_146 : decode cX7_findSoonest 146 = .ok (.iand, 1) := by decide +kernel
theorem dX7_findSoonest_147 : decode cX7_findSoonest 147 = .ok (.iconst 1, 1) := by decide +kernel
theorem dX7_findSoonest_148 : decode cX7_findSoonest 148 = .ok (.if_icmp .eq 18, 3) := by decide +kernel
theorem dX7_findSoonest_151 : decode cX7_findSoonest 151 = .ok (.aload_n 0, 1) := by decide +kernel
theorem dX7_findSoonest_152 : decode cX7_findSoonest 152 = .ok (.iload_n 3, 1) := by decide +kernel
theorem dX7_findSoonest_153 : decode cX7_findSoonest 153 = .ok (.iload 5, 2) := by decide +kernel
theorem dX7_findSoonest_155 : decode cX7_findSoonest 155 = .ok (.iload_n 1, 1) := by decide +kernel
theorem dX7_findSoonest_156 : decode cX7_findSoonest 156 = .ok (.invokevirtual 81, 3) := by decide +kernel
theorem dX7_findSoonest_159 : decode cX7_findSoonest 159 = .ok (.aload_n 0, 1) := by decide +kernel
theorem dX7_findSoonest_160 : decode cX7_findSoonest 160 = .ok (.getfield 42, 3) := by decide +kernel
theorem dX7_findSoonest_163 : decode cX7_findSoonest 163 = .ok (.if_icmp .le 9, 3) := by decide +kernel
theorem dX7_findSoonest_166 : decode cX7_findSoonest 166 = .ok (.iinc 5 1, 3) := by decide +kernel
theorem dX7_findSoonest_169 : decode cX7_findSoonest 169 = .ok (.goto (-39), 3) := by decide +kernel
theorem dX7_findSoonest_172 : decode cX7_findSoonest 172 = .ok (.aload_n 0, 1) := by decide +kernel
theorem dX7_findSoonest_173 : decode cX7_findSoonest 173 = .ok (.bipush 10, 2) := by decide +kernel
theorem dX7_findSoonest_175 : decode cX7_findSoonest 175 = .ok (.aload_n 0, 1) := by decide +kernel
theorem dX7_findSoonest_176 : decode cX7_findSoonest 176 = .ok (.getfield 38, 3) := by decide +kernel
theorem dX7_findSoonest_179 : decode cX7_findSoonest 179 = .ok (.imul, 1) := by decide +kernel
theorem dX7_findSoonest_180 : decode cX7_findSoonest 180 = .ok (.aload_n 0, 1) := by decide +kernel
theorem dX7_findSoonest_181 : decode cX7_findSoonest 181 = .ok (.getfield 13, 3) := by decide +kernel
theorem dX7_findSoonest_184 : decode cX7_findSoonest 184 = .ok (.iload 5, 2) := by decide +kernel
theorem dX7_findSoonest_186 : decode cX7_findSoonest 186 = .ok (.iaload, 1) := by decide +kernel
theorem dX7_findSoonest_187 : decode cX7_findSoonest 187 = .ok (.iadd, 1) := by decide +kernel
theorem dX7_findSoonest_188 : decode cX7_findSoonest 188 = .ok (.putfield 38, 3) := by decide +kernel
theorem dX7_findSoonest_191 : decode cX7_findSoonest 191 = .ok (.iload_n 3, 1) := by decide +kernel
theorem dX7_findSoonest_192 : decode cX7_findSoonest 192 = .ok (.iconst 1, 1) := by decide +kernel
theorem dX7_findSoonest_193 : decode cX7_findSoonest 193 = .ok (.iload 5, 2) := by decide +kernel
theorem dX7_findSoonest_195 : decode cX7_findSoonest 195 = .ok (.ishl, 1) := by decide +kernel
theorem dX7_findSoonest_196 : decode cX7_findSoonest 196 = .ok (.ior, 1) := by decide +kernel
theorem dX7_findSoonest_197 : decode cX7_findSoonest 197 = .ok (.istore_n 3, 1) := by decide +kernel
theorem dX7_findSoonest_198 : decode cX7_findSoonest 198 = .ok (.iinc 4 1, 3) := by decide +kernel
theorem dX7_findSoonest_201 : decode cX7_findSoonest 201 = .ok (.goto (-83), 3) := by decide +kernel
theorem dX7_findSoonest_204 : decode cX7_findSoonest 204 = .ok (.return_, 1) := by decide +kernel
theorem dX7_layOutPapers_0 : decode cX7_layOutPapers 0 = .ok (.aload_n 0, 1) := by decide +kernel
theorem dX7_layOutPapers_1 : decode cX7_layOutPapers 1 = .ok (.iconst 0, 1) := by decide +kernel
theorem dX7_layOutPapers_2 : decode cX7_layOutPapers 2 = .ok (.putfield 77, 3) := by decide +kernel
theorem dX7_layOutPapers_5 : decode cX7_layOutPapers 5 = .ok (.aload_n 0, 1) := by decide +kernel
theorem dX7_layOutPapers_6 : decode cX7_layOutPapers 6 = .ok (.iconst 0, 1) := by decide +kernel
theorem dX7_layOutPapers_7 : decode cX7_layOutPapers 7 = .ok (.putfield 88, 3) := by decide +kernel
theorem dX7_layOutPapers_10 : decode cX7_layOutPapers 10 = .ok (.aload_n 0, 1) := by decide +kernel
theorem dX7_layOutPapers_11 : decode cX7_layOutPapers 11 = .ok (.getfield 20, 3) := by decide +kernel
theorem dX7_layOutPapers_14 : decode cX7_layOutPapers 14 = .ok (.iconst 0, 1) := by decide +kernel
theorem dX7_layOutPapers_15 : decode cX7_layOutPapers 15 = .ok (.iconst 0, 1) := by decide +kernel
theorem dX7_layOutPapers_16 : decode cX7_layOutPapers 16 = .ok (.iastore, 1) := by decide +kernel
theorem dX7_layOutPapers_17 : decode cX7_layOutPapers 17 = .ok (.iconst 0, 1) := by decide +kernel
theorem dX7_layOutPapers_18 : decode cX7_layOutPapers 18 = .ok (.istore_n 2, 1) := by decide +kernel
theorem dX7_layOutPapers_19 : decode cX7_layOutPapers 19 = .ok (.iload_n 2, 1) := by decide +kernel
theorem dX7_layOutPapers_20 : decode cX7_layOutPapers 20 = .ok (.aload_n 0, 1) := by decide +kernel
theorem dX7_layOutPapers_21 : decode cX7_layOutPapers 21 = .ok (.getfield 26, 3) := by decide +kernel
theorem dX7_layOutPapers_24 : decode cX7_layOutPapers 24 = .ok (.invokevirtual 91, 3) := by decide +kernel
theorem dX7_layOutPapers_27 : decode cX7_layOutPapers 27 = .ok (.if_icmp .ge 152, 3) := by decide +kernel
theorem dX7_layOutPapers_30 : decode cX7_layOutPapers 30 = .ok (.aload_n 0, 1) := by decide +kernel
theorem dX7_layOutPapers_31 : decode cX7_layOutPapers 31 = .ok (.getfield 77, 3) := by decide +kernel
theorem dX7_layOutPapers_34 : decode cX7_layOutPapers 34 = .ok (.bipush 7, 2) := by decide +kernel
theorem dX7_layOutPapers_36 : decode cX7_layOutPapers 36 = .ok (.if_icmp .ge 143, 3) := by decide +kernel
theorem dX7_layOutPapers_39 : decode cX7_layOutPapers 39 = .ok (.aload_n 0, 1) := by decide +kernel
theorem dX7_layOutPapers_40 : decode cX7_layOutPapers 40 = .ok (.getfield 26, 3) := by decide +kernel
theorem dX7_layOutPapers_43 : decode cX7_layOutPapers 43 = .ok (.iload_n 2, 1) := by decide +kernel
theorem dX7_layOutPapers_44 : decode cX7_layOutPapers 44 = .ok (.invokevirtual 94, 3) := by decide +kernel
theorem dX7_layOutPapers_47 : decode cX7_layOutPapers 47 = .ok (.ifCond .eq 126, 3) := by decide +kernel
theorem dX7_layOutPapers_50 : decode cX7_layOutPapers 50 = .ok (.aload_n 0, 1) := by decide +kernel
theorem dX7_layOutPapers_51 : decode cX7_layOutPapers 51 = .ok (.getfield 13, 3) := by decide +kernel
theorem dX7_layOutPapers_54 : decode cX7_layOutPapers 54 = .ok (.aload_n 0, 1) := by decide +kernel
theorem dX7_layOutPapers_55 : decode cX7_layOutPapers 55 = .ok (.getfield 77, 3) := by decide +kernel
theorem dX7_layOutPapers_58 : decode cX7_layOutPapers 58 = .ok (.iload_n 2, 1) := by decide +kernel
theorem dX7_layOutPapers_59 : decode cX7_layOutPapers 59 = .ok (.iastore, 1) := by decide +kernel
theorem dX7_layOutPapers_60 : decode cX7_layOutPapers 60 = .ok (.aload_n 0, 1) := by decide +kernel
theorem dX7_layOutPapers_61 : decode cX7_layOutPapers 61 = .ok (.getfield 17, 3) := by decide +kernel
theorem dX7_layOutPapers_64 : decode cX7_layOutPapers 64 = .ok (.aload_n 0, 1) := by decide +kernel
theorem dX7_layOutPapers_65 : decode cX7_layOutPapers 65 = .ok (.getfield 77, 3) := by decide +kernel
theorem dX7_layOutPapers_68 : decode cX7_layOutPapers 68 = .ok (.aload_n 0, 1) := by decide +kernel
theorem dX7_layOutPapers_69 : decode cX7_layOutPapers 69 = .ok (.getfield 30, 3) := by decide +kernel
theorem dX7_layOutPapers_72 : decode cX7_layOutPapers 72 = .ok (.aload_n 0, 1) := by decide +kernel
theorem dX7_layOutPapers_73 : decode cX7_layOutPapers 73 = .ok (.getfield 34, 3) := by decide +kernel
theorem dX7_layOutPapers_76 : decode cX7_layOutPapers 76 = .ok (.iload_n 2, 1) := by decide +kernel
theorem dX7_layOutPapers_77 : decode cX7_layOutPapers 77 = .ok (.iload_n 1, 1) := by decide +kernel
theorem dX7_layOutPapers_78 : decode cX7_layOutPapers 78 = .ok (.invokevirtual 54, 3) := by decide +kernel
theorem dX7_layOutPapers_81 : decode cX7_layOutPapers 81 = .ok (.iastore, 1) := by decide +kernel
theorem dX7_layOutPapers_82 : decode cX7_layOutPapers 82 = .ok (.aload_n 0, 1) := by decide +kernel
theorem dX7_layOutPapers_83 : decode cX7_layOutPapers 83 = .ok (.dup, 1) := by decide +kernel
theorem dX7_layOutPapers_84 : decode cX7_layOutPapers 84 = .ok (.getfield 88, 3) := by decide +kernel
theorem dX7_layOutPapers_87 : decode cX7_layOutPapers 87 = .ok (.aload_n 0, 1) := by decide +kernel
theorem dX7_layOutPapers_88 : decode cX7_layOutPapers 88 = .ok (.getfield 30, 3) := by decide +kernel
theorem dX7_layOutPapers_91 : decode cX7_layOutPapers 91 = .ok (.aload_n 0, 1) := by decide +kernel
theorem dX7_layOutPapers_92 : decode cX7_layOutPapers 92 = .ok (.getfield 34, 3) := by decide +kernel
theorem dX7_layOutPapers_95 : decode cX7_layOutPapers 95 = .ok (.iload_n 2, 1) := by decide +kernel
theorem dX7_layOutPapers_96 : decode cX7_layOutPapers 96 = .ok (.invokevirtual 98, 3) := by decide +kernel
theorem dX7_layOutPapers_99 : decode cX7_layOutPapers 99 = .ok (.ifCond .eq 12, 3) := by decide +kernel
theorem dX7_layOutPapers_102 : decode cX7_layOutPapers 102 = .ok (.iconst 1, 1) := by decide +kernel
theorem dX7_layOutPapers_103 : decode cX7_layOutPapers 103 = .ok (.aload_n 0, 1) := by decide +kernel
theorem dX7_layOutPapers_104 : decode cX7_layOutPapers 104 = .ok (.getfield 77, 3) := by decide +kernel
theorem dX7_layOutPapers_107 : decode cX7_layOutPapers 107 = .ok (.ishl, 1) := by decide +kernel
theorem dX7_layOutPapers_108 : decode cX7_layOutPapers 108 = .ok (.goto 4, 3) := by decide +kernel
theorem dX7_layOutPapers_111 : decode cX7_layOutPapers 111 = .ok (.iconst 0, 1) := by decide +kernel
theorem dX7_layOutPapers_112 : decode cX7_layOutPapers 112 = .ok (.ior, 1) := by decide +kernel
theorem dX7_layOutPapers_113 : decode cX7_layOutPapers 113 = .ok (.putfield 88, 3) := by decide +kernel
theorem dX7_layOutPapers_116 : decode cX7_layOutPapers 116 = .ok (.iconst 0, 1) := by decide +kernel
theorem dX7_layOutPapers_117 : decode cX7_layOutPapers 117 = .ok (.istore_n 3, 1) := by decide +kernel
theorem dX7_layOutPapers_118 : decode cX7_layOutPapers 118 = .ok (.iload_n 3, 1) := by decide +kernel
theorem dX7_layOutPapers_119 : decode cX7_layOutPapers 119 = .ok (.iconst 1, 1) := by decide +kernel
theorem dX7_layOutPapers_120 : decode cX7_layOutPapers 120 = .ok (.aload_n 0, 1) := by decide +kernel
theorem dX7_layOutPapers_121 : decode cX7_layOutPapers 121 = .ok (.getfield 77, 3) := by decide +kernel
theorem dX7_layOutPapers_124 : decode cX7_layOutPapers 124 = .ok (.ishl, 1) := by decide +kernel
theorem dX7_layOutPapers_125 : decode cX7_layOutPapers 125 = .ok (.if_icmp .ge 38, 3) := by decide +kernel
theorem dX7_layOutPapers_128 : decode cX7_layOutPapers 128 = .ok (.aload_n 0, 1) := by decide +kernel
theorem dX7_layOutPapers_129 : decode cX7_layOutPapers 129 = .ok (.getfield 20, 3) := by decide +kernel
theorem dX7_layOutPapers_132 : decode cX7_layOutPapers 132 = .ok (.iload_n 3, 1) := by decide +kernel
theorem dX7_layOutPapers_133 : decode cX7_layOutPapers 133 = .ok (.iconst 1, 1) := by decide +kernel
theorem dX7_layOutPapers_134 : decode cX7_layOutPapers 134 = .ok (.aload_n 0, 1) := by decide +kernel
theorem dX7_layOutPapers_135 : decode cX7_layOutPapers 135 = .ok (.getfield 77, 3) := by decide +kernel
theorem dX7_layOutPapers_138 : decode cX7_layOutPapers 138 = .ok (.ishl, 1) := by decide +kernel
theorem dX7_layOutPapers_139 : decode cX7_layOutPapers 139 = .ok (.ior, 1) := by decide +kernel
theorem dX7_layOutPapers_140 : decode cX7_layOutPapers 140 = .ok (.aload_n 0, 1) := by decide +kernel
theorem dX7_layOutPapers_141 : decode cX7_layOutPapers 141 = .ok (.getfield 20, 3) := by decide +kernel
theorem dX7_layOutPapers_144 : decode cX7_layOutPapers 144 = .ok (.iload_n 3, 1) := by decide +kernel
theorem dX7_layOutPapers_145 : decode cX7_layOutPapers 145 = .ok (.iaload, 1) := by decide +kernel
theorem dX7_layOutPapers_146 : decode cX7_layOutPapers 146 = .ok (.aload_n 0, 1) := by decide +kernel
theorem dX7_layOutPapers_147 : decode cX7_layOutPapers 147 = .ok (.getfield 17, 3) := by decide +kernel
theorem dX7_layOutPapers_150 : decode cX7_layOutPapers 150 = .ok (.aload_n 0, 1) := by decide +kernel
theorem dX7_layOutPapers_151 : decode cX7_layOutPapers 151 = .ok (.getfield 77, 3) := by decide +kernel
theorem dX7_layOutPapers_154 : decode cX7_layOutPapers 154 = .ok (.iaload, 1) := by decide +kernel
theorem dX7_layOutPapers_155 : decode cX7_layOutPapers 155 = .ok (.iadd, 1) := by decide +kernel
theorem dX7_layOutPapers_156 : decode cX7_layOutPapers 156 = .ok (.iastore, 1) := by decide +kernel
theorem dX7_layOutPapers_157 : decode cX7_layOutPapers 157 = .ok (.iinc 3 1, 3) := by decide +kernel
theorem dX7_layOutPapers_160 : decode cX7_layOutPapers 160 = .ok (.goto (-42), 3) := by decide +kernel
theorem dX7_layOutPapers_163 : decode cX7_layOutPapers 163 = .ok (.aload_n 0, 1) := by decide +kernel
theorem dX7_layOutPapers_164 : decode cX7_layOutPapers 164 = .ok (.dup, 1) := by decide +kernel
theorem dX7_layOutPapers_165 : decode cX7_layOutPapers 165 = .ok (.getfield 77, 3) := by decide +kernel
theorem dX7_layOutPapers_168 : decode cX7_layOutPapers 168 = .ok (.iconst 1, 1) := by decide +kernel
theorem dX7_layOutPapers_169 : decode cX7_layOutPapers 169 = .ok (.iadd, 1) := by decide +kernel
theorem dX7_layOutPapers_170 : decode cX7_layOutPapers 170 = .ok (.putfield 77, 3) := by decide +kernel
theorem dX7_layOutPapers_173 : decode cX7_layOutPapers 173 = .ok (.iinc 2 1, 3) := by decide +kernel
theorem dX7_layOutPapers_176 : decode cX7_layOutPapers 176 = .ok (.goto (-157), 3) := by decide +kernel
theorem dX7_layOutPapers_179 : decode cX7_layOutPapers 179 = .ok (.return_, 1) := by decide +kernel
theorem dX7_overWith_0 : decode cX7_overWith 0 = .ok (.aload_n 0, 1) := by decide +kernel
theorem dX7_overWith_1 : decode cX7_overWith 1 = .ok (.getfield 13, 3) := by decide +kernel
theorem dX7_overWith_4 : decode cX7_overWith 4 = .ok (.iload_n 2, 1) := by decide +kernel
theorem dX7_overWith_5 : decode cX7_overWith 5 = .ok (.iaload, 1) := by decide +kernel
theorem dX7_overWith_6 : decode cX7_overWith 6 = .ok (.istore 4, 2) := by decide +kernel
theorem dX7_overWith_8 : decode cX7_overWith 8 = .ok (.aload_n 0, 1) := by decide +kernel
theorem dX7_overWith_9 : decode cX7_overWith 9 = .ok (.getfield 34, 3) := by decide +kernel
theorem dX7_overWith_12 : decode cX7_overWith 12 = .ok (.invokevirtual 102, 3) := by decide +kernel
theorem dX7_overWith_15 : decode cX7_overWith 15 = .ok (.iload_n 1, 1) := by decide +kernel
theorem dX7_overWith_16 : decode cX7_overWith 16 = .ok (.aload_n 0, 1) := by decide +kernel
theorem dX7_overWith_17 : decode cX7_overWith 17 = .ok (.getfield 88, 3) := by decide +kernel
theorem dX7_overWith_20 : decode cX7_overWith 20 = .ok (.iand, 1) := by decide +kernel
theorem dX7_overWith_21 : decode cX7_overWith 21 = .ok (.invokestatic 105, 3) := by decide +kernel
theorem dX7_overWith_24 : decode cX7_overWith 24 = .ok (.if_icmp .le 7, 3) := by decide +kernel
theorem dX7_overWith_27 : decode cX7_overWith 27 = .ok (.iconst 1, 1) := by decide +kernel
theorem dX7_overWith_28 : decode cX7_overWith 28 = .ok (.goto 4, 3) := by decide +kernel
theorem dX7_overWith_31 : decode cX7_overWith 31 = .ok (.iconst 0, 1) := by decide +kernel
theorem dX7_overWith_32 : decode cX7_overWith 32 = .ok (.istore 5, 2) := by decide +kernel
theorem dX7_overWith_34 : decode cX7_overWith 34 = .ok (.aload_n 0, 1) := by decide +kernel
theorem dX7_overWith_35 : decode cX7_overWith 35 = .ok (.getfield 30, 3) := by decide +kernel
theorem dX7_overWith_38 : decode cX7_overWith 38 = .ok (.iload 4, 2) := by decide +kernel
theorem dX7_overWith_40 : decode cX7_overWith 40 = .ok (.iload_n 3, 1) := by decide +kernel
theorem dX7_overWith_41 : decode cX7_overWith 41 = .ok (.aload_n 0, 1) := by decide +kernel
theorem dX7_overWith_42 : decode cX7_overWith 42 = .ok (.getfield 34, 3) := by decide +kernel
theorem dX7_overWith_45 : decode cX7_overWith 45 = .ok (.iload 4, 2) := by decide +kernel
theorem dX7_overWith_47 : decode cX7_overWith 47 = .ok (.invokevirtual 60, 3) := by decide +kernel
theorem dX7_overWith_50 : decode cX7_overWith 50 = .ok (.iload 5, 2) := by decide +kernel
theorem dX7_overWith_52 : decode cX7_overWith 52 = .ok (.invokevirtual 63, 3) := by decide +kernel
theorem dX7_overWith_55 : decode cX7_overWith 55 = .ok (.istore 6, 2) := by decide +kernel
theorem dX7_overWith_57 : decode cX7_overWith 57 = .ok (.aload_n 0, 1) := by decide +kernel
theorem dX7_overWith_58 : decode cX7_overWith 58 = .ok (.getfield 20, 3) := by decide +kernel
theorem dX7_overWith_61 : decode cX7_overWith 61 = .ok (.iload_n 1, 1) := by decide +kernel
theorem dX7_overWith_62 : decode cX7_overWith 62 = .ok (.iaload, 1) := by decide +kernel
theorem dX7_overWith_63 : decode cX7_overWith 63 = .ok (.aload_n 0, 1) := by decide +kernel
theorem dX7_overWith_64 : decode cX7_overWith 64 = .ok (.getfield 17, 3) := by decide +kernel
theorem dX7_overWith_67 : decode cX7_overWith 67 = .ok (.iload_n 2, 1) := by decide +kernel
theorem dX7_overWith_68 : decode cX7_overWith 68 = .ok (.iaload, 1) := by decide +kernel
theorem dX7_overWith_69 : decode cX7_overWith 69 = .ok (.iadd, 1) := by decide +kernel
theorem dX7_overWith_70 : decode cX7_overWith 70 = .ok (.iload 6, 2) := by decide +kernel
theorem dX7_overWith_72 : decode cX7_overWith 72 = .ok (.iadd, 1) := by decide +kernel
theorem dX7_overWith_73 : decode cX7_overWith 73 = .ok (.aload_n 0, 1) := by decide +kernel
theorem dX7_overWith_74 : decode cX7_overWith 74 = .ok (.getfield 23, 3) := by decide +kernel
theorem dX7_overWith_77 : decode cX7_overWith 77 = .ok (.iload_n 1, 1) := by decide +kernel
theorem dX7_overWith_78 : decode cX7_overWith 78 = .ok (.iconst 1, 1) := by decide +kernel
theorem dX7_overWith_79 : decode cX7_overWith 79 = .ok (.iload_n 2, 1) := by decide +kernel
theorem dX7_overWith_80 : decode cX7_overWith 80 = .ok (.ishl, 1) := by decide +kernel
theorem dX7_overWith_81 : decode cX7_overWith 81 = .ok (.ior, 1) := by decide +kernel
theorem dX7_overWith_82 : decode cX7_overWith 82 = .ok (.iaload, 1) := by decide +kernel
theorem dX7_overWith_83 : decode cX7_overWith 83 = .ok (.invokestatic 67, 3) := by decide +kernel
theorem dX7_overWith_86 : decode cX7_overWith 86 = .ok (.ireturn, 1) := by decide +kernel
theorem dX7_findBerths_0 : decode cX7_findBerths 0 = .ok (.aload_n 0, 1) := by decide +kernel
theorem dX7_findBerths_1 : decode cX7_findBerths 1 = .ok (.bipush 7, 2) := by decide +kernel
theorem dX7_findBerths_3 : decode cX7_findBerths 3 = .ok (.aload_n 0, 1) := by decide +kernel
theorem dX7_findBerths_4 : decode cX7_findBerths 4 = .ok (.getfield 26, 3) := by decide +kernel
theorem dX7_findBerths_7 : decode cX7_findBerths 7 = .ok (.invokevirtual 91, 3) := by decide +kernel
theorem dX7_findBerths_10 : decode cX7_findBerths 10 = .ok (.invokestatic 85, 3) := by decide +kernel
theorem dX7_findBerths_13 : decode cX7_findBerths 13 = .ok (.putfield 77, 3) := by decide +kernel
theorem dX7_findBerths_16 : decode cX7_findBerths 16 = .ok (.iconst 1, 1) := by decide +kernel
theorem dX7_findBerths_17 : decode cX7_findBerths 17 = .ok (.aload_n 0, 1) := by decide +kernel
theorem dX7_findBerths_18 : decode cX7_findBerths 18 = .ok (.getfield 77, 3) := by decide +kernel
theorem dX7_findBerths_21 : decode cX7_findBerths 21 = .ok (.ishl, 1) := by decide +kernel
theorem dX7_findBerths_22 : decode cX7_findBerths 22 = .ok (.iconst 1, 1) := by decide +kernel
theorem dX7_findBerths_23 : decode cX7_findBerths 23 = .ok (.isub, 1) := by decide +kernel
theorem dX7_findBerths_24 : decode cX7_findBerths 24 = .ok (.istore_n 1, 1) := by decide +kernel
theorem dX7_findBerths_25 : decode cX7_findBerths 25 = .ok (.iconst 0, 1) := by decide +kernel
theorem dX7_findBerths_26 : decode cX7_findBerths 26 = .ok (.istore_n 2, 1) := by decide +kernel
theorem dX7_findBerths_27 : decode cX7_findBerths 27 = .ok (.iload_n 2, 1) := by decide +kernel
theorem dX7_findBerths_28 : decode cX7_findBerths 28 = .ok (.aload_n 0, 1) := by decide +kernel
theorem dX7_findBerths_29 : decode cX7_findBerths 29 = .ok (.getfield 77, 3) := by decide +kernel
theorem dX7_findBerths_32 : decode cX7_findBerths 32 = .ok (.if_icmp .ge 21, 3) := by decide +kernel
theorem dX7_findBerths_35 : decode cX7_findBerths 35 = .ok (.aload_n 0, 1) := by decide +kernel
theorem dX7_findBerths_36 : decode cX7_findBerths 36 = .ok (.getfield 23, 3) := by decide +kernel
theorem dX7_findBerths_39 : decode cX7_findBerths 39 = .ok (.iload_n 1, 1) := by decide +kernel
theorem dX7_findBerths_40 : decode cX7_findBerths 40 = .ok (.bipush 7, 2) := by decide +kernel
theorem dX7_findBerths_42 : decode cX7_findBerths 42 = .ok (.imul, 1) := by decide +kernel
theorem dX7_findBerths_43 : decode cX7_findBerths 43 = .ok (.iload_n 2, 1) := by decide +kernel
theorem dX7_findBerths_44 : decode cX7_findBerths 44 = .ok (.iadd, 1) := by decide +kernel
theorem dX7_findBerths_45 : decode cX7_findBerths 45 = .ok (.iconst 0, 1) := by decide +kernel
theorem dX7_findBerths_46 : decode cX7_findBerths 46 = .ok (.iastore, 1) := by decide +kernel
theorem dX7_findBerths_47 : decode cX7_findBerths 47 = .ok (.iinc 2 1, 3) := by decide +kernel
theorem dX7_findBerths_50 : decode cX7_findBerths 50 = .ok (.goto (-23), 3) := by decide +kernel
theorem dX7_findBerths_53 : decode cX7_findBerths 53 = .ok (.iload_n 1, 1) := by decide +kernel
theorem dX7_findBerths_54 : decode cX7_findBerths 54 = .ok (.iconst 1, 1) := by decide +kernel
theorem dX7_findBerths_55 : decode cX7_findBerths 55 = .ok (.isub, 1) := by decide +kernel
theorem dX7_findBerths_56 : decode cX7_findBerths 56 = .ok (.istore_n 2, 1) := by decide +kernel
theorem dX7_findBerths_57 : decode cX7_findBerths 57 = .ok (.iload_n 2, 1) := by decide +kernel
theorem dX7_findBerths_58 : decode cX7_findBerths 58 = .ok (.ifCond .le 51, 3) := by decide +kernel
theorem dX7_findBerths_61 : decode cX7_findBerths 61 = .ok (.iconst 0, 1) := by decide +kernel
theorem dX7_findBerths_62 : decode cX7_findBerths 62 = .ok (.istore_n 3, 1) := by decide +kernel
theorem dX7_findBerths_63 : decode cX7_findBerths 63 = .ok (.iload_n 3, 1) := by decide +kernel
theorem dX7_findBerths_64 : decode cX7_findBerths 64 = .ok (.aload_n 0, 1) := by decide +kernel
theorem dX7_findBerths_65 : decode cX7_findBerths 65 = .ok (.getfield 77, 3) := by decide +kernel
theorem dX7_findBerths_68 : decode cX7_findBerths 68 = .ok (.if_icmp .ge 35, 3) := by decide +kernel
theorem dX7_findBerths_71 : decode cX7_findBerths 71 = .ok (.iload_n 2, 1) := by decide +kernel
theorem dX7_findBerths_72 : decode cX7_findBerths 72 = .ok (.iload_n 3, 1) := by decide +kernel
theorem dX7_findBerths_73 : decode cX7_findBerths 73 = .ok (.ishr, 1) := by decide +kernel
theorem dX7_findBerths_74 : decode cX7_findBerths 74 = .ok (.iconst 1, 1) := by decide +kernel
theorem dX7_findBerths_75 : decode cX7_findBerths 75 = .ok (.iand, 1) := by decide +kernel
theorem dX7_findBerths_76 : decode cX7_findBerths 76 = .ok (.iconst 1, 1) := by decide +kernel
theorem dX7_findBerths_77 : decode cX7_findBerths 77 = .ok (.if_icmp .ne 20, 3) := by decide +kernel
theorem dX7_findBerths_80 : decode cX7_findBerths 80 = .ok (.aload_n 0, 1) := by decide +kernel
theorem dX7_findBerths_81 : decode cX7_findBerths 81 = .ok (.getfield 23, 3) := by decide +kernel
theorem dX7_findBerths_84 : decode cX7_findBerths 84 = .ok (.iload_n 2, 1) := by decide +kernel
theorem dX7_findBerths_85 : decode cX7_findBerths 85 = .ok (.bipush 7, 2) := by decide +kernel
theorem dX7_findBerths_87 : decode cX7_findBerths 87 = .ok (.imul, 1) := by decide +kernel
theorem dX7_findBerths_88 : decode cX7_findBerths 88 = .ok (.iload_n 3, 1) := by decide +kernel
theorem dX7_findBerths_89 : decode cX7_findBerths 89 = .ok (.iadd, 1) := by decide +kernel
theorem dX7_findBerths_90 : decode cX7_findBerths 90 = .ok (.aload_n 0, 1) := by decide +kernel
theorem dX7_findBerths_91 : decode cX7_findBerths 91 = .ok (.iload_n 2, 1) := by decide +kernel
theorem dX7_findBerths_92 : decode cX7_findBerths 92 = .ok (.iload_n 3, 1) := by decide +kernel
theorem dX7_findBerths_93 : decode cX7_findBerths 93 = .ok (.invokevirtual 110, 3) := by decide +kernel
theorem dX7_findBerths_96 : decode cX7_findBerths 96 = .ok (.iastore, 1) := by decide +kernel
theorem dX7_findBerths_97 : decode cX7_findBerths 97 = .ok (.iinc 3 1, 3) := by decide +kernel
theorem dX7_findBerths_100 : decode cX7_findBerths 100 = .ok (.goto (-37), 3) := by decide +kernel
theorem dX7_findBerths_103 : decode cX7_findBerths 103 = .ok (.iinc 2 (-1), 3) := by decide +kernel
theorem dX7_findBerths_106 : decode cX7_findBerths 106 = .ok (.goto (-49), 3) := by decide +kernel
theorem dX7_findBerths_109 : decode cX7_findBerths 109 = .ok (.aload_n 0, 1) := by decide +kernel
theorem dX7_findBerths_110 : decode cX7_findBerths 110 = .ok (.aload_n 0, 1) := by decide +kernel
theorem dX7_findBerths_111 : decode cX7_findBerths 111 = .ok (.iconst 0, 1) := by decide +kernel
theorem dX7_findBerths_112 : decode cX7_findBerths 112 = .ok (.iconst (-1), 1) := by decide +kernel
theorem dX7_findBerths_113 : decode cX7_findBerths 113 = .ok (.invokevirtual 110, 3) := by decide +kernel
theorem dX7_findBerths_116 : decode cX7_findBerths 116 = .ok (.putfield 42, 3) := by decide +kernel
theorem dX7_findBerths_119 : decode cX7_findBerths 119 = .ok (.aload_n 0, 1) := by decide +kernel
theorem dX7_findBerths_120 : decode cX7_findBerths 120 = .ok (.iconst 0, 1) := by decide +kernel
theorem dX7_findBerths_121 : decode cX7_findBerths 121 = .ok (.putfield 38, 3) := by decide +kernel
theorem dX7_findBerths_124 : decode cX7_findBerths 124 = .ok (.iconst 0, 1) := by decide +kernel
theorem dX7_findBerths_125 : decode cX7_findBerths 125 = .ok (.istore_n 2, 1) := by decide +kernel
theorem dX7_findBerths_126 : decode cX7_findBerths 126 = .ok (.iconst (-1), 1) := by decide +kernel
theorem dX7_findBerths_127 : decode cX7_findBerths 127 = .ok (.istore_n 3, 1) := by decide +kernel
theorem dX7_findBerths_128 : decode cX7_findBerths 128 = .ok (.iconst 0, 1) := by decide +kernel
theorem dX7_findBerths_129 : decode cX7_findBerths 129 = .ok (.istore 4, 2) := by decide +kernel
theorem dX7_findBerths_131 : decode cX7_findBerths 131 = .ok (.iload 4, 2) := by decide +kernel
theorem dX7_findBerths_133 : decode cX7_findBerths 133 = .ok (.aload_n 0, 1) := by decide +kernel
theorem dX7_findBerths_134 : decode cX7_findBerths 134 = .ok (.getfield 77, 3) := by decide +kernel
theorem dX7_findBerths_137 : decode cX7_findBerths 137 = .ok (.if_icmp .ge 84, 3) := by decide +kernel
theorem dX7_findBerths_140 : decode cX7_findBerths 140 = .ok (.aload_n 0, 1) := by decide +kernel
theorem dX7_findBerths_141 : decode cX7_findBerths 141 = .ok (.iload_n 2, 1) := by decide +kernel
theorem dX7_findBerths_142 : decode cX7_findBerths 142 = .ok (.iload_n 3, 1) := by decide +kernel
theorem dX7_findBerths_143 : decode cX7_findBerths 143 = .ok (.invokevirtual 110, 3) := by decide +kernel
theorem dX7_findBerths_146 : decode cX7_findBerths 146 = .ok (.istore 5, 2) := by decide +kernel
theorem dX7_findBerths_148 : decode cX7_findBerths 148 = .ok (.iconst 0, 1) := by decide +kernel
theorem dX7_findBerths_149 : decode cX7_findBerths 149 = .ok (.istore 6, 2) := by decide +kernel
theorem dX7_findBerths_151 : decode cX7_findBerths 151 = .ok (.iload 6, 2) := by decide +kernel
theorem dX7_findBerths_153 : decode cX7_findBerths 153 = .ok (.aload_n 0, 1) := by decide +kernel
theorem dX7_findBerths_154 : decode cX7_findBerths 154 = .ok (.getfield 77, 3) := by decide +kernel
theorem dX7_findBerths_157 : decode cX7_findBerths 157 = .ok (.iconst 1, 1) := by decide +kernel
theorem dX7_findBerths_158 : decode cX7_findBerths 158 = .ok (.isub, 1) := by decide +kernel
theorem dX7_findBerths_159 : decode cX7_findBerths 159 = .ok (.if_icmp .ge 32, 3) := by decide +kernel
theorem dX7_findBerths_162 : decode cX7_findBerths 162 = .ok (.iload_n 2, 1) := by decide +kernel
theorem dX7_findBerths_163 : decode cX7_findBerths 163 = .ok (.iload 6, 2) := by decide +kernel
theorem dX7_findBerths_165 : decode cX7_findBerths 165 = .ok (.ishr, 1) := by decide +kernel
theorem dX7_findBerths_166 : decode cX7_findBerths 166 = .ok (.iconst 1, 1) := by decide +kernel
theorem dX7_findBerths_167 : decode cX7_findBerths 167 = .ok (.iand, 1) := by decide +kernel
theorem dX7_findBerths_168 : decode cX7_findBerths 168 = .ok (.iconst 1, 1) := by decide +kernel
theorem dX7_findBerths_169 : decode cX7_findBerths 169 = .ok (.if_icmp .eq 16, 3) := by decide +kernel
theorem dX7_findBerths_172 : decode cX7_findBerths 172 = .ok (.aload_n 0, 1) := by decide +kernel
theorem dX7_findBerths_173 : decode cX7_findBerths 173 = .ok (.iload_n 2, 1) := by decide +kernel
theorem dX7_findBerths_174 : decode cX7_findBerths 174 = .ok (.iload_n 3, 1) := by decide +kernel
theorem dX7_findBerths_175 : decode cX7_findBerths 175 = .ok (.iload 6, 2) := by decide +kernel
theorem dX7_findBerths_177 : decode cX7_findBerths 177 = .ok (.invokevirtual 113, 3) := by decide +kernel
theorem dX7_findBerths_180 : decode cX7_findBerths 180 = .ok (.iload 5, 2) := by decide +kernel
theorem dX7_findBerths_182 : decode cX7_findBerths 182 = .ok (.if_icmp .le 9, 3) := by decide +kernel
theorem dX7_findBerths_185 : decode cX7_findBerths 185 = .ok (.iinc 6 1, 3) := by decide +kernel
theorem dX7_findBerths_188 : decode cX7_findBerths 188 = .ok (.goto (-37), 3) := by decide +kernel
theorem dX7_findBerths_191 : decode cX7_findBerths 191 = .ok (.aload_n 0, 1) := by decide +kernel
theorem dX7_findBerths_192 : decode cX7_findBerths 192 = .ok (.bipush 10, 2) := by decide +kernel
theorem dX7_findBerths_194 : decode cX7_findBerths 194 = .ok (.aload_n 0, 1) := by decide +kernel
theorem dX7_findBerths_195 : decode cX7_findBerths 195 = .ok (.getfield 38, 3) := by decide +kernel
theorem dX7_findBerths_198 : decode cX7_findBerths 198 = .ok (.imul, 1) := by decide +kernel
theorem dX7_findBerths_199 : decode cX7_findBerths 199 = .ok (.iload 6, 2) := by decide +kernel
theorem dX7_findBerths_201 : decode cX7_findBerths 201 = .ok (.iadd, 1) := by decide +kernel
theorem dX7_findBerths_202 : decode cX7_findBerths 202 = .ok (.putfield 38, 3) := by decide +kernel
theorem dX7_findBerths_205 : decode cX7_findBerths 205 = .ok (.iload_n 2, 1) := by decide +kernel
theorem dX7_findBerths_206 : decode cX7_findBerths 206 = .ok (.iconst 1, 1) := by decide +kernel
theorem dX7_findBerths_207 : decode cX7_findBerths 207 = .ok (.iload 6, 2) := by decide +kernel
theorem dX7_findBerths_209 : decode cX7_findBerths 209 = .ok (.ishl, 1) := by decide +kernel
theorem dX7_findBerths_210 : decode cX7_findBerths 210 = .ok (.ior, 1) := by decide +kernel
theorem dX7_findBerths_211 : decode cX7_findBerths 211 = .ok (.istore_n 2, 1) := by decide +kernel
theorem dX7_findBerths_212 : decode cX7_findBerths 212 = .ok (.iload 6, 2) := by decide +kernel
theorem dX7_findBerths_214 : decode cX7_findBerths 214 = .ok (.istore_n 3, 1) := by decide +kernel
theorem dX7_findBerths_215 : decode cX7_findBerths 215 = .ok (.iinc 4 1, 3) := by decide +kernel
theorem dX7_findBerths_218 : decode cX7_findBerths 218 = .ok (.goto (-87), 3) := by decide +kernel
theorem dX7_findBerths_221 : decode cX7_findBerths 221 = .ok (.return_, 1) := by decide +kernel
theorem dX7_leastBehind_0 : decode cX7_leastBehind 0 = .ok (.ldc 80, 2) := by decide +kernel
theorem dX7_leastBehind_2 : decode cX7_leastBehind 2 = .ok (.istore_n 3, 1) := by decide +kernel
theorem dX7_leastBehind_3 : decode cX7_leastBehind 3 = .ok (.iconst 0, 1) := by decide +kernel
theorem dX7_leastBehind_4 : decode cX7_leastBehind 4 = .ok (.istore 4, 2) := by decide +kernel
theorem dX7_leastBehind_6 : decode cX7_leastBehind 6 = .ok (.iload 4, 2) := by decide +kernel
theorem dX7_leastBehind_8 : decode cX7_leastBehind 8 = .ok (.aload_n 0, 1) := by decide +kernel
theorem dX7_leastBehind_9 : decode cX7_leastBehind 9 = .ok (.getfield 77, 3) := by decide +kernel
theorem dX7_leastBehind_12 : decode cX7_leastBehind 12 = .ok (.if_icmp .ge 31, 3) := by decide +kernel
theorem dX7_leastBehind_15 : decode cX7_leastBehind 15 = .ok (.iload_n 1, 1) := by decide +kernel
theorem dX7_leastBehind_16 : decode cX7_leastBehind 16 = .ok (.iload 4, 2) := by decide +kernel
theorem dX7_leastBehind_18 : decode cX7_leastBehind 18 = .ok (.ishr, 1) := by decide +kernel
theorem dX7_leastBehind_19 : decode cX7_leastBehind 19 = .ok (.iconst 1, 1) := by decide +kernel
theorem dX7_leastBehind_20 : decode cX7_leastBehind 20 = .ok (.iand, 1) := by decide +kernel
theorem dX7_leastBehind_21 : decode cX7_leastBehind 21 = .ok (.ifCond .ne 16, 3) := by decide +kernel
theorem dX7_leastBehind_24 : decode cX7_leastBehind 24 = .ok (.iload_n 3, 1) := by decide +kernel
theorem dX7_leastBehind_25 : decode cX7_leastBehind 25 = .ok (.aload_n 0, 1) := by decide +kernel
theorem dX7_leastBehind_26 : decode cX7_leastBehind 26 = .ok (.iload_n 1, 1) := by decide +kernel
theorem dX7_leastBehind_27 : decode cX7_leastBehind 27 = .ok (.iload_n 2, 1) := by decide +kernel
theorem dX7_leastBehind_28 : decode cX7_leastBehind 28 = .ok (.iload 4, 2) := by decide +kernel
theorem dX7_leastBehind_30 : decode cX7_leastBehind 30 = .ok (.invokevirtual 113, 3) := by decide +kernel
theorem dX7_leastBehind_33 : decode cX7_leastBehind 33 = .ok (.invokestatic 85, 3) := by decide +kernel
theorem dX7_leastBehind_36 : decode cX7_leastBehind 36 = .ok (.istore_n 3, 1) := by decide +kernel
theorem dX7_leastBehind_37 : decode cX7_leastBehind 37 = .ok (.iinc 4 1, 3) := by decide +kernel
theorem dX7_leastBehind_40 : decode cX7_leastBehind 40 = .ok (.goto (-34), 3) := by decide +kernel
theorem dX7_leastBehind_43 : decode cX7_leastBehind 43 = .ok (.iload_n 3, 1) := by decide +kernel
theorem dX7_leastBehind_44 : decode cX7_leastBehind 44 = .ok (.ireturn, 1) := by decide +kernel
theorem dX7_troubleWith_0 : decode cX7_troubleWith 0 = .ok (.aload_n 0, 1) := by decide +kernel
theorem dX7_troubleWith_1 : decode cX7_troubleWith 1 = .ok (.getfield 77, 3) := by decide +kernel
theorem dX7_troubleWith_4 : decode cX7_troubleWith 4 = .ok (.iconst 1, 1) := by decide +kernel
theorem dX7_troubleWith_5 : decode cX7_troubleWith 5 = .ok (.isub, 1) := by decide +kernel
theorem dX7_troubleWith_6 : decode cX7_troubleWith 6 = .ok (.iload_n 1, 1) := by decide +kernel
theorem dX7_troubleWith_7 : decode cX7_troubleWith 7 = .ok (.invokestatic 105, 3) := by decide +kernel
theorem dX7_troubleWith_10 : decode cX7_troubleWith 10 = .ok (.isub, 1) := by decide +kernel
theorem dX7_troubleWith_11 : decode cX7_troubleWith 11 = .ok (.istore 4, 2) := by decide +kernel
theorem dX7_troubleWith_13 : decode cX7_troubleWith 13 = .ok (.aload_n 0, 1) := by decide +kernel
theorem dX7_troubleWith_14 : decode cX7_troubleWith 14 = .ok (.getfield 26, 3) := by decide +kernel
theorem dX7_troubleWith_17 : decode cX7_troubleWith 17 = .ok (.iload_n 3, 1) := by decide +kernel
theorem dX7_troubleWith_18 : decode cX7_troubleWith 18 = .ok (.iconst 2, 1) := by decide +kernel
theorem dX7_troubleWith_19 : decode cX7_troubleWith 19 = .ok (.invokevirtual 116, 3) := by decide +kernel
theorem dX7_troubleWith_22 : decode cX7_troubleWith 22 = .ok (.istore 5, 2) := by decide +kernel
theorem dX7_troubleWith_24 : decode cX7_troubleWith 24 = .ok (.iload 5, 2) := by decide +kernel
theorem dX7_troubleWith_26 : decode cX7_troubleWith 26 = .ok (.iload 4, 2) := by decide +kernel
theorem dX7_troubleWith_28 : decode cX7_troubleWith 28 = .ok (.imul, 1) := by decide +kernel
theorem dX7_troubleWith_29 : decode cX7_troubleWith 29 = .ok (.aload_n 0, 1) := by decide +kernel
theorem dX7_troubleWith_30 : decode cX7_troubleWith 30 = .ok (.getfield 23, 3) := by decide +kernel
theorem dX7_troubleWith_33 : decode cX7_troubleWith 33 = .ok (.iload_n 1, 1) := by decide +kernel
theorem dX7_troubleWith_34 : decode cX7_troubleWith 34 = .ok (.iconst 1, 1) := by decide +kernel
theorem dX7_troubleWith_35 : decode cX7_troubleWith 35 = .ok (.iload_n 3, 1) := by decide +kernel
theorem dX7_troubleWith_36 : decode cX7_troubleWith 36 = .ok (.ishl, 1) := by decide +kernel
theorem dX7_troubleWith_37 : decode cX7_troubleWith 37 = .ok (.ior, 1) := by decide +kernel
theorem dX7_troubleWith_38 : decode cX7_troubleWith 38 = .ok (.bipush 7, 2) := by decide +kernel
theorem dX7_troubleWith_40 : decode cX7_troubleWith 40 = .ok (.imul, 1) := by decide +kernel
theorem dX7_troubleWith_41 : decode cX7_troubleWith 41 = .ok (.iload_n 3, 1) := by decide +kernel
theorem dX7_troubleWith_42 : decode cX7_troubleWith 42 = .ok (.iadd, 1) := by decide +kernel
theorem dX7_troubleWith_43 : decode cX7_troubleWith 43 = .ok (.iaload, 1) := by decide +kernel
theorem dX7_troubleWith_44 : decode cX7_troubleWith 44 = .ok (.iadd, 1) := by decide +kernel
theorem dX7_troubleWith_45 : decode cX7_troubleWith 45 = .ok (.istore 6, 2) := by decide +kernel
theorem dX7_troubleWith_47 : decode cX7_troubleWith 47 = .ok (.iload_n 2, 1) := by decide +kernel
theorem dX7_troubleWith_48 : decode cX7_troubleWith 48 = .ok (.iconst (-1), 1) := by decide +kernel
theorem dX7_troubleWith_49 : decode cX7_troubleWith 49 = .ok (.if_icmp .eq 44, 3) := by decide +kernel
theorem dX7_troubleWith_52 : decode cX7_troubleWith 52 = .ok (.iload 6, 2) := by decide +kernel
theorem dX7_troubleWith_54 : decode cX7_troubleWith 54 = .ok (.iload 5, 2) := by decide +kernel
theorem dX7_troubleWith_56 : decode cX7_troubleWith 56 = .ok (.aload_n 0, 1) := by decide +kernel
theorem dX7_troubleWith_57 : decode cX7_troubleWith 57 = .ok (.getfield 26, 3) := by decide +kernel
theorem dX7_troubleWith_60 : decode cX7_troubleWith 60 = .ok (.iload_n 2, 1) := by decide +kernel
theorem dX7_troubleWith_61 : decode cX7_troubleWith 61 = .ok (.iconst 3, 1) := by decide +kernel
theorem dX7_troubleWith_62 : decode cX7_troubleWith 62 = .ok (.invokevirtual 116, 3) := by decide +kernel
theorem dX7_troubleWith_65 : decode cX7_troubleWith 65 = .ok (.imul, 1) := by decide +kernel
theorem dX7_troubleWith_66 : decode cX7_troubleWith 66 = .ok (.iadd, 1) := by decide +kernel
theorem dX7_troubleWith_67 : decode cX7_troubleWith 67 = .ok (.istore 6, 2) := by decide +kernel
theorem dX7_troubleWith_69 : decode cX7_troubleWith 69 = .ok (.iload 6, 2) := by decide +kernel
theorem dX7_troubleWith_71 : decode cX7_troubleWith 71 = .ok (.aload_n 0, 1) := by decide +kernel
theorem dX7_troubleWith_72 : decode cX7_troubleWith 72 = .ok (.getfield 26, 3) := by decide +kernel
theorem dX7_troubleWith_75 : decode cX7_troubleWith 75 = .ok (.iload_n 2, 1) := by decide +kernel
theorem dX7_troubleWith_76 : decode cX7_troubleWith 76 = .ok (.iconst 2, 1) := by decide +kernel
theorem dX7_troubleWith_77 : decode cX7_troubleWith 77 = .ok (.invokevirtual 116, 3) := by decide +kernel
theorem dX7_troubleWith_80 : decode cX7_troubleWith 80 = .ok (.aload_n 0, 1) := by decide +kernel
theorem dX7_troubleWith_81 : decode cX7_troubleWith 81 = .ok (.getfield 26, 3) := by decide +kernel
theorem dX7_troubleWith_84 : decode cX7_troubleWith 84 = .ok (.iload_n 3, 1) := by decide +kernel
theorem dX7_troubleWith_85 : decode cX7_troubleWith 85 = .ok (.iconst 3, 1) := by decide +kernel
theorem dX7_troubleWith_86 : decode cX7_troubleWith 86 = .ok (.invokevirtual 116, 3) := by decide +kernel
theorem dX7_troubleWith_89 : decode cX7_troubleWith 89 = .ok (.imul, 1) := by decide +kernel
theorem dX7_troubleWith_90 : decode cX7_troubleWith 90 = .ok (.iadd, 1) := by decide +kernel
theorem dX7_troubleWith_91 : decode cX7_troubleWith 91 = .ok (.istore 6, 2) := by decide +kernel
theorem dX7_troubleWith_93 : decode cX7_troubleWith 93 = .ok (.iload 6, 2) := by decide +kernel
theorem dX7_troubleWith_95 : decode cX7_troubleWith 95 = .ok (.ireturn, 1) := by decide +kernel
