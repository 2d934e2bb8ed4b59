theorem dX0_init_0 : decode cX0_init 0 = .ok (.aload_n 0, 1) := by decide +kernel
theorem dX0_init_1 : decode cX0_init 1 = .ok (.invokespecial 5, 3) := by decide +kernel
theorem dX0_init_4 : decode cX0_init 4 = .ok (.aload_n 0, 1) := by decide +kernel
theorem dX0_init_5 : decode cX0_init 5 = .ok (.sipush 512, 3) := by decide +kernel
theorem dX0_init_8 : decode cX0_init 8 = .ok (.newarray .int, 2) := by decide +kernel
theorem dX0_init_10 : decode cX0_init 10 = .ok (.putfield 13, 3) := by decide +kernel
theorem dX0_init_13 : decode cX0_init 13 = .ok (.aload_n 0, 1) := by decide +kernel
theorem dX0_init_14 : decode cX0_init 14 = .ok (.bipush 81, 2) := by decide +kernel
theorem dX0_init_16 : decode cX0_init 16 = .ok (.newarray .int, 2) := by decide +kernel
theorem dX0_init_18 : decode cX0_init 18 = .ok (.putfield 17, 3) := by decide +kernel
theorem dX0_init_21 : decode cX0_init 21 = .ok (.aload_n 0, 1) := by decide +kernel
theorem dX0_init_22 : decode cX0_init 22 = .ok (.bipush 9, 2) := by decide +kernel
theorem dX0_init_24 : decode cX0_init 24 = .ok (.newarray .int, 2) := by decide +kernel
theorem dX0_init_26 : decode cX0_init 26 = .ok (.putfield 20, 3) := by decide +kernel
theorem dX0_init_29 : decode cX0_init 29 = .ok (.aload_n 0, 1) := by decide +kernel
theorem dX0_init_30 : decode cX0_init 30 = .ok (.bipush 9, 2) := by decide +kernel
theorem dX0_init_32 : decode cX0_init 32 = .ok (.newarray .int, 2) := by decide +kernel
theorem dX0_init_34 : decode cX0_init 34 = .ok (.putfield 23, 3) := by decide +kernel
theorem dX0_init_37 : decode cX0_init 37 = .ok (.aload_n 0, 1) := by decide +kernel
theorem dX0_init_38 : decode cX0_init 38 = .ok (.bipush 9, 2) := by decide +kernel
theorem dX0_init_40 : decode cX0_init 40 = .ok (.newarray .int, 2) := by decide +kernel
theorem dX0_init_42 : decode cX0_init 42 = .ok (.putfield 26, 3) := by decide +kernel
theorem dX0_init_45 : decode cX0_init 45 = .ok (.aload_n 0, 1) := by decide +kernel
theorem dX0_init_46 : decode cX0_init 46 = .ok (.bipush 9, 2) := by decide +kernel
theorem dX0_init_48 : decode cX0_init 48 = .ok (.newarray .int, 2) := by decide +kernel
theorem dX0_init_50 : decode cX0_init 50 = .ok (.putfield 29, 3) := by decide +kernel
theorem dX0_init_53 : decode cX0_init 53 = .ok (.aload_n 0, 1) := by decide +kernel
theorem dX0_init_54 : decode cX0_init 54 = .ok (.bipush 108, 2) := by decide +kernel
theorem dX0_init_56 : decode cX0_init 56 = .ok (.newarray .int, 2) := by decide +kernel
theorem dX0_init_58 : decode cX0_init 58 = .ok (.putfield 32, 3) := by decide +kernel
theorem dX0_init_61 : decode cX0_init 61 = .ok (.aload_n 0, 1) := by decide +kernel
theorem dX0_init_62 : decode cX0_init 62 = .ok (.bipush 40, 2) := by decide +kernel
theorem dX0_init_64 : decode cX0_init 64 = .ok (.newarray .int, 2) := by decide +kernel
theorem dX0_init_66 : decode cX0_init 66 = .ok (.putfield 35, 3) := by decide +kernel
theorem dX0_init_69 : decode cX0_init 69 = .ok (.aload_n 0, 1) := by decide +kernel
theorem dX0_init_70 : decode cX0_init 70 = .ok (.bipush 40, 2) := by decide +kernel
theorem dX0_init_72 : decode cX0_init 72 = .ok (.newarray .int, 2) := by decide +kernel
theorem dX0_init_74 : decode cX0_init 74 = .ok (.putfield 38, 3) := by decide +kernel
theorem dX0_init_77 : decode cX0_init 77 = .ok (.aload_n 0, 1) := by decide +kernel
theorem dX0_init_78 : decode cX0_init 78 = .ok (.aload_n 1, 1) := by decide +kernel
theorem dX0_init_79 : decode cX0_init 79 = .ok (.putfield 41, 3) := by decide +kernel
theorem dX0_init_82 : decode cX0_init 82 = .ok (.aload_n 0, 1) := by decide +kernel
theorem dX0_init_83 : decode cX0_init 83 = .ok (.aload_n 2, 1) := by decide +kernel
theorem dX0_init_84 : decode cX0_init 84 = .ok (.putfield 45, 3) := by decide +kernel
theorem dX0_init_87 : decode cX0_init 87 = .ok (.aload_n 0, 1) := by decide +kernel
theorem dX0_init_88 : decode cX0_init 88 = .ok (.aload_n 3, 1) := by decide +kernel
theorem dX0_init_89 : decode cX0_init 89 = .ok (.putfield 49, 3) := by decide +kernel
theorem dX0_init_92 : decode cX0_init 92 = .ok (.return_, 1) := by decide +kernel
theorem dX0_answer_0 : decode cX0_answer 0 = .ok (.aload_n 0, 1) := by decide +kernel
theorem dX0_answer_1 : decode cX0_answer 1 = .ok (.getfield 53, 3) := by decide +kernel
theorem dX0_answer_4 : decode cX0_answer 4 = .ok (.ireturn, 1) := by decide +kernel
theorem dX0_worth_0 : decode cX0_worth 0 = .ok (.aload_n 0, 1) := by decide +kernel
theorem dX0_worth_1 : decode cX0_worth 1 = .ok (.getfield 57, 3) := by decide +kernel
theorem dX0_worth_4 : decode cX0_worth 4 = .ok (.ireturn, 1) := by decide +kernel
theorem dX0_findWhomToWake_0 : decode cX0_findWhomToWake 0 = .ok (.aload_n 0, 1) := by decide +kernel
theorem dX0_findWhomToWake_1 : decode cX0_findWhomToWake 1 = .ok (.invokevirtual 60, 3) := by decide +kernel
theorem dX0_findWhomToWake_4 : decode cX0_findWhomToWake 4 = .ok (.istore_n 1, 1) := by decide +kernel
theorem dX0_findWhomToWake_5 : decode cX0_findWhomToWake 5 = .ok (.aload_n 0, 1) := by decide +kernel
theorem dX0_findWhomToWake_6 : decode cX0_findWhomToWake 6 = .ok (.iload_n 1, 1) := by decide +kernel
theorem dX0_findWhomToWake_7 : decode cX0_findWhomToWake 7 = .ok (.invokevirtual 64, 3) := by decide +kernel
theorem dX0_findWhomToWake_10 : decode cX0_findWhomToWake 10 = .ok (.iconst 0, 1) := by decide +kernel
theorem dX0_findWhomToWake_11 : decode cX0_findWhomToWake 11 = .ok (.istore_n 2, 1) := by decide +kernel
theorem dX0_findWhomToWake_12 : decode cX0_findWhomToWake 12 = .ok (.iload_n 2, 1) := by decide +kernel
theorem dX0_findWhomToWake_13 : decode cX0_findWhomToWake 13 = .ok (.aload_n 0, 1) := by decide +kernel
theorem dX0_findWhomToWake_14 : decode cX0_findWhomToWake 14 = .ok (.getfield 41, 3) := by decide +kernel
theorem dX0_findWhomToWake_17 : decode cX0_findWhomToWake 17 = .ok (.invokevirtual 68, 3) := by decide +kernel
theorem dX0_findWhomToWake_20 : decode cX0_findWhomToWake 20 = .ok (.if_icmp .ge 32, 3) := by decide +kernel
theorem dX0_findWhomToWake_23 : decode cX0_findWhomToWake 23 = .ok (.aload_n 0, 1) := by decide +kernel
theorem dX0_findWhomToWake_24 : decode cX0_findWhomToWake 24 = .ok (.getfield 41, 3) := by decide +kernel
theorem dX0_findWhomToWake_27 : decode cX0_findWhomToWake 27 = .ok (.iload_n 2, 1) := by decide +kernel
theorem dX0_findWhomToWake_28 : decode cX0_findWhomToWake 28 = .ok (.iconst 0, 1) := by decide +kernel
theorem dX0_findWhomToWake_29 : decode cX0_findWhomToWake 29 = .ok (.invokevirtual 71, 3) := by decide +kernel
theorem dX0_findWhomToWake_32 : decode cX0_findWhomToWake 32 = .ok (.ifCond .le 14, 3) := by decide +kernel
theorem dX0_findWhomToWake_35 : decode cX0_findWhomToWake 35 = .ok (.aload_n 0, 1) := by decide +kernel
theorem dX0_findWhomToWake_36 : decode cX0_findWhomToWake 36 = .ok (.iload_n 2, 1) := by decide +kernel
theorem dX0_findWhomToWake_37 : decode cX0_findWhomToWake 37 = .ok (.invokevirtual 75, 3) := by decide +kernel
theorem dX0_findWhomToWake_40 : decode cX0_findWhomToWake 40 = .ok (.aload_n 0, 1) := by decide +kernel
theorem dX0_findWhomToWake_41 : decode cX0_findWhomToWake 41 = .ok (.iload_n 1, 1) := by decide +kernel
theorem dX0_findWhomToWake_42 : decode cX0_findWhomToWake 42 = .ok (.iload_n 2, 1) := by decide +kernel
theorem dX0_findWhomToWake_43 : decode cX0_findWhomToWake 43 = .ok (.invokevirtual 78, 3) := by decide +kernel
theorem dX0_findWhomToWake_46 : decode cX0_findWhomToWake 46 = .ok (.iinc 2 1, 3) := by decide +kernel
theorem dX0_findWhomToWake_49 : decode cX0_findWhomToWake 49 = .ok (.goto (-37), 3) := by decide +kernel
theorem dX0_findWhomToWake_52 : decode cX0_findWhomToWake 52 = .ok (.aload_n 0, 1) := by decide +kernel
theorem dX0_findWhomToWake_53 : decode cX0_findWhomToWake 53 = .ok (.iconst (-1), 1) := by decide +kernel
theorem dX0_findWhomToWake_54 : decode cX0_findWhomToWake 54 = .ok (.putfield 53, 3) := by decide +kernel
theorem dX0_findWhomToWake_57 : decode cX0_findWhomToWake 57 = .ok (.iconst 0, 1) := by decide +kernel
theorem dX0_findWhomToWake_58 : decode cX0_findWhomToWake 58 = .ok (.istore_n 2, 1) := by decide +kernel
theorem dX0_findWhomToWake_59 : decode cX0_findWhomToWake 59 = .ok (.iload_n 2, 1) := by decide +kernel
theorem dX0_findWhomToWake_60 : decode cX0_findWhomToWake 60 = .ok (.iload_n 1, 1) := by decide +kernel
theorem dX0_findWhomToWake_61 : decode cX0_findWhomToWake 61 = .ok (.if_icmp .gt 73, 3) := by decide +kernel
theorem dX0_findWhomToWake_64 : decode cX0_findWhomToWake 64 = .ok (.iload_n 2, 1) := by decide +kernel
theorem dX0_findWhomToWake_65 : decode cX0_findWhomToWake 65 = .ok (.iload_n 1, 1) := by decide +kernel
theorem dX0_findWhomToWake_66 : decode cX0_findWhomToWake 66 = .ok (.iconst (-1), 1) := by decide +kernel
theorem dX0_findWhomToWake_67 : decode cX0_findWhomToWake 67 = .ok (.ixor, 1) := by decide +kernel
theorem dX0_findWhomToWake_68 : decode cX0_findWhomToWake 68 = .ok (.iand, 1) := by decide +kernel
theorem dX0_findWhomToWake_69 : decode cX0_findWhomToWake 69 = .ok (.ifCond .ne 17, 3) := by decide +kernel
theorem dX0_findWhomToWake_72 : decode cX0_findWhomToWake 72 = .ok (.aload_n 0, 1) := by decide +kernel
theorem dX0_findWhomToWake_73 : decode cX0_findWhomToWake 73 = .ok (.getfield 13, 3) := by decide +kernel
theorem dX0_findWhomToWake_76 : decode cX0_findWhomToWake 76 = .ok (.iload_n 2, 1) := by decide +kernel
theorem dX0_findWhomToWake_77 : decode cX0_findWhomToWake 77 = .ok (.iaload, 1) := by decide +kernel
theorem dX0_findWhomToWake_78 : decode cX0_findWhomToWake 78 = .ok (.iconst (-1), 1) := by decide +kernel
theorem dX0_findWhomToWake_79 : decode cX0_findWhomToWake 79 = .ok (.if_icmp .eq 7, 3) := by decide +kernel
theorem dX0_findWhomToWake_82 : decode cX0_findWhomToWake 82 = .ok (.iconst 1, 1) := by decide +kernel
theorem dX0_findWhomToWake_83 : decode cX0_findWhomToWake 83 = .ok (.goto 4, 3) := by decide +kernel
theorem dX0_findWhomToWake_86 : decode cX0_findWhomToWake 86 = .ok (.iconst 0, 1) := by decide +kernel
theorem dX0_findWhomToWake_87 : decode cX0_findWhomToWake 87 = .ok (.istore_n 3, 1) := by decide +kernel
theorem dX0_findWhomToWake_88 : decode cX0_findWhomToWake 88 = .ok (.iload_n 3, 1) := by decide +kernel
theorem dX0_findWhomToWake_89 : decode cX0_findWhomToWake 89 = .ok (.ifCond .eq 39, 3) := by decide +kernel
theorem dX0_findWhomToWake_92 : decode cX0_findWhomToWake 92 = .ok (.aload_n 0, 1) := by decide +kernel
theorem dX0_findWhomToWake_93 : decode cX0_findWhomToWake 93 = .ok (.getfield 53, 3) := by decide +kernel
theorem dX0_findWhomToWake_96 : decode cX0_findWhomToWake 96 = .ok (.iconst (-1), 1) := by decide +kernel
theorem dX0_findWhomToWake_97 : decode cX0_findWhomToWake 97 = .ok (.if_icmp .eq 16, 3) := by decide +kernel
theorem dX0_findWhomToWake_100 : decode cX0_findWhomToWake 100 = .ok (.aload_n 0, 1) := by decide +kernel
theorem dX0_findWhomToWake_101 : decode cX0_findWhomToWake 101 = .ok (.getfield 13, 3) := by decide +kernel
theorem dX0_findWhomToWake_104 : decode cX0_findWhomToWake 104 = .ok (.iload_n 2, 1) := by decide +kernel
theorem dX0_findWhomToWake_105 : decode cX0_findWhomToWake 105 = .ok (.iaload, 1) := by decide +kernel
theorem dX0_findWhomToWake_106 : decode cX0_findWhomToWake 106 = .ok (.aload_n 0, 1) := by decide +kernel
theorem dX0_findWhomToWake_107 : decode cX0_findWhomToWake 107 = .ok (.getfield 57, 3) := by decide +kernel
theorem dX0_findWhomToWake_110 : decode cX0_findWhomToWake 110 = .ok (.if_icmp .ge 18, 3) := by decide +kernel
theorem dX0_findWhomToWake_113 : decode cX0_findWhomToWake 113 = .ok (.aload_n 0, 1) := by decide +kernel
theorem dX0_findWhomToWake_114 : decode cX0_findWhomToWake 114 = .ok (.iload_n 2, 1) := by decide +kernel
theorem dX0_findWhomToWake_115 : decode cX0_findWhomToWake 115 = .ok (.putfield 53, 3) := by decide +kernel
theorem dX0_findWhomToWake_118 : decode cX0_findWhomToWake 118 = .ok (.aload_n 0, 1) := by decide +kernel
theorem dX0_findWhomToWake_119 : decode cX0_findWhomToWake 119 = .ok (.aload_n 0, 1) := by decide +kernel
theorem dX0_findWhomToWake_120 : decode cX0_findWhomToWake 120 = .ok (.getfield 13, 3) := by decide +kernel
theorem dX0_findWhomToWake_123 : decode cX0_findWhomToWake 123 = .ok (.iload_n 2, 1) := by decide +kernel
theorem dX0_findWhomToWake_124 : decode cX0_findWhomToWake 124 = .ok (.iaload, 1) := by decide +kernel
theorem dX0_findWhomToWake_125 : decode cX0_findWhomToWake 125 = .ok (.putfield 57, 3) := by decide +kernel
theorem dX0_findWhomToWake_128 : decode cX0_findWhomToWake 128 = .ok (.iinc 2 1, 3) := by decide +kernel
theorem dX0_findWhomToWake_131 : decode cX0_findWhomToWake 131 = .ok (.goto (-72), 3) := by decide +kernel
theorem dX0_findWhomToWake_134 : decode cX0_findWhomToWake 134 = .ok (.aload_n 0, 1) := by decide +kernel
theorem dX0_findWhomToWake_135 : decode cX0_findWhomToWake 135 = .ok (.getfield 53, 3) := by decide +kernel
theorem dX0_findWhomToWake_138 : decode cX0_findWhomToWake 138 = .ok (.iconst (-1), 1) := by decide +kernel
theorem dX0_findWhomToWake_139 : decode cX0_findWhomToWake 139 = .ok (.if_icmp .eq 7, 3) := by decide +kernel
theorem dX0_findWhomToWake_142 : decode cX0_findWhomToWake 142 = .ok (.iconst 1, 1) := by decide +kernel
theorem dX0_findWhomToWake_143 : decode cX0_findWhomToWake 143 = .ok (.goto 4, 3) := by decide +kernel
theorem dX0_findWhomToWake_146 : decode cX0_findWhomToWake 146 = .ok (.iconst 0, 1) := by decide +kernel
theorem dX0_findWhomToWake_147 : decode cX0_findWhomToWake 147 = .ok (.ireturn, 1) := by decide +kernel
theorem dX0_asleepWithPapers_0 : decode cX0_asleepWithPapers 0 = .ok (.iconst 0, 1) := by decide +kernel
theorem dX0_asleepWithPapers_1 : decode cX0_asleepWithPapers 1 = .ok (.istore_n 1, 1) := by decide +kernel
theorem dX0_asleepWithPapers_2 : decode cX0_asleepWithPapers 2 = .ok (.iconst 0, 1) := by decide +kernel
theorem dX0_asleepWithPapers_3 : decode cX0_asleepWithPapers 3 = .ok (.istore_n 2, 1) := by decide +kernel
theorem dX0_asleepWithPapers_4 : decode cX0_asleepWithPapers 4 = .ok (.iload_n 2, 1) := by decide +kernel
theorem dX0_asleepWithPapers_5 : decode cX0_asleepWithPapers 5 = .ok (.aload_n 0, 1) := by decide +kernel
theorem dX0_asleepWithPapers_6 : decode cX0_asleepWithPapers 6 = .ok (.getfield 41, 3) := by decide +kernel
theorem dX0_asleepWithPapers_9 : decode cX0_asleepWithPapers 9 = .ok (.invokevirtual 82, 3) := by decide +kernel
theorem dX0_asleepWithPapers_12 : decode cX0_asleepWithPapers 12 = .ok (.if_icmp .ge 39, 3) := by decide +kernel
theorem dX0_asleepWithPapers_15 : decode cX0_asleepWithPapers 15 = .ok (.aload_n 0, 1) := by decide +kernel
theorem dX0_asleepWithPapers_16 : decode cX0_asleepWithPapers 16 = .ok (.getfield 49, 3) := by decide +kernel
theorem dX0_asleepWithPapers_19 : decode cX0_asleepWithPapers 19 = .ok (.iload_n 2, 1) := by decide +kernel
theorem dX0_asleepWithPapers_20 : decode cX0_asleepWithPapers 20 = .ok (.invokevirtual 85, 3) := by decide +kernel
theorem dX0_asleepWithPapers_23 : decode cX0_asleepWithPapers 23 = .ok (.istore_n 3, 1) := by decide +kernel
theorem dX0_asleepWithPapers_24 : decode cX0_asleepWithPapers 24 = .ok (.iload_n 1, 1) := by decide +kernel
theorem dX0_asleepWithPapers_25 : decode cX0_asleepWithPapers 25 = .ok (.aload_n 0, 1) := by decide +kernel
theorem dX0_asleepWithPapers_26 : decode cX0_asleepWithPapers 26 = .ok (.getfield 49, 3) := by decide +kernel
theorem dX0_asleepWithPapers_29 : decode cX0_asleepWithPapers 29 = .ok (.iload_n 3, 1) := by decide +kernel
theorem dX0_asleepWithPapers_30 : decode cX0_asleepWithPapers 30 = .ok (.invokevirtual 91, 3) := by decide +kernel
theorem dX0_asleepWithPapers_33 : decode cX0_asleepWithPapers 33 = .ok (.ifCond .eq 9, 3) := by decide +kernel
theorem dX0_asleepWithPapers_36 : decode cX0_asleepWithPapers 36 = .ok (.iconst 1, 1) := by decide +kernel
theorem dX0_asleepWithPapers_37 : decode cX0_asleepWithPapers 37 = .ok (.iload_n 3, 1) := by decide +kernel
theorem dX0_asleepWithPapers_38 : decode cX0_asleepWithPapers 38 = .ok (.ishl, 1) := by decide +kernel
theorem dX0_asleepWithPapers_39 : decode cX0_asleepWithPapers 39 = .ok (.goto 4, 3) := by decide +kernel
theorem dX0_asleepWithPapers_42 : decode cX0_asleepWithPapers 42 = .ok (.iconst 0, 1) := by decide +kernel
theorem dX0_asleepWithPapers_43 : decode cX0_asleepWithPapers 43 = .ok (.ior, 1) := by decide +kernel
theorem dX0_asleepWithPapers_44 : decode cX0_asleepWithPapers 44 = .ok (.istore_n 1, 1) := by decide +kernel
theorem dX0_asleepWithPapers_45 : decode cX0_asleepWithPapers 45 = .ok (.iinc 2 1, 3) := by decide +kernel
theorem dX0_asleepWithPapers_48 : decode cX0_asleepWithPapers 48 = .ok (.goto (-44), 3) := by decide +kernel
theorem dX0_asleepWithPapers_51 : decode cX0_asleepWithPapers 51 = .ok (.iload_n 1, 1) := by decide +kernel
theorem dX0_asleepWithPapers_52 : decode cX0_asleepWithPapers 52 = .ok (.ireturn, 1) := by decide +kernel
theorem dX0_sumByHand_0 : decode cX0_sumByHand 0 = .ok (.aload_n 0, 1) := by decide +kernel
theorem dX0_sumByHand_1 : decode cX0_sumByHand 1 = .ok (.getfield 41, 3) := by decide +kernel
theorem dX0_sumByHand_4 : decode cX0_sumByHand 4 = .ok (.invokevirtual 95, 3) := by decide +kernel
theorem dX0_sumByHand_7 : decode cX0_sumByHand 7 = .ok (.istore_n 2, 1) := by decide +kernel
theorem dX0_sumByHand_8 : decode cX0_sumByHand 8 = .ok (.aload_n 0, 1) := by decide +kernel
theorem dX0_sumByHand_9 : decode cX0_sumByHand 9 = .ok (.getfield 13, 3) := by decide +kernel
theorem dX0_sumByHand_12 : decode cX0_sumByHand 12 = .ok (.iconst 0, 1) := by decide +kernel
theorem dX0_sumByHand_13 : decode cX0_sumByHand 13 = .ok (.iconst 0, 1) := by decide +kernel
theorem dX0_sumByHand_14 : decode cX0_sumByHand 14 = .ok (.iastore, 1) := by decide +kernel
theorem dX0_sumByHand_15 : decode cX0_sumByHand 15 = .ok (.iconst 0, 1) := by decide +kernel
theorem dX0_sumByHand_16 : decode cX0_sumByHand 16 = .ok (.istore_n 3, 1) := by decide +kernel
theorem dX0_sumByHand_17 : decode cX0_sumByHand 17 = .ok (.iload_n 3, 1) := by decide +kernel
theorem dX0_sumByHand_18 : decode cX0_sumByHand 18 = .ok (.aload_n 0, 1) := by decide +kernel
theorem dX0_sumByHand_19 : decode cX0_sumByHand 19 = .ok (.getfield 41, 3) := by decide +kernel
theorem dX0_sumByHand_22 : decode cX0_sumByHand 22 = .ok (.invokevirtual 98, 3) := by decide +kernel
theorem dX0_sumByHand_25 : decode cX0_sumByHand 25 = .ok (.if_icmp .ge 75, 3) := by decide +kernel
theorem dX0_sumByHand_28 : decode cX0_sumByHand 28 = .ok (.iload_n 1, 1) := by decide +kernel
theorem dX0_sumByHand_29 : decode cX0_sumByHand 29 = .ok (.iload_n 3, 1) := by decide +kernel
theorem dX0_sumByHand_30 : decode cX0_sumByHand 30 = .ok (.ishr, 1) := by decide +kernel
theorem dX0_sumByHand_31 : decode cX0_sumByHand 31 = .ok (.iconst 1, 1) := by decide +kernel
theorem dX0_sumByHand_32 : decode cX0_sumByHand 32 = .ok (.iand, 1) := by decide +kernel
theorem dX0_sumByHand_33 : decode cX0_sumByHand 33 = .ok (.ifCond .ne 7, 3) := by decide +kernel
theorem dX0_sumByHand_36 : decode cX0_sumByHand 36 = .ok (.iconst 0, 1) := by decide +kernel
theorem dX0_sumByHand_37 : decode cX0_sumByHand 37 = .ok (.goto 17, 3) := by decide +kernel
theorem dX0_sumByHand_40 : decode cX0_sumByHand 40 = .ok (.iload_n 2, 1) := by decide +kernel
theorem dX0_sumByHand_41 : decode cX0_sumByHand 41 = .ok (.aload_n 0, 1) := by decide +kernel
theorem dX0_sumByHand_42 : decode cX0_sumByHand 42 = .ok (.getfield 45, 3) := by decide +kernel
theorem dX0_sumByHand_45 : decode cX0_sumByHand 45 = .ok (.aload_n 0, 1) := by decide +kernel
theorem dX0_sumByHand_46 : decode cX0_sumByHand 46 = .ok (.getfield 49, 3) := by decide +kernel
theorem dX0_sumByHand_49 : decode cX0_sumByHand 49 = .ok (.iload_n 3, 1) := by decide +kernel
theorem dX0_sumByHand_50 : decode cX0_sumByHand 50 = .ok (.invokevirtual 101, 3) := by decide +kernel
theorem dX0_sumByHand_53 : decode cX0_sumByHand 53 = .ok (.imul, 1) := by decide +kernel
theorem dX0_sumByHand_54 : decode cX0_sumByHand 54 = .ok (.istore 4, 2) := by decide +kernel
theorem dX0_sumByHand_56 : decode cX0_sumByHand 56 = .ok (.iconst 0, 1) := by decide +kernel
theorem dX0_sumByHand_57 : decode cX0_sumByHand 57 = .ok (.istore 5, 2) := by decide +kernel
theorem dX0_sumByHand_59 : decode cX0_sumByHand 59 = .ok (.iload 5, 2) := by decide +kernel
theorem dX0_sumByHand_61 : decode cX0_sumByHand 61 = .ok (.iconst 1, 1) := by decide +kernel
theorem dX0_sumByHand_62 : decode cX0_sumByHand 62 = .ok (.iload_n 3, 1) := by decide +kernel
theorem dX0_sumByHand_63 : decode cX0_sumByHand 63 = .ok (.ishl, 1) := by decide +kernel
theorem dX0_sumByHand_64 : decode cX0_sumByHand 64 = .ok (.if_icmp .ge 30, 3) := by decide +kernel
theorem dX0_sumByHand_67 : decode cX0_sumByHand 67 = .ok (.aload_n 0, 1) := by decide +kernel
theorem dX0_sumByHand_68 : decode cX0_sumByHand 68 = .ok (.getfield 13, 3) := by decide +kernel
theorem dX0_sumByHand_71 : decode cX0_sumByHand 71 = .ok (.iload 5, 2) := by decide +kernel
theorem dX0_sumByHand_73 : decode cX0_sumByHand 73 = .ok (.iconst 1, 1) := by decide +kernel
theorem dX0_sumByHand_74 : decode cX0_sumByHand 74 = .ok (.iload_n 3, 1) := by decide +kernel
theorem dX0_sumByHand_75 : decode cX0_sumByHand 75 = .ok (.ishl, 1) := by decide +kernel
theorem dX0_sumByHand_76 : decode cX0_sumByHand 76 = .ok (.ior, 1) := by decide +kernel
theorem dX0_sumByHand_77 : decode cX0_sumByHand 77 = .ok (.aload_n 0, 1) := by decide +kernel
theorem dX0_sumByHand_78 : decode cX0_sumByHand 78 = .ok (.getfield 13, 3) := by decide +kernel
theorem dX0_sumByHand_81 : decode cX0_sumByHand 81 = .ok (.iload 5, 2) := by decide +kernel
theorem dX0_sumByHand_83 : decode cX0_sumByHand 83 = .ok (.iaload, 1) := by decide +kernel
theorem dX0_sumByHand_84 : decode cX0_sumByHand 84 = .ok (.iload 4, 2) := by decide +kernel
theorem dX0_sumByHand_86 : decode cX0_sumByHand 86 = .ok (.iadd, 1) := by decide +kernel
theorem dX0_sumByHand_87 : decode cX0_sumByHand 87 = .ok (.iastore, 1) := by decide +kernel
theorem dX0_sumByHand_88 : decode cX0_sumByHand 88 = .ok (.iinc 5 1, 3) := by decide +kernel
theorem dX0_sumByHand_91 : decode cX0_sumByHand 91 = .ok (.goto (-32), 3) := by decide +kernel
theorem dX0_sumByHand_94 : decode cX0_sumByHand 94 = .ok (.iinc 3 1, 3) := by decide +kernel
theorem dX0_sumByHand_97 : decode cX0_sumByHand 97 = .ok (.goto (-80), 3) := by decide +kernel
theorem dX0_sumByHand_100 : decode cX0_sumByHand 100 = .ok (.return_, 1) := by decide +kernel
theorem dX0_layOutDrawer_0 : decode cX0_layOutDrawer 0 = .ok (.aload_n 0, 1) := by decide +kernel
theorem dX0_layOutDrawer_1 : decode cX0_layOutDrawer 1 = .ok (.getfield 49, 3) := by decide +kernel
theorem dX0_layOutDrawer_4 : decode cX0_layOutDrawer 4 = .ok (.invokevirtual 107, 3) := by decide +kernel
theorem dX0_layOutDrawer_7 : decode cX0_layOutDrawer 7 = .ok (.istore_n 2, 1) := by decide +kernel
theorem dX0_layOutDrawer_8 : decode cX0_layOutDrawer 8 = .ok (.iconst 0, 1) := by decide +kernel
theorem dX0_layOutDrawer_9 : decode cX0_layOutDrawer 9 = .ok (.istore_n 3, 1) := by decide +kernel
theorem dX0_layOutDrawer_10 : decode cX0_layOutDrawer 10 = .ok (.iconst 0, 1) := by decide +kernel
theorem dX0_layOutDrawer_11 : decode cX0_layOutDrawer 11 = .ok (.istore 4, 2) := by decide +kernel
theorem dX0_layOutDrawer_13 : decode cX0_layOutDrawer 13 = .ok (.iconst 0, 1) := by decide +kernel
theorem dX0_layOutDrawer_14 : decode cX0_layOutDrawer 14 = .ok (.istore 5, 2) := by decide +kernel
theorem dX0_layOutDrawer_16 : decode cX0_layOutDrawer 16 = .ok (.iload 5, 2) := by decide +kernel
theorem dX0_layOutDrawer_18 : decode cX0_layOutDrawer 18 = .ok (.aload_n 0, 1) := by decide +kernel
theorem dX0_layOutDrawer_19 : decode cX0_layOutDrawer 19 = .ok (.getfield 41, 3) := by decide +kernel
theorem dX0_layOutDrawer_22 : decode cX0_layOutDrawer 22 = .ok (.invokevirtual 82, 3) := by decide +kernel
theorem dX0_layOutDrawer_25 : decode cX0_layOutDrawer 25 = .ok (.if_icmp .ge 210, 3) := by decide +kernel
theorem dX0_layOutDrawer_28 : decode cX0_layOutDrawer 28 = .ok (.aload_n 0, 1) := by decide +kernel
theorem dX0_layOutDrawer_29 : decode cX0_layOutDrawer 29 = .ok (.getfield 49, 3) := by decide +kernel
theorem dX0_layOutDrawer_32 : decode cX0_layOutDrawer 32 = .ok (.iload 5, 2) := by decide +kernel
theorem dX0_layOutDrawer_34 : decode cX0_layOutDrawer 34 = .ok (.invokevirtual 85, 3) := by decide +kernel
theorem dX0_layOutDrawer_37 : decode cX0_layOutDrawer 37 = .ok (.istore 6, 2) := by decide +kernel
theorem dX0_layOutDrawer_39 : decode cX0_layOutDrawer 39 = .ok (.aload_n 0, 1) := by decide +kernel
theorem dX0_layOutDrawer_40 : decode cX0_layOutDrawer 40 = .ok (.getfield 20, 3) := by decide +kernel
theorem dX0_layOutDrawer_43 : decode cX0_layOutDrawer 43 = .ok (.iload 5, 2) := by decide +kernel
theorem dX0_layOutDrawer_45 : decode cX0_layOutDrawer 45 = .ok (.aload_n 0, 1) := by decide +kernel
theorem dX0_layOutDrawer_46 : decode cX0_layOutDrawer 46 = .ok (.getfield 45, 3) := by decide +kernel
theorem dX0_layOutDrawer_49 : decode cX0_layOutDrawer 49 = .ok (.iload 6, 2) := by decide +kernel
theorem dX0_layOutDrawer_51 : decode cX0_layOutDrawer 51 = .ok (.iload_n 1, 1) := by decide +kernel
theorem dX0_layOutDrawer_52 : decode cX0_layOutDrawer 52 = .ok (.invokevirtual 110, 3) := by decide +kernel
theorem dX0_layOutDrawer_55 : decode cX0_layOutDrawer 55 = .ok (.iastore, 1) := by decide +kernel
theorem dX0_layOutDrawer_56 : decode cX0_layOutDrawer 56 = .ok (.aload_n 0, 1) := by decide +kernel
theorem dX0_layOutDrawer_57 : decode cX0_layOutDrawer 57 = .ok (.getfield 23, 3) := by decide +kernel
theorem dX0_layOutDrawer_60 : decode cX0_layOutDrawer 60 = .ok (.iload 5, 2) := by decide +kernel
theorem dX0_layOutDrawer_62 : decode cX0_layOutDrawer 62 = .ok (.aload_n 0, 1) := by decide +kernel
theorem dX0_layOutDrawer_63 : decode cX0_layOutDrawer 63 = .ok (.getfield 45, 3) := by decide +kernel
theorem dX0_layOutDrawer_66 : decode cX0_layOutDrawer 66 = .ok (.iload 6, 2) := by decide +kernel
theorem dX0_layOutDrawer_68 : decode cX0_layOutDrawer 68 = .ok (.iload_n 1, 1) := by decide +kernel
theorem dX0_layOutDrawer_69 : decode cX0_layOutDrawer 69 = .ok (.aload_n 0, 1) := by decide +kernel
theorem dX0_layOutDrawer_70 : decode cX0_layOutDrawer 70 = .ok (.getfield 49, 3) := by decide +kernel
theorem dX0_layOutDrawer_73 : decode cX0_layOutDrawer 73 = .ok (.iload 6, 2) := by decide +kernel
theorem dX0_layOutDrawer_75 : decode cX0_layOutDrawer 75 = .ok (.invokevirtual 113, 3) := by decide +kernel
theorem dX0_layOutDrawer_78 : decode cX0_layOutDrawer 78 = .ok (.iload_n 2, 1) := by decide +kernel
theorem dX0_layOutDrawer_79 : decode cX0_layOutDrawer 79 = .ok (.ifCond .le 7, 3) := by decide +kernel
theorem dX0_layOutDrawer_82 : decode cX0_layOutDrawer 82 = .ok (.iconst 1, 1) := by decide +kernel
theorem dX0_layOutDrawer_83 : decode cX0_layOutDrawer 83 = .ok (.goto 4, 3) := by decide +kernel
theorem dX0_layOutDrawer_86 : decode cX0_layOutDrawer 86 = .ok (.iconst 0, 1) := by decide +kernel
theorem dX0_layOutDrawer_87 : decode cX0_layOutDrawer 87 = .ok (.invokevirtual 116, 3) := by decide +kernel
theorem dX0_layOutDrawer_90 : decode cX0_layOutDrawer 90 = .ok (.iastore, 1) := by decide +kernel
theorem dX0_layOutDrawer_91 : decode cX0_layOutDrawer 91 = .ok (.aload_n 0, 1) := by decide +kernel
theorem dX0_layOutDrawer_92 : decode cX0_layOutDrawer 92 = .ok (.getfield 45, 3) := by decide +kernel
theorem dX0_layOutDrawer_95 : decode cX0_layOutDrawer 95 = .ok (.aload_n 0, 1) := by decide +kernel
theorem dX0_layOutDrawer_96 : decode cX0_layOutDrawer 96 = .ok (.getfield 49, 3) := by decide +kernel
theorem dX0_layOutDrawer_99 : decode cX0_layOutDrawer 99 = .ok (.iload 6, 2) := by decide +kernel
theorem dX0_layOutDrawer_101 : decode cX0_layOutDrawer 101 = .ok (.invokevirtual 120, 3) := by decide +kernel
theorem dX0_layOutDrawer_104 : decode cX0_layOutDrawer 104 = .ok (.ifCond .eq 10, 3) := by decide +kernel
theorem dX0_layOutDrawer_107 : decode cX0_layOutDrawer 107 = .ok (.iload_n 2, 1) := by decide +kernel
theorem dX0_layOutDrawer_108 : decode cX0_layOutDrawer 108 = .ok (.ifCond .le 6, 3) := by decide +kernel
theorem dX0_layOutDrawer_111 : decode cX0_layOutDrawer 111 = .ok (.iinc 2 (-1), 3) := by decide +kernel
theorem dX0_layOutDrawer_114 : decode cX0_layOutDrawer 114 = .ok (.aload_n 0, 1) := by decide +kernel
theorem dX0_layOutDrawer_115 : decode cX0_layOutDrawer 115 = .ok (.getfield 26, 3) := by decide +kernel
theorem dX0_layOutDrawer_118 : decode cX0_layOutDrawer 118 = .ok (.iload 5, 2) := by decide +kernel
theorem dX0_layOutDrawer_120 : decode cX0_layOutDrawer 120 = .ok (.aload_n 0, 1) := by decide +kernel
theorem dX0_layOutDrawer_121 : decode cX0_layOutDrawer 121 = .ok (.getfield 45, 3) := by decide +kernel
theorem dX0_layOutDrawer_124 : decode cX0_layOutDrawer 124 = .ok (.aload_n 0, 1) := by decide +kernel
theorem dX0_layOutDrawer_125 : decode cX0_layOutDrawer 125 = .ok (.getfield 49, 3) := by decide +kernel
theorem dX0_layOutDrawer_128 : decode cX0_layOutDrawer 128 = .ok (.iload 6, 2) := by decide +kernel
theorem dX0_layOutDrawer_130 : decode cX0_layOutDrawer 130 = .ok (.iload_n 1, 1) := by decide +kernel
theorem dX0_layOutDrawer_131 : decode cX0_layOutDrawer 131 = .ok (.invokevirtual 124, 3) := by decide +kernel
theorem dX0_layOutDrawer_134 : decode cX0_layOutDrawer 134 = .ok (.ifCond .eq 10, 3) := by decide +kernel
theorem dX0_layOutDrawer_137 : decode cX0_layOutDrawer 137 = .ok (.iconst 1, 1) := by decide +kernel
theorem dX0_layOutDrawer_138 : decode cX0_layOutDrawer 138 = .ok (.iload 6, 2) := by decide +kernel
theorem dX0_layOutDrawer_140 : decode cX0_layOutDrawer 140 = .ok (.ishl, 1) := by decide +kernel
theorem dX0_layOutDrawer_141 : decode cX0_layOutDrawer 141 = .ok (.goto 4, 3) := by decide +kernel
theorem dX0_layOutDrawer_144 : decode cX0_layOutDrawer 144 = .ok (.iconst 0, 1) := by decide +kernel
theorem dX0_layOutDrawer_145 : decode cX0_layOutDrawer 145 = .ok (.iastore, 1) := by decide +kernel
theorem dX0_layOutDrawer_146 : decode cX0_layOutDrawer 146 = .ok (.aload_n 0, 1) := by decide +kernel
theorem dX0_layOutDrawer_147 : decode cX0_layOutDrawer 147 = .ok (.getfield 26, 3) := by decide +kernel
theorem dX0_layOutDrawer_150 : decode cX0_layOutDrawer 150 = .ok (.iload 5, 2) := by decide +kernel
theorem dX0_layOutDrawer_152 : decode cX0_layOutDrawer 152 = .ok (.iaload, 1) := by decide +kernel
theorem dX0_layOutDrawer_153 : decode cX0_layOutDrawer 153 = .ok (.ifCond .eq 66, 3) := by decide +kernel
theorem dX0_layOutDrawer_156 : decode cX0_layOutDrawer 156 = .ok (.iconst 0, 1) := by decide +kernel
theorem dX0_layOutDrawer_157 : decode cX0_layOutDrawer 157 = .ok (.istore 7, 2) := by decide +kernel
theorem dX0_layOutDrawer_159 : decode cX0_layOutDrawer 159 = .ok (.iload 7, 2) := by decide +kernel
theorem dX0_layOutDrawer_161 : decode cX0_layOutDrawer 161 = .ok (.iload 4, 2) := by decide +kernel
theorem dX0_layOutDrawer_163 : decode cX0_layOutDrawer 163 = .ok (.if_icmp .gt 53, 3) := by decide +kernel
theorem dX0_layOutDrawer_166 : decode cX0_layOutDrawer 166 = .ok (.iload_n 3, 1) := by decide +kernel
theorem dX0_layOutDrawer_167 : decode cX0_layOutDrawer 167 = .ok (.iload 7, 2) := by decide +kernel
theorem dX0_layOutDrawer_169 : decode cX0_layOutDrawer 169 = .ok (.aload_n 0, 1) := by decide +kernel
theorem dX0_layOutDrawer_170 : decode cX0_layOutDrawer 170 = .ok (.getfield 41, 3) := by decide +kernel
theorem dX0_layOutDrawer_173 : decode cX0_layOutDrawer 173 = .ok (.iconst 3, 1) := by decide +kernel
theorem dX0_layOutDrawer_174 : decode cX0_layOutDrawer 174 = .ok (.invokevirtual 128, 3) := by decide +kernel
theorem dX0_layOutDrawer_177 : decode cX0_layOutDrawer 177 = .ok (.imul, 1) := by decide +kernel
theorem dX0_layOutDrawer_178 : decode cX0_layOutDrawer 178 = .ok (.iadd, 1) := by decide +kernel
theorem dX0_layOutDrawer_179 : decode cX0_layOutDrawer 179 = .ok (.istore 8, 2) := by decide +kernel
theorem dX0_layOutDrawer_181 : decode cX0_layOutDrawer 181 = .ok (.aload_n 0, 1) := by decide +kernel
theorem dX0_layOutDrawer_182 : decode cX0_layOutDrawer 182 = .ok (.getfield 17, 3) := by decide +kernel
theorem dX0_layOutDrawer_185 : decode cX0_layOutDrawer 185 = .ok (.iload 5, 2) := by decide +kernel
theorem dX0_layOutDrawer_187 : decode cX0_layOutDrawer 187 = .ok (.bipush 9, 2) := by decide +kernel
theorem dX0_layOutDrawer_189 : decode cX0_layOutDrawer 189 = .ok (.imul, 1) := by decide +kernel
theorem dX0_layOutDrawer_190 : decode cX0_layOutDrawer 190 = .ok (.iload 7, 2) := by decide +kernel
theorem dX0_layOutDrawer_192 : decode cX0_layOutDrawer 192 = .ok (.iadd, 1) := by decide +kernel
theorem dX0_layOutDrawer_193 : decode cX0_layOutDrawer 193 = .ok (.aload_n 0, 1) := by decide +kernel
theorem dX0_layOutDrawer_194 : decode cX0_layOutDrawer 194 = .ok (.getfield 45, 3) := by decide +kernel
theorem dX0_layOutDrawer_197 : decode cX0_layOutDrawer 197 = .ok (.aload_n 0, 1) := by decide +kernel
theorem dX0_layOutDrawer_198 : decode cX0_layOutDrawer 198 = .ok (.getfield 49, 3) := by decide +kernel
theorem dX0_layOutDrawer_201 : decode cX0_layOutDrawer 201 = .ok (.iload 6, 2) := by decide +kernel
theorem dX0_layOutDrawer_203 : decode cX0_layOutDrawer 203 = .ok (.iload 8, 2) := by decide +kernel
theorem dX0_layOutDrawer_205 : decode cX0_layOutDrawer 205 = .ok (.iload_n 1, 1) := by decide +kernel
theorem dX0_layOutDrawer_206 : decode cX0_layOutDrawer 206 = .ok (.invokevirtual 131, 3) := by decide +kernel
theorem dX0_layOutDrawer_209 : decode cX0_layOutDrawer 209 = .ok (.iastore, 1) := by decide +kernel
theorem dX0_layOutDrawer_210 : decode cX0_layOutDrawer 210 = .ok (.iinc 7 1, 3) := by decide +kernel
theorem dX0_layOutDrawer_213 : decode cX0_layOutDrawer 213 = .ok (.goto (-54), 3) := by decide +kernel
theorem dX0_layOutDrawer_216 : decode cX0_layOutDrawer 216 = .ok (.iinc 4 1, 3) := by decide +kernel
theorem dX0_layOutDrawer_219 : decode cX0_layOutDrawer 219 = .ok (.iload_n 3, 1) := by decide +kernel
theorem dX0_layOutDrawer_220 : decode cX0_layOutDrawer 220 = .ok (.aload_n 0, 1) := by decide +kernel
theorem dX0_layOutDrawer_221 : decode cX0_layOutDrawer 221 = .ok (.getfield 20, 3) := by decide +kernel
theorem dX0_layOutDrawer_224 : decode cX0_layOutDrawer 224 = .ok (.iload 5, 2) := by decide +kernel
theorem dX0_layOutDrawer_226 : decode cX0_layOutDrawer 226 = .ok (.iaload, 1) := by decide +kernel
theorem dX0_layOutDrawer_227 : decode cX0_layOutDrawer 227 = .ok (.iadd, 1) := by decide +kernel
theorem dX0_layOutDrawer_228 : decode cX0_layOutDrawer 228 = .ok (.istore_n 3, 1) := by decide +kernel
theorem dX0_layOutDrawer_229 : decode cX0_layOutDrawer 229 = .ok (.iinc 5 1, 3) := by decide +kernel
theorem dX0_layOutDrawer_232 : decode cX0_layOutDrawer 232 = .ok (.goto (-216), 3) := by decide +kernel
theorem dX0_layOutDrawer_235 : decode cX0_layOutDrawer 235 = .ok (.return_, 1) := by decide +kernel
theorem dX0_addBorders_0 : decode cX0_addBorders 0 = .ok (.aload_n 0, 1) := by decide +kernel
theorem dX0_addBorders_1 : decode cX0_addBorders 1 = .ok (.getfield 41, 3) := by decide +kernel
theorem dX0_addBorders_4 : decode cX0_addBorders 4 = .ok (.iload_n 2, 1) := by decide +kernel
theorem dX0_addBorders_5 : decode cX0_addBorders 5 = .ok (.iconst 0, 1) := by decide +kernel
theorem dX0_addBorders_6 : decode cX0_addBorders 6 = .ok (.invokevirtual 71, 3) := by decide +kernel
theorem dX0_addBorders_9 : decode cX0_addBorders 9 = .ok (.istore_n 3, 1) := by decide +kernel
theorem dX0_addBorders_10 : decode cX0_addBorders 10 = .ok (.iconst 0, 1) := by decide +kernel
theorem dX0_addBorders_11 : decode cX0_addBorders 11 = .ok (.istore 4, 2) := by decide +kernel
theorem dX0_addBorders_13 : decode cX0_addBorders 13 = .ok (.iload 4, 2) := by decide +kernel
theorem dX0_addBorders_15 : decode cX0_addBorders 15 = .ok (.iload_n 1, 1) := by decide +kernel
theorem dX0_addBorders_16 : decode cX0_addBorders 16 = .ok (.if_icmp .gt 66, 3) := by decide +kernel
theorem dX0_addBorders_19 : decode cX0_addBorders 19 = .ok (.iload 4, 2) := by decide +kernel
theorem dX0_addBorders_21 : decode cX0_addBorders 21 = .ok (.iload_n 1, 1) := by decide +kernel
theorem dX0_addBorders_22 : decode cX0_addBorders 22 = .ok (.iconst (-1), 1) := by decide +kernel
theorem dX0_addBorders_23 : decode cX0_addBorders 23 = .ok (.ixor, 1) := by decide +kernel
theorem dX0_addBorders_24 : decode cX0_addBorders 24 = .ok (.iand, 1) := by decide +kernel
theorem dX0_addBorders_25 : decode cX0_addBorders 25 = .ok (.ifCond .ne 51, 3) := by decide +kernel
theorem dX0_addBorders_28 : decode cX0_addBorders 28 = .ok (.aload_n 0, 1) := by decide +kernel
theorem dX0_addBorders_29 : decode cX0_addBorders 29 = .ok (.getfield 13, 3) := by decide +kernel
theorem dX0_addBorders_32 : decode cX0_addBorders 32 = .ok (.iload 4, 2) := by decide +kernel
theorem dX0_addBorders_34 : decode cX0_addBorders 34 = .ok (.iaload, 1) := by decide +kernel
theorem dX0_addBorders_35 : decode cX0_addBorders 35 = .ok (.iconst (-1), 1) := by decide +kernel
theorem dX0_addBorders_36 : decode cX0_addBorders 36 = .ok (.if_icmp .eq 40, 3) := by decide +kernel
theorem dX0_addBorders_39 : decode cX0_addBorders 39 = .ok (.aload_n 0, 1) := by decide +kernel
theorem dX0_addBorders_40 : decode cX0_addBorders 40 = .ok (.iload 4, 2) := by decide +kernel
theorem dX0_addBorders_42 : decode cX0_addBorders 42 = .ok (.invokevirtual 135, 3) := by decide +kernel
theorem dX0_addBorders_45 : decode cX0_addBorders 45 = .ok (.istore 5, 2) := by decide +kernel
theorem dX0_addBorders_47 : decode cX0_addBorders 47 = .ok (.aload_n 0, 1) := by decide +kernel
theorem dX0_addBorders_48 : decode cX0_addBorders 48 = .ok (.getfield 13, 3) := by decide +kernel
theorem dX0_addBorders_51 : decode cX0_addBorders 51 = .ok (.iload 4, 2) := by decide +kernel
theorem dX0_addBorders_53 : decode cX0_addBorders 53 = .ok (.iload 5, 2) := by decide +kernel
theorem dX0_addBorders_55 : decode cX0_addBorders 55 = .ok (.iconst (-1), 1) := by decide +kernel
theorem dX0_addBorders_56 : decode cX0_addBorders 56 = .ok (.if_icmp .ne 7, 3) := by decide +kernel
theorem dX0_addBorders_59 : decode cX0_addBorders 59 = .ok (.iconst (-1), 1) := by decide +kernel
theorem dX0_addBorders_60 : decode cX0_addBorders 60 = .ok (.goto 15, 3) := by decide +kernel
theorem dX0_addBorders_63 : decode cX0_addBorders 63 = .ok (.aload_n 0, 1) := by decide +kernel
theorem dX0_addBorders_64 : decode cX0_addBorders 64 = .ok (.getfield 13, 3) := by decide +kernel
theorem dX0_addBorders_67 : decode cX0_addBorders 67 = .ok (.iload 4, 2) := by decide +kernel
theorem dX0_addBorders_69 : decode cX0_addBorders 69 = .ok (.iaload, 1) := by decide +kernel
theorem dX0_addBorders_70 : decode cX0_addBorders 70 = .ok (.iload_n 3, 1) := by decide +kernel
theorem dX0_addBorders_71 : decode cX0_addBorders 71 = .ok (.iload 5, 2) := by decide +kernel
theorem dX0_addBorders_73 : decode cX0_addBorders 73 = .ok (.imul, 1) := by decide +kernel
theorem dX0_addBorders_74 : decode cX0_addBorders 74 = .ok (.iadd, 1) := by decide +kernel
theorem dX0_addBorders_75 : decode cX0_addBorders 75 = .ok (.iastore, 1) := by decide +kernel
theorem dX0_addBorders_76 : decode cX0_addBorders 76 = .ok (.iinc 4 1, 3) := by decide +kernel
theorem dX0_addBorders_79 : decode cX0_addBorders 79 = .ok (.goto (-66), 3) := by decide +kernel
theorem dX0_addBorders_82 : decode cX0_addBorders 82 = .ok (.return_, 1) := by decide +kernel
theorem dX0_lossWithout_0 : decode cX0_lossWithout 0 = .ok (.aload_n 0, 1) := by decide +kernel
theorem dX0_lossWithout_1 : decode cX0_lossWithout 1 = .ok (.getfield 41, 3) := by decide +kernel
theorem dX0_lossWithout_4 : decode cX0_lossWithout 4 = .ok (.iconst 3, 1) := by decide +kernel
theorem dX0_lossWithout_5 : decode cX0_lossWithout 5 = .ok (.invokevirtual 128, 3) := by decide +kernel
theorem dX0_lossWithout_8 : decode cX0_lossWithout 8 = .ok (.istore_n 2, 1) := by decide +kernel
theorem dX0_lossWithout_9 : decode cX0_lossWithout 9 = .ok (.aload_n 0, 1) := by decide +kernel
theorem dX0_lossWithout_10 : decode cX0_lossWithout 10 = .ok (.getfield 41, 3) := by decide +kernel
theorem dX0_lossWithout_13 : decode cX0_lossWithout 13 = .ok (.invokevirtual 82, 3) := by decide +kernel
theorem dX0_lossWithout_16 : decode cX0_lossWithout 16 = .ok (.istore_n 3, 1) := by decide +kernel
theorem dX0_lossWithout_17 : decode cX0_lossWithout 17 = .ok (.iconst 0, 1) := by decide +kernel
theorem dX0_lossWithout_18 : decode cX0_lossWithout 18 = .ok (.istore 4, 2) := by decide +kernel
theorem dX0_lossWithout_20 : decode cX0_lossWithout 20 = .ok (.iconst 0, 1) := by decide +kernel
theorem dX0_lossWithout_21 : decode cX0_lossWithout 21 = .ok (.istore 5, 2) := by decide +kernel
theorem dX0_lossWithout_23 : decode cX0_lossWithout 23 = .ok (.iconst 0, 1) := by decide +kernel
theorem dX0_lossWithout_24 : decode cX0_lossWithout 24 = .ok (.istore 6, 2) := by decide +kernel
theorem dX0_lossWithout_26 : decode cX0_lossWithout 26 = .ok (.iconst 0, 1) := by decide +kernel
theorem dX0_lossWithout_27 : decode cX0_lossWithout 27 = .ok (.istore 7, 2) := by decide +kernel
theorem dX0_lossWithout_29 : decode cX0_lossWithout 29 = .ok (.iconst 0, 1) := by decide +kernel
theorem dX0_lossWithout_30 : decode cX0_lossWithout 30 = .ok (.istore 8, 2) := by decide +kernel
theorem dX0_lossWithout_32 : decode cX0_lossWithout 32 = .ok (.iload 8, 2) := by decide +kernel
theorem dX0_lossWithout_34 : decode cX0_lossWithout 34 = .ok (.iload_n 3, 1) := by decide +kernel
theorem dX0_lossWithout_35 : decode cX0_lossWithout 35 = .ok (.if_icmp .ge 89, 3) := by decide +kernel
theorem dX0_lossWithout_38 : decode cX0_lossWithout 38 = .ok (.aload_n 0, 1) := by decide +kernel
theorem dX0_lossWithout_39 : decode cX0_lossWithout 39 = .ok (.getfield 26, 3) := by decide +kernel
theorem dX0_lossWithout_42 : decode cX0_lossWithout 42 = .ok (.iload 8, 2) := by decide +kernel
theorem dX0_lossWithout_44 : decode cX0_lossWithout 44 = .ok (.iaload, 1) := by decide +kernel
theorem dX0_lossWithout_45 : decode cX0_lossWithout 45 = .ok (.iload_n 1, 1) := by decide +kernel
theorem dX0_lossWithout_46 : decode cX0_lossWithout 46 = .ok (.iconst (-1), 1) := by decide +kernel
theorem dX0_lossWithout_47 : decode cX0_lossWithout 47 = .ok (.ixor, 1) := by decide +kernel
theorem dX0_lossWithout_48 : decode cX0_lossWithout 48 = .ok (.iand, 1) := by decide +kernel
theorem dX0_lossWithout_49 : decode cX0_lossWithout 49 = .ok (.ifCond .eq 30, 3) := by decide +kernel
theorem dX0_lossWithout_52 : decode cX0_lossWithout 52 = .ok (.iload 7, 2) := by decide +kernel
theorem dX0_lossWithout_54 : decode cX0_lossWithout 54 = .ok (.aload_n 0, 1) := by decide +kernel
theorem dX0_lossWithout_55 : decode cX0_lossWithout 55 = .ok (.getfield 17, 3) := by decide +kernel
theorem dX0_lossWithout_58 : decode cX0_lossWithout 58 = .ok (.iload 8, 2) := by decide +kernel
theorem dX0_lossWithout_60 : decode cX0_lossWithout 60 = .ok (.bipush 9, 2) := by decide +kernel
theorem dX0_lossWithout_62 : decode cX0_lossWithout 62 = .ok (.imul, 1) := by decide +kernel
theorem dX0_lossWithout_63 : decode cX0_lossWithout 63 = .ok (.iload 6, 2) := by decide +kernel
theorem dX0_lossWithout_65 : decode cX0_lossWithout 65 = .ok (.iadd, 1) := by decide +kernel
theorem dX0_lossWithout_66 : decode cX0_lossWithout 66 = .ok (.iaload, 1) := by decide +kernel
theorem dX0_lossWithout_67 : decode cX0_lossWithout 67 = .ok (.iadd, 1) := by decide +kernel
theorem dX0_lossWithout_68 : decode cX0_lossWithout 68 = .ok (.istore 7, 2) := by decide +kernel
theorem dX0_lossWithout_70 : decode cX0_lossWithout 70 = .ok (.iinc 6 1, 3) := by decide +kernel
theorem dX0_lossWithout_73 : decode cX0_lossWithout 73 = .ok (.iload 4, 2) := by decide +kernel
theorem dX0_lossWithout_75 : decode cX0_lossWithout 75 = .ok (.iload_n 2, 1) := by decide +kernel
theorem dX0_lossWithout_76 : decode cX0_lossWithout 76 = .ok (.iadd, 1) := by decide +kernel
theorem dX0_lossWithout_77 : decode cX0_lossWithout 77 = .ok (.istore 4, 2) := by decide +kernel
theorem dX0_lossWithout_79 : decode cX0_lossWithout 79 = .ok (.iload 4, 2) := by decide +kernel
theorem dX0_lossWithout_81 : decode cX0_lossWithout 81 = .ok (.aload_n 0, 1) := by decide +kernel
theorem dX0_lossWithout_82 : decode cX0_lossWithout 82 = .ok (.getfield 20, 3) := by decide +kernel
theorem dX0_lossWithout_85 : decode cX0_lossWithout 85 = .ok (.iload 8, 2) := by decide +kernel
theorem dX0_lossWithout_87 : decode cX0_lossWithout 87 = .ok (.iaload, 1) := by decide +kernel
theorem dX0_lossWithout_88 : decode cX0_lossWithout 88 = .ok (.iadd, 1) := by decide +kernel
theorem dX0_lossWithout_89 : decode cX0_lossWithout 89 = .ok (.istore 4, 2) := by decide +kernel
theorem dX0_lossWithout_91 : decode cX0_lossWithout 91 = .ok (.iload 4, 2) := by decide +kernel
theorem dX0_lossWithout_93 : decode cX0_lossWithout 93 = .ok (.aload_n 0, 1) := by decide +kernel
theorem dX0_lossWithout_94 : decode cX0_lossWithout 94 = .ok (.getfield 23, 3) := by decide +kernel
theorem dX0_lossWithout_97 : decode cX0_lossWithout 97 = .ok (.iload 8, 2) := by decide +kernel
theorem dX0_lossWithout_99 : decode cX0_lossWithout 99 = .ok (.iaload, 1) := by decide +kernel
theorem dX0_lossWithout_100 : decode cX0_lossWithout 100 = .ok (.iadd, 1) := by decide +kernel
theorem dX0_lossWithout_101 : decode cX0_lossWithout 101 = .ok (.iload 5, 2) := by decide +kernel
theorem dX0_lossWithout_103 : decode cX0_lossWithout 103 = .ok (.if_icmp .le 15, 3) := by decide +kernel
theorem dX0_lossWithout_106 : decode cX0_lossWithout 106 = .ok (.iload 4, 2) := by decide +kernel
theorem dX0_lossWithout_108 : decode cX0_lossWithout 108 = .ok (.aload_n 0, 1) := by decide +kernel
theorem dX0_lossWithout_109 : decode cX0_lossWithout 109 = .ok (.getfield 23, 3) := by decide +kernel
theorem dX0_lossWithout_112 : decode cX0_lossWithout 112 = .ok (.iload 8, 2) := by decide +kernel
theorem dX0_lossWithout_114 : decode cX0_lossWithout 114 = .ok (.iaload, 1) := by decide +kernel
theorem dX0_lossWithout_115 : decode cX0_lossWithout 115 = .ok (.iadd, 1) := by decide +kernel
theorem dX0_lossWithout_116 : decode cX0_lossWithout 116 = .ok (.istore 5, 2) := by decide +kernel
theorem dX0_lossWithout_118 : decode cX0_lossWithout 118 = .ok (.iinc 8 1, 3) := by decide +kernel
theorem dX0_lossWithout_121 : decode cX0_lossWithout 121 = .ok (.goto (-89), 3) := by decide +kernel
theorem dX0_lossWithout_124 : decode cX0_lossWithout 124 = .ok (.iload 5, 2) := by decide +kernel
theorem dX0_lossWithout_126 : decode cX0_lossWithout 126 = .ok (.aload_n 0, 1) := by decide +kernel
theorem dX0_lossWithout_127 : decode cX0_lossWithout 127 = .ok (.getfield 41, 3) := by decide +kernel
theorem dX0_lossWithout_130 : decode cX0_lossWithout 130 = .ok (.invokevirtual 138, 3) := by decide +kernel
theorem dX0_lossWithout_133 : decode cX0_lossWithout 133 = .ok (.if_icmp .le 7, 3) := by decide +kernel
theorem dX0_lossWithout_136 : decode cX0_lossWithout 136 = .ok (.iconst (-1), 1) := by decide +kernel
theorem dX0_lossWithout_137 : decode cX0_lossWithout 137 = .ok (.goto 5, 3) := by decide +kernel
theorem dX0_lossWithout_140 : decode cX0_lossWithout 140 = .ok (.iload 7, 2) := by decide +kernel
theorem dX0_lossWithout_142 : decode cX0_lossWithout 142 = .ok (.ireturn, 1) := by decide +kernel
theorem dX0_findWords_0 : decode cX0_findWords 0 = .ok (.aload_n 0, 1) := by decide +kernel
theorem dX0_findWords_1 : decode cX0_findWords 1 = .ok (.iconst 0, 1) := by decide +kernel
theorem dX0_findWords_2 : decode cX0_findWords 2 = .ok (.putfield 141, 3) := by decide +kernel
theorem dX0_findWords_5 : decode cX0_findWords 5 = .ok (.iconst 0, 1) := by decide +kernel
theorem dX0_findWords_6 : decode cX0_findWords 6 = .ok (.istore_n 1, 1) := by decide +kernel
theorem dX0_findWords_7 : decode cX0_findWords 7 = .ok (.iload_n 1, 1) := by decide +kernel
theorem dX0_findWords_8 : decode cX0_findWords 8 = .ok (.aload_n 0, 1) := by decide +kernel
theorem dX0_findWords_9 : decode cX0_findWords 9 = .ok (.getfield 41, 3) := by decide +kernel
theorem dX0_findWords_12 : decode cX0_findWords 12 = .ok (.invokevirtual 98, 3) := by decide +kernel
theorem dX0_findWords_15 : decode cX0_findWords 15 = .ok (.if_icmp .ge 40, 3) := by decide +kernel
theorem dX0_findWords_18 : decode cX0_findWords 18 = .ok (.aload_n 0, 1) := by decide +kernel
theorem dX0_findWords_19 : decode cX0_findWords 19 = .ok (.getfield 41, 3) := by decide +kernel
theorem dX0_findWords_22 : decode cX0_findWords 22 = .ok (.iload_n 1, 1) := by decide +kernel
theorem dX0_findWords_23 : decode cX0_findWords 23 = .ok (.invokevirtual 144, 3) := by decide +kernel
theorem dX0_findWords_26 : decode cX0_findWords 26 = .ok (.ifCond .eq 23, 3) := by decide +kernel
theorem dX0_findWords_29 : decode cX0_findWords 29 = .ok (.aload_n 0, 1) := by decide +kernel
theorem dX0_findWords_30 : decode cX0_findWords 30 = .ok (.getfield 29, 3) := by decide +kernel
theorem dX0_findWords_33 : decode cX0_findWords 33 = .ok (.aload_n 0, 1) := by decide +kernel
theorem dX0_findWords_34 : decode cX0_findWords 34 = .ok (.getfield 141, 3) := by decide +kernel
theorem dX0_findWords_37 : decode cX0_findWords 37 = .ok (.iload_n 1, 1) := by decide +kernel
theorem dX0_findWords_38 : decode cX0_findWords 38 = .ok (.iastore, 1) := by decide +kernel
theorem dX0_findWords_39 : decode cX0_findWords 39 = .ok (.aload_n 0, 1) := by decide +kernel
theorem dX0_findWords_40 : decode cX0_findWords 40 = .ok (.dup, 1) := by decide +kernel
theorem dX0_findWords_41 : decode cX0_findWords 41 = .ok (.getfield 141, 3) := by decide +kernel
theorem dX0_findWords_44 : decode cX0_findWords 44 = .ok (.iconst 1, 1) := by decide +kernel
theorem dX0_findWords_45 : decode cX0_findWords 45 = .ok (.iadd, 1) := by decide +kernel
theorem dX0_findWords_46 : decode cX0_findWords 46 = .ok (.putfield 141, 3) := by decide +kernel
theorem dX0_findWords_49 : decode cX0_findWords 49 = .ok (.iinc 1 1, 3) := by decide +kernel
theorem dX0_findWords_52 : decode cX0_findWords 52 = .ok (.goto (-45), 3) := by decide +kernel
theorem dX0_findWords_55 : decode cX0_findWords 55 = .ok (.aload_n 0, 1) := by decide +kernel
theorem dX0_findWords_56 : decode cX0_findWords 56 = .ok (.getfield 141, 3) := by decide +kernel
theorem dX0_findWords_59 : decode cX0_findWords 59 = .ok (.ifCond .ne 5, 3) := by decide +kernel
theorem dX0_findWords_62 : decode cX0_findWords 62 = .ok (.iconst 0, 1) := by decide +kernel
theorem dX0_findWords_63 : decode cX0_findWords 63 = .ok (.ireturn, 1) := by decide +kernel
theorem dX0_findWords_64 : decode cX0_findWords 64 = .ok (.iconst 0, 1) := by decide +kernel
theorem dX0_findWords_65 : decode cX0_findWords 65 = .ok (.istore_n 1, 1) := by decide +kernel
theorem dX0_findWords_66 : decode cX0_findWords 66 = .ok (.iload_n 1, 1) := by decide +kernel
theorem dX0_findWords_67 : decode cX0_findWords 67 = .ok (.aload_n 0, 1) := by decide +kernel
theorem dX0_findWords_68 : decode cX0_findWords 68 = .ok (.getfield 41, 3) := by decide +kernel
theorem dX0_findWords_71 : decode cX0_findWords 71 = .ok (.invokevirtual 68, 3) := by decide +kernel
theorem dX0_findWords_74 : decode cX0_findWords 74 = .ok (.if_icmp .ge 14, 3) := by decide +kernel
theorem dX0_findWords_77 : decode cX0_findWords 77 = .ok (.aload_n 0, 1) := by decide +kernel
theorem dX0_findWords_78 : decode cX0_findWords 78 = .ok (.iload_n 1, 1) := by decide +kernel
theorem dX0_findWords_79 : decode cX0_findWords 79 = .ok (.invokevirtual 147, 3) := by decide +kernel
theorem dX0_findWords_82 : decode cX0_findWords 82 = .ok (.iinc 1 1, 3) := by decide +kernel
theorem dX0_findWords_85 : decode cX0_findWords 85 = .ok (.goto (-19), 3) := by decide +kernel
theorem dX0_findWords_88 : decode cX0_findWords 88 = .ok (.aload_n 0, 1) := by decide +kernel
theorem dX0_findWords_89 : decode cX0_findWords 89 = .ok (.ldc 150, 2) := by decide +kernel
theorem dX0_findWords_91 : decode cX0_findWords 91 = .ok (.putfield 57, 3) := by decide +kernel
theorem dX0_findWords_94 : decode cX0_findWords 94 = .ok (.aload_n 0, 1) := by decide +kernel
theorem dX0_findWords_95 : decode cX0_findWords 95 = .ok (.iconst 0, 1) := by decide +kernel
theorem dX0_findWords_96 : decode cX0_findWords 96 = .ok (.aload_n 0, 1) := by decide +kernel
theorem dX0_findWords_97 : decode cX0_findWords 97 = .ok (.getfield 49, 3) := by decide +kernel
theorem dX0_findWords_100 : decode cX0_findWords 100 = .ok (.invokevirtual 107, 3) := by decide +kernel
theorem dX0_findWords_103 : decode cX0_findWords 103 = .ok (.invokevirtual 151, 3) := by decide +kernel
theorem dX0_findWords_106 : decode cX0_findWords 106 = .ok (.aload_n 0, 1) := by decide +kernel
theorem dX0_findWords_107 : decode cX0_findWords 107 = .ok (.iconst 0, 1) := by decide +kernel
theorem dX0_findWords_108 : decode cX0_findWords 108 = .ok (.putfield 53, 3) := by decide +kernel
theorem dX0_findWords_111 : decode cX0_findWords 111 = .ok (.aload_n 0, 1) := by decide +kernel
theorem dX0_findWords_112 : decode cX0_findWords 112 = .ok (.iconst 0, 1) := by decide +kernel
theorem dX0_findWords_113 : decode cX0_findWords 113 = .ok (.aload_n 0, 1) := by decide +kernel
theorem dX0_findWords_114 : decode cX0_findWords 114 = .ok (.getfield 49, 3) := by decide +kernel
theorem dX0_findWords_117 : decode cX0_findWords 117 = .ok (.invokevirtual 107, 3) := by decide +kernel
theorem dX0_findWords_120 : decode cX0_findWords 120 = .ok (.iconst 0, 1) := by decide +kernel
theorem dX0_findWords_121 : decode cX0_findWords 121 = .ok (.invokevirtual 154, 3) := by decide +kernel
theorem dX0_findWords_124 : decode cX0_findWords 124 = .ok (.ireturn, 1) := by decide +kernel
theorem dX0_layOutWaits_0 : decode cX0_layOutWaits 0 = .ok (.iconst 0, 1) := by decide +kernel
theorem dX0_layOutWaits_1 : decode cX0_layOutWaits 1 = .ok (.istore_n 2, 1) := by decide +kernel
theorem dX0_layOutWaits_2 : decode cX0_layOutWaits 2 = .ok (.iconst 0, 1) := by decide +kernel
theorem dX0_layOutWaits_3 : decode cX0_layOutWaits 3 = .ok (.istore_n 3, 1) := by decide +kernel
theorem dX0_layOutWaits_4 : decode cX0_layOutWaits 4 = .ok (.iload_n 3, 1) := by decide +kernel
theorem dX0_layOutWaits_5 : decode cX0_layOutWaits 5 = .ok (.aload_n 0, 1) := by decide +kernel
theorem dX0_layOutWaits_6 : decode cX0_layOutWaits 6 = .ok (.getfield 41, 3) := by decide +kernel
theorem dX0_layOutWaits_9 : decode cX0_layOutWaits 9 = .ok (.invokevirtual 82, 3) := by decide +kernel
theorem dX0_layOutWaits_12 : decode cX0_layOutWaits 12 = .ok (.if_icmp .ge 113, 3) := by decide +kernel
theorem dX0_layOutWaits_15 : decode cX0_layOutWaits 15 = .ok (.aload_n 0, 1) := by decide +kernel
theorem dX0_layOutWaits_16 : decode cX0_layOutWaits 16 = .ok (.getfield 49, 3) := by decide +kernel
theorem dX0_layOutWaits_19 : decode cX0_layOutWaits 19 = .ok (.iload_n 3, 1) := by decide +kernel
theorem dX0_layOutWaits_20 : decode cX0_layOutWaits 20 = .ok (.invokevirtual 85, 3) := by decide +kernel
theorem dX0_layOutWaits_23 : decode cX0_layOutWaits 23 = .ok (.istore 4, 2) := by decide +kernel
theorem dX0_layOutWaits_25 : decode cX0_layOutWaits 25 = .ok (.iload_n 2, 1) := by decide +kernel
theorem dX0_layOutWaits_26 : decode cX0_layOutWaits 26 = .ok (.aload_n 0, 1) := by decide +kernel
theorem dX0_layOutWaits_27 : decode cX0_layOutWaits 27 = .ok (.getfield 45, 3) := by decide +kernel
theorem dX0_layOutWaits_30 : decode cX0_layOutWaits 30 = .ok (.aload_n 0, 1) := by decide +kernel
theorem dX0_layOutWaits_31 : decode cX0_layOutWaits 31 = .ok (.getfield 49, 3) := by decide +kernel
theorem dX0_layOutWaits_34 : decode cX0_layOutWaits 34 = .ok (.iload 4, 2) := by decide +kernel
theorem dX0_layOutWaits_36 : decode cX0_layOutWaits 36 = .ok (.iload_n 1, 1) := by decide +kernel
theorem dX0_layOutWaits_37 : decode cX0_layOutWaits 37 = .ok (.invokevirtual 158, 3) := by decide +kernel
theorem dX0_layOutWaits_40 : decode cX0_layOutWaits 40 = .ok (.iadd, 1) := by decide +kernel
theorem dX0_layOutWaits_41 : decode cX0_layOutWaits 41 = .ok (.istore_n 2, 1) := by decide +kernel
theorem dX0_layOutWaits_42 : decode cX0_layOutWaits 42 = .ok (.iconst 0, 1) := by decide +kernel
theorem dX0_layOutWaits_43 : decode cX0_layOutWaits 43 = .ok (.istore 5, 2) := by decide +kernel
theorem dX0_layOutWaits_45 : decode cX0_layOutWaits 45 = .ok (.iload 5, 2) := by decide +kernel
theorem dX0_layOutWaits_47 : decode cX0_layOutWaits 47 = .ok (.aload_n 0, 1) := by decide +kernel
theorem dX0_layOutWaits_48 : decode cX0_layOutWaits 48 = .ok (.getfield 141, 3) := by decide +kernel
theorem dX0_layOutWaits_51 : decode cX0_layOutWaits 51 = .ok (.if_icmp .ge 68, 3) := by decide +kernel
theorem dX0_layOutWaits_54 : decode cX0_layOutWaits 54 = .ok (.aload_n 0, 1) := by decide +kernel
theorem dX0_layOutWaits_55 : decode cX0_layOutWaits 55 = .ok (.getfield 29, 3) := by decide +kernel
theorem dX0_layOutWaits_58 : decode cX0_layOutWaits 58 = .ok (.iload 5, 2) := by decide +kernel
theorem dX0_layOutWaits_60 : decode cX0_layOutWaits 60 = .ok (.iaload, 1) := by decide +kernel
theorem dX0_layOutWaits_61 : decode cX0_layOutWaits 61 = .ok (.iload 4, 2) := by decide +kernel
theorem dX0_layOutWaits_63 : decode cX0_layOutWaits 63 = .ok (.if_icmp .ne 50, 3) := by decide +kernel
theorem dX0_layOutWaits_66 : decode cX0_layOutWaits 66 = .ok (.iconst 0, 1) := by decide +kernel
theorem dX0_layOutWaits_67 : decode cX0_layOutWaits 67 = .ok (.istore 6, 2) := by decide +kernel
theorem dX0_layOutWaits_69 : decode cX0_layOutWaits 69 = .ok (.iload 6, 2) := by decide +kernel
theorem dX0_layOutWaits_71 : decode cX0_layOutWaits 71 = .ok (.iconst 3, 1) := by decide +kernel
theorem dX0_layOutWaits_72 : decode cX0_layOutWaits 72 = .ok (.if_icmp .ge 41, 3) := by decide +kernel
theorem dX0_layOutWaits_75 : decode cX0_layOutWaits 75 = .ok (.aload_n 0, 1) := by decide +kernel
theorem dX0_layOutWaits_76 : decode cX0_layOutWaits 76 = .ok (.getfield 45, 3) := by decide +kernel
theorem dX0_layOutWaits_79 : decode cX0_layOutWaits 79 = .ok (.iload 4, 2) := by decide +kernel
theorem dX0_layOutWaits_81 : decode cX0_layOutWaits 81 = .ok (.iload_n 1, 1) := by decide +kernel
theorem dX0_layOutWaits_82 : decode cX0_layOutWaits 82 = .ok (.iload 6, 2) := by decide +kernel
theorem dX0_layOutWaits_84 : decode cX0_layOutWaits 84 = .ok (.iconst 1, 1) := by decide +kernel
theorem dX0_layOutWaits_85 : decode cX0_layOutWaits 85 = .ok (.invokevirtual 116, 3) := by decide +kernel
theorem dX0_layOutWaits_88 : decode cX0_layOutWaits 88 = .ok (.istore 7, 2) := by decide +kernel
theorem dX0_layOutWaits_90 : decode cX0_layOutWaits 90 = .ok (.aload_n 0, 1) := by decide +kernel
theorem dX0_layOutWaits_91 : decode cX0_layOutWaits 91 = .ok (.getfield 32, 3) := by decide +kernel
theorem dX0_layOutWaits_94 : decode cX0_layOutWaits 94 = .ok (.iload 5, 2) := by decide +kernel
theorem dX0_layOutWaits_96 : decode cX0_layOutWaits 96 = .ok (.iload 6, 2) := by decide +kernel
theorem dX0_layOutWaits_98 : decode cX0_layOutWaits 98 = .ok (.iload_n 1, 1) := by decide +kernel
theorem dX0_layOutWaits_99 : decode cX0_layOutWaits 99 = .ok (.invokestatic 162, 3) := by decide +kernel
theorem dX0_layOutWaits_102 : decode cX0_layOutWaits 102 = .ok (.iload_n 2, 1) := by decide +kernel
theorem dX0_layOutWaits_103 : decode cX0_layOutWaits 103 = .ok (.iload 7, 2) := by decide +kernel
theorem dX0_layOutWaits_105 : decode cX0_layOutWaits 105 = .ok (.iadd, 1) := by decide +kernel
theorem dX0_layOutWaits_106 : decode cX0_layOutWaits 106 = .ok (.iastore, 1) := by decide +kernel
theorem dX0_layOutWaits_107 : decode cX0_layOutWaits 107 = .ok (.iinc 6 1, 3) := by decide +kernel
theorem dX0_layOutWaits_110 : decode cX0_layOutWaits 110 = .ok (.goto (-41), 3) := by decide +kernel
theorem dX0_layOutWaits_113 : decode cX0_layOutWaits 113 = .ok (.iinc 5 1, 3) := by decide +kernel
theorem dX0_layOutWaits_116 : decode cX0_layOutWaits 116 = .ok (.goto (-71), 3) := by decide +kernel
theorem dX0_layOutWaits_119 : decode cX0_layOutWaits 119 = .ok (.iinc 3 1, 3) := by decide +kernel
theorem dX0_layOutWaits_122 : decode cX0_layOutWaits 122 = .ok (.goto (-118), 3) := by decide +kernel
theorem dX0_layOutWaits_125 : decode cX0_layOutWaits 125 = .ok (.aload_n 0, 1) := by decide +kernel
theorem dX0_layOutWaits_126 : decode cX0_layOutWaits 126 = .ok (.getfield 35, 3) := by decide +kernel
theorem dX0_layOutWaits_129 : decode cX0_layOutWaits 129 = .ok (.iload_n 1, 1) := by decide +kernel
theorem dX0_layOutWaits_130 : decode cX0_layOutWaits 130 = .ok (.iload_n 2, 1) := by decide +kernel
theorem dX0_layOutWaits_131 : decode cX0_layOutWaits 131 = .ok (.iastore, 1) := by decide +kernel
theorem dX0_layOutWaits_132 : decode cX0_layOutWaits 132 = .ok (.aload_n 0, 1) := by decide +kernel
theorem dX0_layOutWaits_133 : decode cX0_layOutWaits 133 = .ok (.iload_n 1, 1) := by decide +kernel
theorem dX0_layOutWaits_134 : decode cX0_layOutWaits 134 = .ok (.iload_n 2, 1) := by decide +kernel
theorem dX0_layOutWaits_135 : decode cX0_layOutWaits 135 = .ok (.invokevirtual 166, 3) := by decide +kernel
theorem dX0_layOutWaits_138 : decode cX0_layOutWaits 138 = .ok (.return_, 1) := by decide +kernel
theorem dX0_layOutRest_0 : decode cX0_layOutRest 0 = .ok (.aload_n 0, 1) := by decide +kernel
theorem dX0_layOutRest_1 : decode cX0_layOutRest 1 = .ok (.getfield 38, 3) := by decide +kernel
theorem dX0_layOutRest_4 : decode cX0_layOutRest 4 = .ok (.aload_n 0, 1) := by decide +kernel
theorem dX0_layOutRest_5 : decode cX0_layOutRest 5 = .ok (.getfield 141, 3) := by decide +kernel
theorem dX0_layOutRest_8 : decode cX0_layOutRest 8 = .ok (.iconst 4, 1) := by decide +kernel
theorem dX0_layOutRest_9 : decode cX0_layOutRest 9 = .ok (.imul, 1) := by decide +kernel
theorem dX0_layOutRest_10 : decode cX0_layOutRest 10 = .ok (.iload_n 1, 1) := by decide +kernel
theorem dX0_layOutRest_11 : decode cX0_layOutRest 11 = .ok (.iadd, 1) := by decide +kernel
theorem dX0_layOutRest_12 : decode cX0_layOutRest 12 = .ok (.iload_n 2, 1) := by decide +kernel
theorem dX0_layOutRest_13 : decode cX0_layOutRest 13 = .ok (.iastore, 1) := by decide +kernel
theorem dX0_layOutRest_14 : decode cX0_layOutRest 14 = .ok (.aload_n 0, 1) := by decide +kernel
theorem dX0_layOutRest_15 : decode cX0_layOutRest 15 = .ok (.getfield 141, 3) := by decide +kernel
theorem dX0_layOutRest_18 : decode cX0_layOutRest 18 = .ok (.iconst 1, 1) := by decide +kernel
theorem dX0_layOutRest_19 : decode cX0_layOutRest 19 = .ok (.isub, 1) := by decide +kernel
theorem dX0_layOutRest_20 : decode cX0_layOutRest 20 = .ok (.istore_n 3, 1) := by decide +kernel
theorem dX0_layOutRest_21 : decode cX0_layOutRest 21 = .ok (.iload_n 3, 1) := by decide +kernel
theorem dX0_layOutRest_22 : decode cX0_layOutRest 22 = .ok (.ifCond .lt 87, 3) := by decide +kernel
theorem dX0_layOutRest_25 : decode cX0_layOutRest 25 = .ok (.aload_n 0, 1) := by decide +kernel
theorem dX0_layOutRest_26 : decode cX0_layOutRest 26 = .ok (.getfield 32, 3) := by decide +kernel
theorem dX0_layOutRest_29 : decode cX0_layOutRest 29 = .ok (.iload_n 3, 1) := by decide +kernel
theorem dX0_layOutRest_30 : decode cX0_layOutRest 30 = .ok (.iconst 0, 1) := by decide +kernel
theorem dX0_layOutRest_31 : decode cX0_layOutRest 31 = .ok (.iload_n 1, 1) := by decide +kernel
theorem dX0_layOutRest_32 : decode cX0_layOutRest 32 = .ok (.invokestatic 162, 3) := by decide +kernel
theorem dX0_layOutRest_35 : decode cX0_layOutRest 35 = .ok (.iaload, 1) := by decide +kernel
theorem dX0_layOutRest_36 : decode cX0_layOutRest 36 = .ok (.istore 4, 2) := by decide +kernel
theorem dX0_layOutRest_38 : decode cX0_layOutRest 38 = .ok (.iconst 1, 1) := by decide +kernel
theorem dX0_layOutRest_39 : decode cX0_layOutRest 39 = .ok (.istore 5, 2) := by decide +kernel
theorem dX0_layOutRest_41 : decode cX0_layOutRest 41 = .ok (.iload 5, 2) := by decide +kernel
theorem dX0_layOutRest_43 : decode cX0_layOutRest 43 = .ok (.iconst 3, 1) := by decide +kernel
theorem dX0_layOutRest_44 : decode cX0_layOutRest 44 = .ok (.if_icmp .ge 28, 3) := by decide +kernel
theorem dX0_layOutRest_47 : decode cX0_layOutRest 47 = .ok (.iload 4, 2) := by decide +kernel
theorem dX0_layOutRest_49 : decode cX0_layOutRest 49 = .ok (.aload_n 0, 1) := by decide +kernel
theorem dX0_layOutRest_50 : decode cX0_layOutRest 50 = .ok (.getfield 32, 3) := by decide +kernel
theorem dX0_layOutRest_53 : decode cX0_layOutRest 53 = .ok (.iload_n 3, 1) := by decide +kernel
theorem dX0_layOutRest_54 : decode cX0_layOutRest 54 = .ok (.iload 5, 2) := by decide +kernel
theorem dX0_layOutRest_56 : decode cX0_layOutRest 56 = .ok (.iload_n 1, 1) := by decide +kernel
theorem dX0_layOutRest_57 : decode cX0_layOutRest 57 = .ok (.invokestatic 162, 3) := by decide +kernel
theorem dX0_layOutRest_60 : decode cX0_layOutRest 60 = .ok (.iaload, 1) := by decide +kernel
theorem dX0_layOutRest_61 : decode cX0_layOutRest 61 = .ok (.invokestatic 169, 3) := by decide +kernel
theorem dX0_layOutRest_64 : decode cX0_layOutRest 64 = .ok (.istore 4, 2) := by decide +kernel
theorem dX0_layOutRest_66 : decode cX0_layOutRest 66 = .ok (.iinc 5 1, 3) := by decide +kernel
theorem dX0_layOutRest_69 : decode cX0_layOutRest 69 = .ok (.goto (-28), 3) := by decide +kernel
theorem dX0_layOutRest_72 : decode cX0_layOutRest 72 = .ok (.aload_n 0, 1) := by decide +kernel
theorem dX0_layOutRest_73 : decode cX0_layOutRest 73 = .ok (.getfield 38, 3) := by decide +kernel
theorem dX0_layOutRest_76 : decode cX0_layOutRest 76 = .ok (.iload_n 3, 1) := by decide +kernel
theorem dX0_layOutRest_77 : decode cX0_layOutRest 77 = .ok (.iconst 1, 1) := by decide +kernel
theorem dX0_layOutRest_78 : decode cX0_layOutRest 78 = .ok (.iadd, 1) := by decide +kernel
theorem dX0_layOutRest_79 : decode cX0_layOutRest 79 = .ok (.iconst 4, 1) := by decide +kernel
theorem dX0_layOutRest_80 : decode cX0_layOutRest 80 = .ok (.imul, 1) := by decide +kernel
theorem dX0_layOutRest_81 : decode cX0_layOutRest 81 = .ok (.iload_n 1, 1) := by decide +kernel
theorem dX0_layOutRest_82 : decode cX0_layOutRest 82 = .ok (.iadd, 1) := by decide +kernel
theorem dX0_layOutRest_83 : decode cX0_layOutRest 83 = .ok (.iaload, 1) := by decide +kernel
theorem dX0_layOutRest_84 : decode cX0_layOutRest 84 = .ok (.istore 5, 2) := by decide +kernel
theorem dX0_layOutRest_86 : decode cX0_layOutRest 86 = .ok (.aload_n 0, 1) := by decide +kernel
theorem dX0_layOutRest_87 : decode cX0_layOutRest 87 = .ok (.getfield 38, 3) := by decide +kernel
theorem dX0_layOutRest_90 : decode cX0_layOutRest 90 = .ok (.iload_n 3, 1) := by decide +kernel
theorem dX0_layOutRest_91 : decode cX0_layOutRest 91 = .ok (.iconst 4, 1) := by decide +kernel
theorem dX0_layOutRest_92 : decode cX0_layOutRest 92 = .ok (.imul, 1) := by decide +kernel
theorem dX0_layOutRest_93 : decode cX0_layOutRest 93 = .ok (.iload_n 1, 1) := by decide +kernel
theorem dX0_layOutRest_94 : decode cX0_layOutRest 94 = .ok (.iadd, 1) := by decide +kernel
theorem dX0_layOutRest_95 : decode cX0_layOutRest 95 = .ok (.iload 4, 2) := by decide +kernel
theorem dX0_layOutRest_97 : decode cX0_layOutRest 97 = .ok (.iload 5, 2) := by decide +kernel
theorem dX0_layOutRest_99 : decode cX0_layOutRest 99 = .ok (.invokestatic 174, 3) := by decide +kernel
theorem dX0_layOutRest_102 : decode cX0_layOutRest 102 = .ok (.iastore, 1) := by decide +kernel
theorem dX0_layOutRest_103 : decode cX0_layOutRest 103 = .ok (.iinc 3 (-1), 3) := by decide +kernel
theorem dX0_layOutRest_106 : decode cX0_layOutRest 106 = .ok (.goto (-85), 3) := by decide +kernel
theorem dX0_layOutRest_109 : decode cX0_layOutRest 109 = .ok (.return_, 1) := by decide +kernel
theorem dX0_cellOf_0 : decode cX0_cellOf 0 = .ok (.iload_n 0, 1) := by decide +kernel
theorem dX0_cellOf_1 : decode cX0_cellOf 1 = .ok (.iconst 3, 1) := by decide +kernel
theorem dX0_cellOf_2 : decode cX0_cellOf 2 = .ok (.imul, 1) := by decide +kernel
theorem dX0_cellOf_3 : decode cX0_cellOf 3 = .ok (.iload_n 1, 1) := by decide +kernel
theorem dX0_cellOf_4 : decode cX0_cellOf 4 = .ok (.iadd, 1) := by decide +kernel
theorem dX0_cellOf_5 : decode cX0_cellOf 5 = .ok (.iconst 4, 1) := by decide +kernel
theorem dX0_cellOf_6 : decode cX0_cellOf 6 = .ok (.imul, 1) := by decide +kernel
theorem dX0_cellOf_7 : decode cX0_cellOf 7 = .ok (.iload_n 2, 1) := by decide +kernel
theorem dX0_cellOf_8 : decode cX0_cellOf 8 = .ok (.iadd, 1) := by decide +kernel
theorem dX0_cellOf_9 : decode cX0_cellOf 9 = .ok (.ireturn, 1) := by decide +kernel
theorem dX0_chooseLeast_0 : decode cX0_chooseLeast 0 = .ok (.iload_n 1, 1) := by decide +kernel
theorem dX0_chooseLeast_1 : decode cX0_chooseLeast 1 = .ok (.aload_n 0, 1) := by decide +kernel
theorem dX0_chooseLeast_2 : decode cX0_chooseLeast 2 = .ok (.getfield 141, 3) := by decide +kernel
theorem dX0_chooseLeast_5 : decode cX0_chooseLeast 5 = .ok (.if_icmp .lt 20, 3) := by decide +kernel
theorem dX0_chooseLeast_8 : decode cX0_chooseLeast 8 = .ok (.aload_n 0, 1) := by decide +kernel
theorem dX0_chooseLeast_9 : decode cX0_chooseLeast 9 = .ok (.aload_n 0, 1) := by decide +kernel
theorem dX0_chooseLeast_10 : decode cX0_chooseLeast 10 = .ok (.getfield 57, 3) := by decide +kernel
theorem dX0_chooseLeast_13 : decode cX0_chooseLeast 13 = .ok (.aload_n 0, 1) := by decide +kernel
theorem dX0_chooseLeast_14 : decode cX0_chooseLeast 14 = .ok (.iload_n 1, 1) := by decide +kernel
theorem dX0_chooseLeast_15 : decode cX0_chooseLeast 15 = .ok (.invokevirtual 177, 3) := by decide +kernel
theorem dX0_chooseLeast_18 : decode cX0_chooseLeast 18 = .ok (.invokestatic 169, 3) := by decide +kernel
theorem dX0_chooseLeast_21 : decode cX0_chooseLeast 21 = .ok (.putfield 57, 3) := by decide +kernel
theorem dX0_chooseLeast_24 : decode cX0_chooseLeast 24 = .ok (.return_, 1) := by decide +kernel
theorem dX0_chooseLeast_25 : decode cX0_chooseLeast 25 = .ok (.iconst 0, 1) := by decide +kernel
theorem dX0_chooseLeast_26 : decode cX0_chooseLeast 26 = .ok (.istore_n 3, 1) := by decide +kernel
theorem dX0_chooseLeast_27 : decode cX0_chooseLeast 27 = .ok (.iconst 0, 1) := by decide +kernel
theorem dX0_chooseLeast_28 : decode cX0_chooseLeast 28 = .ok (.istore 4, 2) := by decide +kernel
theorem dX0_chooseLeast_30 : decode cX0_chooseLeast 30 = .ok (.iload 4, 2) := by decide +kernel
theorem dX0_chooseLeast_32 : decode cX0_chooseLeast 32 = .ok (.iconst 3, 1) := by decide +kernel
theorem dX0_chooseLeast_33 : decode cX0_chooseLeast 33 = .ok (.if_icmp .ge 116, 3) := by decide +kernel
theorem dX0_chooseLeast_36 : decode cX0_chooseLeast 36 = .ok (.iconst (-1), 1) := by decide +kernel
theorem dX0_chooseLeast_37 : decode cX0_chooseLeast 37 = .ok (.istore 5, 2) := by decide +kernel
theorem dX0_chooseLeast_39 : decode cX0_chooseLeast 39 = .ok (.aload_n 0, 1) := by decide +kernel
theorem dX0_chooseLeast_40 : decode cX0_chooseLeast 40 = .ok (.getfield 57, 3) := by decide +kernel
theorem dX0_chooseLeast_43 : decode cX0_chooseLeast 43 = .ok (.istore 6, 2) := by decide +kernel
theorem dX0_chooseLeast_45 : decode cX0_chooseLeast 45 = .ok (.iconst 0, 1) := by decide +kernel
theorem dX0_chooseLeast_46 : decode cX0_chooseLeast 46 = .ok (.istore 7, 2) := by decide +kernel
theorem dX0_chooseLeast_48 : decode cX0_chooseLeast 48 = .ok (.iload 7, 2) := by decide +kernel
theorem dX0_chooseLeast_50 : decode cX0_chooseLeast 50 = .ok (.iconst 3, 1) := by decide +kernel
theorem dX0_chooseLeast_51 : decode cX0_chooseLeast 51 = .ok (.if_icmp .ge 58, 3) := by decide +kernel
theorem dX0_chooseLeast_54 : decode cX0_chooseLeast 54 = .ok (.iload_n 3, 1) := by decide +kernel
theorem dX0_chooseLeast_55 : decode cX0_chooseLeast 55 = .ok (.iload 7, 2) := by decide +kernel
theorem dX0_chooseLeast_57 : decode cX0_chooseLeast 57 = .ok (.ishr, 1) := by decide +kernel
theorem dX0_chooseLeast_58 : decode cX0_chooseLeast 58 = .ok (.iconst 1, 1) := by decide +kernel
theorem dX0_chooseLeast_59 : decode cX0_chooseLeast 59 = .ok (.iand, 1) := by decide +kernel
theorem dX0_chooseLeast_60 : decode cX0_chooseLeast 60 = .ok (.ifCond .ne 43, 3) := by decide +kernel
theorem dX0_chooseLeast_63 : decode cX0_chooseLeast 63 = .ok (.iload 7, 2) := by decide +kernel
theorem dX0_chooseLeast_65 : decode cX0_chooseLeast 65 = .ok (.iload_n 2, 1) := by decide +kernel
theorem dX0_chooseLeast_66 : decode cX0_chooseLeast 66 = .ok (.invokestatic 180, 3) := by decide +kernel
theorem dX0_chooseLeast_69 : decode cX0_chooseLeast 69 = .ok (.ifCond .lt 34, 3) := by decide +kernel
theorem dX0_chooseLeast_72 : decode cX0_chooseLeast 72 = .ok (.aload_n 0, 1) := by decide +kernel
theorem dX0_chooseLeast_73 : decode cX0_chooseLeast 73 = .ok (.iload_n 1, 1) := by decide +kernel
theorem dX0_chooseLeast_74 : decode cX0_chooseLeast 74 = .ok (.iload 7, 2) := by decide +kernel
theorem dX0_chooseLeast_76 : decode cX0_chooseLeast 76 = .ok (.invokevirtual 183, 3) := by decide +kernel
theorem dX0_chooseLeast_79 : decode cX0_chooseLeast 79 = .ok (.aload_n 0, 1) := by decide +kernel
theorem dX0_chooseLeast_80 : decode cX0_chooseLeast 80 = .ok (.iload_n 1, 1) := by decide +kernel
theorem dX0_chooseLeast_81 : decode cX0_chooseLeast 81 = .ok (.iconst 1, 1) := by decide +kernel
theorem dX0_chooseLeast_82 : decode cX0_chooseLeast 82 = .ok (.iadd, 1) := by decide +kernel
theorem dX0_chooseLeast_83 : decode cX0_chooseLeast 83 = .ok (.invokevirtual 177, 3) := by decide +kernel
theorem dX0_chooseLeast_86 : decode cX0_chooseLeast 86 = .ok (.istore 8, 2) := by decide +kernel
theorem dX0_chooseLeast_88 : decode cX0_chooseLeast 88 = .ok (.iload 8, 2) := by decide +kernel
theorem dX0_chooseLeast_90 : decode cX0_chooseLeast 90 = .ok (.iload 6, 2) := by decide +kernel
theorem dX0_chooseLeast_92 : decode cX0_chooseLeast 92 = .ok (.if_icmp .ge 11, 3) := by decide +kernel
theorem dX0_chooseLeast_95 : decode cX0_chooseLeast 95 = .ok (.iload 7, 2) := by decide +kernel
theorem dX0_chooseLeast_97 : decode cX0_chooseLeast 97 = .ok (.istore 5, 2) := by decide +kernel
theorem dX0_chooseLeast_99 : decode cX0_chooseLeast 99 = .ok (.iload 8, 2) := by decide +kernel
theorem dX0_chooseLeast_101 : decode cX0_chooseLeast 101 = .ok (.istore 6, 2) := by decide +kernel
theorem dX0_chooseLeast_103 : decode cX0_chooseLeast 103 = .ok (.iinc 7 1, 3) := by decide +kernel
theorem dX0_chooseLeast_106 : decode cX0_chooseLeast 106 = .ok (.goto (-58), 3) := by decide +kernel
theorem dX0_chooseLeast_109 : decode cX0_chooseLeast 109 = .ok (.iload 5, 2) := by decide +kernel
theorem dX0_chooseLeast_111 : decode cX0_chooseLeast 111 = .ok (.iconst (-1), 1) := by decide +kernel
theorem dX0_chooseLeast_112 : decode cX0_chooseLeast 112 = .ok (.if_icmp .ne 4, 3) := by decide +kernel
theorem dX0_chooseLeast_115 : decode cX0_chooseLeast 115 = .ok (.return_, 1) := by decide +kernel
theorem dX0_chooseLeast_116 : decode cX0_chooseLeast 116 = .ok (.iload_n 3, 1) := by decide +kernel
theorem dX0_chooseLeast_117 : decode cX0_chooseLeast 117 = .ok (.iconst 1, 1) := by decide +kernel
theorem dX0_chooseLeast_118 : decode cX0_chooseLeast 118 = .ok (.iload 5, 2) := by decide +kernel
theorem dX0_chooseLeast_120 : decode cX0_chooseLeast 120 = .ok (.ishl, 1) := by decide +kernel
theorem dX0_chooseLeast_121 : decode cX0_chooseLeast 121 = .ok (.ior, 1) := by decide +kernel
theorem dX0_chooseLeast_122 : decode cX0_chooseLeast 122 = .ok (.istore_n 3, 1) := by decide +kernel
theorem dX0_chooseLeast_123 : decode cX0_chooseLeast 123 = .ok (.aload_n 0, 1) := by decide +kernel
theorem dX0_chooseLeast_124 : decode cX0_chooseLeast 124 = .ok (.iload_n 1, 1) := by decide +kernel
theorem dX0_chooseLeast_125 : decode cX0_chooseLeast 125 = .ok (.iload 5, 2) := by decide +kernel
theorem dX0_chooseLeast_127 : decode cX0_chooseLeast 127 = .ok (.invokevirtual 183, 3) := by decide +kernel
theorem dX0_chooseLeast_130 : decode cX0_chooseLeast 130 = .ok (.aload_n 0, 1) := by decide +kernel
theorem dX0_chooseLeast_131 : decode cX0_chooseLeast 131 = .ok (.iload_n 1, 1) := by decide +kernel
theorem dX0_chooseLeast_132 : decode cX0_chooseLeast 132 = .ok (.iconst 1, 1) := by decide +kernel
theorem dX0_chooseLeast_133 : decode cX0_chooseLeast 133 = .ok (.iadd, 1) := by decide +kernel
theorem dX0_chooseLeast_134 : decode cX0_chooseLeast 134 = .ok (.iload 5, 2) := by decide +kernel
theorem dX0_chooseLeast_136 : decode cX0_chooseLeast 136 = .ok (.iload_n 2, 1) := by decide +kernel
theorem dX0_chooseLeast_137 : decode cX0_chooseLeast 137 = .ok (.invokestatic 180, 3) := by decide +kernel
theorem dX0_chooseLeast_140 : decode cX0_chooseLeast 140 = .ok (.invokevirtual 151, 3) := by decide +kernel
theorem dX0_chooseLeast_143 : decode cX0_chooseLeast 143 = .ok (.iinc 4 1, 3) := by decide +kernel
theorem dX0_chooseLeast_146 : decode cX0_chooseLeast 146 = .ok (.goto (-116), 3) := by decide +kernel
theorem dX0_chooseLeast_149 : decode cX0_chooseLeast 149 = .ok (.return_, 1) := by decide +kernel
theorem dX0_chooseDigits_0 : decode cX0_chooseDigits 0 = .ok (.aload_n 0, 1) := by decide +kernel
theorem dX0_chooseDigits_1 : decode cX0_chooseDigits 1 = .ok (.iload_n 1, 1) := by decide +kernel
theorem dX0_chooseDigits_2 : decode cX0_chooseDigits 2 = .ok (.invokevirtual 177, 3) := by decide +kernel
theorem dX0_chooseDigits_5 : decode cX0_chooseDigits 5 = .ok (.aload_n 0, 1) := by decide +kernel
theorem dX0_chooseDigits_6 : decode cX0_chooseDigits 6 = .ok (.getfield 57, 3) := by decide +kernel
theorem dX0_chooseDigits_9 : decode cX0_chooseDigits 9 = .ok (.if_icmp .le 5, 3) := by decide +kernel
theorem dX0_chooseDigits_12 : decode cX0_chooseDigits 12 = .ok (.iconst 0, 1) := by decide +kernel
theorem dX0_chooseDigits_13 : decode cX0_chooseDigits 13 = .ok (.ireturn, 1) := by decide +kernel
theorem dX0_chooseDigits_14 : decode cX0_chooseDigits 14 = .ok (.iload_n 1, 1) := by decide +kernel
theorem dX0_chooseDigits_15 : decode cX0_chooseDigits 15 = .ok (.aload_n 0, 1) := by decide +kernel
theorem dX0_chooseDigits_16 : decode cX0_chooseDigits 16 = .ok (.getfield 141, 3) := by decide +kernel
theorem dX0_chooseDigits_19 : decode cX0_chooseDigits 19 = .ok (.if_icmp .lt 10, 3) := by decide +kernel
theorem dX0_chooseDigits_22 : decode cX0_chooseDigits 22 = .ok (.aload_n 0, 1) := by decide +kernel
theorem dX0_chooseDigits_23 : decode cX0_chooseDigits 23 = .ok (.iload_n 3, 1) := by decide +kernel
theorem dX0_chooseDigits_24 : decode cX0_chooseDigits 24 = .ok (.putfield 53, 3) := by decide +kernel
theorem dX0_chooseDigits_27 : decode cX0_chooseDigits 27 = .ok (.iconst 1, 1) := by decide +kernel
theorem dX0_chooseDigits_28 : decode cX0_chooseDigits 28 = .ok (.ireturn, 1) := by decide +kernel
theorem dX0_chooseDigits_29 : decode cX0_chooseDigits 29 = .ok (.iconst 0, 1) := by decide +kernel
theorem dX0_chooseDigits_30 : decode cX0_chooseDigits 30 = .ok (.istore 4, 2) := by decide +kernel
theorem dX0_chooseDigits_32 : decode cX0_chooseDigits 32 = .ok (.iload 4, 2) := by decide +kernel
theorem dX0_chooseDigits_34 : decode cX0_chooseDigits 34 = .ok (.iconst 3, 1) := by decide +kernel
theorem dX0_chooseDigits_35 : decode cX0_chooseDigits 35 = .ok (.if_icmp .ge 50, 3) := by decide +kernel
theorem dX0_chooseDigits_38 : decode cX0_chooseDigits 38 = .ok (.iload 4, 2) := by decide +kernel
theorem dX0_chooseDigits_40 : decode cX0_chooseDigits 40 = .ok (.iload_n 2, 1) := by decide +kernel
theorem dX0_chooseDigits_41 : decode cX0_chooseDigits 41 = .ok (.invokestatic 180, 3) := by decide +kernel
theorem dX0_chooseDigits_44 : decode cX0_chooseDigits 44 = .ok (.istore 5, 2) := by decide +kernel
theorem dX0_chooseDigits_46 : decode cX0_chooseDigits 46 = .ok (.iload 5, 2) := by decide +kernel
theorem dX0_chooseDigits_48 : decode cX0_chooseDigits 48 = .ok (.ifCond .lt 31, 3) := by decide +kernel
theorem dX0_chooseDigits_51 : decode cX0_chooseDigits 51 = .ok (.aload_n 0, 1) := by decide +kernel
theorem dX0_chooseDigits_52 : decode cX0_chooseDigits 52 = .ok (.iload_n 1, 1) := by decide +kernel
theorem dX0_chooseDigits_53 : decode cX0_chooseDigits 53 = .ok (.iload 4, 2) := by decide +kernel
theorem dX0_chooseDigits_55 : decode cX0_chooseDigits 55 = .ok (.invokevirtual 183, 3) := by decide +kernel
theorem dX0_chooseDigits_58 : decode cX0_chooseDigits 58 = .ok (.aload_n 0, 1) := by decide +kernel
theorem dX0_chooseDigits_59 : decode cX0_chooseDigits 59 = .ok (.iload_n 1, 1) := by decide +kernel
theorem dX0_chooseDigits_60 : decode cX0_chooseDigits 60 = .ok (.iconst 1, 1) := by decide +kernel
theorem dX0_chooseDigits_61 : decode cX0_chooseDigits 61 = .ok (.iadd, 1) := by decide +kernel
theorem dX0_chooseDigits_62 : decode cX0_chooseDigits 62 = .ok (.iload 5, 2) := by decide +kernel
theorem dX0_chooseDigits_64 : decode cX0_chooseDigits 64 = .ok (.bipush 10, 2) := by decide +kernel
theorem dX0_chooseDigits_66 : decode cX0_chooseDigits 66 = .ok (.iload_n 3, 1) := by decide +kernel
theorem dX0_chooseDigits_67 : decode cX0_chooseDigits 67 = .ok (.imul, 1) := by decide +kernel
theorem dX0_chooseDigits_68 : decode cX0_chooseDigits 68 = .ok (.iload 4, 2) := by decide +kernel
theorem dX0_chooseDigits_70 : decode cX0_chooseDigits 70 = .ok (.iadd, 1) := by decide +kernel
theorem dX0_chooseDigits_71 : decode cX0_chooseDigits 71 = .ok (.invokevirtual 154, 3) := by decide +kernel
theorem dX0_chooseDigits_74 : decode cX0_chooseDigits 74 = .ok (.ifCond .eq 5, 3) := by decide +kernel
theorem dX0_chooseDigits_77 : decode cX0_chooseDigits 77 = .ok (.iconst 1, 1) := by decide +kernel
theorem dX0_chooseDigits_78 : decode cX0_chooseDigits 78 = .ok (.ireturn, 1) := by decide +kernel
theorem dX0_chooseDigits_79 : decode cX0_chooseDigits 79 = .ok (.iinc 4 1, 3) := by decide +kernel
theorem dX0_chooseDigits_82 : decode cX0_chooseDigits 82 = .ok (.goto (-50), 3) := by decide +kernel
theorem dX0_chooseDigits_85 : decode cX0_chooseDigits 85 = .ok (.iconst 0, 1) := by decide +kernel
theorem dX0_chooseDigits_86 : decode cX0_chooseDigits 86 = .ok (.ireturn, 1) := by decide +kernel
theorem dX0_coffeesBehind_0 : decode cX0_coffeesBehind 0 = .ok (.iload_n 0, 1) := by decide +kernel
theorem dX0_coffeesBehind_1 : decode cX0_coffeesBehind 1 = .ok (.iconst 2, 1) := by decide +kernel
theorem dX0_coffeesBehind_2 : decode cX0_coffeesBehind 2 = .ok (.if_icmp .ne 9, 3) := by decide +kernel
theorem dX0_coffeesBehind_5 : decode cX0_coffeesBehind 5 = .ok (.iload_n 1, 1) := by decide +kernel
theorem dX0_coffeesBehind_6 : decode cX0_coffeesBehind 6 = .ok (.iconst 1, 1) := by decide +kernel
theorem dX0_coffeesBehind_7 : decode cX0_coffeesBehind 7 = .ok (.isub, 1) := by decide +kernel
theorem dX0_coffeesBehind_8 : decode cX0_coffeesBehind 8 = .ok (.goto 4, 3) := by decide +kernel
theorem dX0_coffeesBehind_11 : decode cX0_coffeesBehind 11 = .ok (.iload_n 1, 1) := by decide +kernel
theorem dX0_coffeesBehind_12 : decode cX0_coffeesBehind 12 = .ok (.ireturn, 1) := by decide +kernel
theorem dX0_sayOne_0 : decode cX0_sayOne 0 = .ok (.iload_n 1, 1) := by decide +kernel
theorem dX0_sayOne_1 : decode cX0_sayOne 1 = .ok (.iconst 4, 1) := by decide +kernel
theorem dX0_sayOne_2 : decode cX0_sayOne 2 = .ok (.imul, 1) := by decide +kernel
theorem dX0_sayOne_3 : decode cX0_sayOne 3 = .ok (.istore_n 3, 1) := by decide +kernel
theorem dX0_sayOne_4 : decode cX0_sayOne 4 = .ok (.iload_n 1, 1) := by decide +kernel
theorem dX0_sayOne_5 : decode cX0_sayOne 5 = .ok (.iconst 3, 1) := by decide +kernel
theorem dX0_sayOne_6 : decode cX0_sayOne 6 = .ok (.imul, 1) := by decide +kernel
theorem dX0_sayOne_7 : decode cX0_sayOne 7 = .ok (.iload_n 2, 1) := by decide +kernel
theorem dX0_sayOne_8 : decode cX0_sayOne 8 = .ok (.iadd, 1) := by decide +kernel
theorem dX0_sayOne_9 : decode cX0_sayOne 9 = .ok (.iconst 4, 1) := by decide +kernel
theorem dX0_sayOne_10 : decode cX0_sayOne 10 = .ok (.imul, 1) := by decide +kernel
theorem dX0_sayOne_11 : decode cX0_sayOne 11 = .ok (.istore 4, 2) := by decide +kernel
theorem dX0_sayOne_13 : decode cX0_sayOne 13 = .ok (.iconst 0, 1) := by decide +kernel
theorem dX0_sayOne_14 : decode cX0_sayOne 14 = .ok (.istore 5, 2) := by decide +kernel
theorem dX0_sayOne_16 : decode cX0_sayOne 16 = .ok (.iload 5, 2) := by decide +kernel
theorem dX0_sayOne_18 : decode cX0_sayOne 18 = .ok (.aload_n 0, 1) := by decide +kernel
theorem dX0_sayOne_19 : decode cX0_sayOne 19 = .ok (.getfield 41, 3) := by decide +kernel
theorem dX0_sayOne_22 : decode cX0_sayOne 22 = .ok (.invokevirtual 68, 3) := by decide +kernel
theorem dX0_sayOne_25 : decode cX0_sayOne 25 = .ok (.if_icmp .ge 46, 3) := by decide +kernel
theorem dX0_sayOne_28 : decode cX0_sayOne 28 = .ok (.aload_n 0, 1) := by decide +kernel
theorem dX0_sayOne_29 : decode cX0_sayOne 29 = .ok (.getfield 35, 3) := by decide +kernel
theorem dX0_sayOne_32 : decode cX0_sayOne 32 = .ok (.iload_n 3, 1) := by decide +kernel
theorem dX0_sayOne_33 : decode cX0_sayOne 33 = .ok (.iload 5, 2) := by decide +kernel
theorem dX0_sayOne_35 : decode cX0_sayOne 35 = .ok (.iadd, 1) := by decide +kernel
theorem dX0_sayOne_36 : decode cX0_sayOne 36 = .ok (.iaload, 1) := by decide +kernel
theorem dX0_sayOne_37 : decode cX0_sayOne 37 = .ok (.aload_n 0, 1) := by decide +kernel
theorem dX0_sayOne_38 : decode cX0_sayOne 38 = .ok (.getfield 32, 3) := by decide +kernel
theorem dX0_sayOne_41 : decode cX0_sayOne 41 = .ok (.iload 4, 2) := by decide +kernel
theorem dX0_sayOne_43 : decode cX0_sayOne 43 = .ok (.iload 5, 2) := by decide +kernel
theorem dX0_sayOne_45 : decode cX0_sayOne 45 = .ok (.iadd, 1) := by decide +kernel
theorem dX0_sayOne_46 : decode cX0_sayOne 46 = .ok (.iaload, 1) := by decide +kernel
theorem dX0_sayOne_47 : decode cX0_sayOne 47 = .ok (.invokestatic 174, 3) := by decide +kernel
theorem dX0_sayOne_50 : decode cX0_sayOne 50 = .ok (.istore 6, 2) := by decide +kernel
theorem dX0_sayOne_52 : decode cX0_sayOne 52 = .ok (.aload_n 0, 1) := by decide +kernel
theorem dX0_sayOne_53 : decode cX0_sayOne 53 = .ok (.getfield 35, 3) := by decide +kernel
theorem dX0_sayOne_56 : decode cX0_sayOne 56 = .ok (.iload_n 3, 1) := by decide +kernel
theorem dX0_sayOne_57 : decode cX0_sayOne 57 = .ok (.iconst 4, 1) := by decide +kernel
theorem dX0_sayOne_58 : decode cX0_sayOne 58 = .ok (.iadd, 1) := by decide +kernel
theorem dX0_sayOne_59 : decode cX0_sayOne 59 = .ok (.iload 5, 2) := by decide +kernel
theorem dX0_sayOne_61 : decode cX0_sayOne 61 = .ok (.iadd, 1) := by decide +kernel
theorem dX0_sayOne_62 : decode cX0_sayOne 62 = .ok (.iload 6, 2) := by decide +kernel
theorem dX0_sayOne_64 : decode cX0_sayOne 64 = .ok (.iastore, 1) := by decide +kernel
theorem dX0_sayOne_65 : decode cX0_sayOne 65 = .ok (.iinc 5 1, 3) := by decide +kernel
theorem dX0_sayOne_68 : decode cX0_sayOne 68 = .ok (.goto (-52), 3) := by decide +kernel
theorem dX0_sayOne_71 : decode cX0_sayOne 71 = .ok (.return_, 1) := by decide +kernel
theorem dX0_worthAtLeast_0 : decode cX0_worthAtLeast 0 = .ok (.iload_n 1, 1) := by decide +kernel
theorem dX0_worthAtLeast_1 : decode cX0_worthAtLeast 1 = .ok (.iconst 4, 1) := by decide +kernel
theorem dX0_worthAtLeast_2 : decode cX0_worthAtLeast 2 = .ok (.imul, 1) := by decide +kernel
theorem dX0_worthAtLeast_3 : decode cX0_worthAtLeast 3 = .ok (.istore_n 2, 1) := by decide +kernel
theorem dX0_worthAtLeast_4 : decode cX0_worthAtLeast 4 = .ok (.iconst 0, 1) := by decide +kernel
theorem dX0_worthAtLeast_5 : decode cX0_worthAtLeast 5 = .ok (.istore_n 3, 1) := by decide +kernel
theorem dX0_worthAtLeast_6 : decode cX0_worthAtLeast 6 = .ok (.iconst 0, 1) := by decide +kernel
theorem dX0_worthAtLeast_7 : decode cX0_worthAtLeast 7 = .ok (.istore 4, 2) := by decide +kernel
theorem dX0_worthAtLeast_9 : decode cX0_worthAtLeast 9 = .ok (.iload 4, 2) := by decide +kernel
theorem dX0_worthAtLeast_11 : decode cX0_worthAtLeast 11 = .ok (.aload_n 0, 1) := by decide +kernel
theorem dX0_worthAtLeast_12 : decode cX0_worthAtLeast 12 = .ok (.getfield 41, 3) := by decide +kernel
theorem dX0_worthAtLeast_15 : decode cX0_worthAtLeast 15 = .ok (.invokevirtual 68, 3) := by decide +kernel
theorem dX0_worthAtLeast_18 : decode cX0_worthAtLeast 18 = .ok (.if_icmp .ge 48, 3) := by decide +kernel
theorem dX0_worthAtLeast_21 : decode cX0_worthAtLeast 21 = .ok (.aload_n 0, 1) := by decide +kernel
theorem dX0_worthAtLeast_22 : decode cX0_worthAtLeast 22 = .ok (.getfield 35, 3) := by decide +kernel
theorem dX0_worthAtLeast_25 : decode cX0_worthAtLeast 25 = .ok (.iload_n 2, 1) := by decide +kernel
theorem dX0_worthAtLeast_26 : decode cX0_worthAtLeast 26 = .ok (.iload 4, 2) := by decide +kernel
theorem dX0_worthAtLeast_28 : decode cX0_worthAtLeast 28 = .ok (.iadd, 1) := by decide +kernel
theorem dX0_worthAtLeast_29 : decode cX0_worthAtLeast 29 = .ok (.iaload, 1) := by decide +kernel
theorem dX0_worthAtLeast_30 : decode cX0_worthAtLeast 30 = .ok (.aload_n 0, 1) := by decide +kernel
theorem dX0_worthAtLeast_31 : decode cX0_worthAtLeast 31 = .ok (.getfield 38, 3) := by decide +kernel
theorem dX0_worthAtLeast_34 : decode cX0_worthAtLeast 34 = .ok (.iload_n 2, 1) := by decide +kernel
theorem dX0_worthAtLeast_35 : decode cX0_worthAtLeast 35 = .ok (.iload 4, 2) := by decide +kernel
theorem dX0_worthAtLeast_37 : decode cX0_worthAtLeast 37 = .ok (.iadd, 1) := by decide +kernel
theorem dX0_worthAtLeast_38 : decode cX0_worthAtLeast 38 = .ok (.iaload, 1) := by decide +kernel
theorem dX0_worthAtLeast_39 : decode cX0_worthAtLeast 39 = .ok (.invokestatic 174, 3) := by decide +kernel
theorem dX0_worthAtLeast_42 : decode cX0_worthAtLeast 42 = .ok (.istore 5, 2) := by decide +kernel
theorem dX0_worthAtLeast_44 : decode cX0_worthAtLeast 44 = .ok (.iload_n 3, 1) := by decide +kernel
theorem dX0_worthAtLeast_45 : decode cX0_worthAtLeast 45 = .ok (.aload_n 0, 1) := by decide +kernel
theorem dX0_worthAtLeast_46 : decode cX0_worthAtLeast 46 = .ok (.getfield 41, 3) := by decide +kernel
theorem dX0_worthAtLeast_49 : decode cX0_worthAtLeast 49 = .ok (.iload 4, 2) := by decide +kernel
theorem dX0_worthAtLeast_51 : decode cX0_worthAtLeast 51 = .ok (.iconst 0, 1) := by decide +kernel
theorem dX0_worthAtLeast_52 : decode cX0_worthAtLeast 52 = .ok (.invokevirtual 71, 3) := by decide +kernel
theorem dX0_worthAtLeast_55 : decode cX0_worthAtLeast 55 = .ok (.iload 5, 2) := by decide +kernel
theorem dX0_worthAtLeast_57 : decode cX0_worthAtLeast 57 = .ok (.imul, 1) := by decide +kernel
theorem dX0_worthAtLeast_58 : decode cX0_worthAtLeast 58 = .ok (.iadd, 1) := by decide +kernel
theorem dX0_worthAtLeast_59 : decode cX0_worthAtLeast 59 = .ok (.istore_n 3, 1) := by decide +kernel
theorem dX0_worthAtLeast_60 : decode cX0_worthAtLeast 60 = .ok (.iinc 4 1, 3) := by decide +kernel
theorem dX0_worthAtLeast_63 : decode cX0_worthAtLeast 63 = .ok (.goto (-54), 3) := by decide +kernel
theorem dX0_worthAtLeast_66 : decode cX0_worthAtLeast 66 = .ok (.iload_n 3, 1) := by decide +kernel
theorem dX0_worthAtLeast_67 : decode cX0_worthAtLeast 67 = .ok (.ireturn, 1) := by decide +kernel
theorem dX1_init_0 : decode cX1_init 0 = .ok (.aload_n 0, 1) := by decide +kernel
theorem dX1_init_1 : decode cX1_init 1 = .ok (.invokespecial 3, 3) := by decide +kernel
theorem dX1_init_4 : decode cX1_init 4 = .ok (.aload_n 0, 1) := by decide +kernel
theorem dX1_init_5 : decode cX1_init 5 = .ok (.iconst 4, 1) := by decide +kernel
theorem dX1_init_6 : decode cX1_init 6 = .ok (.newarray .int, 2) := by decide +kernel
theorem dX1_init_8 : decode cX1_init 8 = .ok (.putfield 11, 3) := by decide +kernel
theorem dX1_init_11 : decode cX1_init 11 = .ok (.aload_n 0, 1) := by decide +kernel
theorem dX1_init_12 : decode cX1_init 12 = .ok (.bipush 54, 2) := by decide +kernel
theorem dX1_init_14 : decode cX1_init 14 = .ok (.newarray .int, 2) := by decide +kernel
theorem dX1_init_16 : decode cX1_init 16 = .ok (.putfield 15, 3) := by decide +kernel
theorem dX1_init_19 : decode cX1_init 19 = .ok (.aload_n 0, 1) := by decide +kernel
theorem dX1_init_20 : decode cX1_init 20 = .ok (.bipush 16, 2) := by decide +kernel
theorem dX1_init_22 : decode cX1_init 22 = .ok (.newarray .int, 2) := by decide +kernel
theorem dX1_init_24 : decode cX1_init 24 = .ok (.putfield 18, 3) := by decide +kernel
theorem dX1_init_27 : decode cX1_init 27 = .ok (.return_, 1) := by decide +kernel
theorem dX1_sleepers_0 : decode cX1_sleepers 0 = .ok (.aload_n 0, 1) := by decide +kernel
theorem dX1_sleepers_1 : decode cX1_sleepers 1 = .ok (.getfield 21, 3) := by decide +kernel
theorem dX1_sleepers_4 : decode cX1_sleepers 4 = .ok (.ireturn, 1) := by decide +kernel
theorem dX1_officers_0 : decode cX1_officers 0 = .ok (.aload_n 0, 1) := by decide +kernel
theorem dX1_officers_1 : decode cX1_officers 1 = .ok (.getfield 25, 3) := by decide +kernel
theorem dX1_officers_4 : decode cX1_officers 4 = .ok (.ireturn, 1) := by decide +kernel
theorem dX1_papers_0 : decode cX1_papers 0 = .ok (.aload_n 0, 1) := by decide +kernel
theorem dX1_papers_1 : decode cX1_papers 1 = .ok (.getfield 28, 3) := by decide +kernel
theorem dX1_papers_4 : decode cX1_papers 4 = .ok (.ireturn, 1) := by decide +kernel
theorem dX1_hasSleeper_0 : decode cX1_hasSleeper 0 = .ok (.iload_n 1, 1) := by decide +kernel
theorem dX1_hasSleeper_1 : decode cX1_hasSleeper 1 = .ok (.ifCond .lt 15, 3) := by decide +kernel
theorem dX1_hasSleeper_4 : decode cX1_hasSleeper 4 = .ok (.iload_n 1, 1) := by decide +kernel
theorem dX1_hasSleeper_5 : decode cX1_hasSleeper 5 = .ok (.aload_n 0, 1) := by decide +kernel
theorem dX1_hasSleeper_6 : decode cX1_hasSleeper 6 = .ok (.getfield 21, 3) := by decide +kernel
theorem dX1_hasSleeper_9 : decode cX1_hasSleeper 9 = .ok (.if_icmp .ge 7, 3) := by decide +kernel
theorem dX1_hasSleeper_12 : decode cX1_hasSleeper 12 = .ok (.iconst 1, 1) := by decide +kernel
theorem dX1_hasSleeper_13 : decode cX1_hasSleeper 13 = .ok (.goto 4, 3) := by decide +kernel
theorem dX1_hasSleeper_16 : decode cX1_hasSleeper 16 = .ok (.iconst 0, 1) := by decide +kernel
theorem dX1_hasSleeper_17 : decode cX1_hasSleeper 17 = .ok (.ireturn, 1) := by decide +kernel
theorem dX1_hasOfficer_0 : decode cX1_hasOfficer 0 = .ok (.iload_n 1, 1) := by decide +kernel
theorem dX1_hasOfficer_1 : decode cX1_hasOfficer 1 = .ok (.ifCond .lt 15, 3) := by decide +kernel
theorem dX1_hasOfficer_4 : decode cX1_hasOfficer 4 = .ok (.iload_n 1, 1) := by decide +kernel
theorem dX1_hasOfficer_5 : decode cX1_hasOfficer 5 = .ok (.aload_n 0, 1) := by decide +kernel
theorem dX1_hasOfficer_6 : decode cX1_hasOfficer 6 = .ok (.getfield 25, 3) := by decide +kernel
theorem dX1_hasOfficer_9 : decode cX1_hasOfficer 9 = .ok (.if_icmp .ge 7, 3) := by decide +kernel
theorem dX1_hasOfficer_12 : decode cX1_hasOfficer 12 = .ok (.iconst 1, 1) := by decide +kernel
theorem dX1_hasOfficer_13 : decode cX1_hasOfficer 13 = .ok (.goto 4, 3) := by decide +kernel
theorem dX1_hasOfficer_16 : decode cX1_hasOfficer 16 = .ok (.iconst 0, 1) := by decide +kernel
theorem dX1_hasOfficer_17 : decode cX1_hasOfficer 17 = .ok (.ireturn, 1) := by decide +kernel
theorem dX1_ruleOf_0 : decode cX1_ruleOf 0 = .ok (.aload_n 0, 1) := by decide +kernel
theorem dX1_ruleOf_1 : decode cX1_ruleOf 1 = .ok (.getfield 11, 3) := by decide +kernel
theorem dX1_ruleOf_4 : decode cX1_ruleOf 4 = .ok (.iload_n 1, 1) := by decide +kernel
theorem dX1_ruleOf_5 : decode cX1_ruleOf 5 = .ok (.iaload, 1) := by decide +kernel
theorem dX1_ruleOf_6 : decode cX1_ruleOf 6 = .ok (.ireturn, 1) := by decide +kernel
theorem dX1_allowedTens_0 : decode cX1_allowedTens 0 = .ok (.bipush 6, 2) := by decide +kernel
theorem dX1_allowedTens_2 : decode cX1_allowedTens 2 = .ok (.aload_n 0, 1) := by decide +kernel
theorem dX1_allowedTens_3 : decode cX1_allowedTens 3 = .ok (.getfield 11, 3) := by decide +kernel
theorem dX1_allowedTens_6 : decode cX1_allowedTens 6 = .ok (.iconst 0, 1) := by decide +kernel
theorem dX1_allowedTens_7 : decode cX1_allowedTens 7 = .ok (.iaload, 1) := by decide +kernel
theorem dX1_allowedTens_8 : decode cX1_allowedTens 8 = .ok (.imul, 1) := by decide +kernel
theorem dX1_allowedTens_9 : decode cX1_allowedTens 9 = .ok (.ireturn, 1) := by decide +kernel
theorem dX1_ofSleeper_0 : decode cX1_ofSleeper 0 = .ok (.aload_n 0, 1) := by decide +kernel
theorem dX1_ofSleeper_1 : decode cX1_ofSleeper 1 = .ok (.getfield 15, 3) := by decide +kernel
theorem dX1_ofSleeper_4 : decode cX1_ofSleeper 4 = .ok (.iload_n 1, 1) := by decide +kernel
theorem dX1_ofSleeper_5 : decode cX1_ofSleeper 5 = .ok (.bipush 6, 2) := by decide +kernel
theorem dX1_ofSleeper_7 : decode cX1_ofSleeper 7 = .ok (.imul, 1) := by decide +kernel
theorem dX1_ofSleeper_8 : decode cX1_ofSleeper 8 = .ok (.iload_n 2, 1) := by decide +kernel
theorem dX1_ofSleeper_9 : decode cX1_ofSleeper 9 = .ok (.iadd, 1) := by decide +kernel
theorem dX1_ofSleeper_10 : decode cX1_ofSleeper 10 = .ok (.iaload, 1) := by decide +kernel
theorem dX1_ofSleeper_11 : decode cX1_ofSleeper 11 = .ok (.ireturn, 1) := by decide +kernel
theorem dX1_ofOfficer_0 : decode cX1_ofOfficer 0 = .ok (.aload_n 0, 1) := by decide +kernel
theorem dX1_ofOfficer_1 : decode cX1_ofOfficer 1 = .ok (.getfield 18, 3) := by decide +kernel
theorem dX1_ofOfficer_4 : decode cX1_ofOfficer 4 = .ok (.iload_n 1, 1) := by decide +kernel
theorem dX1_ofOfficer_5 : decode cX1_ofOfficer 5 = .ok (.iconst 4, 1) := by decide +kernel
theorem dX1_ofOfficer_6 : decode cX1_ofOfficer 6 = .ok (.imul, 1) := by decide +kernel
theorem dX1_ofOfficer_7 : decode cX1_ofOfficer 7 = .ok (.iload_n 2, 1) := by decide +kernel
theorem dX1_ofOfficer_8 : decode cX1_ofOfficer 8 = .ok (.iadd, 1) := by decide +kernel
theorem dX1_ofOfficer_9 : decode cX1_ofOfficer 9 = .ok (.iaload, 1) := by decide +kernel
theorem dX1_ofOfficer_10 : decode cX1_ofOfficer 10 = .ok (.ireturn, 1) := by decide +kernel
theorem dX1_hasPaper_0 : decode cX1_hasPaper 0 = .ok (.aload_n 0, 1) := by decide +kernel
theorem dX1_hasPaper_1 : decode cX1_hasPaper 1 = .ok (.iload_n 1, 1) := by decide +kernel
theorem dX1_hasPaper_2 : decode cX1_hasPaper 2 = .ok (.invokevirtual 31, 3) := by decide +kernel
theorem dX1_hasPaper_5 : decode cX1_hasPaper 5 = .ok (.ifCond .eq 16, 3) := by decide +kernel
theorem dX1_hasPaper_8 : decode cX1_hasPaper 8 = .ok (.aload_n 0, 1) := by decide +kernel
theorem dX1_hasPaper_9 : decode cX1_hasPaper 9 = .ok (.iload_n 1, 1) := by decide +kernel
theorem dX1_hasPaper_10 : decode cX1_hasPaper 10 = .ok (.iconst 5, 1) := by decide +kernel
theorem dX1_hasPaper_11 : decode cX1_hasPaper 11 = .ok (.invokevirtual 35, 3) := by decide +kernel
theorem dX1_hasPaper_14 : decode cX1_hasPaper 14 = .ok (.ifCond .ne 7, 3) := by decide +kernel
theorem dX1_hasPaper_17 : decode cX1_hasPaper 17 = .ok (.iconst 1, 1) := by decide +kernel
theorem dX1_hasPaper_18 : decode cX1_hasPaper 18 = .ok (.goto 4, 3) := by decide +kernel
theorem dX1_hasPaper_21 : decode cX1_hasPaper 21 = .ok (.iconst 0, 1) := by decide +kernel
theorem dX1_hasPaper_22 : decode cX1_hasPaper 22 = .ok (.ireturn, 1) := by decide +kernel
theorem dX1_isLacking_0 : decode cX1_isLacking 0 = .ok (.aload_n 0, 1) := by decide +kernel
theorem dX1_isLacking_1 : decode cX1_isLacking 1 = .ok (.iload_n 1, 1) := by decide +kernel
theorem dX1_isLacking_2 : decode cX1_isLacking 2 = .ok (.invokevirtual 39, 3) := by decide +kernel
theorem dX1_isLacking_5 : decode cX1_isLacking 5 = .ok (.ifCond .eq 16, 3) := by decide +kernel
theorem dX1_isLacking_8 : decode cX1_isLacking 8 = .ok (.aload_n 0, 1) := by decide +kernel
theorem dX1_isLacking_9 : decode cX1_isLacking 9 = .ok (.iload_n 1, 1) := by decide +kernel
theorem dX1_isLacking_10 : decode cX1_isLacking 10 = .ok (.iconst 1, 1) := by decide +kernel
theorem dX1_isLacking_11 : decode cX1_isLacking 11 = .ok (.invokevirtual 35, 3) := by decide +kernel
theorem dX1_isLacking_14 : decode cX1_isLacking 14 = .ok (.ifCond .le 7, 3) := by decide +kernel
theorem dX1_isLacking_17 : decode cX1_isLacking 17 = .ok (.iconst 1, 1) := by decide +kernel
theorem dX1_isLacking_18 : decode cX1_isLacking 18 = .ok (.goto 4, 3) := by decide +kernel
theorem dX1_isLacking_21 : decode cX1_isLacking 21 = .ok (.iconst 0, 1) := by decide +kernel
theorem dX1_isLacking_22 : decode cX1_isLacking 22 = .ok (.ireturn, 1) := by decide +kernel
theorem dX1_looksAtFaces_0 : decode cX1_looksAtFaces 0 = .ok (.aload_n 0, 1) := by decide +kernel
theorem dX1_looksAtFaces_1 : decode cX1_looksAtFaces 1 = .ok (.iload_n 1, 1) := by decide +kernel
theorem dX1_looksAtFaces_2 : decode cX1_looksAtFaces 2 = .ok (.iconst 1, 1) := by decide +kernel
theorem dX1_looksAtFaces_3 : decode cX1_looksAtFaces 3 = .ok (.invokevirtual 42, 3) := by decide +kernel
theorem dX1_looksAtFaces_6 : decode cX1_looksAtFaces 6 = .ok (.iconst 1, 1) := by decide +kernel
theorem dX1_looksAtFaces_7 : decode cX1_looksAtFaces 7 = .ok (.if_icmp .ne 7, 3) := by decide +kernel
theorem dX1_looksAtFaces_10 : decode cX1_looksAtFaces 10 = .ok (.iconst 1, 1) := by decide +kernel
theorem dX1_looksAtFaces_11 : decode cX1_looksAtFaces 11 = .ok (.goto 4, 3) := by decide +kernel
theorem dX1_looksAtFaces_14 : decode cX1_looksAtFaces 14 = .ok (.iconst 0, 1) := by decide +kernel
theorem dX1_looksAtFaces_15 : decode cX1_looksAtFaces 15 = .ok (.ireturn, 1) := by decide +kernel
theorem dX1_allWeights_0 : decode cX1_allWeights 0 = .ok (.iconst 0, 1) := by decide +kernel
theorem dX1_allWeights_1 : decode cX1_allWeights 1 = .ok (.istore_n 1, 1) := by decide +kernel
theorem dX1_allWeights_2 : decode cX1_allWeights 2 = .ok (.iconst 0, 1) := by decide +kernel
theorem dX1_allWeights_3 : decode cX1_allWeights 3 = .ok (.istore_n 2, 1) := by decide +kernel
theorem dX1_allWeights_4 : decode cX1_allWeights 4 = .ok (.iload_n 2, 1) := by decide +kernel
theorem dX1_allWeights_5 : decode cX1_allWeights 5 = .ok (.aload_n 0, 1) := by decide +kernel
theorem dX1_allWeights_6 : decode cX1_allWeights 6 = .ok (.getfield 25, 3) := by decide +kernel
theorem dX1_allWeights_9 : decode cX1_allWeights 9 = .ok (.if_icmp .ge 18, 3) := by decide +kernel
theorem dX1_allWeights_12 : decode cX1_allWeights 12 = .ok (.iload_n 1, 1) := by decide +kernel
theorem dX1_allWeights_13 : decode cX1_allWeights 13 = .ok (.aload_n 0, 1) := by decide +kernel
theorem dX1_allWeights_14 : decode cX1_allWeights 14 = .ok (.iload_n 2, 1) := by decide +kernel
theorem dX1_allWeights_15 : decode cX1_allWeights 15 = .ok (.iconst 0, 1) := by decide +kernel
theorem dX1_allWeights_16 : decode cX1_allWeights 16 = .ok (.invokevirtual 42, 3) := by decide +kernel
theorem dX1_allWeights_19 : decode cX1_allWeights 19 = .ok (.iadd, 1) := by decide +kernel
theorem dX1_allWeights_20 : decode cX1_allWeights 20 = .ok (.istore_n 1, 1) := by decide +kernel
theorem dX1_allWeights_21 : decode cX1_allWeights 21 = .ok (.iinc 2 1, 3) := by decide +kernel
theorem dX1_allWeights_24 : decode cX1_allWeights 24 = .ok (.goto (-20), 3) := by decide +kernel
theorem dX1_allWeights_27 : decode cX1_allWeights 27 = .ok (.iload_n 1, 1) := by decide +kernel
theorem dX1_allWeights_28 : decode cX1_allWeights 28 = .ok (.ireturn, 1) := by decide +kernel
theorem dX1_copyFrom_0 : decode cX1_copyFrom 0 = .ok (.aload_n 1, 1) := by decide +kernel
theorem dX1_copyFrom_1 : decode cX1_copyFrom 1 = .ok (.getfield 11, 3) := by decide +kernel
theorem dX1_copyFrom_4 : decode cX1_copyFrom 4 = .ok (.iconst 0, 1) := by decide +kernel
theorem dX1_copyFrom_5 : decode cX1_copyFrom 5 = .ok (.aload_n 0, 1) := by decide +kernel
theorem dX1_copyFrom_6 : decode cX1_copyFrom 6 = .ok (.getfield 11, 3) := by decide +kernel
theorem dX1_copyFrom_9 : decode cX1_copyFrom 9 = .ok (.iconst 0, 1) := by decide +kernel
theorem dX1_copyFrom_10 : decode cX1_copyFrom 10 = .ok (.aload_n 0, 1) := by decide +kernel
theorem dX1_copyFrom_11 : decode cX1_copyFrom 11 = .ok (.getfield 11, 3) := by decide +kernel
theorem dX1_copyFrom_14 : decode cX1_copyFrom 14 = .ok (.arraylength, 1) := by decide +kernel
theorem dX1_copyFrom_15 : decode cX1_copyFrom 15 = .ok (.invokestatic 45, 3) := by decide +kernel
theorem dX1_copyFrom_18 : decode cX1_copyFrom 18 = .ok (.aload_n 1, 1) := by decide +kernel
theorem dX1_copyFrom_19 : decode cX1_copyFrom 19 = .ok (.getfield 15, 3) := by decide +kernel
theorem dX1_copyFrom_22 : decode cX1_copyFrom 22 = .ok (.iconst 0, 1) := by decide +kernel
theorem dX1_copyFrom_23 : decode cX1_copyFrom 23 = .ok (.aload_n 0, 1) := by decide +kernel
theorem dX1_copyFrom_24 : decode cX1_copyFrom 24 = .ok (.getfield 15, 3) := by decide +kernel
theorem dX1_copyFrom_27 : decode cX1_copyFrom 27 = .ok (.iconst 0, 1) := by decide +kernel
theorem dX1_copyFrom_28 : decode cX1_copyFrom 28 = .ok (.aload_n 0, 1) := by decide +kernel
theorem dX1_copyFrom_29 : decode cX1_copyFrom 29 = .ok (.getfield 15, 3) := by decide +kernel
theorem dX1_copyFrom_32 : decode cX1_copyFrom 32 = .ok (.arraylength, 1) := by decide +kernel
theorem dX1_copyFrom_33 : decode cX1_copyFrom 33 = .ok (.invokestatic 45, 3) := by decide +kernel
theorem dX1_copyFrom_36 : decode cX1_copyFrom 36 = .ok (.aload_n 1, 1) := by decide +kernel
theorem dX1_copyFrom_37 : decode cX1_copyFrom 37 = .ok (.getfield 18, 3) := by decide +kernel
theorem dX1_copyFrom_40 : decode cX1_copyFrom 40 = .ok (.iconst 0, 1) := by decide +kernel
theorem dX1_copyFrom_41 : decode cX1_copyFrom 41 = .ok (.aload_n 0, 1) := by decide +kernel
theorem dX1_copyFrom_42 : decode cX1_copyFrom 42 = .ok (.getfield 18, 3) := by decide +kernel
theorem dX1_copyFrom_45 : decode cX1_copyFrom 45 = .ok (.iconst 0, 1) := by decide +kernel
theorem dX1_copyFrom_46 : decode cX1_copyFrom 46 = .ok (.aload_n 0, 1) := by decide +kernel
theorem dX1_copyFrom_47 : decode cX1_copyFrom 47 = .ok (.getfield 18, 3) := by decide +kernel
theorem dX1_copyFrom_50 : decode cX1_copyFrom 50 = .ok (.arraylength, 1) := by decide +kernel
theorem dX1_copyFrom_51 : decode cX1_copyFrom 51 = .ok (.invokestatic 45, 3) := by decide +kernel
theorem dX1_copyFrom_54 : decode cX1_copyFrom 54 = .ok (.aload_n 0, 1) := by decide +kernel
theorem dX1_copyFrom_55 : decode cX1_copyFrom 55 = .ok (.aload_n 1, 1) := by decide +kernel
theorem dX1_copyFrom_56 : decode cX1_copyFrom 56 = .ok (.getfield 21, 3) := by decide +kernel
theorem dX1_copyFrom_59 : decode cX1_copyFrom 59 = .ok (.putfield 21, 3) := by decide +kernel
theorem dX1_copyFrom_62 : decode cX1_copyFrom 62 = .ok (.aload_n 0, 1) := by decide +kernel
theorem dX1_copyFrom_63 : decode cX1_copyFrom 63 = .ok (.aload_n 1, 1) := by decide +kernel
theorem dX1_copyFrom_64 : decode cX1_copyFrom 64 = .ok (.getfield 25, 3) := by decide +kernel
theorem dX1_copyFrom_67 : decode cX1_copyFrom 67 = .ok (.putfield 25, 3) := by decide +kernel
theorem dX1_copyFrom_70 : decode cX1_copyFrom 70 = .ok (.aload_n 0, 1) := by decide +kernel
theorem dX1_copyFrom_71 : decode cX1_copyFrom 71 = .ok (.aload_n 1, 1) := by decide +kernel
theorem dX1_copyFrom_72 : decode cX1_copyFrom 72 = .ok (.getfield 28, 3) := by decide +kernel
theorem dX1_copyFrom_75 : decode cX1_copyFrom 75 = .ok (.putfield 28, 3) := by decide +kernel
theorem dX1_copyFrom_78 : decode cX1_copyFrom 78 = .ok (.return_, 1) := by decide +kernel
theorem dX1_read_0 : decode cX1_read 0 = .ok (.getstatic 51, 3) := by decide +kernel
theorem dX1_read_3 : decode cX1_read 3 = .ok (.iconst 0, 1) := by decide +kernel
theorem dX1_read_4 : decode cX1_read 4 = .ok (.aload_n 0, 1) := by decide +kernel
theorem dX1_read_5 : decode cX1_read 5 = .ok (.getfield 11, 3) := by decide +kernel
theorem dX1_read_8 : decode cX1_read 8 = .ok (.iconst 0, 1) := by decide +kernel
theorem dX1_read_9 : decode cX1_read 9 = .ok (.iconst 4, 1) := by decide +kernel
theorem dX1_read_10 : decode cX1_read 10 = .ok (.invokestatic 45, 3) := by decide +kernel
theorem dX1_read_13 : decode cX1_read 13 = .ok (.aload_n 0, 1) := by decide +kernel
theorem dX1_read_14 : decode cX1_read 14 = .ok (.iconst 0, 1) := by decide +kernel
theorem dX1_read_15 : decode cX1_read 15 = .ok (.putfield 21, 3) := by decide +kernel
theorem dX1_read_18 : decode cX1_read 18 = .ok (.aload_n 0, 1) := by decide +kernel
theorem dX1_read_19 : decode cX1_read 19 = .ok (.iconst 0, 1) := by decide +kernel
theorem dX1_read_20 : decode cX1_read 20 = .ok (.putfield 25, 3) := by decide +kernel
theorem dX1_read_23 : decode cX1_read 23 = .ok (.iconst 0, 1) := by decide +kernel
theorem dX1_read_24 : decode cX1_read 24 = .ok (.istore_n 2, 1) := by decide +kernel
theorem dX1_read_25 : decode cX1_read 25 = .ok (.aload_n 1, 1) := by decide +kernel
theorem dX1_read_26 : decode cX1_read 26 = .ok (.invokevirtual 54, 3) := by decide +kernel
theorem dX1_read_29 : decode cX1_read 29 = .ok (.iconst 0, 1) := by decide +kernel
theorem dX1_read_30 : decode cX1_read 30 = .ok (.istore_n 3, 1) := by decide +kernel
theorem dX1_read_31 : decode cX1_read 31 = .ok (.iload_n 3, 1) := by decide +kernel
theorem dX1_read_32 : decode cX1_read 32 = .ok (.sipush 240, 3) := by decide +kernel
theorem dX1_read_35 : decode cX1_read 35 = .ok (.if_icmp .gt 92, 3) := by decide +kernel
theorem dX1_read_38 : decode cX1_read 38 = .ok (.aload_n 1, 1) := by decide +kernel
theorem dX1_read_39 : decode cX1_read 39 = .ok (.invokevirtual 59, 3) := by decide +kernel
theorem dX1_read_42 : decode cX1_read 42 = .ok (.istore 4, 2) := by decide +kernel
theorem dX1_read_44 : decode cX1_read 44 = .ok (.aload_n 0, 1) := by decide +kernel
theorem dX1_read_45 : decode cX1_read 45 = .ok (.aload_n 1, 1) := by decide +kernel
theorem dX1_read_46 : decode cX1_read 46 = .ok (.iload 4, 2) := by decide +kernel
theorem dX1_read_48 : decode cX1_read 48 = .ok (.iload_n 2, 1) := by decide +kernel
theorem dX1_read_49 : decode cX1_read 49 = .ok (.invokevirtual 63, 3) := by decide +kernel
theorem dX1_read_52 : decode cX1_read 52 = .ok (.ifCond .ne 5, 3) := by decide +kernel
theorem dX1_read_55 : decode cX1_read 55 = .ok (.iconst 0, 1) := by decide +kernel
theorem dX1_read_56 : decode cX1_read 56 = .ok (.ireturn, 1) := by decide +kernel
theorem dX1_read_57 : decode cX1_read 57 = .ok (.iload_n 2, 1) := by decide +kernel
theorem dX1_read_58 : decode cX1_read 58 = .ok (.ifCond .ne 10, 3) := by decide +kernel
theorem dX1_read_61 : decode cX1_read 61 = .ok (.iload 4, 2) := by decide +kernel
theorem dX1_read_63 : decode cX1_read 63 = .ok (.bipush 115, 2) := by decide +kernel
theorem dX1_read_65 : decode cX1_read 65 = .ok (.if_icmp .ne 7, 3) := by decide +kernel
theorem dX1_read_68 : decode cX1_read 68 = .ok (.iconst 1, 1) := by decide +kernel
theorem dX1_read_69 : decode cX1_read 69 = .ok (.goto 4, 3) := by decide +kernel
theorem dX1_read_72 : decode cX1_read 72 = .ok (.iconst 0, 1) := by decide +kernel
theorem dX1_read_73 : decode cX1_read 73 = .ok (.istore_n 2, 1) := by decide +kernel
theorem dX1_read_74 : decode cX1_read 74 = .ok (.aload_n 1, 1) := by decide +kernel
theorem dX1_read_75 : decode cX1_read 75 = .ok (.invokevirtual 59, 3) := by decide +kernel
theorem dX1_read_78 : decode cX1_read 78 = .ok (.iconst (-1), 1) := by decide +kernel
theorem dX1_read_79 : decode cX1_read 79 = .ok (.if_icmp .ne 31, 3) := by decide +kernel
theorem dX1_read_82 : decode cX1_read 82 = .ok (.aload_n 0, 1) := by decide +kernel
theorem dX1_read_83 : decode cX1_read 83 = .ok (.aload_n 0, 1) := by decide +kernel
theorem dX1_read_84 : decode cX1_read 84 = .ok (.invokevirtual 67, 3) := by decide +kernel
theorem dX1_read_87 : decode cX1_read 87 = .ok (.putfield 28, 3) := by decide +kernel
theorem dX1_read_90 : decode cX1_read 90 = .ok (.aload_n 0, 1) := by decide +kernel
theorem dX1_read_91 : decode cX1_read 91 = .ok (.getfield 28, 3) := by decide +kernel
theorem dX1_read_94 : decode cX1_read 94 = .ok (.ifCond .le 14, 3) := by decide +kernel
theorem dX1_read_97 : decode cX1_read 97 = .ok (.aload_n 0, 1) := by decide +kernel
theorem dX1_read_98 : decode cX1_read 98 = .ok (.getfield 25, 3) := by decide +kernel
theorem dX1_read_101 : decode cX1_read 101 = .ok (.ifCond .le 7, 3) := by decide +kernel
theorem dX1_read_104 : decode cX1_read 104 = .ok (.iconst 1, 1) := by decide +kernel
theorem dX1_read_105 : decode cX1_read 105 = .ok (.goto 4, 3) := by decide +kernel
theorem dX1_read_108 : decode cX1_read 108 = .ok (.iconst 0, 1) := by decide +kernel
theorem dX1_read_109 : decode cX1_read 109 = .ok (.ireturn, 1) := by decide +kernel
theorem dX1_read_110 : decode cX1_read 110 = .ok (.aload_n 1, 1) := by decide +kernel
theorem dX1_read_111 : decode cX1_read 111 = .ok (.bipush 59, 2) := by decide +kernel
theorem dX1_read_113 : decode cX1_read 113 = .ok (.invokevirtual 70, 3) := by decide +kernel
theorem dX1_read_116 : decode cX1_read 116 = .ok (.ifCond .ne 5, 3) := by decide +kernel
theorem dX1_read_119 : decode cX1_read 119 = .ok (.iconst 0, 1) := by decide +kernel
theorem dX1_read_120 : decode cX1_read 120 = .ok (.ireturn, 1) := by decide +kernel
theorem dX1_read_121 : decode cX1_read 121 = .ok (.iinc 3 1, 3) := by decide +kernel
theorem dX1_read_124 : decode cX1_read 124 = .ok (.goto (-93), 3) := by decide +kernel
theorem dX1_read_127 : decode cX1_read 127 = .ok (.iconst 0, 1) := by decide +kernel
theorem dX1_read_128 : decode cX1_read 128 = .ok (.ireturn, 1) := by decide +kernel
theorem dX1_readClause_0 : decode cX1_readClause 0 = .ok (.iload_n 2, 1) := by decide +kernel
theorem dX1_readClause_1 : decode cX1_readClause 1 = .ok (.bipush 115, 2) := by decide +kernel
theorem dX1_readClause_3 : decode cX1_readClause 3 = .ok (.if_icmp .ne 23, 3) := by decide +kernel
theorem dX1_readClause_6 : decode cX1_readClause 6 = .ok (.iload_n 3, 1) := by decide +kernel
theorem dX1_readClause_7 : decode cX1_readClause 7 = .ok (.ifCond .ne 19, 3) := by decide +kernel
theorem dX1_readClause_10 : decode cX1_readClause 10 = .ok (.aload_n 1, 1) := by decide +kernel
theorem dX1_readClause_11 : decode cX1_readClause 11 = .ok (.invokevirtual 73, 3) := by decide +kernel
theorem dX1_readClause_14 : decode cX1_readClause 14 = .ok (.aload_n 1, 1) := by decide +kernel
theorem dX1_readClause_15 : decode cX1_readClause 15 = .ok (.aload_n 0, 1) := by decide +kernel
theorem dX1_readClause_16 : decode cX1_readClause 16 = .ok (.getfield 11, 3) := by decide +kernel
theorem dX1_readClause_19 : decode cX1_readClause 19 = .ok (.iconst 0, 1) := by decide +kernel
theorem dX1_readClause_20 : decode cX1_readClause 20 = .ok (.iconst 0, 1) := by decide +kernel
theorem dX1_readClause_21 : decode cX1_readClause 21 = .ok (.iconst 4, 1) := by decide +kernel
theorem dX1_readClause_22 : decode cX1_readClause 22 = .ok (.invokestatic 76, 3) := by decide +kernel
theorem dX1_readClause_25 : decode cX1_readClause 25 = .ok (.ireturn, 1) := by decide +kernel
theorem dX1_readClause_26 : decode cX1_readClause 26 = .ok (.iload_n 2, 1) := by decide +kernel
theorem dX1_readClause_27 : decode cX1_readClause 27 = .ok (.bipush 112, 2) := by decide +kernel
theorem dX1_readClause_29 : decode cX1_readClause 29 = .ok (.if_icmp .ne 47, 3) := by decide +kernel
theorem dX1_readClause_32 : decode cX1_readClause 32 = .ok (.aload_n 0, 1) := by decide +kernel
theorem dX1_readClause_33 : decode cX1_readClause 33 = .ok (.getfield 21, 3) := by decide +kernel
theorem dX1_readClause_36 : decode cX1_readClause 36 = .ok (.bipush 9, 2) := by decide +kernel
theorem dX1_readClause_38 : decode cX1_readClause 38 = .ok (.if_icmp .ge 38, 3) := by decide +kernel
theorem dX1_readClause_41 : decode cX1_readClause 41 = .ok (.aload_n 1, 1) := by decide +kernel
theorem dX1_readClause_42 : decode cX1_readClause 42 = .ok (.invokevirtual 73, 3) := by decide +kernel
theorem dX1_readClause_45 : decode cX1_readClause 45 = .ok (.aload_n 0, 1) := by decide +kernel
theorem dX1_readClause_46 : decode cX1_readClause 46 = .ok (.dup, 1) := by decide +kernel
theorem dX1_readClause_47 : decode cX1_readClause 47 = .ok (.getfield 21, 3) := by decide +kernel
theorem dX1_readClause_50 : decode cX1_readClause 50 = .ok (.iconst 1, 1) := by decide +kernel
theorem dX1_readClause_51 : decode cX1_readClause 51 = .ok (.iadd, 1) := by decide +kernel
theorem dX1_readClause_52 : decode cX1_readClause 52 = .ok (.putfield 21, 3) := by decide +kernel
theorem dX1_readClause_55 : decode cX1_readClause 55 = .ok (.aload_n 1, 1) := by decide +kernel
theorem dX1_readClause_56 : decode cX1_readClause 56 = .ok (.aload_n 0, 1) := by decide +kernel
theorem dX1_readClause_57 : decode cX1_readClause 57 = .ok (.getfield 15, 3) := by decide +kernel
theorem dX1_readClause_60 : decode cX1_readClause 60 = .ok (.aload_n 0, 1) := by decide +kernel
theorem dX1_readClause_61 : decode cX1_readClause 61 = .ok (.getfield 21, 3) := by decide +kernel
theorem dX1_readClause_64 : decode cX1_readClause 64 = .ok (.iconst 1, 1) := by decide +kernel
theorem dX1_readClause_65 : decode cX1_readClause 65 = .ok (.isub, 1) := by decide +kernel
theorem dX1_readClause_66 : decode cX1_readClause 66 = .ok (.bipush 6, 2) := by decide +kernel
theorem dX1_readClause_68 : decode cX1_readClause 68 = .ok (.imul, 1) := by decide +kernel
theorem dX1_readClause_69 : decode cX1_readClause 69 = .ok (.iconst 4, 1) := by decide +kernel
theorem dX1_readClause_70 : decode cX1_readClause 70 = .ok (.bipush 6, 2) := by decide +kernel
theorem dX1_readClause_72 : decode cX1_readClause 72 = .ok (.invokestatic 76, 3) := by decide +kernel
theorem dX1_readClause_75 : decode cX1_readClause 75 = .ok (.ireturn, 1) := by decide +kernel
theorem dX1_readClause_76 : decode cX1_readClause 76 = .ok (.iload_n 2, 1) := by decide +kernel
theorem dX1_readClause_77 : decode cX1_readClause 77 = .ok (.bipush 111, 2) := by decide +kernel
theorem dX1_readClause_79 : decode cX1_readClause 79 = .ok (.if_icmp .ne 45, 3) := by decide +kernel
theorem dX1_readClause_82 : decode cX1_readClause 82 = .ok (.aload_n 0, 1) := by decide +kernel
theorem dX1_readClause_83 : decode cX1_readClause 83 = .ok (.getfield 25, 3) := by decide +kernel
theorem dX1_readClause_86 : decode cX1_readClause 86 = .ok (.iconst 4, 1) := by decide +kernel
theorem dX1_readClause_87 : decode cX1_readClause 87 = .ok (.if_icmp .ge 37, 3) := by decide +kernel
theorem dX1_readClause_90 : decode cX1_readClause 90 = .ok (.aload_n 1, 1) := by decide +kernel
theorem dX1_readClause_91 : decode cX1_readClause 91 = .ok (.invokevirtual 73, 3) := by decide +kernel
theorem dX1_readClause_94 : decode cX1_readClause 94 = .ok (.aload_n 0, 1) := by decide +kernel
theorem dX1_readClause_95 : decode cX1_readClause 95 = .ok (.dup, 1) := by decide +kernel
theorem dX1_readClause_96 : decode cX1_readClause 96 = .ok (.getfield 25, 3) := by decide +kernel
theorem dX1_readClause_99 : decode cX1_readClause 99 = .ok (.iconst 1, 1) := by decide +kernel
theorem dX1_readClause_100 : decode cX1_readClause 100 = .ok (.iadd, 1) := by decide +kernel
theorem dX1_readClause_101 : decode cX1_readClause 101 = .ok (.putfield 25, 3) := by decide +kernel
theorem dX1_readClause_104 : decode cX1_readClause 104 = .ok (.aload_n 1, 1) := by decide +kernel
theorem dX1_readClause_105 : decode cX1_readClause 105 = .ok (.aload_n 0, 1) := by decide +kernel
theorem dX1_readClause_106 : decode cX1_readClause 106 = .ok (.getfield 18, 3) := by decide +kernel
theorem dX1_readClause_109 : decode cX1_readClause 109 = .ok (.aload_n 0, 1) := by decide +kernel
theorem dX1_readClause_110 : decode cX1_readClause 110 = .ok (.getfield 25, 3) := by decide +kernel
theorem dX1_readClause_113 : decode cX1_readClause 113 = .ok (.iconst 1, 1) := by decide +kernel
theorem dX1_readClause_114 : decode cX1_readClause 114 = .ok (.isub, 1) := by decide +kernel
theorem dX1_readClause_115 : decode cX1_readClause 115 = .ok (.iconst 4, 1) := by decide +kernel
theorem dX1_readClause_116 : decode cX1_readClause 116 = .ok (.imul, 1) := by decide +kernel
theorem dX1_readClause_117 : decode cX1_readClause 117 = .ok (.bipush 10, 2) := by decide +kernel
theorem dX1_readClause_119 : decode cX1_readClause 119 = .ok (.iconst 4, 1) := by decide +kernel
theorem dX1_readClause_120 : decode cX1_readClause 120 = .ok (.invokestatic 76, 3) := by decide +kernel
theorem dX1_readClause_123 : decode cX1_readClause 123 = .ok (.ireturn, 1) := by decide +kernel
theorem dX1_readClause_124 : decode cX1_readClause 124 = .ok (.iconst 0, 1) := by decide +kernel
theorem dX1_readClause_125 : decode cX1_readClause 125 = .ok (.ireturn, 1) := by decide +kernel
theorem dX1_readItems_0 : decode cX1_readItems 0 = .ok (.getstatic 51, 3) := by decide +kernel
theorem dX1_readItems_3 : decode cX1_readItems 3 = .ok (.iload_n 3, 1) := by decide +kernel
theorem dX1_readItems_4 : decode cX1_readItems 4 = .ok (.aload_n 1, 1) := by decide +kernel
theorem dX1_readItems_5 : decode cX1_readItems 5 = .ok (.iload_n 2, 1) := by decide +kernel
theorem dX1_readItems_6 : decode cX1_readItems 6 = .ok (.iload 4, 2) := by decide +kernel
theorem dX1_readItems_8 : decode cX1_readItems 8 = .ok (.invokestatic 45, 3) := by decide +kernel
theorem dX1_readItems_11 : decode cX1_readItems 11 = .ok (.iconst 0, 1) := by decide +kernel
theorem dX1_readItems_12 : decode cX1_readItems 12 = .ok (.istore 5, 2) := by decide +kernel
theorem dX1_readItems_14 : decode cX1_readItems 14 = .ok (.iconst 0, 1) := by decide +kernel
theorem dX1_readItems_15 : decode cX1_readItems 15 = .ok (.istore 6, 2) := by decide +kernel
theorem dX1_readItems_17 : decode cX1_readItems 17 = .ok (.iload 6, 2) := by decide +kernel
theorem dX1_readItems_19 : decode cX1_readItems 19 = .ok (.iload 4, 2) := by decide +kernel
theorem dX1_readItems_21 : decode cX1_readItems 21 = .ok (.if_icmp .gt 110, 3) := by decide +kernel
theorem dX1_readItems_24 : decode cX1_readItems 24 = .ok (.aload_n 0, 1) := by decide +kernel
theorem dX1_readItems_25 : decode cX1_readItems 25 = .ok (.invokevirtual 59, 3) := by decide +kernel
theorem dX1_readItems_28 : decode cX1_readItems 28 = .ok (.iload_n 3, 1) := by decide +kernel
theorem dX1_readItems_29 : decode cX1_readItems 29 = .ok (.iload 4, 2) := by decide +kernel
theorem dX1_readItems_31 : decode cX1_readItems 31 = .ok (.invokestatic 80, 3) := by decide +kernel
theorem dX1_readItems_34 : decode cX1_readItems 34 = .ok (.istore 7, 2) := by decide +kernel
theorem dX1_readItems_36 : decode cX1_readItems 36 = .ok (.iload 7, 2) := by decide +kernel
theorem dX1_readItems_38 : decode cX1_readItems 38 = .ok (.iconst (-1), 1) := by decide +kernel
theorem dX1_readItems_39 : decode cX1_readItems 39 = .ok (.if_icmp .ne 5, 3) := by decide +kernel
theorem dX1_readItems_42 : decode cX1_readItems 42 = .ok (.iconst 1, 1) := by decide +kernel
theorem dX1_readItems_43 : decode cX1_readItems 43 = .ok (.ireturn, 1) := by decide +kernel
theorem dX1_readItems_44 : decode cX1_readItems 44 = .ok (.iload 5, 2) := by decide +kernel
theorem dX1_readItems_46 : decode cX1_readItems 46 = .ok (.iload 7, 2) := by decide +kernel
theorem dX1_readItems_48 : decode cX1_readItems 48 = .ok (.ishr, 1) := by decide +kernel
theorem dX1_readItems_49 : decode cX1_readItems 49 = .ok (.iconst 1, 1) := by decide +kernel
theorem dX1_readItems_50 : decode cX1_readItems 50 = .ok (.iand, 1) := by decide +kernel
theorem dX1_readItems_51 : decode cX1_readItems 51 = .ok (.iconst 1, 1) := by decide +kernel
theorem dX1_readItems_52 : decode cX1_readItems 52 = .ok (.if_icmp .ne 5, 3) := by decide +kernel
theorem dX1_readItems_55 : decode cX1_readItems 55 = .ok (.iconst 0, 1) := by decide +kernel
theorem dX1_readItems_56 : decode cX1_readItems 56 = .ok (.ireturn, 1) := by decide +kernel
theorem dX1_readItems_57 : decode cX1_readItems 57 = .ok (.iload 5, 2) := by decide +kernel
theorem dX1_readItems_59 : decode cX1_readItems 59 = .ok (.iconst 1, 1) := by decide +kernel
theorem dX1_readItems_60 : decode cX1_readItems 60 = .ok (.iload 7, 2) := by decide +kernel
theorem dX1_readItems_62 : decode cX1_readItems 62 = .ok (.ishl, 1) := by decide +kernel
theorem dX1_readItems_63 : decode cX1_readItems 63 = .ok (.ior, 1) := by decide +kernel
theorem dX1_readItems_64 : decode cX1_readItems 64 = .ok (.istore 5, 2) := by decide +kernel
theorem dX1_readItems_66 : decode cX1_readItems 66 = .ok (.aload_n 0, 1) := by decide +kernel
theorem dX1_readItems_67 : decode cX1_readItems 67 = .ok (.invokevirtual 73, 3) := by decide +kernel
theorem dX1_readItems_70 : decode cX1_readItems 70 = .ok (.aload_n 0, 1) := by decide +kernel
theorem dX1_readItems_71 : decode cX1_readItems 71 = .ok (.iconst 2, 1) := by decide +kernel
theorem dX1_readItems_72 : decode cX1_readItems 72 = .ok (.invokevirtual 84, 3) := by decide +kernel
theorem dX1_readItems_75 : decode cX1_readItems 75 = .ok (.istore 8, 2) := by decide +kernel
theorem dX1_readItems_77 : decode cX1_readItems 77 = .ok (.iload 8, 2) := by decide +kernel
theorem dX1_readItems_79 : decode cX1_readItems 79 = .ok (.iconst (-1), 1) := by decide +kernel
theorem dX1_readItems_80 : decode cX1_readItems 80 = .ok (.if_icmp .ne 5, 3) := by decide +kernel
theorem dX1_readItems_83 : decode cX1_readItems 83 = .ok (.iconst 0, 1) := by decide +kernel
theorem dX1_readItems_84 : decode cX1_readItems 84 = .ok (.ireturn, 1) := by decide +kernel
theorem dX1_readItems_85 : decode cX1_readItems 85 = .ok (.iload 8, 2) := by decide +kernel
theorem dX1_readItems_87 : decode cX1_readItems 87 = .ok (.getstatic 88, 3) := by decide +kernel
theorem dX1_readItems_90 : decode cX1_readItems 90 = .ok (.iload_n 3, 1) := by decide +kernel
theorem dX1_readItems_91 : decode cX1_readItems 91 = .ok (.iload 7, 2) := by decide +kernel
theorem dX1_readItems_93 : decode cX1_readItems 93 = .ok (.iadd, 1) := by decide +kernel
theorem dX1_readItems_94 : decode cX1_readItems 94 = .ok (.iaload, 1) := by decide +kernel
theorem dX1_readItems_95 : decode cX1_readItems 95 = .ok (.if_icmp .lt 16, 3) := by decide +kernel
theorem dX1_readItems_98 : decode cX1_readItems 98 = .ok (.iload 8, 2) := by decide +kernel
theorem dX1_readItems_100 : decode cX1_readItems 100 = .ok (.getstatic 91, 3) := by decide +kernel
theorem dX1_readItems_103 : decode cX1_readItems 103 = .ok (.iload_n 3, 1) := by decide +kernel
theorem dX1_readItems_104 : decode cX1_readItems 104 = .ok (.iload 7, 2) := by decide +kernel
theorem dX1_readItems_106 : decode cX1_readItems 106 = .ok (.iadd, 1) := by decide +kernel
theorem dX1_readItems_107 : decode cX1_readItems 107 = .ok (.iaload, 1) := by decide +kernel
theorem dX1_readItems_108 : decode cX1_readItems 108 = .ok (.if_icmp .le 9, 3) := by decide +kernel
theorem dX1_readItems_111 : decode cX1_readItems 111 = .ok (.aload_n 0, 1) := by decide +kernel
theorem dX1_readItems_112 : decode cX1_readItems 112 = .ok (.invokevirtual 94, 3) := by decide +kernel
theorem dX1_readItems_115 : decode cX1_readItems 115 = .ok (.iconst 0, 1) := by decide +kernel
theorem dX1_readItems_116 : decode cX1_readItems 116 = .ok (.ireturn, 1) := by decide +kernel
theorem dX1_readItems_117 : decode cX1_readItems 117 = .ok (.aload_n 1, 1) := by decide +kernel
theorem dX1_readItems_118 : decode cX1_readItems 118 = .ok (.iload_n 2, 1) := by decide +kernel
theorem dX1_readItems_119 : decode cX1_readItems 119 = .ok (.iload 7, 2) := by decide +kernel
theorem dX1_readItems_121 : decode cX1_readItems 121 = .ok (.iadd, 1) := by decide +kernel
theorem dX1_readItems_122 : decode cX1_readItems 122 = .ok (.iload 8, 2) := by decide +kernel
theorem dX1_readItems_124 : decode cX1_readItems 124 = .ok (.iastore, 1) := by decide +kernel
theorem dX1_readItems_125 : decode cX1_readItems 125 = .ok (.iinc 6 1, 3) := by decide +kernel
theorem dX1_readItems_128 : decode cX1_readItems 128 = .ok (.goto (-111), 3) := by decide +kernel
theorem dX1_readItems_131 : decode cX1_readItems 131 = .ok (.iconst 0, 1) := by decide +kernel
theorem dX1_readItems_132 : decode cX1_readItems 132 = .ok (.ireturn, 1) := by decide +kernel
theorem dX1_itemOf_0 : decode cX1_itemOf 0 = .ok (.iconst 0, 1) := by decide +kernel
theorem dX1_itemOf_1 : decode cX1_itemOf 1 = .ok (.istore_n 3, 1) := by decide +kernel
theorem dX1_itemOf_2 : decode cX1_itemOf 2 = .ok (.iload_n 3, 1) := by decide +kernel
theorem dX1_itemOf_3 : decode cX1_itemOf 3 = .ok (.iload_n 2, 1) := by decide +kernel
theorem dX1_itemOf_4 : decode cX1_itemOf 4 = .ok (.if_icmp .ge 23, 3) := by decide +kernel
theorem dX1_itemOf_7 : decode cX1_itemOf 7 = .ok (.ldc 97, 2) := by decide +kernel
theorem dX1_itemOf_9 : decode cX1_itemOf 9 = .ok (.iload_n 1, 1) := by decide +kernel
theorem dX1_itemOf_10 : decode cX1_itemOf 10 = .ok (.iload_n 3, 1) := by decide +kernel
theorem dX1_itemOf_11 : decode cX1_itemOf 11 = .ok (.iadd, 1) := by decide +kernel
theorem dX1_itemOf_12 : decode cX1_itemOf 12 = .ok (.invokevirtual 99, 3) := by decide +kernel
theorem dX1_itemOf_15 : decode cX1_itemOf 15 = .ok (.iload_n 0, 1) := by decide +kernel
theorem dX1_itemOf_16 : decode cX1_itemOf 16 = .ok (.if_icmp .ne 5, 3) := by decide +kernel
theorem dX1_itemOf_19 : decode cX1_itemOf 19 = .ok (.iload_n 3, 1) := by decide +kernel
theorem dX1_itemOf_20 : decode cX1_itemOf 20 = .ok (.ireturn, 1) := by decide +kernel
theorem dX1_itemOf_21 : decode cX1_itemOf 21 = .ok (.iinc 3 1, 3) := by decide +kernel
theorem dX1_itemOf_24 : decode cX1_itemOf 24 = .ok (.goto (-22), 3) := by decide +kernel
theorem dX1_itemOf_27 : decode cX1_itemOf 27 = .ok (.iconst (-1), 1) := by decide +kernel
theorem dX1_itemOf_28 : decode cX1_itemOf 28 = .ok (.ireturn, 1) := by decide +kernel
theorem dX1_countPapers_0 : decode cX1_countPapers 0 = .ok (.iconst 0, 1) := by decide +kernel
theorem dX1_countPapers_1 : decode cX1_countPapers 1 = .ok (.istore_n 1, 1) := by decide +kernel
theorem dX1_countPapers_2 : decode cX1_countPapers 2 = .ok (.iconst 0, 1) := by decide +kernel
theorem dX1_countPapers_3 : decode cX1_countPapers 3 = .ok (.istore_n 2, 1) := by decide +kernel
theorem dX1_countPapers_4 : decode cX1_countPapers 4 = .ok (.iload_n 2, 1) := by decide +kernel
theorem dX1_countPapers_5 : decode cX1_countPapers 5 = .ok (.aload_n 0, 1) := by decide +kernel
theorem dX1_countPapers_6 : decode cX1_countPapers 6 = .ok (.getfield 21, 3) := by decide +kernel
theorem dX1_countPapers_9 : decode cX1_countPapers 9 = .ok (.if_icmp .ge 20, 3) := by decide +kernel
theorem dX1_countPapers_12 : decode cX1_countPapers 12 = .ok (.aload_n 0, 1) := by decide +kernel
theorem dX1_countPapers_13 : decode cX1_countPapers 13 = .ok (.iload_n 2, 1) := by decide +kernel
theorem dX1_countPapers_14 : decode cX1_countPapers 14 = .ok (.invokevirtual 39, 3) := by decide +kernel
theorem dX1_countPapers_17 : decode cX1_countPapers 17 = .ok (.ifCond .eq 6, 3) := by decide +kernel
theorem dX1_countPapers_20 : decode cX1_countPapers 20 = .ok (.iinc 1 1, 3) := by decide +kernel
theorem dX1_countPapers_23 : decode cX1_countPapers 23 = .ok (.iinc 2 1, 3) := by decide +kernel
theorem dX1_countPapers_26 : decode cX1_countPapers 26 = .ok (.goto (-22), 3) := by decide +kernel
theorem dX1_countPapers_29 : decode cX1_countPapers 29 = .ok (.iload_n 1, 1) := by decide +kernel
theorem dX1_countPapers_30 : decode cX1_countPapers 30 = .ok (.ireturn, 1) := by decide +kernel
