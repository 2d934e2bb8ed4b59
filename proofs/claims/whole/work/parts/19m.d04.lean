theorem dX11_init_0 : decode cX11_init 0 = .ok (.aload_n 0, 1) := by decide +kernel
theorem dX11_init_1 : decode cX11_init 1 = .ok (.invokespecial 1, 3) := by decide +kernel
theorem dX11_init_4 : decode cX11_init 4 = .ok (.aload_n 0, 1) := by decide +kernel
theorem dX11_init_5 : decode cX11_init 5 = .ok (.new 7, 3) := by decide +kernel
theorem dX11_init_8 : decode cX11_init 8 = .ok (.dup, 1) := by decide +kernel
theorem dX11_init_9 : decode cX11_init 9 = .ok (.invokespecial 9, 3) := by decide +kernel
theorem dX11_init_12 : decode cX11_init 12 = .ok (.putfield 10, 3) := by decide +kernel
theorem dX11_init_15 : decode cX11_init 15 = .ok (.aload_n 0, 1) := by decide +kernel
theorem dX11_init_16 : decode cX11_init 16 = .ok (.new 16, 3) := by decide +kernel
theorem dX11_init_19 : decode cX11_init 19 = .ok (.dup, 1) := by decide +kernel
theorem dX11_init_20 : decode cX11_init 20 = .ok (.invokespecial 18, 3) := by decide +kernel
theorem dX11_init_23 : decode cX11_init 23 = .ok (.putfield 19, 3) := by decide +kernel
theorem dX11_init_26 : decode cX11_init 26 = .ok (.aload_n 0, 1) := by decide +kernel
theorem dX11_init_27 : decode cX11_init 27 = .ok (.new 23, 3) := by decide +kernel
theorem dX11_init_30 : decode cX11_init 30 = .ok (.dup, 1) := by decide +kernel
theorem dX11_init_31 : decode cX11_init 31 = .ok (.invokespecial 25, 3) := by decide +kernel
theorem dX11_init_34 : decode cX11_init 34 = .ok (.putfield 26, 3) := by decide +kernel
theorem dX11_init_37 : decode cX11_init 37 = .ok (.aload_n 0, 1) := by decide +kernel
theorem dX11_init_38 : decode cX11_init 38 = .ok (.new 23, 3) := by decide +kernel
theorem dX11_init_41 : decode cX11_init 41 = .ok (.dup, 1) := by decide +kernel
theorem dX11_init_42 : decode cX11_init 42 = .ok (.invokespecial 25, 3) := by decide +kernel
theorem dX11_init_45 : decode cX11_init 45 = .ok (.putfield 30, 3) := by decide +kernel
theorem dX11_init_48 : decode cX11_init 48 = .ok (.aload_n 0, 1) := by decide +kernel
theorem dX11_init_49 : decode cX11_init 49 = .ok (.new 33, 3) := by decide +kernel
theorem dX11_init_52 : decode cX11_init 52 = .ok (.dup, 1) := by decide +kernel
theorem dX11_init_53 : decode cX11_init 53 = .ok (.invokespecial 35, 3) := by decide +kernel
theorem dX11_init_56 : decode cX11_init 56 = .ok (.putfield 36, 3) := by decide +kernel
theorem dX11_init_59 : decode cX11_init 59 = .ok (.aload_n 0, 1) := by decide +kernel
theorem dX11_init_60 : decode cX11_init 60 = .ok (.new 33, 3) := by decide +kernel
theorem dX11_init_63 : decode cX11_init 63 = .ok (.dup, 1) := by decide +kernel
theorem dX11_init_64 : decode cX11_init 64 = .ok (.invokespecial 35, 3) := by decide +kernel
theorem dX11_init_67 : decode cX11_init 67 = .ok (.putfield 40, 3) := by decide +kernel
theorem dX11_init_70 : decode cX11_init 70 = .ok (.aload_n 0, 1) := by decide +kernel
theorem dX11_init_71 : decode cX11_init 71 = .ok (.new 43, 3) := by decide +kernel
theorem dX11_init_74 : decode cX11_init 74 = .ok (.dup, 1) := by decide +kernel
theorem dX11_init_75 : decode cX11_init 75 = .ok (.aload_n 0, 1) := by decide +kernel
theorem dX11_init_76 : decode cX11_init 76 = .ok (.getfield 30, 3) := by decide +kernel
theorem dX11_init_79 : decode cX11_init 79 = .ok (.invokespecial 45, 3) := by decide +kernel
theorem dX11_init_82 : decode cX11_init 82 = .ok (.putfield 48, 3) := by decide +kernel
theorem dX11_init_85 : decode cX11_init 85 = .ok (.aload_n 0, 1) := by decide +kernel
theorem dX11_init_86 : decode cX11_init 86 = .ok (.new 52, 3) := by decide +kernel
theorem dX11_init_89 : decode cX11_init 89 = .ok (.dup, 1) := by decide +kernel
theorem dX11_init_90 : decode cX11_init 90 = .ok (.invokespecial 54, 3) := by decide +kernel
theorem dX11_init_93 : decode cX11_init 93 = .ok (.putfield 55, 3) := by decide +kernel
theorem dX11_init_96 : decode cX11_init 96 = .ok (.aload_n 0, 1) := by decide +kernel
theorem dX11_init_97 : decode cX11_init 97 = .ok (.new 59, 3) := by decide +kernel
theorem dX11_init_100 : decode cX11_init 100 = .ok (.dup, 1) := by decide +kernel
theorem dX11_init_101 : decode cX11_init 101 = .ok (.aload_n 0, 1) := by decide +kernel
theorem dX11_init_102 : decode cX11_init 102 = .ok (.getfield 30, 3) := by decide +kernel
theorem dX11_init_105 : decode cX11_init 105 = .ok (.aload_n 0, 1) := by decide +kernel
theorem dX11_init_106 : decode cX11_init 106 = .ok (.getfield 48, 3) := by decide +kernel
theorem dX11_init_109 : decode cX11_init 109 = .ok (.aload_n 0, 1) := by decide +kernel
theorem dX11_init_110 : decode cX11_init 110 = .ok (.getfield 36, 3) := by decide +kernel
theorem dX11_init_113 : decode cX11_init 113 = .ok (.invokespecial 61, 3) := by decide +kernel
theorem dX11_init_116 : decode cX11_init 116 = .ok (.putfield 64, 3) := by decide +kernel
theorem dX11_init_119 : decode cX11_init 119 = .ok (.aload_n 0, 1) := by decide +kernel
theorem dX11_init_120 : decode cX11_init 120 = .ok (.new 68, 3) := by decide +kernel
theorem dX11_init_123 : decode cX11_init 123 = .ok (.dup, 1) := by decide +kernel
theorem dX11_init_124 : decode cX11_init 124 = .ok (.aload_n 0, 1) := by decide +kernel
theorem dX11_init_125 : decode cX11_init 125 = .ok (.getfield 30, 3) := by decide +kernel
theorem dX11_init_128 : decode cX11_init 128 = .ok (.aload_n 0, 1) := by decide +kernel
theorem dX11_init_129 : decode cX11_init 129 = .ok (.getfield 48, 3) := by decide +kernel
theorem dX11_init_132 : decode cX11_init 132 = .ok (.aload_n 0, 1) := by decide +kernel
theorem dX11_init_133 : decode cX11_init 133 = .ok (.getfield 36, 3) := by decide +kernel
theorem dX11_init_136 : decode cX11_init 136 = .ok (.invokespecial 70, 3) := by decide +kernel
theorem dX11_init_139 : decode cX11_init 139 = .ok (.putfield 71, 3) := by decide +kernel
theorem dX11_init_142 : decode cX11_init 142 = .ok (.aload_n 0, 1) := by decide +kernel
theorem dX11_init_143 : decode cX11_init 143 = .ok (.new 75, 3) := by decide +kernel
theorem dX11_init_146 : decode cX11_init 146 = .ok (.dup, 1) := by decide +kernel
theorem dX11_init_147 : decode cX11_init 147 = .ok (.aload_n 0, 1) := by decide +kernel
theorem dX11_init_148 : decode cX11_init 148 = .ok (.getfield 30, 3) := by decide +kernel
theorem dX11_init_151 : decode cX11_init 151 = .ok (.aload_n 0, 1) := by decide +kernel
theorem dX11_init_152 : decode cX11_init 152 = .ok (.getfield 48, 3) := by decide +kernel
theorem dX11_init_155 : decode cX11_init 155 = .ok (.aload_n 0, 1) := by decide +kernel
theorem dX11_init_156 : decode cX11_init 156 = .ok (.getfield 36, 3) := by decide +kernel
theorem dX11_init_159 : decode cX11_init 159 = .ok (.invokespecial 77, 3) := by decide +kernel
theorem dX11_init_162 : decode cX11_init 162 = .ok (.putfield 78, 3) := by decide +kernel
theorem dX11_init_165 : decode cX11_init 165 = .ok (.aload_n 0, 1) := by decide +kernel
theorem dX11_init_166 : decode cX11_init 166 = .ok (.bipush 50, 2) := by decide +kernel
theorem dX11_init_168 : decode cX11_init 168 = .ok (.putfield 82, 3) := by decide +kernel
theorem dX11_init_171 : decode cX11_init 171 = .ok (.aload_n 0, 1) := by decide +kernel
theorem dX11_init_172 : decode cX11_init 172 = .ok (.iconst (-1), 1) := by decide +kernel
theorem dX11_init_173 : decode cX11_init 173 = .ok (.putfield 86, 3) := by decide +kernel
theorem dX11_init_176 : decode cX11_init 176 = .ok (.return_, 1) := by decide +kernel
theorem dX11_feed_0 : decode cX11_feed 0 = .ok (.iload_n 1, 1) := by decide +kernel
theorem dX11_feed_1 : decode cX11_feed 1 = .ok (.invokestatic 89, 3) := by decide +kernel
theorem dX11_feed_4 : decode cX11_feed 4 = .ok (.iload_n 2, 1) := by decide +kernel
theorem dX11_feed_5 : decode cX11_feed 5 = .ok (.invokestatic 89, 3) := by decide +kernel
theorem dX11_feed_8 : decode cX11_feed 8 = .ok (.iadd, 1) := by decide +kernel
theorem dX11_feed_9 : decode cX11_feed 9 = .ok (.iload_n 3, 1) := by decide +kernel
theorem dX11_feed_10 : decode cX11_feed 10 = .ok (.invokestatic 89, 3) := by decide +kernel
theorem dX11_feed_13 : decode cX11_feed 13 = .ok (.iadd, 1) := by decide +kernel
theorem dX11_feed_14 : decode cX11_feed 14 = .ok (.iload 4, 2) := by decide +kernel
theorem dX11_feed_16 : decode cX11_feed 16 = .ok (.invokestatic 89, 3) := by decide +kernel
theorem dX11_feed_19 : decode cX11_feed 19 = .ok (.iadd, 1) := by decide +kernel
theorem dX11_feed_20 : decode cX11_feed 20 = .ok (.iload 5, 2) := by decide +kernel
theorem dX11_feed_22 : decode cX11_feed 22 = .ok (.invokestatic 89, 3) := by decide +kernel
theorem dX11_feed_25 : decode cX11_feed 25 = .ok (.iadd, 1) := by decide +kernel
theorem dX11_feed_26 : decode cX11_feed 26 = .ok (.istore 6, 2) := by decide +kernel
theorem dX11_feed_28 : decode cX11_feed 28 = .ok (.aload_n 0, 1) := by decide +kernel
theorem dX11_feed_29 : decode cX11_feed 29 = .ok (.getfield 10, 3) := by decide +kernel
theorem dX11_feed_32 : decode cX11_feed 32 = .ok (.invokevirtual 93, 3) := by decide +kernel
theorem dX11_feed_35 : decode cX11_feed 35 = .ok (.iload 6, 2) := by decide +kernel
theorem dX11_feed_37 : decode cX11_feed 37 = .ok (.iadd, 1) := by decide +kernel
theorem dX11_feed_38 : decode cX11_feed 38 = .ok (.sipush 240, 3) := by decide +kernel
theorem dX11_feed_41 : decode cX11_feed 41 = .ok (.if_icmp .le 5, 3) := by decide +kernel
theorem dX11_feed_44 : decode cX11_feed 44 = .ok (.iconst (-1), 1) := by decide +kernel
theorem dX11_feed_45 : decode cX11_feed 45 = .ok (.ireturn, 1) := by decide +kernel
theorem dX11_feed_46 : decode cX11_feed 46 = .ok (.aload_n 0, 1) := by decide +kernel
theorem dX11_feed_47 : decode cX11_feed 47 = .ok (.getfield 10, 3) := by decide +kernel
theorem dX11_feed_50 : decode cX11_feed 50 = .ok (.iload_n 1, 1) := by decide +kernel
theorem dX11_feed_51 : decode cX11_feed 51 = .ok (.invokevirtual 97, 3) := by decide +kernel
theorem dX11_feed_54 : decode cX11_feed 54 = .ok (.aload_n 0, 1) := by decide +kernel
theorem dX11_feed_55 : decode cX11_feed 55 = .ok (.getfield 10, 3) := by decide +kernel
theorem dX11_feed_58 : decode cX11_feed 58 = .ok (.iload_n 2, 1) := by decide +kernel
theorem dX11_feed_59 : decode cX11_feed 59 = .ok (.invokevirtual 97, 3) := by decide +kernel
theorem dX11_feed_62 : decode cX11_feed 62 = .ok (.aload_n 0, 1) := by decide +kernel
theorem dX11_feed_63 : decode cX11_feed 63 = .ok (.getfield 10, 3) := by decide +kernel
theorem dX11_feed_66 : decode cX11_feed 66 = .ok (.iload_n 3, 1) := by decide +kernel
theorem dX11_feed_67 : decode cX11_feed 67 = .ok (.invokevirtual 97, 3) := by decide +kernel
theorem dX11_feed_70 : decode cX11_feed 70 = .ok (.aload_n 0, 1) := by decide +kernel
theorem dX11_feed_71 : decode cX11_feed 71 = .ok (.getfield 10, 3) := by decide +kernel
theorem dX11_feed_74 : decode cX11_feed 74 = .ok (.iload 4, 2) := by decide +kernel
theorem dX11_feed_76 : decode cX11_feed 76 = .ok (.invokevirtual 97, 3) := by decide +kernel
theorem dX11_feed_79 : decode cX11_feed 79 = .ok (.aload_n 0, 1) := by decide +kernel
theorem dX11_feed_80 : decode cX11_feed 80 = .ok (.getfield 10, 3) := by decide +kernel
theorem dX11_feed_83 : decode cX11_feed 83 = .ok (.iload 5, 2) := by decide +kernel
theorem dX11_feed_85 : decode cX11_feed 85 = .ok (.invokevirtual 97, 3) := by decide +kernel
theorem dX11_feed_88 : decode cX11_feed 88 = .ok (.aload_n 0, 1) := by decide +kernel
theorem dX11_feed_89 : decode cX11_feed 89 = .ok (.getfield 10, 3) := by decide +kernel
theorem dX11_feed_92 : decode cX11_feed 92 = .ok (.invokevirtual 93, 3) := by decide +kernel
theorem dX11_feed_95 : decode cX11_feed 95 = .ok (.ireturn, 1) := by decide +kernel
theorem dX11_end_0 : decode cX11_end 0 = .ok (.iload_n 1, 1) := by decide +kernel
theorem dX11_end_1 : decode cX11_end 1 = .ok (.ifCond .lt 14, 3) := by decide +kernel
theorem dX11_end_4 : decode cX11_end 4 = .ok (.iload_n 1, 1) := by decide +kernel
theorem dX11_end_5 : decode cX11_end 5 = .ok (.aload_n 0, 1) := by decide +kernel
theorem dX11_end_6 : decode cX11_end 6 = .ok (.getfield 10, 3) := by decide +kernel
theorem dX11_end_9 : decode cX11_end 9 = .ok (.invokevirtual 93, 3) := by decide +kernel
theorem dX11_end_12 : decode cX11_end 12 = .ok (.if_icmp .le 5, 3) := by decide +kernel
theorem dX11_end_15 : decode cX11_end 15 = .ok (.iconst 0, 1) := by decide +kernel
theorem dX11_end_16 : decode cX11_end 16 = .ok (.ireturn, 1) := by decide +kernel
theorem dX11_end_17 : decode cX11_end 17 = .ok (.aload_n 0, 1) := by decide +kernel
theorem dX11_end_18 : decode cX11_end 18 = .ok (.getfield 10, 3) := by decide +kernel
theorem dX11_end_21 : decode cX11_end 21 = .ok (.iload_n 1, 1) := by decide +kernel
theorem dX11_end_22 : decode cX11_end 22 = .ok (.invokevirtual 101, 3) := by decide +kernel
theorem dX11_end_25 : decode cX11_end 25 = .ok (.iconst 1, 1) := by decide +kernel
theorem dX11_end_26 : decode cX11_end 26 = .ok (.ireturn, 1) := by decide +kernel
theorem dX11_fault_0 : decode cX11_fault 0 = .ok (.iload_n 1, 1) := by decide +kernel
theorem dX11_fault_1 : decode cX11_fault 1 = .ok (.ifCond .lt 8, 3) := by decide +kernel
theorem dX11_fault_4 : decode cX11_fault 4 = .ok (.iload_n 1, 1) := by decide +kernel
theorem dX11_fault_5 : decode cX11_fault 5 = .ok (.iconst 2, 1) := by decide +kernel
theorem dX11_fault_6 : decode cX11_fault 6 = .ok (.if_icmp .le 6, 3) := by decide +kernel
theorem dX11_fault_9 : decode cX11_fault 9 = .ok (.bipush (-2), 2) := by decide +kernel
theorem dX11_fault_11 : decode cX11_fault 11 = .ok (.ireturn, 1) := by decide +kernel
theorem dX11_fault_12 : decode cX11_fault 12 = .ok (.aload_n 0, 1) := by decide +kernel
theorem dX11_fault_13 : decode cX11_fault 13 = .ok (.iload_n 1, 1) := by decide +kernel
theorem dX11_fault_14 : decode cX11_fault 14 = .ok (.invokevirtual 104, 3) := by decide +kernel
theorem dX11_fault_17 : decode cX11_fault 17 = .ok (.ifCond .eq 7, 3) := by decide +kernel
theorem dX11_fault_20 : decode cX11_fault 20 = .ok (.iconst (-1), 1) := by decide +kernel
theorem dX11_fault_21 : decode cX11_fault 21 = .ok (.goto 10, 3) := by decide +kernel
theorem dX11_fault_24 : decode cX11_fault 24 = .ok (.aload_n 0, 1) := by decide +kernel
theorem dX11_fault_25 : decode cX11_fault 25 = .ok (.getfield 10, 3) := by decide +kernel
theorem dX11_fault_28 : decode cX11_fault 28 = .ok (.invokevirtual 108, 3) := by decide +kernel
theorem dX11_fault_31 : decode cX11_fault 31 = .ok (.ireturn, 1) := by decide +kernel
theorem dX11_text_0 : decode cX11_text 0 = .ok (.iload_n 1, 1) := by decide +kernel
theorem dX11_text_1 : decode cX11_text 1 = .ok (.ifCond .lt 16, 3) := by decide +kernel
theorem dX11_text_4 : decode cX11_text 4 = .ok (.iload_n 1, 1) := by decide +kernel
theorem dX11_text_5 : decode cX11_text 5 = .ok (.iconst 2, 1) := by decide +kernel
theorem dX11_text_6 : decode cX11_text 6 = .ok (.if_icmp .gt 11, 3) := by decide +kernel
theorem dX11_text_9 : decode cX11_text 9 = .ok (.aload_n 0, 1) := by decide +kernel
theorem dX11_text_10 : decode cX11_text 10 = .ok (.iload_n 1, 1) := by decide +kernel
theorem dX11_text_11 : decode cX11_text 11 = .ok (.invokevirtual 104, 3) := by decide +kernel
theorem dX11_text_14 : decode cX11_text 14 = .ok (.ifCond .ne 5, 3) := by decide +kernel
theorem dX11_text_17 : decode cX11_text 17 = .ok (.iconst (-1), 1) := by decide +kernel
theorem dX11_text_18 : decode cX11_text 18 = .ok (.ireturn, 1) := by decide +kernel
theorem dX11_text_19 : decode cX11_text 19 = .ok (.iload_n 1, 1) := by decide +kernel
theorem dX11_text_20 : decode cX11_text 20 = .ok (.ifCond .ne 11, 3) := by decide +kernel
theorem dX11_text_23 : decode cX11_text 23 = .ok (.aload_n 0, 1) := by decide +kernel
theorem dX11_text_24 : decode cX11_text 24 = .ok (.invokevirtual 111, 3) := by decide +kernel
theorem dX11_text_27 : decode cX11_text 27 = .ok (.istore_n 2, 1) := by decide +kernel
theorem dX11_text_28 : decode cX11_text 28 = .ok (.goto 26, 3) := by decide +kernel
theorem dX11_text_31 : decode cX11_text 31 = .ok (.iload_n 1, 1) := by decide +kernel
theorem dX11_text_32 : decode cX11_text 32 = .ok (.iconst 1, 1) := by decide +kernel
theorem dX11_text_33 : decode cX11_text 33 = .ok (.if_icmp .ne 13, 3) := by decide +kernel
theorem dX11_text_36 : decode cX11_text 36 = .ok (.aload_n 0, 1) := by decide +kernel
theorem dX11_text_37 : decode cX11_text 37 = .ok (.getfield 19, 3) := by decide +kernel
theorem dX11_text_40 : decode cX11_text 40 = .ok (.invokevirtual 114, 3) := by decide +kernel
theorem dX11_text_43 : decode cX11_text 43 = .ok (.goto 10, 3) := by decide +kernel
theorem dX11_text_46 : decode cX11_text 46 = .ok (.aload_n 0, 1) := by decide +kernel
theorem dX11_text_47 : decode cX11_text 47 = .ok (.getfield 19, 3) := by decide +kernel
theorem dX11_text_50 : decode cX11_text 50 = .ok (.invokevirtual 117, 3) := by decide +kernel
theorem dX11_text_53 : decode cX11_text 53 = .ok (.istore_n 2, 1) := by decide +kernel
theorem dX11_text_54 : decode cX11_text 54 = .ok (.iload_n 2, 1) := by decide +kernel
theorem dX11_text_55 : decode cX11_text 55 = .ok (.iconst (-1), 1) := by decide +kernel
theorem dX11_text_56 : decode cX11_text 56 = .ok (.if_icmp .eq 11, 3) := by decide +kernel
theorem dX11_text_59 : decode cX11_text 59 = .ok (.aload_n 0, 1) := by decide +kernel
theorem dX11_text_60 : decode cX11_text 60 = .ok (.getfield 10, 3) := by decide +kernel
theorem dX11_text_63 : decode cX11_text 63 = .ok (.iconst 0, 1) := by decide +kernel
theorem dX11_text_64 : decode cX11_text 64 = .ok (.invokevirtual 101, 3) := by decide +kernel
theorem dX11_text_67 : decode cX11_text 67 = .ok (.iload_n 2, 1) := by decide +kernel
theorem dX11_text_68 : decode cX11_text 68 = .ok (.ireturn, 1) := by decide +kernel
theorem dX11_rule_0 : decode cX11_rule 0 = .ok (.aload_n 0, 1) := by decide +kernel
theorem dX11_rule_1 : decode cX11_rule 1 = .ok (.invokevirtual 120, 3) := by decide +kernel
theorem dX11_rule_4 : decode cX11_rule 4 = .ok (.ifCond .ne 12, 3) := by decide +kernel
theorem dX11_rule_7 : decode cX11_rule 7 = .ok (.iload_n 1, 1) := by decide +kernel
theorem dX11_rule_8 : decode cX11_rule 8 = .ok (.ifCond .lt 8, 3) := by decide +kernel
theorem dX11_rule_11 : decode cX11_rule 11 = .ok (.iload_n 1, 1) := by decide +kernel
theorem dX11_rule_12 : decode cX11_rule 12 = .ok (.iconst 4, 1) := by decide +kernel
theorem dX11_rule_13 : decode cX11_rule 13 = .ok (.if_icmp .lt 5, 3) := by decide +kernel
theorem dX11_rule_16 : decode cX11_rule 16 = .ok (.iconst (-1), 1) := by decide +kernel
theorem dX11_rule_17 : decode cX11_rule 17 = .ok (.ireturn, 1) := by decide +kernel
theorem dX11_rule_18 : decode cX11_rule 18 = .ok (.iload_n 1, 1) := by decide +kernel
theorem dX11_rule_19 : decode cX11_rule 19 = .ok (.iconst 2, 1) := by decide +kernel
theorem dX11_rule_20 : decode cX11_rule 20 = .ok (.if_icmp .ne 13, 3) := by decide +kernel
theorem dX11_rule_23 : decode cX11_rule 23 = .ok (.aload_n 0, 1) := by decide +kernel
theorem dX11_rule_24 : decode cX11_rule 24 = .ok (.getfield 36, 3) := by decide +kernel
theorem dX11_rule_27 : decode cX11_rule 27 = .ok (.invokevirtual 124, 3) := by decide +kernel
theorem dX11_rule_30 : decode cX11_rule 30 = .ok (.goto 11, 3) := by decide +kernel
theorem dX11_rule_33 : decode cX11_rule 33 = .ok (.aload_n 0, 1) := by decide +kernel
theorem dX11_rule_34 : decode cX11_rule 34 = .ok (.getfield 30, 3) := by decide +kernel
theorem dX11_rule_37 : decode cX11_rule 37 = .ok (.iload_n 1, 1) := by decide +kernel
theorem dX11_rule_38 : decode cX11_rule 38 = .ok (.invokevirtual 127, 3) := by decide +kernel
theorem dX11_rule_41 : decode cX11_rule 41 = .ok (.ireturn, 1) := by decide +kernel
theorem dX11_sleeper_0 : decode cX11_sleeper 0 = .ok (.aload_n 0, 1) := by decide +kernel
theorem dX11_sleeper_1 : decode cX11_sleeper 1 = .ok (.getfield 30, 3) := by decide +kernel
theorem dX11_sleeper_4 : decode cX11_sleeper 4 = .ok (.iload_n 1, 1) := by decide +kernel
theorem dX11_sleeper_5 : decode cX11_sleeper 5 = .ok (.invokevirtual 130, 3) := by decide +kernel
theorem dX11_sleeper_8 : decode cX11_sleeper 8 = .ok (.ifCond .eq 13, 3) := by decide +kernel
theorem dX11_sleeper_11 : decode cX11_sleeper 11 = .ok (.iload_n 2, 1) := by decide +kernel
theorem dX11_sleeper_12 : decode cX11_sleeper 12 = .ok (.ifCond .lt 9, 3) := by decide +kernel
theorem dX11_sleeper_15 : decode cX11_sleeper 15 = .ok (.iload_n 2, 1) := by decide +kernel
theorem dX11_sleeper_16 : decode cX11_sleeper 16 = .ok (.bipush 10, 2) := by decide +kernel
theorem dX11_sleeper_18 : decode cX11_sleeper 18 = .ok (.if_icmp .le 13, 3) := by decide +kernel
theorem dX11_sleeper_21 : decode cX11_sleeper 21 = .ok (.new 133, 3) := by decide +kernel
theorem dX11_sleeper_24 : decode cX11_sleeper 24 = .ok (.dup, 1) := by decide +kernel
theorem dX11_sleeper_25 : decode cX11_sleeper 25 = .ok (.ldc 135, 2) := by decide +kernel
theorem dX11_sleeper_27 : decode cX11_sleeper 27 = .ok (.invokespecial 137, 3) := by decide +kernel
theorem dX11_sleeper_30 : decode cX11_sleeper 30 = .ok (.athrow, 1) := by decide +kernel
theorem dX11_sleeper_31 : decode cX11_sleeper 31 = .ok (.iload_n 2, 1) := by decide +kernel
theorem dX11_sleeper_32 : decode cX11_sleeper 32 = .ok (.tableswitch 96 6 10 #[36, 45, 61, 70, 87], 36) := by decide +kernel
theorem dX11_sleeper_68 : decode cX11_sleeper 68 = .ok (.aload_n 0, 1) := by decide +kernel
theorem dX11_sleeper_69 : decode cX11_sleeper 69 = .ok (.getfield 36, 3) := by decide +kernel
theorem dX11_sleeper_72 : decode cX11_sleeper 72 = .ok (.iload_n 1, 1) := by decide +kernel
theorem dX11_sleeper_73 : decode cX11_sleeper 73 = .ok (.invokevirtual 140, 3) := by decide +kernel
theorem dX11_sleeper_76 : decode cX11_sleeper 76 = .ok (.ireturn, 1) := by decide +kernel
theorem dX11_sleeper_77 : decode cX11_sleeper 77 = .ok (.aload_n 0, 1) := by decide +kernel
theorem dX11_sleeper_78 : decode cX11_sleeper 78 = .ok (.getfield 36, 3) := by decide +kernel
theorem dX11_sleeper_81 : decode cX11_sleeper 81 = .ok (.iload_n 1, 1) := by decide +kernel
theorem dX11_sleeper_82 : decode cX11_sleeper 82 = .ok (.aload_n 0, 1) := by decide +kernel
theorem dX11_sleeper_83 : decode cX11_sleeper 83 = .ok (.getfield 30, 3) := by decide +kernel
theorem dX11_sleeper_86 : decode cX11_sleeper 86 = .ok (.invokevirtual 143, 3) := by decide +kernel
theorem dX11_sleeper_89 : decode cX11_sleeper 89 = .ok (.invokevirtual 146, 3) := by decide +kernel
theorem dX11_sleeper_92 : decode cX11_sleeper 92 = .ok (.ireturn, 1) := by decide +kernel
theorem dX11_sleeper_93 : decode cX11_sleeper 93 = .ok (.aload_n 0, 1) := by decide +kernel
theorem dX11_sleeper_94 : decode cX11_sleeper 94 = .ok (.getfield 36, 3) := by decide +kernel
theorem dX11_sleeper_97 : decode cX11_sleeper 97 = .ok (.iload_n 1, 1) := by decide +kernel
theorem dX11_sleeper_98 : decode cX11_sleeper 98 = .ok (.invokevirtual 150, 3) := by decide +kernel
theorem dX11_sleeper_101 : decode cX11_sleeper 101 = .ok (.ireturn, 1) := by decide +kernel
theorem dX11_sleeper_102 : decode cX11_sleeper 102 = .ok (.aload_n 0, 1) := by decide +kernel
theorem dX11_sleeper_103 : decode cX11_sleeper 103 = .ok (.getfield 36, 3) := by decide +kernel
theorem dX11_sleeper_106 : decode cX11_sleeper 106 = .ok (.iload_n 1, 1) := by decide +kernel
theorem dX11_sleeper_107 : decode cX11_sleeper 107 = .ok (.invokevirtual 153, 3) := by decide +kernel
theorem dX11_sleeper_110 : decode cX11_sleeper 110 = .ok (.ifCond .eq 7, 3) := by decide +kernel
theorem dX11_sleeper_113 : decode cX11_sleeper 113 = .ok (.iconst 1, 1) := by decide +kernel
theorem dX11_sleeper_114 : decode cX11_sleeper 114 = .ok (.goto 4, 3) := by decide +kernel
theorem dX11_sleeper_117 : decode cX11_sleeper 117 = .ok (.iconst 0, 1) := by decide +kernel
theorem dX11_sleeper_118 : decode cX11_sleeper 118 = .ok (.ireturn, 1) := by decide +kernel
theorem dX11_sleeper_119 : decode cX11_sleeper 119 = .ok (.aload_n 0, 1) := by decide +kernel
theorem dX11_sleeper_120 : decode cX11_sleeper 120 = .ok (.getfield 36, 3) := by decide +kernel
theorem dX11_sleeper_123 : decode cX11_sleeper 123 = .ok (.iload_n 1, 1) := by decide +kernel
theorem dX11_sleeper_124 : decode cX11_sleeper 124 = .ok (.invokevirtual 156, 3) := by decide +kernel
theorem dX11_sleeper_127 : decode cX11_sleeper 127 = .ok (.ireturn, 1) := by decide +kernel
theorem dX11_sleeper_128 : decode cX11_sleeper 128 = .ok (.aload_n 0, 1) := by decide +kernel
theorem dX11_sleeper_129 : decode cX11_sleeper 129 = .ok (.getfield 30, 3) := by decide +kernel
theorem dX11_sleeper_132 : decode cX11_sleeper 132 = .ok (.iload_n 1, 1) := by decide +kernel
theorem dX11_sleeper_133 : decode cX11_sleeper 133 = .ok (.iload_n 2, 1) := by decide +kernel
theorem dX11_sleeper_134 : decode cX11_sleeper 134 = .ok (.invokevirtual 159, 3) := by decide +kernel
theorem dX11_sleeper_137 : decode cX11_sleeper 137 = .ok (.ireturn, 1) := by decide +kernel
theorem dX11_officer_0 : decode cX11_officer 0 = .ok (.aload_n 0, 1) := by decide +kernel
theorem dX11_officer_1 : decode cX11_officer 1 = .ok (.getfield 30, 3) := by decide +kernel
theorem dX11_officer_4 : decode cX11_officer 4 = .ok (.iload_n 1, 1) := by decide +kernel
theorem dX11_officer_5 : decode cX11_officer 5 = .ok (.invokevirtual 162, 3) := by decide +kernel
theorem dX11_officer_8 : decode cX11_officer 8 = .ok (.ifCond .eq 12, 3) := by decide +kernel
theorem dX11_officer_11 : decode cX11_officer 11 = .ok (.iload_n 2, 1) := by decide +kernel
theorem dX11_officer_12 : decode cX11_officer 12 = .ok (.ifCond .lt 8, 3) := by decide +kernel
theorem dX11_officer_15 : decode cX11_officer 15 = .ok (.iload_n 2, 1) := by decide +kernel
theorem dX11_officer_16 : decode cX11_officer 16 = .ok (.iconst 4, 1) := by decide +kernel
theorem dX11_officer_17 : decode cX11_officer 17 = .ok (.if_icmp .lt 5, 3) := by decide +kernel
theorem dX11_officer_20 : decode cX11_officer 20 = .ok (.iconst (-1), 1) := by decide +kernel
theorem dX11_officer_21 : decode cX11_officer 21 = .ok (.ireturn, 1) := by decide +kernel
theorem dX11_officer_22 : decode cX11_officer 22 = .ok (.aload_n 0, 1) := by decide +kernel
theorem dX11_officer_23 : decode cX11_officer 23 = .ok (.getfield 30, 3) := by decide +kernel
theorem dX11_officer_26 : decode cX11_officer 26 = .ok (.iload_n 1, 1) := by decide +kernel
theorem dX11_officer_27 : decode cX11_officer 27 = .ok (.iload_n 2, 1) := by decide +kernel
theorem dX11_officer_28 : decode cX11_officer 28 = .ok (.invokevirtual 165, 3) := by decide +kernel
theorem dX11_officer_31 : decode cX11_officer 31 = .ok (.ireturn, 1) := by decide +kernel
theorem dX11_law_0 : decode cX11_law 0 = .ok (.iload_n 1, 1) := by decide +kernel
theorem dX11_law_1 : decode cX11_law 1 = .ok (.iconst (-1), 1) := by decide +kernel
theorem dX11_law_2 : decode cX11_law 2 = .ok (.if_icmp .lt 14, 3) := by decide +kernel
theorem dX11_law_5 : decode cX11_law 5 = .ok (.iload_n 1, 1) := by decide +kernel
theorem dX11_law_6 : decode cX11_law 6 = .ok (.aload_n 0, 1) := by decide +kernel
theorem dX11_law_7 : decode cX11_law 7 = .ok (.getfield 19, 3) := by decide +kernel
theorem dX11_law_10 : decode cX11_law 10 = .ok (.invokevirtual 168, 3) := by decide +kernel
theorem dX11_law_13 : decode cX11_law 13 = .ok (.if_icmp .lt 5, 3) := by decide +kernel
theorem dX11_law_16 : decode cX11_law 16 = .ok (.iconst 0, 1) := by decide +kernel
theorem dX11_law_17 : decode cX11_law 17 = .ok (.ireturn, 1) := by decide +kernel
theorem dX11_law_18 : decode cX11_law 18 = .ok (.aload_n 0, 1) := by decide +kernel
theorem dX11_law_19 : decode cX11_law 19 = .ok (.iload_n 1, 1) := by decide +kernel
theorem dX11_law_20 : decode cX11_law 20 = .ok (.putfield 86, 3) := by decide +kernel
theorem dX11_law_23 : decode cX11_law 23 = .ok (.aload_n 0, 1) := by decide +kernel
theorem dX11_law_24 : decode cX11_law 24 = .ok (.getfield 48, 3) := by decide +kernel
theorem dX11_law_27 : decode cX11_law 27 = .ok (.aload_n 0, 1) := by decide +kernel
theorem dX11_law_28 : decode cX11_law 28 = .ok (.getfield 19, 3) := by decide +kernel
theorem dX11_law_31 : decode cX11_law 31 = .ok (.iload_n 1, 1) := by decide +kernel
theorem dX11_law_32 : decode cX11_law 32 = .ok (.invokevirtual 171, 3) := by decide +kernel
theorem dX11_law_35 : decode cX11_law 35 = .ok (.invokevirtual 175, 3) := by decide +kernel
theorem dX11_law_38 : decode cX11_law 38 = .ok (.iconst 1, 1) := by decide +kernel
theorem dX11_law_39 : decode cX11_law 39 = .ok (.ireturn, 1) := by decide +kernel
theorem dX11_drowsy_0 : decode cX11_drowsy 0 = .ok (.iload_n 1, 1) := by decide +kernel
theorem dX11_drowsy_1 : decode cX11_drowsy 1 = .ok (.ifCond .lt 17, 3) := by decide +kernel
theorem dX11_drowsy_4 : decode cX11_drowsy 4 = .ok (.iload_n 1, 1) := by decide +kernel
theorem dX11_drowsy_5 : decode cX11_drowsy 5 = .ok (.bipush 99, 2) := by decide +kernel
theorem dX11_drowsy_7 : decode cX11_drowsy 7 = .ok (.if_icmp .gt 11, 3) := by decide +kernel
theorem dX11_drowsy_10 : decode cX11_drowsy 10 = .ok (.iload_n 1, 1) := by decide +kernel
theorem dX11_drowsy_11 : decode cX11_drowsy 11 = .ok (.aload_n 0, 1) := by decide +kernel
theorem dX11_drowsy_12 : decode cX11_drowsy 12 = .ok (.getfield 82, 3) := by decide +kernel
theorem dX11_drowsy_15 : decode cX11_drowsy 15 = .ok (.if_icmp .ne 5, 3) := by decide +kernel
theorem dX11_drowsy_18 : decode cX11_drowsy 18 = .ok (.iconst 0, 1) := by decide +kernel
theorem dX11_drowsy_19 : decode cX11_drowsy 19 = .ok (.ireturn, 1) := by decide +kernel
theorem dX11_drowsy_20 : decode cX11_drowsy 20 = .ok (.aload_n 0, 1) := by decide +kernel
theorem dX11_drowsy_21 : decode cX11_drowsy 21 = .ok (.iload_n 1, 1) := by decide +kernel
theorem dX11_drowsy_22 : decode cX11_drowsy 22 = .ok (.putfield 82, 3) := by decide +kernel
theorem dX11_drowsy_25 : decode cX11_drowsy 25 = .ok (.iconst 1, 1) := by decide +kernel
theorem dX11_drowsy_26 : decode cX11_drowsy 26 = .ok (.ireturn, 1) := by decide +kernel
theorem dX11_move_0 : decode cX11_move 0 = .ok (.aload_n 0, 1) := by decide +kernel
theorem dX11_move_1 : decode cX11_move 1 = .ok (.iconst 0, 1) := by decide +kernel
theorem dX11_move_2 : decode cX11_move 2 = .ok (.iload_n 1, 1) := by decide +kernel
theorem dX11_move_3 : decode cX11_move 3 = .ok (.iload_n 2, 1) := by decide +kernel
theorem dX11_move_4 : decode cX11_move 4 = .ok (.invokevirtual 181, 3) := by decide +kernel
theorem dX11_move_7 : decode cX11_move 7 = .ok (.ireturn, 1) := by decide +kernel
theorem dX11_say_0 : decode cX11_say 0 = .ok (.aload_n 0, 1) := by decide +kernel
theorem dX11_say_1 : decode cX11_say 1 = .ok (.iconst 1, 1) := by decide +kernel
theorem dX11_say_2 : decode cX11_say 2 = .ok (.iload_n 1, 1) := by decide +kernel
theorem dX11_say_3 : decode cX11_say 3 = .ok (.iload_n 2, 1) := by decide +kernel
theorem dX11_say_4 : decode cX11_say 4 = .ok (.invokevirtual 181, 3) := by decide +kernel
theorem dX11_say_7 : decode cX11_say 7 = .ok (.ireturn, 1) := by decide +kernel
theorem dX11_wake_0 : decode cX11_wake 0 = .ok (.aload_n 0, 1) := by decide +kernel
theorem dX11_wake_1 : decode cX11_wake 1 = .ok (.iconst 2, 1) := by decide +kernel
theorem dX11_wake_2 : decode cX11_wake 2 = .ok (.iload_n 1, 1) := by decide +kernel
theorem dX11_wake_3 : decode cX11_wake 3 = .ok (.iconst (-1), 1) := by decide +kernel
theorem dX11_wake_4 : decode cX11_wake 4 = .ok (.invokevirtual 181, 3) := by decide +kernel
theorem dX11_wake_7 : decode cX11_wake 7 = .ok (.ireturn, 1) := by decide +kernel
theorem dX11_lie_0 : decode cX11_lie 0 = .ok (.aload_n 0, 1) := by decide +kernel
theorem dX11_lie_1 : decode cX11_lie 1 = .ok (.iconst 3, 1) := by decide +kernel
theorem dX11_lie_2 : decode cX11_lie 2 = .ok (.iload_n 1, 1) := by decide +kernel
theorem dX11_lie_3 : decode cX11_lie 3 = .ok (.iconst (-1), 1) := by decide +kernel
theorem dX11_lie_4 : decode cX11_lie 4 = .ok (.invokevirtual 181, 3) := by decide +kernel
theorem dX11_lie_7 : decode cX11_lie 7 = .ok (.ireturn, 1) := by decide +kernel
theorem dX11_swap_0 : decode cX11_swap 0 = .ok (.aload_n 0, 1) := by decide +kernel
theorem dX11_swap_1 : decode cX11_swap 1 = .ok (.iconst 4, 1) := by decide +kernel
theorem dX11_swap_2 : decode cX11_swap 2 = .ok (.iload_n 1, 1) := by decide +kernel
theorem dX11_swap_3 : decode cX11_swap 3 = .ok (.iload_n 2, 1) := by decide +kernel
theorem dX11_swap_4 : decode cX11_swap 4 = .ok (.invokevirtual 181, 3) := by decide +kernel
theorem dX11_swap_7 : decode cX11_swap 7 = .ok (.iconst (-1), 1) := by decide +kernel
theorem dX11_swap_8 : decode cX11_swap 8 = .ok (.if_icmp .ne 7, 3) := by decide +kernel
theorem dX11_swap_11 : decode cX11_swap 11 = .ok (.iconst (-1), 1) := by decide +kernel
theorem dX11_swap_12 : decode cX11_swap 12 = .ok (.goto 10, 3) := by decide +kernel
theorem dX11_swap_15 : decode cX11_swap 15 = .ok (.aload_n 0, 1) := by decide +kernel
theorem dX11_swap_16 : decode cX11_swap 16 = .ok (.getfield 55, 3) := by decide +kernel
theorem dX11_swap_19 : decode cX11_swap 19 = .ok (.invokevirtual 185, 3) := by decide +kernel
theorem dX11_swap_22 : decode cX11_swap 22 = .ok (.ireturn, 1) := by decide +kernel
theorem dX11_border_0 : decode cX11_border 0 = .ok (.aload_n 0, 1) := by decide +kernel
theorem dX11_border_1 : decode cX11_border 1 = .ok (.iconst 5, 1) := by decide +kernel
theorem dX11_border_2 : decode cX11_border 2 = .ok (.iload_n 1, 1) := by decide +kernel
theorem dX11_border_3 : decode cX11_border 3 = .ok (.iconst (-1), 1) := by decide +kernel
theorem dX11_border_4 : decode cX11_border 4 = .ok (.invokevirtual 181, 3) := by decide +kernel
theorem dX11_border_7 : decode cX11_border 7 = .ok (.ireturn, 1) := by decide +kernel
theorem dX11_nights_0 : decode cX11_nights 0 = .ok (.aload_n 0, 1) := by decide +kernel
theorem dX11_nights_1 : decode cX11_nights 1 = .ok (.invokevirtual 120, 3) := by decide +kernel
theorem dX11_nights_4 : decode cX11_nights 4 = .ok (.ifCond .ne 14, 3) := by decide +kernel
theorem dX11_nights_7 : decode cX11_nights 7 = .ok (.iload_n 1, 1) := by decide +kernel
theorem dX11_nights_8 : decode cX11_nights 8 = .ok (.iconst 1, 1) := by decide +kernel
theorem dX11_nights_9 : decode cX11_nights 9 = .ok (.if_icmp .lt 9, 3) := by decide +kernel
theorem dX11_nights_12 : decode cX11_nights 12 = .ok (.iload_n 1, 1) := by decide +kernel
theorem dX11_nights_13 : decode cX11_nights 13 = .ok (.bipush 20, 2) := by decide +kernel
theorem dX11_nights_15 : decode cX11_nights 15 = .ok (.if_icmp .le 5, 3) := by decide +kernel
theorem dX11_nights_18 : decode cX11_nights 18 = .ok (.iconst (-1), 1) := by decide +kernel
theorem dX11_nights_19 : decode cX11_nights 19 = .ok (.ireturn, 1) := by decide +kernel
theorem dX11_nights_20 : decode cX11_nights 20 = .ok (.aload_n 0, 1) := by decide +kernel
theorem dX11_nights_21 : decode cX11_nights 21 = .ok (.lload_n 2, 1) := by decide +kernel
theorem dX11_nights_22 : decode cX11_nights 22 = .ok (.putfield 188, 3) := by decide +kernel
theorem dX11_nights_25 : decode cX11_nights 25 = .ok (.iconst 0, 1) := by decide +kernel
theorem dX11_nights_26 : decode cX11_nights 26 = .ok (.istore 4, 2) := by decide +kernel
theorem dX11_nights_28 : decode cX11_nights 28 = .ok (.iload 4, 2) := by decide +kernel
theorem dX11_nights_30 : decode cX11_nights 30 = .ok (.iload_n 1, 1) := by decide +kernel
theorem dX11_nights_31 : decode cX11_nights 31 = .ok (.if_icmp .ge 31, 3) := by decide +kernel
theorem dX11_nights_34 : decode cX11_nights 34 = .ok (.aload_n 0, 1) := by decide +kernel
theorem dX11_nights_35 : decode cX11_nights 35 = .ok (.getfield 55, 3) := by decide +kernel
theorem dX11_nights_38 : decode cX11_nights 38 = .ok (.aload_n 0, 1) := by decide +kernel
theorem dX11_nights_39 : decode cX11_nights 39 = .ok (.getfield 36, 3) := by decide +kernel
theorem dX11_nights_42 : decode cX11_nights 42 = .ok (.invokevirtual 192, 3) := by decide +kernel
theorem dX11_nights_45 : decode cX11_nights 45 = .ok (.aload_n 0, 1) := by decide +kernel
theorem dX11_nights_46 : decode cX11_nights 46 = .ok (.invokevirtual 196, 3) := by decide +kernel
theorem dX11_nights_49 : decode cX11_nights 49 = .ok (.aload_n 0, 1) := by decide +kernel
theorem dX11_nights_50 : decode cX11_nights 50 = .ok (.getfield 55, 3) := by decide +kernel
theorem dX11_nights_53 : decode cX11_nights 53 = .ok (.invokevirtual 199, 3) := by decide +kernel
theorem dX11_nights_56 : decode cX11_nights 56 = .ok (.iinc 4 1, 3) := by decide +kernel
theorem dX11_nights_59 : decode cX11_nights 59 = .ok (.goto (-31), 3) := by decide +kernel
theorem dX11_nights_62 : decode cX11_nights 62 = .ok (.aload_n 0, 1) := by decide +kernel
theorem dX11_nights_63 : decode cX11_nights 63 = .ok (.getfield 55, 3) := by decide +kernel
theorem dX11_nights_66 : decode cX11_nights 66 = .ok (.aload_n 0, 1) := by decide +kernel
theorem dX11_nights_67 : decode cX11_nights 67 = .ok (.getfield 36, 3) := by decide +kernel
theorem dX11_nights_70 : decode cX11_nights 70 = .ok (.invokevirtual 202, 3) := by decide +kernel
theorem dX11_nights_73 : decode cX11_nights 73 = .ok (.ireturn, 1) := by decide +kernel
theorem dX11_undo_0 : decode cX11_undo 0 = .ok (.aload_n 0, 1) := by decide +kernel
theorem dX11_undo_1 : decode cX11_undo 1 = .ok (.getfield 55, 3) := by decide +kernel
theorem dX11_undo_4 : decode cX11_undo 4 = .ok (.aload_n 0, 1) := by decide +kernel
theorem dX11_undo_5 : decode cX11_undo 5 = .ok (.getfield 36, 3) := by decide +kernel
theorem dX11_undo_8 : decode cX11_undo 8 = .ok (.invokevirtual 206, 3) := by decide +kernel
theorem dX11_undo_11 : decode cX11_undo 11 = .ok (.ifCond .eq 13, 3) := by decide +kernel
theorem dX11_undo_14 : decode cX11_undo 14 = .ok (.aload_n 0, 1) := by decide +kernel
theorem dX11_undo_15 : decode cX11_undo 15 = .ok (.getfield 55, 3) := by decide +kernel
theorem dX11_undo_18 : decode cX11_undo 18 = .ok (.invokevirtual 185, 3) := by decide +kernel
theorem dX11_undo_21 : decode cX11_undo 21 = .ok (.goto 4, 3) := by decide +kernel
theorem dX11_undo_24 : decode cX11_undo 24 = .ok (.iconst (-1), 1) := by decide +kernel
theorem dX11_undo_25 : decode cX11_undo 25 = .ok (.ireturn, 1) := by decide +kernel
theorem dX11_log_0 : decode cX11_log 0 = .ok (.iload_n 1, 1) := by decide +kernel
theorem dX11_log_1 : decode cX11_log 1 = .ok (.ifCond .lt 27, 3) := by decide +kernel
theorem dX11_log_4 : decode cX11_log 4 = .ok (.iload_n 1, 1) := by decide +kernel
theorem dX11_log_5 : decode cX11_log 5 = .ok (.aload_n 0, 1) := by decide +kernel
theorem dX11_log_6 : decode cX11_log 6 = .ok (.getfield 55, 3) := by decide +kernel
theorem dX11_log_9 : decode cX11_log 9 = .ok (.aload_n 0, 1) := by decide +kernel
theorem dX11_log_10 : decode cX11_log 10 = .ok (.getfield 36, 3) := by decide +kernel
theorem dX11_log_13 : decode cX11_log 13 = .ok (.invokevirtual 202, 3) := by decide +kernel
theorem dX11_log_16 : decode cX11_log 16 = .ok (.if_icmp .ge 12, 3) := by decide +kernel
theorem dX11_log_19 : decode cX11_log 19 = .ok (.iload_n 2, 1) := by decide +kernel
theorem dX11_log_20 : decode cX11_log 20 = .ok (.ifCond .lt 8, 3) := by decide +kernel
theorem dX11_log_23 : decode cX11_log 23 = .ok (.iload_n 2, 1) := by decide +kernel
theorem dX11_log_24 : decode cX11_log 24 = .ok (.iconst 4, 1) := by decide +kernel
theorem dX11_log_25 : decode cX11_log 25 = .ok (.if_icmp .lt 5, 3) := by decide +kernel
theorem dX11_log_28 : decode cX11_log 28 = .ok (.iconst (-1), 1) := by decide +kernel
theorem dX11_log_29 : decode cX11_log 29 = .ok (.ireturn, 1) := by decide +kernel
theorem dX11_log_30 : decode cX11_log 30 = .ok (.aload_n 0, 1) := by decide +kernel
theorem dX11_log_31 : decode cX11_log 31 = .ok (.getfield 55, 3) := by decide +kernel
theorem dX11_log_34 : decode cX11_log 34 = .ok (.aload_n 0, 1) := by decide +kernel
theorem dX11_log_35 : decode cX11_log 35 = .ok (.getfield 36, 3) := by decide +kernel
theorem dX11_log_38 : decode cX11_log 38 = .ok (.iload_n 1, 1) := by decide +kernel
theorem dX11_log_39 : decode cX11_log 39 = .ok (.iload_n 2, 1) := by decide +kernel
theorem dX11_log_40 : decode cX11_log 40 = .ok (.invokevirtual 210, 3) := by decide +kernel
theorem dX11_log_43 : decode cX11_log 43 = .ok (.ireturn, 1) := by decide +kernel
theorem dX11_step_0 : decode cX11_step 0 = .ok (.aload_n 0, 1) := by decide +kernel
theorem dX11_step_1 : decode cX11_step 1 = .ok (.getfield 19, 3) := by decide +kernel
theorem dX11_step_4 : decode cX11_step 4 = .ok (.iload_n 1, 1) := by decide +kernel
theorem dX11_step_5 : decode cX11_step 5 = .ok (.invokevirtual 214, 3) := by decide +kernel
theorem dX11_step_8 : decode cX11_step 8 = .ok (.astore 4, 2) := by decide +kernel
theorem dX11_step_10 : decode cX11_step 10 = .ok (.aload 4, 2) := by decide +kernel
theorem dX11_step_12 : decode cX11_step 12 = .ok (.ifnull 25, 3) := by decide +kernel
theorem dX11_step_15 : decode cX11_step 15 = .ok (.iload_n 2, 1) := by decide +kernel
theorem dX11_step_16 : decode cX11_step 16 = .ok (.ifCond .lt 21, 3) := by decide +kernel
theorem dX11_step_19 : decode cX11_step 19 = .ok (.iload_n 2, 1) := by decide +kernel
theorem dX11_step_20 : decode cX11_step 20 = .ok (.aload 4, 2) := by decide +kernel
theorem dX11_step_22 : decode cX11_step 22 = .ok (.invokevirtual 218, 3) := by decide +kernel
theorem dX11_step_25 : decode cX11_step 25 = .ok (.if_icmp .ge 12, 3) := by decide +kernel
theorem dX11_step_28 : decode cX11_step 28 = .ok (.iload_n 3, 1) := by decide +kernel
theorem dX11_step_29 : decode cX11_step 29 = .ok (.ifCond .lt 8, 3) := by decide +kernel
theorem dX11_step_32 : decode cX11_step 32 = .ok (.iload_n 3, 1) := by decide +kernel
theorem dX11_step_33 : decode cX11_step 33 = .ok (.iconst 3, 1) := by decide +kernel
theorem dX11_step_34 : decode cX11_step 34 = .ok (.if_icmp .lt 6, 3) := by decide +kernel
theorem dX11_step_37 : decode cX11_step 37 = .ok (.ldc 219, 2) := by decide +kernel
theorem dX11_step_39 : decode cX11_step 39 = .ok (.ireturn, 1) := by decide +kernel
theorem dX11_step_40 : decode cX11_step 40 = .ok (.aload 4, 2) := by decide +kernel
theorem dX11_step_42 : decode cX11_step 42 = .ok (.iload_n 2, 1) := by decide +kernel
theorem dX11_step_43 : decode cX11_step 43 = .ok (.iload_n 3, 1) := by decide +kernel
theorem dX11_step_44 : decode cX11_step 44 = .ok (.invokevirtual 220, 3) := by decide +kernel
theorem dX11_step_47 : decode cX11_step 47 = .ok (.ireturn, 1) := by decide +kernel
theorem dX11_run_0 : decode cX11_run 0 = .ok (.aload_n 0, 1) := by decide +kernel
theorem dX11_run_1 : decode cX11_run 1 = .ok (.getfield 19, 3) := by decide +kernel
theorem dX11_run_4 : decode cX11_run 4 = .ok (.iload_n 1, 1) := by decide +kernel
theorem dX11_run_5 : decode cX11_run 5 = .ok (.invokevirtual 214, 3) := by decide +kernel
theorem dX11_run_8 : decode cX11_run 8 = .ok (.astore_n 3, 1) := by decide +kernel
theorem dX11_run_9 : decode cX11_run 9 = .ok (.aload_n 3, 1) := by decide +kernel
theorem dX11_run_10 : decode cX11_run 10 = .ok (.ifnull 19, 3) := by decide +kernel
theorem dX11_run_13 : decode cX11_run 13 = .ok (.aload_n 0, 1) := by decide +kernel
theorem dX11_run_14 : decode cX11_run 14 = .ok (.invokevirtual 120, 3) := by decide +kernel
theorem dX11_run_17 : decode cX11_run 17 = .ok (.ifCond .ne 12, 3) := by decide +kernel
theorem dX11_run_20 : decode cX11_run 20 = .ok (.iload_n 2, 1) := by decide +kernel
theorem dX11_run_21 : decode cX11_run 21 = .ok (.ifCond .lt 8, 3) := by decide +kernel
theorem dX11_run_24 : decode cX11_run 24 = .ok (.iload_n 2, 1) := by decide +kernel
theorem dX11_run_25 : decode cX11_run 25 = .ok (.iconst 1, 1) := by decide +kernel
theorem dX11_run_26 : decode cX11_run 26 = .ok (.if_icmp .le 6, 3) := by decide +kernel
theorem dX11_run_29 : decode cX11_run 29 = .ok (.ldc 219, 2) := by decide +kernel
theorem dX11_run_31 : decode cX11_run 31 = .ok (.ireturn, 1) := by decide +kernel
theorem dX11_run_32 : decode cX11_run 32 = .ok (.aload_n 0, 1) := by decide +kernel
theorem dX11_run_33 : decode cX11_run 33 = .ok (.getfield 40, 3) := by decide +kernel
theorem dX11_run_36 : decode cX11_run 36 = .ok (.aload_n 0, 1) := by decide +kernel
theorem dX11_run_37 : decode cX11_run 37 = .ok (.getfield 36, 3) := by decide +kernel
theorem dX11_run_40 : decode cX11_run 40 = .ok (.invokevirtual 223, 3) := by decide +kernel
theorem dX11_run_43 : decode cX11_run 43 = .ok (.iconst 0, 1) := by decide +kernel
theorem dX11_run_44 : decode cX11_run 44 = .ok (.istore 4, 2) := by decide +kernel
theorem dX11_run_46 : decode cX11_run 46 = .ok (.iload 4, 2) := by decide +kernel
theorem dX11_run_48 : decode cX11_run 48 = .ok (.aload_n 3, 1) := by decide +kernel
theorem dX11_run_49 : decode cX11_run 49 = .ok (.invokevirtual 218, 3) := by decide +kernel
theorem dX11_run_52 : decode cX11_run 52 = .ok (.if_icmp .ge 45, 3) := by decide +kernel
theorem dX11_run_55 : decode cX11_run 55 = .ok (.aload_n 0, 1) := by decide +kernel
theorem dX11_run_56 : decode cX11_run 56 = .ok (.getfield 48, 3) := by decide +kernel
theorem dX11_run_59 : decode cX11_run 59 = .ok (.aload_n 0, 1) := by decide +kernel
theorem dX11_run_60 : decode cX11_run 60 = .ok (.getfield 40, 3) := by decide +kernel
theorem dX11_run_63 : decode cX11_run 63 = .ok (.aload_n 3, 1) := by decide +kernel
theorem dX11_run_64 : decode cX11_run 64 = .ok (.iload 4, 2) := by decide +kernel
theorem dX11_run_66 : decode cX11_run 66 = .ok (.iconst 0, 1) := by decide +kernel
theorem dX11_run_67 : decode cX11_run 67 = .ok (.invokevirtual 220, 3) := by decide +kernel
theorem dX11_run_70 : decode cX11_run 70 = .ok (.aload_n 3, 1) := by decide +kernel
theorem dX11_run_71 : decode cX11_run 71 = .ok (.iload 4, 2) := by decide +kernel
theorem dX11_run_73 : decode cX11_run 73 = .ok (.iconst 1, 1) := by decide +kernel
theorem dX11_run_74 : decode cX11_run 74 = .ok (.invokevirtual 220, 3) := by decide +kernel
theorem dX11_run_77 : decode cX11_run 77 = .ok (.aload_n 3, 1) := by decide +kernel
theorem dX11_run_78 : decode cX11_run 78 = .ok (.iload 4, 2) := by decide +kernel
theorem dX11_run_80 : decode cX11_run 80 = .ok (.iconst 2, 1) := by decide +kernel
theorem dX11_run_81 : decode cX11_run 81 = .ok (.invokevirtual 220, 3) := by decide +kernel
theorem dX11_run_84 : decode cX11_run 84 = .ok (.invokevirtual 226, 3) := by decide +kernel
theorem dX11_run_87 : decode cX11_run 87 = .ok (.iconst (-1), 1) := by decide +kernel
theorem dX11_run_88 : decode cX11_run 88 = .ok (.if_icmp .eq 9, 3) := by decide +kernel
theorem dX11_run_91 : decode cX11_run 91 = .ok (.iinc 4 1, 3) := by decide +kernel
theorem dX11_run_94 : decode cX11_run 94 = .ok (.goto (-48), 3) := by decide +kernel
theorem dX11_run_97 : decode cX11_run 97 = .ok (.iload_n 2, 1) := by decide +kernel
theorem dX11_run_98 : decode cX11_run 98 = .ok (.iconst 1, 1) := by decide +kernel
theorem dX11_run_99 : decode cX11_run 99 = .ok (.if_icmp .ne 19, 3) := by decide +kernel
theorem dX11_run_102 : decode cX11_run 102 = .ok (.aload_n 0, 1) := by decide +kernel
theorem dX11_run_103 : decode cX11_run 103 = .ok (.getfield 40, 3) := by decide +kernel
theorem dX11_run_106 : decode cX11_run 106 = .ok (.invokevirtual 230, 3) := by decide +kernel
theorem dX11_run_109 : decode cX11_run 109 = .ok (.aload_n 0, 1) := by decide +kernel
theorem dX11_run_110 : decode cX11_run 110 = .ok (.getfield 36, 3) := by decide +kernel
theorem dX11_run_113 : decode cX11_run 113 = .ok (.invokevirtual 230, 3) := by decide +kernel
theorem dX11_run_116 : decode cX11_run 116 = .ok (.isub, 1) := by decide +kernel
theorem dX11_run_117 : decode cX11_run 117 = .ok (.ireturn, 1) := by decide +kernel
theorem dX11_run_118 : decode cX11_run 118 = .ok (.iload 4, 2) := by decide +kernel
theorem dX11_run_120 : decode cX11_run 120 = .ok (.aload_n 3, 1) := by decide +kernel
theorem dX11_run_121 : decode cX11_run 121 = .ok (.invokevirtual 218, 3) := by decide +kernel
theorem dX11_run_124 : decode cX11_run 124 = .ok (.if_icmp .ne 7, 3) := by decide +kernel
theorem dX11_run_127 : decode cX11_run 127 = .ok (.iconst (-1), 1) := by decide +kernel
theorem dX11_run_128 : decode cX11_run 128 = .ok (.goto 5, 3) := by decide +kernel
theorem dX11_run_131 : decode cX11_run 131 = .ok (.iload 4, 2) := by decide +kernel
theorem dX11_run_133 : decode cX11_run 133 = .ok (.ireturn, 1) := by decide +kernel
theorem dX11_perform_0 : decode cX11_perform 0 = .ok (.aload_n 0, 1) := by decide +kernel
theorem dX11_perform_1 : decode cX11_perform 1 = .ok (.getfield 19, 3) := by decide +kernel
theorem dX11_perform_4 : decode cX11_perform 4 = .ok (.iload_n 1, 1) := by decide +kernel
theorem dX11_perform_5 : decode cX11_perform 5 = .ok (.invokevirtual 214, 3) := by decide +kernel
theorem dX11_perform_8 : decode cX11_perform 8 = .ok (.astore_n 2, 1) := by decide +kernel
theorem dX11_perform_9 : decode cX11_perform 9 = .ok (.aload_n 2, 1) := by decide +kernel
theorem dX11_perform_10 : decode cX11_perform 10 = .ok (.ifnull 10, 3) := by decide +kernel
theorem dX11_perform_13 : decode cX11_perform 13 = .ok (.aload_n 0, 1) := by decide +kernel
theorem dX11_perform_14 : decode cX11_perform 14 = .ok (.invokevirtual 120, 3) := by decide +kernel
theorem dX11_perform_17 : decode cX11_perform 17 = .ok (.ifCond .eq 5, 3) := by decide +kernel
theorem dX11_perform_20 : decode cX11_perform 20 = .ok (.iconst (-1), 1) := by decide +kernel
theorem dX11_perform_21 : decode cX11_perform 21 = .ok (.ireturn, 1) := by decide +kernel
theorem dX11_perform_22 : decode cX11_perform 22 = .ok (.iconst 0, 1) := by decide +kernel
theorem dX11_perform_23 : decode cX11_perform 23 = .ok (.istore_n 3, 1) := by decide +kernel
theorem dX11_perform_24 : decode cX11_perform 24 = .ok (.iload_n 3, 1) := by decide +kernel
theorem dX11_perform_25 : decode cX11_perform 25 = .ok (.aload_n 2, 1) := by decide +kernel
theorem dX11_perform_26 : decode cX11_perform 26 = .ok (.invokevirtual 218, 3) := by decide +kernel
theorem dX11_perform_29 : decode cX11_perform 29 = .ok (.if_icmp .ge 35, 3) := by decide +kernel
theorem dX11_perform_32 : decode cX11_perform 32 = .ok (.aload_n 0, 1) := by decide +kernel
theorem dX11_perform_33 : decode cX11_perform 33 = .ok (.aload_n 2, 1) := by decide +kernel
theorem dX11_perform_34 : decode cX11_perform 34 = .ok (.iload_n 3, 1) := by decide +kernel
theorem dX11_perform_35 : decode cX11_perform 35 = .ok (.iconst 0, 1) := by decide +kernel
theorem dX11_perform_36 : decode cX11_perform 36 = .ok (.invokevirtual 220, 3) := by decide +kernel
theorem dX11_perform_39 : decode cX11_perform 39 = .ok (.aload_n 2, 1) := by decide +kernel
theorem dX11_perform_40 : decode cX11_perform 40 = .ok (.iload_n 3, 1) := by decide +kernel
theorem dX11_perform_41 : decode cX11_perform 41 = .ok (.iconst 1, 1) := by decide +kernel
theorem dX11_perform_42 : decode cX11_perform 42 = .ok (.invokevirtual 220, 3) := by decide +kernel
theorem dX11_perform_45 : decode cX11_perform 45 = .ok (.aload_n 2, 1) := by decide +kernel
theorem dX11_perform_46 : decode cX11_perform 46 = .ok (.iload_n 3, 1) := by decide +kernel
theorem dX11_perform_47 : decode cX11_perform 47 = .ok (.iconst 2, 1) := by decide +kernel
theorem dX11_perform_48 : decode cX11_perform 48 = .ok (.invokevirtual 220, 3) := by decide +kernel
theorem dX11_perform_51 : decode cX11_perform 51 = .ok (.invokevirtual 181, 3) := by decide +kernel
theorem dX11_perform_54 : decode cX11_perform 54 = .ok (.iconst (-1), 1) := by decide +kernel
theorem dX11_perform_55 : decode cX11_perform 55 = .ok (.if_icmp .eq 9, 3) := by decide +kernel
theorem dX11_perform_58 : decode cX11_perform 58 = .ok (.iinc 3 1, 3) := by decide +kernel
theorem dX11_perform_61 : decode cX11_perform 61 = .ok (.goto (-37), 3) := by decide +kernel
theorem dX11_perform_64 : decode cX11_perform 64 = .ok (.iload_n 3, 1) := by decide +kernel
theorem dX11_perform_65 : decode cX11_perform 65 = .ok (.ireturn, 1) := by decide +kernel
theorem dX11_time_0 : decode cX11_time 0 = .ok (.aload_n 0, 1) := by decide +kernel
theorem dX11_time_1 : decode cX11_time 1 = .ok (.getfield 30, 3) := by decide +kernel
theorem dX11_time_4 : decode cX11_time 4 = .ok (.iload_n 1, 1) := by decide +kernel
theorem dX11_time_5 : decode cX11_time 5 = .ok (.invokevirtual 162, 3) := by decide +kernel
theorem dX11_time_8 : decode cX11_time 8 = .ok (.ifCond .eq 12, 3) := by decide +kernel
theorem dX11_time_11 : decode cX11_time 11 = .ok (.iload_n 2, 1) := by decide +kernel
theorem dX11_time_12 : decode cX11_time 12 = .ok (.ifCond .lt 8, 3) := by decide +kernel
theorem dX11_time_15 : decode cX11_time 15 = .ok (.iload_n 2, 1) := by decide +kernel
theorem dX11_time_16 : decode cX11_time 16 = .ok (.iconst 1, 1) := by decide +kernel
theorem dX11_time_17 : decode cX11_time 17 = .ok (.if_icmp .le 5, 3) := by decide +kernel
theorem dX11_time_20 : decode cX11_time 20 = .ok (.iconst (-1), 1) := by decide +kernel
theorem dX11_time_21 : decode cX11_time 21 = .ok (.ireturn, 1) := by decide +kernel
theorem dX11_time_22 : decode cX11_time 22 = .ok (.aload_n 0, 1) := by decide +kernel
theorem dX11_time_23 : decode cX11_time 23 = .ok (.getfield 48, 3) := by decide +kernel
theorem dX11_time_26 : decode cX11_time 26 = .ok (.aload_n 0, 1) := by decide +kernel
theorem dX11_time_27 : decode cX11_time 27 = .ok (.getfield 36, 3) := by decide +kernel
theorem dX11_time_30 : decode cX11_time 30 = .ok (.iload_n 1, 1) := by decide +kernel
theorem dX11_time_31 : decode cX11_time 31 = .ok (.iconst 0, 1) := by decide +kernel
theorem dX11_time_32 : decode cX11_time 32 = .ok (.invokevirtual 233, 3) := by decide +kernel
theorem dX11_time_35 : decode cX11_time 35 = .ok (.istore_n 3, 1) := by decide +kernel
theorem dX11_time_36 : decode cX11_time 36 = .ok (.iload_n 2, 1) := by decide +kernel
theorem dX11_time_37 : decode cX11_time 37 = .ok (.ifCond .ne 7, 3) := by decide +kernel
theorem dX11_time_40 : decode cX11_time 40 = .ok (.iload_n 3, 1) := by decide +kernel
theorem dX11_time_41 : decode cX11_time 41 = .ok (.goto 10, 3) := by decide +kernel
theorem dX11_time_44 : decode cX11_time 44 = .ok (.aload_n 0, 1) := by decide +kernel
theorem dX11_time_45 : decode cX11_time 45 = .ok (.getfield 48, 3) := by decide +kernel
theorem dX11_time_48 : decode cX11_time 48 = .ok (.invokevirtual 237, 3) := by decide +kernel
theorem dX11_time_51 : decode cX11_time 51 = .ok (.ireturn, 1) := by decide +kernel
theorem dX11_order_0 : decode cX11_order 0 = .ok (.aload_n 0, 1) := by decide +kernel
theorem dX11_order_1 : decode cX11_order 1 = .ok (.getfield 30, 3) := by decide +kernel
theorem dX11_order_4 : decode cX11_order 4 = .ok (.iload_n 1, 1) := by decide +kernel
theorem dX11_order_5 : decode cX11_order 5 = .ok (.invokevirtual 162, 3) := by decide +kernel
theorem dX11_order_8 : decode cX11_order 8 = .ok (.ifCond .eq 12, 3) := by decide +kernel
theorem dX11_order_11 : decode cX11_order 11 = .ok (.iload_n 2, 1) := by decide +kernel
theorem dX11_order_12 : decode cX11_order 12 = .ok (.ifCond .lt 8, 3) := by decide +kernel
theorem dX11_order_15 : decode cX11_order 15 = .ok (.iload_n 2, 1) := by decide +kernel
theorem dX11_order_16 : decode cX11_order 16 = .ok (.iconst 1, 1) := by decide +kernel
theorem dX11_order_17 : decode cX11_order 17 = .ok (.if_icmp .le 5, 3) := by decide +kernel
theorem dX11_order_20 : decode cX11_order 20 = .ok (.iconst (-1), 1) := by decide +kernel
theorem dX11_order_21 : decode cX11_order 21 = .ok (.ireturn, 1) := by decide +kernel
theorem dX11_order_22 : decode cX11_order 22 = .ok (.aload_n 0, 1) := by decide +kernel
theorem dX11_order_23 : decode cX11_order 23 = .ok (.getfield 30, 3) := by decide +kernel
theorem dX11_order_26 : decode cX11_order 26 = .ok (.invokevirtual 143, 3) := by decide +kernel
theorem dX11_order_29 : decode cX11_order 29 = .ok (.bipush 7, 2) := by decide +kernel
theorem dX11_order_31 : decode cX11_order 31 = .ok (.if_icmp .le 6, 3) := by decide +kernel
theorem dX11_order_34 : decode cX11_order 34 = .ok (.ldc 219, 2) := by decide +kernel
theorem dX11_order_36 : decode cX11_order 36 = .ok (.ireturn, 1) := by decide +kernel
theorem dX11_order_37 : decode cX11_order 37 = .ok (.aload_n 0, 1) := by decide +kernel
theorem dX11_order_38 : decode cX11_order 38 = .ok (.getfield 64, 3) := by decide +kernel
theorem dX11_order_41 : decode cX11_order 41 = .ok (.iload_n 1, 1) := by decide +kernel
theorem dX11_order_42 : decode cX11_order 42 = .ok (.invokevirtual 240, 3) := by decide +kernel
theorem dX11_order_45 : decode cX11_order 45 = .ok (.iload_n 2, 1) := by decide +kernel
theorem dX11_order_46 : decode cX11_order 46 = .ok (.ifCond .ne 13, 3) := by decide +kernel
theorem dX11_order_49 : decode cX11_order 49 = .ok (.aload_n 0, 1) := by decide +kernel
theorem dX11_order_50 : decode cX11_order 50 = .ok (.getfield 64, 3) := by decide +kernel
theorem dX11_order_53 : decode cX11_order 53 = .ok (.invokevirtual 243, 3) := by decide +kernel
theorem dX11_order_56 : decode cX11_order 56 = .ok (.goto 10, 3) := by decide +kernel
theorem dX11_order_59 : decode cX11_order 59 = .ok (.aload_n 0, 1) := by decide +kernel
theorem dX11_order_60 : decode cX11_order 60 = .ok (.getfield 64, 3) := by decide +kernel
theorem dX11_order_63 : decode cX11_order 63 = .ok (.invokevirtual 246, 3) := by decide +kernel
theorem dX11_order_66 : decode cX11_order 66 = .ok (.ireturn, 1) := by decide +kernel
theorem dX11_bound_0 : decode cX11_bound 0 = .ok (.aload_n 0, 1) := by decide +kernel
theorem dX11_bound_1 : decode cX11_bound 1 = .ok (.getfield 30, 3) := by decide +kernel
theorem dX11_bound_4 : decode cX11_bound 4 = .ok (.iload_n 1, 1) := by decide +kernel
theorem dX11_bound_5 : decode cX11_bound 5 = .ok (.invokevirtual 162, 3) := by decide +kernel
theorem dX11_bound_8 : decode cX11_bound 8 = .ok (.ifCond .eq 14, 3) := by decide +kernel
theorem dX11_bound_11 : decode cX11_bound 11 = .ok (.aload_n 0, 1) := by decide +kernel
theorem dX11_bound_12 : decode cX11_bound 12 = .ok (.getfield 64, 3) := by decide +kernel
theorem dX11_bound_15 : decode cX11_bound 15 = .ok (.iload_n 1, 1) := by decide +kernel
theorem dX11_bound_16 : decode cX11_bound 16 = .ok (.invokevirtual 249, 3) := by decide +kernel
theorem dX11_bound_19 : decode cX11_bound 19 = .ok (.goto 4, 3) := by decide +kernel
theorem dX11_bound_22 : decode cX11_bound 22 = .ok (.iconst (-1), 1) := by decide +kernel
theorem dX11_bound_23 : decode cX11_bound 23 = .ok (.ireturn, 1) := by decide +kernel
theorem dX11_before_0 : decode cX11_before 0 = .ok (.aload_n 0, 1) := by decide +kernel
theorem dX11_before_1 : decode cX11_before 1 = .ok (.invokevirtual 120, 3) := by decide +kernel
theorem dX11_before_4 : decode cX11_before 4 = .ok (.ifCond .ne 22, 3) := by decide +kernel
theorem dX11_before_7 : decode cX11_before 7 = .ok (.iload_n 1, 1) := by decide +kernel
theorem dX11_before_8 : decode cX11_before 8 = .ok (.ifCond .lt 18, 3) := by decide +kernel
theorem dX11_before_11 : decode cX11_before 11 = .ok (.iload_n 1, 1) := by decide +kernel
theorem dX11_before_12 : decode cX11_before 12 = .ok (.iconst 1, 1) := by decide +kernel
theorem dX11_before_13 : decode cX11_before 13 = .ok (.if_icmp .gt 13, 3) := by decide +kernel
theorem dX11_before_16 : decode cX11_before 16 = .ok (.aload_n 0, 1) := by decide +kernel
theorem dX11_before_17 : decode cX11_before 17 = .ok (.getfield 71, 3) := by decide +kernel
theorem dX11_before_20 : decode cX11_before 20 = .ok (.invokevirtual 252, 3) := by decide +kernel
theorem dX11_before_23 : decode cX11_before 23 = .ok (.ifCond .ne 5, 3) := by decide +kernel
theorem dX11_before_26 : decode cX11_before 26 = .ok (.iconst (-1), 1) := by decide +kernel
theorem dX11_before_27 : decode cX11_before 27 = .ok (.ireturn, 1) := by decide +kernel
theorem dX11_before_28 : decode cX11_before 28 = .ok (.iload_n 1, 1) := by decide +kernel
theorem dX11_before_29 : decode cX11_before 29 = .ok (.ifCond .ne 13, 3) := by decide +kernel
theorem dX11_before_32 : decode cX11_before 32 = .ok (.aload_n 0, 1) := by decide +kernel
theorem dX11_before_33 : decode cX11_before 33 = .ok (.getfield 71, 3) := by decide +kernel
theorem dX11_before_36 : decode cX11_before 36 = .ok (.invokevirtual 255, 3) := by decide +kernel
theorem dX11_before_39 : decode cX11_before 39 = .ok (.goto 10, 3) := by decide +kernel
theorem dX11_before_42 : decode cX11_before 42 = .ok (.aload_n 0, 1) := by decide +kernel
theorem dX11_before_43 : decode cX11_before 43 = .ok (.getfield 71, 3) := by decide +kernel
theorem dX11_before_46 : decode cX11_before 46 = .ok (.invokevirtual 258, 3) := by decide +kernel
theorem dX11_before_49 : decode cX11_before 49 = .ok (.ireturn, 1) := by decide +kernel
theorem dX11_words_0 : decode cX11_words 0 = .ok (.aload_n 0, 1) := by decide +kernel
theorem dX11_words_1 : decode cX11_words 1 = .ok (.invokevirtual 120, 3) := by decide +kernel
theorem dX11_words_4 : decode cX11_words 4 = .ok (.ifCond .ne 22, 3) := by decide +kernel
theorem dX11_words_7 : decode cX11_words 7 = .ok (.iload_n 1, 1) := by decide +kernel
theorem dX11_words_8 : decode cX11_words 8 = .ok (.ifCond .lt 18, 3) := by decide +kernel
theorem dX11_words_11 : decode cX11_words 11 = .ok (.iload_n 1, 1) := by decide +kernel
theorem dX11_words_12 : decode cX11_words 12 = .ok (.iconst 1, 1) := by decide +kernel
theorem dX11_words_13 : decode cX11_words 13 = .ok (.if_icmp .gt 13, 3) := by decide +kernel
theorem dX11_words_16 : decode cX11_words 16 = .ok (.aload_n 0, 1) := by decide +kernel
theorem dX11_words_17 : decode cX11_words 17 = .ok (.getfield 71, 3) := by decide +kernel
theorem dX11_words_20 : decode cX11_words 20 = .ok (.invokevirtual 259, 3) := by decide +kernel
theorem dX11_words_23 : decode cX11_words 23 = .ok (.ifCond .ne 5, 3) := by decide +kernel
theorem dX11_words_26 : decode cX11_words 26 = .ok (.iconst (-1), 1) := by decide +kernel
theorem dX11_words_27 : decode cX11_words 27 = .ok (.ireturn, 1) := by decide +kernel
theorem dX11_words_28 : decode cX11_words 28 = .ok (.iload_n 1, 1) := by decide +kernel
theorem dX11_words_29 : decode cX11_words 29 = .ok (.ifCond .ne 13, 3) := by decide +kernel
theorem dX11_words_32 : decode cX11_words 32 = .ok (.aload_n 0, 1) := by decide +kernel
theorem dX11_words_33 : decode cX11_words 33 = .ok (.getfield 71, 3) := by decide +kernel
theorem dX11_words_36 : decode cX11_words 36 = .ok (.invokevirtual 255, 3) := by decide +kernel
theorem dX11_words_39 : decode cX11_words 39 = .ok (.goto 10, 3) := by decide +kernel
theorem dX11_words_42 : decode cX11_words 42 = .ok (.aload_n 0, 1) := by decide +kernel
theorem dX11_words_43 : decode cX11_words 43 = .ok (.getfield 71, 3) := by decide +kernel
theorem dX11_words_46 : decode cX11_words 46 = .ok (.invokevirtual 258, 3) := by decide +kernel
theorem dX11_words_49 : decode cX11_words 49 = .ok (.ireturn, 1) := by decide +kernel
theorem dX11_tonight_0 : decode cX11_tonight 0 = .ok (.aload_n 0, 1) := by decide +kernel
theorem dX11_tonight_1 : decode cX11_tonight 1 = .ok (.getfield 30, 3) := by decide +kernel
theorem dX11_tonight_4 : decode cX11_tonight 4 = .ok (.iload_n 1, 1) := by decide +kernel
theorem dX11_tonight_5 : decode cX11_tonight 5 = .ok (.invokevirtual 162, 3) := by decide +kernel
theorem dX11_tonight_8 : decode cX11_tonight 8 = .ok (.ifCond .eq 14, 3) := by decide +kernel
theorem dX11_tonight_11 : decode cX11_tonight 11 = .ok (.aload_n 0, 1) := by decide +kernel
theorem dX11_tonight_12 : decode cX11_tonight 12 = .ok (.getfield 78, 3) := by decide +kernel
theorem dX11_tonight_15 : decode cX11_tonight 15 = .ok (.iload_n 1, 1) := by decide +kernel
theorem dX11_tonight_16 : decode cX11_tonight 16 = .ok (.invokevirtual 262, 3) := by decide +kernel
theorem dX11_tonight_19 : decode cX11_tonight 19 = .ok (.goto 4, 3) := by decide +kernel
theorem dX11_tonight_22 : decode cX11_tonight 22 = .ok (.iconst (-1), 1) := by decide +kernel
theorem dX11_tonight_23 : decode cX11_tonight 23 = .ok (.ireturn, 1) := by decide +kernel
theorem dX11_hear_0 : decode cX11_hear 0 = .ok (.aload_n 0, 1) := by decide +kernel
theorem dX11_hear_1 : decode cX11_hear 1 = .ok (.invokevirtual 120, 3) := by decide +kernel
theorem dX11_hear_4 : decode cX11_hear 4 = .ok (.ifCond .ne 14, 3) := by decide +kernel
theorem dX11_hear_7 : decode cX11_hear 7 = .ok (.iload_n 2, 1) := by decide +kernel
theorem dX11_hear_8 : decode cX11_hear 8 = .ok (.ifCond .lt 10, 3) := by decide +kernel
theorem dX11_hear_11 : decode cX11_hear 11 = .ok (.iload_n 2, 1) := by decide +kernel
theorem dX11_hear_12 : decode cX11_hear 12 = .ok (.sipush 999, 3) := by decide +kernel
theorem dX11_hear_15 : decode cX11_hear 15 = .ok (.if_icmp .le 5, 3) := by decide +kernel
theorem dX11_hear_18 : decode cX11_hear 18 = .ok (.iconst (-1), 1) := by decide +kernel
theorem dX11_hear_19 : decode cX11_hear 19 = .ok (.ireturn, 1) := by decide +kernel
theorem dX11_hear_20 : decode cX11_hear 20 = .ok (.aload_n 0, 1) := by decide +kernel
theorem dX11_hear_21 : decode cX11_hear 21 = .ok (.getfield 78, 3) := by decide +kernel
theorem dX11_hear_24 : decode cX11_hear 24 = .ok (.iload_n 1, 1) := by decide +kernel
theorem dX11_hear_25 : decode cX11_hear 25 = .ok (.iload_n 2, 1) := by decide +kernel
theorem dX11_hear_26 : decode cX11_hear 26 = .ok (.invokevirtual 265, 3) := by decide +kernel
theorem dX11_hear_29 : decode cX11_hear 29 = .ok (.ireturn, 1) := by decide +kernel
theorem dX11_lookAt_0 : decode cX11_lookAt 0 = .ok (.aload_n 0, 1) := by decide +kernel
theorem dX11_lookAt_1 : decode cX11_lookAt 1 = .ok (.getfield 30, 3) := by decide +kernel
theorem dX11_lookAt_4 : decode cX11_lookAt 4 = .ok (.iload_n 1, 1) := by decide +kernel
theorem dX11_lookAt_5 : decode cX11_lookAt 5 = .ok (.invokevirtual 130, 3) := by decide +kernel
theorem dX11_lookAt_8 : decode cX11_lookAt 8 = .ok (.ifCond .eq 15, 3) := by decide +kernel
theorem dX11_lookAt_11 : decode cX11_lookAt 11 = .ok (.aload_n 0, 1) := by decide +kernel
theorem dX11_lookAt_12 : decode cX11_lookAt 12 = .ok (.getfield 78, 3) := by decide +kernel
theorem dX11_lookAt_15 : decode cX11_lookAt 15 = .ok (.iload_n 1, 1) := by decide +kernel
theorem dX11_lookAt_16 : decode cX11_lookAt 16 = .ok (.iload_n 2, 1) := by decide +kernel
theorem dX11_lookAt_17 : decode cX11_lookAt 17 = .ok (.invokevirtual 269, 3) := by decide +kernel
theorem dX11_lookAt_20 : decode cX11_lookAt 20 = .ok (.goto 4, 3) := by decide +kernel
theorem dX11_lookAt_23 : decode cX11_lookAt 23 = .ok (.iconst (-1), 1) := by decide +kernel
theorem dX11_lookAt_24 : decode cX11_lookAt 24 = .ok (.ireturn, 1) := by decide +kernel
theorem dX11_fit_0 : decode cX11_fit 0 = .ok (.aload_n 0, 1) := by decide +kernel
theorem dX11_fit_1 : decode cX11_fit 1 = .ok (.invokevirtual 120, 3) := by decide +kernel
theorem dX11_fit_4 : decode cX11_fit 4 = .ok (.ifCond .eq 7, 3) := by decide +kernel
theorem dX11_fit_7 : decode cX11_fit 7 = .ok (.iconst (-1), 1) := by decide +kernel
theorem dX11_fit_8 : decode cX11_fit 8 = .ok (.goto 11, 3) := by decide +kernel
theorem dX11_fit_11 : decode cX11_fit 11 = .ok (.aload_n 0, 1) := by decide +kernel
theorem dX11_fit_12 : decode cX11_fit 12 = .ok (.getfield 78, 3) := by decide +kernel
theorem dX11_fit_15 : decode cX11_fit 15 = .ok (.iload_n 1, 1) := by decide +kernel
theorem dX11_fit_16 : decode cX11_fit 16 = .ok (.invokevirtual 273, 3) := by decide +kernel
theorem dX11_fit_19 : decode cX11_fit 19 = .ok (.ireturn, 1) := by decide +kernel
theorem dX11_best_0 : decode cX11_best 0 = .ok (.aload_n 0, 1) := by decide +kernel
theorem dX11_best_1 : decode cX11_best 1 = .ok (.invokevirtual 120, 3) := by decide +kernel
theorem dX11_best_4 : decode cX11_best 4 = .ok (.ifCond .eq 7, 3) := by decide +kernel
theorem dX11_best_7 : decode cX11_best 7 = .ok (.iconst (-1), 1) := by decide +kernel
theorem dX11_best_8 : decode cX11_best 8 = .ok (.goto 10, 3) := by decide +kernel
theorem dX11_best_11 : decode cX11_best 11 = .ok (.aload_n 0, 1) := by decide +kernel
theorem dX11_best_12 : decode cX11_best 12 = .ok (.getfield 78, 3) := by decide +kernel
theorem dX11_best_15 : decode cX11_best 15 = .ok (.invokevirtual 276, 3) := by decide +kernel
theorem dX11_best_18 : decode cX11_best 18 = .ok (.ireturn, 1) := by decide +kernel
theorem dX11_heads_0 : decode cX11_heads 0 = .ok (.aload_n 0, 1) := by decide +kernel
theorem dX11_heads_1 : decode cX11_heads 1 = .ok (.invokevirtual 120, 3) := by decide +kernel
theorem dX11_heads_4 : decode cX11_heads 4 = .ok (.ifCond .ne 13, 3) := by decide +kernel
theorem dX11_heads_7 : decode cX11_heads 7 = .ok (.iload_n 1, 1) := by decide +kernel
theorem dX11_heads_8 : decode cX11_heads 8 = .ok (.ifCond .lt 9, 3) := by decide +kernel
theorem dX11_heads_11 : decode cX11_heads 11 = .ok (.iload_n 1, 1) := by decide +kernel
theorem dX11_heads_12 : decode cX11_heads 12 = .ok (.bipush 9, 2) := by decide +kernel
theorem dX11_heads_14 : decode cX11_heads 14 = .ok (.if_icmp .le 5, 3) := by decide +kernel
theorem dX11_heads_17 : decode cX11_heads 17 = .ok (.iconst (-1), 1) := by decide +kernel
theorem dX11_heads_18 : decode cX11_heads 18 = .ok (.ireturn, 1) := by decide +kernel
theorem dX11_heads_19 : decode cX11_heads 19 = .ok (.aload_n 0, 1) := by decide +kernel
theorem dX11_heads_20 : decode cX11_heads 20 = .ok (.getfield 78, 3) := by decide +kernel
theorem dX11_heads_23 : decode cX11_heads 23 = .ok (.iload_n 1, 1) := by decide +kernel
theorem dX11_heads_24 : decode cX11_heads 24 = .ok (.iload_n 2, 1) := by decide +kernel
theorem dX11_heads_25 : decode cX11_heads 25 = .ok (.invokevirtual 279, 3) := by decide +kernel
theorem dX11_heads_28 : decode cX11_heads 28 = .ok (.ireturn, 1) := by decide +kernel
theorem dX11_give_0 : decode cX11_give 0 = .ok (.aload_n 0, 1) := by decide +kernel
theorem dX11_give_1 : decode cX11_give 1 = .ok (.invokevirtual 120, 3) := by decide +kernel
theorem dX11_give_4 : decode cX11_give 4 = .ok (.ifCond .ne 12, 3) := by decide +kernel
theorem dX11_give_7 : decode cX11_give 7 = .ok (.iload_n 1, 1) := by decide +kernel
theorem dX11_give_8 : decode cX11_give 8 = .ok (.ifCond .lt 8, 3) := by decide +kernel
theorem dX11_give_11 : decode cX11_give 11 = .ok (.iload_n 1, 1) := by decide +kernel
theorem dX11_give_12 : decode cX11_give 12 = .ok (.iconst 1, 1) := by decide +kernel
theorem dX11_give_13 : decode cX11_give 13 = .ok (.if_icmp .le 5, 3) := by decide +kernel
theorem dX11_give_16 : decode cX11_give 16 = .ok (.iconst (-1), 1) := by decide +kernel
theorem dX11_give_17 : decode cX11_give 17 = .ok (.ireturn, 1) := by decide +kernel
theorem dX11_give_18 : decode cX11_give 18 = .ok (.aload_n 0, 1) := by decide +kernel
theorem dX11_give_19 : decode cX11_give 19 = .ok (.getfield 30, 3) := by decide +kernel
theorem dX11_give_22 : decode cX11_give 22 = .ok (.invokevirtual 282, 3) := by decide +kernel
theorem dX11_give_25 : decode cX11_give 25 = .ok (.bipush 7, 2) := by decide +kernel
theorem dX11_give_27 : decode cX11_give 27 = .ok (.if_icmp .le 6, 3) := by decide +kernel
theorem dX11_give_30 : decode cX11_give 30 = .ok (.ldc 219, 2) := by decide +kernel
theorem dX11_give_32 : decode cX11_give 32 = .ok (.ireturn, 1) := by decide +kernel
theorem dX11_give_33 : decode cX11_give 33 = .ok (.aload_n 0, 1) := by decide +kernel
theorem dX11_give_34 : decode cX11_give 34 = .ok (.getfield 64, 3) := by decide +kernel
theorem dX11_give_37 : decode cX11_give 37 = .ok (.invokevirtual 285, 3) := by decide +kernel
theorem dX11_give_40 : decode cX11_give 40 = .ok (.iload_n 1, 1) := by decide +kernel
theorem dX11_give_41 : decode cX11_give 41 = .ok (.ifCond .ne 13, 3) := by decide +kernel
theorem dX11_give_44 : decode cX11_give 44 = .ok (.aload_n 0, 1) := by decide +kernel
theorem dX11_give_45 : decode cX11_give 45 = .ok (.getfield 64, 3) := by decide +kernel
theorem dX11_give_48 : decode cX11_give 48 = .ok (.invokevirtual 243, 3) := by decide +kernel
theorem dX11_give_51 : decode cX11_give 51 = .ok (.goto 10, 3) := by decide +kernel
theorem dX11_give_54 : decode cX11_give 54 = .ok (.aload_n 0, 1) := by decide +kernel
theorem dX11_give_55 : decode cX11_give 55 = .ok (.getfield 64, 3) := by decide +kernel
theorem dX11_give_58 : decode cX11_give 58 = .ok (.invokevirtual 246, 3) := by decide +kernel
theorem dX11_give_61 : decode cX11_give 61 = .ok (.ireturn, 1) := by decide +kernel
theorem dX11_between_0 : decode cX11_between 0 = .ok (.aload_n 0, 1) := by decide +kernel
theorem dX11_between_1 : decode cX11_between 1 = .ok (.invokevirtual 120, 3) := by decide +kernel
theorem dX11_between_4 : decode cX11_between 4 = .ok (.ifCond .eq 5, 3) := by decide +kernel
theorem dX11_between_7 : decode cX11_between 7 = .ok (.iconst (-1), 1) := by decide +kernel
theorem dX11_between_8 : decode cX11_between 8 = .ok (.ireturn, 1) := by decide +kernel
theorem dX11_between_9 : decode cX11_between 9 = .ok (.iconst 0, 1) := by decide +kernel
theorem dX11_between_10 : decode cX11_between 10 = .ok (.istore_n 1, 1) := by decide +kernel
theorem dX11_between_11 : decode cX11_between 11 = .ok (.iconst 0, 1) := by decide +kernel
theorem dX11_between_12 : decode cX11_between 12 = .ok (.istore_n 2, 1) := by decide +kernel
theorem dX11_between_13 : decode cX11_between 13 = .ok (.iload_n 2, 1) := by decide +kernel
theorem dX11_between_14 : decode cX11_between 14 = .ok (.aload_n 0, 1) := by decide +kernel
theorem dX11_between_15 : decode cX11_between 15 = .ok (.getfield 30, 3) := by decide +kernel
theorem dX11_between_18 : decode cX11_between 18 = .ok (.invokevirtual 282, 3) := by decide +kernel
theorem dX11_between_21 : decode cX11_between 21 = .ok (.if_icmp .ge 49, 3) := by decide +kernel
theorem dX11_between_24 : decode cX11_between 24 = .ok (.aload_n 0, 1) := by decide +kernel
theorem dX11_between_25 : decode cX11_between 25 = .ok (.getfield 36, 3) := by decide +kernel
theorem dX11_between_28 : decode cX11_between 28 = .ok (.iload_n 2, 1) := by decide +kernel
theorem dX11_between_29 : decode cX11_between 29 = .ok (.invokevirtual 153, 3) := by decide +kernel
theorem dX11_between_32 : decode cX11_between 32 = .ok (.ifCond .ne 32, 3) := by decide +kernel
theorem dX11_between_35 : decode cX11_between 35 = .ok (.aload_n 0, 1) := by decide +kernel
theorem dX11_between_36 : decode cX11_between 36 = .ok (.getfield 48, 3) := by decide +kernel
theorem dX11_between_39 : decode cX11_between 39 = .ok (.aload_n 0, 1) := by decide +kernel
theorem dX11_between_40 : decode cX11_between 40 = .ok (.getfield 36, 3) := by decide +kernel
theorem dX11_between_43 : decode cX11_between 43 = .ok (.iload_n 2, 1) := by decide +kernel
theorem dX11_between_44 : decode cX11_between 44 = .ok (.invokevirtual 288, 3) := by decide +kernel
theorem dX11_between_47 : decode cX11_between 47 = .ok (.aload_n 0, 1) := by decide +kernel
theorem dX11_between_48 : decode cX11_between 48 = .ok (.getfield 30, 3) := by decide +kernel
theorem dX11_between_51 : decode cX11_between 51 = .ok (.iconst 1, 1) := by decide +kernel
theorem dX11_between_52 : decode cX11_between 52 = .ok (.invokevirtual 127, 3) := by decide +kernel
theorem dX11_between_55 : decode cX11_between 55 = .ok (.if_icmp .le 9, 3) := by decide +kernel
theorem dX11_between_58 : decode cX11_between 58 = .ok (.iload_n 1, 1) := by decide +kernel
theorem dX11_between_59 : decode cX11_between 59 = .ok (.iconst 1, 1) := by decide +kernel
theorem dX11_between_60 : decode cX11_between 60 = .ok (.iload_n 2, 1) := by decide +kernel
theorem dX11_between_61 : decode cX11_between 61 = .ok (.ishl, 1) := by decide +kernel
theorem dX11_between_62 : decode cX11_between 62 = .ok (.ior, 1) := by decide +kernel
theorem dX11_between_63 : decode cX11_between 63 = .ok (.istore_n 1, 1) := by decide +kernel
theorem dX11_between_64 : decode cX11_between 64 = .ok (.iinc 2 1, 3) := by decide +kernel
theorem dX11_between_67 : decode cX11_between 67 = .ok (.goto (-54), 3) := by decide +kernel
theorem dX11_between_70 : decode cX11_between 70 = .ok (.iload_n 1, 1) := by decide +kernel
theorem dX11_between_71 : decode cX11_between 71 = .ok (.ireturn, 1) := by decide +kernel
theorem dX11_favour_0 : decode cX11_favour 0 = .ok (.iload_n 3, 1) := by decide +kernel
theorem dX11_favour_1 : decode cX11_favour 1 = .ok (.ifCond .eq 8, 3) := by decide +kernel
theorem dX11_favour_4 : decode cX11_favour 4 = .ok (.iload_n 3, 1) := by decide +kernel
theorem dX11_favour_5 : decode cX11_favour 5 = .ok (.iconst 1, 1) := by decide +kernel
theorem dX11_favour_6 : decode cX11_favour 6 = .ok (.if_icmp .ne 18, 3) := by decide +kernel
theorem dX11_favour_9 : decode cX11_favour 9 = .ok (.iload 4, 2) := by decide +kernel
theorem dX11_favour_11 : decode cX11_favour 11 = .ok (.ifCond .eq 9, 3) := by decide +kernel
theorem dX11_favour_14 : decode cX11_favour 14 = .ok (.iload 4, 2) := by decide +kernel
theorem dX11_favour_16 : decode cX11_favour 16 = .ok (.iconst 1, 1) := by decide +kernel
theorem dX11_favour_17 : decode cX11_favour 17 = .ok (.if_icmp .ne 7, 3) := by decide +kernel
theorem dX11_favour_20 : decode cX11_favour 20 = .ok (.iconst 1, 1) := by decide +kernel
theorem dX11_favour_21 : decode cX11_favour 21 = .ok (.goto 4, 3) := by decide +kernel
theorem dX11_favour_24 : decode cX11_favour 24 = .ok (.iconst 0, 1) := by decide +kernel
theorem dX11_favour_25 : decode cX11_favour 25 = .ok (.istore 6, 2) := by decide +kernel
theorem dX11_favour_27 : decode cX11_favour 27 = .ok (.aload_n 0, 1) := by decide +kernel
theorem dX11_favour_28 : decode cX11_favour 28 = .ok (.getfield 30, 3) := by decide +kernel
theorem dX11_favour_31 : decode cX11_favour 31 = .ok (.iload_n 1, 1) := by decide +kernel
theorem dX11_favour_32 : decode cX11_favour 32 = .ok (.invokevirtual 162, 3) := by decide +kernel
theorem dX11_favour_35 : decode cX11_favour 35 = .ok (.ifCond .eq 30, 3) := by decide +kernel
theorem dX11_favour_38 : decode cX11_favour 38 = .ok (.iload_n 2, 1) := by decide +kernel
theorem dX11_favour_39 : decode cX11_favour 39 = .ok (.iconst 1, 1) := by decide +kernel
theorem dX11_favour_40 : decode cX11_favour 40 = .ok (.if_icmp .lt 25, 3) := by decide +kernel
theorem dX11_favour_43 : decode cX11_favour 43 = .ok (.iload_n 2, 1) := by decide +kernel
theorem dX11_favour_44 : decode cX11_favour 44 = .ok (.bipush 9, 2) := by decide +kernel
theorem dX11_favour_46 : decode cX11_favour 46 = .ok (.if_icmp .gt 19, 3) := by decide +kernel
theorem dX11_favour_49 : decode cX11_favour 49 = .ok (.iload 6, 2) := by decide +kernel
theorem dX11_favour_51 : decode cX11_favour 51 = .ok (.ifCond .eq 14, 3) := by decide +kernel
theorem dX11_favour_54 : decode cX11_favour 54 = .ok (.iload 5, 2) := by decide +kernel
theorem dX11_favour_56 : decode cX11_favour 56 = .ok (.ifCond .lt 9, 3) := by decide +kernel
theorem dX11_favour_59 : decode cX11_favour 59 = .ok (.iload 5, 2) := by decide +kernel
theorem dX11_favour_61 : decode cX11_favour 61 = .ok (.iconst 1, 1) := by decide +kernel
theorem dX11_favour_62 : decode cX11_favour 62 = .ok (.if_icmp .le 6, 3) := by decide +kernel
theorem dX11_favour_65 : decode cX11_favour 65 = .ok (.ldc 219, 2) := by decide +kernel
theorem dX11_favour_67 : decode cX11_favour 67 = .ok (.ireturn, 1) := by decide +kernel
theorem dX11_favour_68 : decode cX11_favour 68 = .ok (.iload 5, 2) := by decide +kernel
theorem dX11_favour_70 : decode cX11_favour 70 = .ok (.ifCond .ne 15, 3) := by decide +kernel
theorem dX11_favour_73 : decode cX11_favour 73 = .ok (.aload_n 0, 1) := by decide +kernel
theorem dX11_favour_74 : decode cX11_favour 74 = .ok (.iload_n 1, 1) := by decide +kernel
theorem dX11_favour_75 : decode cX11_favour 75 = .ok (.iload_n 2, 1) := by decide +kernel
theorem dX11_favour_76 : decode cX11_favour 76 = .ok (.iload_n 3, 1) := by decide +kernel
theorem dX11_favour_77 : decode cX11_favour 77 = .ok (.iload 4, 2) := by decide +kernel
theorem dX11_favour_79 : decode cX11_favour 79 = .ok (.invokevirtual 292, 3) := by decide +kernel
theorem dX11_favour_82 : decode cX11_favour 82 = .ok (.goto 10, 3) := by decide +kernel
theorem dX11_favour_85 : decode cX11_favour 85 = .ok (.iload_n 2, 1) := by decide +kernel
theorem dX11_favour_86 : decode cX11_favour 86 = .ok (.iload_n 3, 1) := by decide +kernel
theorem dX11_favour_87 : decode cX11_favour 87 = .ok (.iload 4, 2) := by decide +kernel
theorem dX11_favour_89 : decode cX11_favour 89 = .ok (.invokestatic 296, 3) := by decide +kernel
theorem dX11_favour_92 : decode cX11_favour 92 = .ok (.ireturn, 1) := by decide +kernel
theorem dX11_rests_0 : decode cX11_rests 0 = .ok (.aload_n 0, 1) := by decide +kernel
theorem dX11_rests_1 : decode cX11_rests 1 = .ok (.getfield 30, 3) := by decide +kernel
theorem dX11_rests_4 : decode cX11_rests 4 = .ok (.iload_n 1, 1) := by decide +kernel
theorem dX11_rests_5 : decode cX11_rests 5 = .ok (.invokevirtual 162, 3) := by decide +kernel
theorem dX11_rests_8 : decode cX11_rests 8 = .ok (.ifCond .eq 14, 3) := by decide +kernel
theorem dX11_rests_11 : decode cX11_rests 11 = .ok (.iload_n 2, 1) := by decide +kernel
theorem dX11_rests_12 : decode cX11_rests 12 = .ok (.iconst 1, 1) := by decide +kernel
theorem dX11_rests_13 : decode cX11_rests 13 = .ok (.if_icmp .lt 9, 3) := by decide +kernel
theorem dX11_rests_16 : decode cX11_rests 16 = .ok (.iload_n 2, 1) := by decide +kernel
theorem dX11_rests_17 : decode cX11_rests 17 = .ok (.bipush 9, 2) := by decide +kernel
theorem dX11_rests_19 : decode cX11_rests 19 = .ok (.if_icmp .le 5, 3) := by decide +kernel
theorem dX11_rests_22 : decode cX11_rests 22 = .ok (.iconst (-1), 1) := by decide +kernel
theorem dX11_rests_23 : decode cX11_rests 23 = .ok (.ireturn, 1) := by decide +kernel
theorem dX11_rests_24 : decode cX11_rests 24 = .ok (.iconst 0, 1) := by decide +kernel
theorem dX11_rests_25 : decode cX11_rests 25 = .ok (.istore 4, 2) := by decide +kernel
theorem dX11_rests_27 : decode cX11_rests 27 = .ok (.iconst 0, 1) := by decide +kernel
theorem dX11_rests_28 : decode cX11_rests 28 = .ok (.istore 5, 2) := by decide +kernel
theorem dX11_rests_30 : decode cX11_rests 30 = .ok (.iload 5, 2) := by decide +kernel
theorem dX11_rests_32 : decode cX11_rests 32 = .ok (.iconst 1, 1) := by decide +kernel
theorem dX11_rests_33 : decode cX11_rests 33 = .ok (.if_icmp .gt 100, 3) := by decide +kernel
theorem dX11_rests_36 : decode cX11_rests 36 = .ok (.iconst 0, 1) := by decide +kernel
theorem dX11_rests_37 : decode cX11_rests 37 = .ok (.istore 6, 2) := by decide +kernel
theorem dX11_rests_39 : decode cX11_rests 39 = .ok (.iload 6, 2) := by decide +kernel
theorem dX11_rests_41 : decode cX11_rests 41 = .ok (.iconst 1, 1) := by decide +kernel
theorem dX11_rests_42 : decode cX11_rests 42 = .ok (.if_icmp .gt 85, 3) := by decide +kernel
theorem dX11_rests_45 : decode cX11_rests 45 = .ok (.aload_n 0, 1) := by decide +kernel
theorem dX11_rests_46 : decode cX11_rests 46 = .ok (.iload_n 1, 1) := by decide +kernel
theorem dX11_rests_47 : decode cX11_rests 47 = .ok (.iload_n 2, 1) := by decide +kernel
theorem dX11_rests_48 : decode cX11_rests 48 = .ok (.iload 5, 2) := by decide +kernel
theorem dX11_rests_50 : decode cX11_rests 50 = .ok (.iload 6, 2) := by decide +kernel
theorem dX11_rests_52 : decode cX11_rests 52 = .ok (.invokevirtual 292, 3) := by decide +kernel
theorem dX11_rests_55 : decode cX11_rests 55 = .ok (.aload_n 0, 1) := by decide +kernel
theorem dX11_rests_56 : decode cX11_rests 56 = .ok (.iload_n 1, 1) := by decide +kernel
theorem dX11_rests_57 : decode cX11_rests 57 = .ok (.iload_n 2, 1) := by decide +kernel
theorem dX11_rests_58 : decode cX11_rests 58 = .ok (.iconst 1, 1) := by decide +kernel
theorem dX11_rests_59 : decode cX11_rests 59 = .ok (.iload 5, 2) := by decide +kernel
theorem dX11_rests_61 : decode cX11_rests 61 = .ok (.isub, 1) := by decide +kernel
theorem dX11_rests_62 : decode cX11_rests 62 = .ok (.iload 6, 2) := by decide +kernel
theorem dX11_rests_64 : decode cX11_rests 64 = .ok (.invokevirtual 292, 3) := by decide +kernel
theorem dX11_rests_67 : decode cX11_rests 67 = .ok (.if_icmp .lt 7, 3) := by decide +kernel
theorem dX11_rests_70 : decode cX11_rests 70 = .ok (.iconst 1, 1) := by decide +kernel
theorem dX11_rests_71 : decode cX11_rests 71 = .ok (.goto 4, 3) := by decide +kernel
theorem dX11_rests_74 : decode cX11_rests 74 = .ok (.iconst 0, 1) := by decide +kernel
theorem dX11_rests_75 : decode cX11_rests 75 = .ok (.istore 7, 2) := by decide +kernel
theorem dX11_rests_77 : decode cX11_rests 77 = .ok (.iload 7, 2) := by decide +kernel
theorem dX11_rests_79 : decode cX11_rests 79 = .ok (.ifCond .eq 42, 3) := by decide +kernel
theorem dX11_rests_82 : decode cX11_rests 82 = .ok (.iload_n 2, 1) := by decide +kernel
theorem dX11_rests_83 : decode cX11_rests 83 = .ok (.iload 5, 2) := by decide +kernel
theorem dX11_rests_85 : decode cX11_rests 85 = .ok (.iload 6, 2) := by decide +kernel
theorem dX11_rests_87 : decode cX11_rests 87 = .ok (.invokestatic 296, 3) := by decide +kernel
theorem dX11_rests_90 : decode cX11_rests 90 = .ok (.iload_n 2, 1) := by decide +kernel
theorem dX11_rests_91 : decode cX11_rests 91 = .ok (.iload 5, 2) := by decide +kernel
theorem dX11_rests_93 : decode cX11_rests 93 = .ok (.iconst 1, 1) := by decide +kernel
theorem dX11_rests_94 : decode cX11_rests 94 = .ok (.iload 6, 2) := by decide +kernel
theorem dX11_rests_96 : decode cX11_rests 96 = .ok (.isub, 1) := by decide +kernel
theorem dX11_rests_97 : decode cX11_rests 97 = .ok (.invokestatic 296, 3) := by decide +kernel
theorem dX11_rests_100 : decode cX11_rests 100 = .ok (.if_icmp .lt 21, 3) := by decide +kernel
theorem dX11_rests_103 : decode cX11_rests 103 = .ok (.iload 4, 2) := by decide +kernel
theorem dX11_rests_105 : decode cX11_rests 105 = .ok (.iload_n 3, 1) := by decide +kernel
theorem dX11_rests_106 : decode cX11_rests 106 = .ok (.if_icmp .ne 12, 3) := by decide +kernel
theorem dX11_rests_109 : decode cX11_rests 109 = .ok (.bipush 10, 2) := by decide +kernel
theorem dX11_rests_111 : decode cX11_rests 111 = .ok (.iload 5, 2) := by decide +kernel
theorem dX11_rests_113 : decode cX11_rests 113 = .ok (.imul, 1) := by decide +kernel
theorem dX11_rests_114 : decode cX11_rests 114 = .ok (.iload 6, 2) := by decide +kernel
theorem dX11_rests_116 : decode cX11_rests 116 = .ok (.iadd, 1) := by decide +kernel
theorem dX11_rests_117 : decode cX11_rests 117 = .ok (.ireturn, 1) := by decide +kernel
theorem dX11_rests_118 : decode cX11_rests 118 = .ok (.iinc 4 1, 3) := by decide +kernel
theorem dX11_rests_121 : decode cX11_rests 121 = .ok (.iinc 6 1, 3) := by decide +kernel
theorem dX11_rests_124 : decode cX11_rests 124 = .ok (.goto (-85), 3) := by decide +kernel
theorem dX11_rests_127 : decode cX11_rests 127 = .ok (.iinc 5 1, 3) := by decide +kernel
theorem dX11_rests_130 : decode cX11_rests 130 = .ok (.goto (-100), 3) := by decide +kernel
theorem dX11_rests_133 : decode cX11_rests 133 = .ok (.iload_n 3, 1) := by decide +kernel
theorem dX11_rests_134 : decode cX11_rests 134 = .ok (.iconst (-1), 1) := by decide +kernel
theorem dX11_rests_135 : decode cX11_rests 135 = .ok (.if_icmp .ne 8, 3) := by decide +kernel
theorem dX11_rests_138 : decode cX11_rests 138 = .ok (.iload 4, 2) := by decide +kernel
theorem dX11_rests_140 : decode cX11_rests 140 = .ok (.goto 4, 3) := by decide +kernel
theorem dX11_rests_143 : decode cX11_rests 143 = .ok (.iconst (-1), 1) := by decide +kernel
theorem dX11_rests_144 : decode cX11_rests 144 = .ok (.ireturn, 1) := by decide +kernel
theorem dX11_which_0 : decode cX11_which 0 = .ok (.aload_n 0, 1) := by decide +kernel
theorem dX11_which_1 : decode cX11_which 1 = .ok (.invokevirtual 120, 3) := by decide +kernel
theorem dX11_which_4 : decode cX11_which 4 = .ok (.ifCond .ne 20, 3) := by decide +kernel
theorem dX11_which_7 : decode cX11_which 7 = .ok (.iload_n 1, 1) := by decide +kernel
theorem dX11_which_8 : decode cX11_which 8 = .ok (.ifCond .lt 16, 3) := by decide +kernel
theorem dX11_which_11 : decode cX11_which 11 = .ok (.iload_n 1, 1) := by decide +kernel
theorem dX11_which_12 : decode cX11_which 12 = .ok (.iconst 1, 1) := by decide +kernel
theorem dX11_which_13 : decode cX11_which 13 = .ok (.aload_n 0, 1) := by decide +kernel
theorem dX11_which_14 : decode cX11_which 14 = .ok (.getfield 30, 3) := by decide +kernel
theorem dX11_which_17 : decode cX11_which 17 = .ok (.invokevirtual 282, 3) := by decide +kernel
theorem dX11_which_20 : decode cX11_which 20 = .ok (.ishl, 1) := by decide +kernel
theorem dX11_which_21 : decode cX11_which 21 = .ok (.if_icmp .lt 5, 3) := by decide +kernel
theorem dX11_which_24 : decode cX11_which 24 = .ok (.iconst (-1), 1) := by decide +kernel
theorem dX11_which_25 : decode cX11_which 25 = .ok (.ireturn, 1) := by decide +kernel
theorem dX11_which_26 : decode cX11_which 26 = .ok (.aload_n 0, 1) := by decide +kernel
theorem dX11_which_27 : decode cX11_which 27 = .ok (.getfield 78, 3) := by decide +kernel
theorem dX11_which_30 : decode cX11_which 30 = .ok (.iload_n 1, 1) := by decide +kernel
theorem dX11_which_31 : decode cX11_which 31 = .ok (.invokevirtual 299, 3) := by decide +kernel
theorem dX11_which_34 : decode cX11_which 34 = .ok (.ireturn, 1) := by decide +kernel
theorem dX11_woken_0 : decode cX11_woken 0 = .ok (.aload_n 0, 1) := by decide +kernel
theorem dX11_woken_1 : decode cX11_woken 1 = .ok (.getfield 30, 3) := by decide +kernel
theorem dX11_woken_4 : decode cX11_woken 4 = .ok (.iload_n 1, 1) := by decide +kernel
theorem dX11_woken_5 : decode cX11_woken 5 = .ok (.invokevirtual 130, 3) := by decide +kernel
theorem dX11_woken_8 : decode cX11_woken 8 = .ok (.ifCond .eq 14, 3) := by decide +kernel
theorem dX11_woken_11 : decode cX11_woken 11 = .ok (.aload_n 0, 1) := by decide +kernel
theorem dX11_woken_12 : decode cX11_woken 12 = .ok (.getfield 36, 3) := by decide +kernel
theorem dX11_woken_15 : decode cX11_woken 15 = .ok (.iload_n 1, 1) := by decide +kernel
theorem dX11_woken_16 : decode cX11_woken 16 = .ok (.invokevirtual 302, 3) := by decide +kernel
theorem dX11_woken_19 : decode cX11_woken 19 = .ok (.goto 4, 3) := by decide +kernel
theorem dX11_woken_22 : decode cX11_woken 22 = .ok (.iconst (-1), 1) := by decide +kernel
theorem dX11_woken_23 : decode cX11_woken 23 = .ok (.ireturn, 1) := by decide +kernel
theorem dX11_tired_0 : decode cX11_tired 0 = .ok (.iconst 0, 1) := by decide +kernel
theorem dX11_tired_1 : decode cX11_tired 1 = .ok (.istore_n 1, 1) := by decide +kernel
theorem dX11_tired_2 : decode cX11_tired 2 = .ok (.iconst (-1), 1) := by decide +kernel
theorem dX11_tired_3 : decode cX11_tired 3 = .ok (.istore_n 2, 1) := by decide +kernel
theorem dX11_tired_4 : decode cX11_tired 4 = .ok (.iconst 0, 1) := by decide +kernel
theorem dX11_tired_5 : decode cX11_tired 5 = .ok (.istore_n 3, 1) := by decide +kernel
theorem dX11_tired_6 : decode cX11_tired 6 = .ok (.iload_n 3, 1) := by decide +kernel
theorem dX11_tired_7 : decode cX11_tired 7 = .ok (.aload_n 0, 1) := by decide +kernel
theorem dX11_tired_8 : decode cX11_tired 8 = .ok (.getfield 30, 3) := by decide +kernel
theorem dX11_tired_11 : decode cX11_tired 11 = .ok (.invokevirtual 282, 3) := by decide +kernel
theorem dX11_tired_14 : decode cX11_tired 14 = .ok (.if_icmp .ge 32, 3) := by decide +kernel
theorem dX11_tired_17 : decode cX11_tired 17 = .ok (.aload_n 0, 1) := by decide +kernel
theorem dX11_tired_18 : decode cX11_tired 18 = .ok (.getfield 36, 3) := by decide +kernel
theorem dX11_tired_21 : decode cX11_tired 21 = .ok (.iload_n 3, 1) := by decide +kernel
theorem dX11_tired_22 : decode cX11_tired 22 = .ok (.invokevirtual 156, 3) := by decide +kernel
theorem dX11_tired_25 : decode cX11_tired 25 = .ok (.iload_n 1, 1) := by decide +kernel
theorem dX11_tired_26 : decode cX11_tired 26 = .ok (.if_icmp .le 14, 3) := by decide +kernel
theorem dX11_tired_29 : decode cX11_tired 29 = .ok (.aload_n 0, 1) := by decide +kernel
theorem dX11_tired_30 : decode cX11_tired 30 = .ok (.getfield 36, 3) := by decide +kernel
theorem dX11_tired_33 : decode cX11_tired 33 = .ok (.iload_n 3, 1) := by decide +kernel
theorem dX11_tired_34 : decode cX11_tired 34 = .ok (.invokevirtual 156, 3) := by decide +kernel
theorem dX11_tired_37 : decode cX11_tired 37 = .ok (.istore_n 1, 1) := by decide +kernel
theorem dX11_tired_38 : decode cX11_tired 38 = .ok (.iload_n 3, 1) := by decide +kernel
theorem dX11_tired_39 : decode cX11_tired 39 = .ok (.istore_n 2, 1) := by decide +kernel
theorem dX11_tired_40 : decode cX11_tired 40 = .ok (.iinc 3 1, 3) := by decide +kernel
theorem dX11_tired_43 : decode cX11_tired 43 = .ok (.goto (-37), 3) := by decide +kernel
theorem dX11_tired_46 : decode cX11_tired 46 = .ok (.iload_n 2, 1) := by decide +kernel
theorem dX11_tired_47 : decode cX11_tired 47 = .ok (.ireturn, 1) := by decide +kernel
theorem dX11_beside_0 : decode cX11_beside 0 = .ok (.aload_n 0, 1) := by decide +kernel
theorem dX11_beside_1 : decode cX11_beside 1 = .ok (.getfield 30, 3) := by decide +kernel
theorem dX11_beside_4 : decode cX11_beside 4 = .ok (.iload_n 1, 1) := by decide +kernel
theorem dX11_beside_5 : decode cX11_beside 5 = .ok (.invokevirtual 130, 3) := by decide +kernel
theorem dX11_beside_8 : decode cX11_beside 8 = .ok (.ifCond .ne 5, 3) := by decide +kernel
theorem dX11_beside_11 : decode cX11_beside 11 = .ok (.iconst (-1), 1) := by decide +kernel
theorem dX11_beside_12 : decode cX11_beside 12 = .ok (.ireturn, 1) := by decide +kernel
theorem dX11_beside_13 : decode cX11_beside 13 = .ok (.iconst 0, 1) := by decide +kernel
theorem dX11_beside_14 : decode cX11_beside 14 = .ok (.istore_n 2, 1) := by decide +kernel
theorem dX11_beside_15 : decode cX11_beside 15 = .ok (.iconst 0, 1) := by decide +kernel
theorem dX11_beside_16 : decode cX11_beside 16 = .ok (.istore_n 3, 1) := by decide +kernel
theorem dX11_beside_17 : decode cX11_beside 17 = .ok (.iload_n 3, 1) := by decide +kernel
theorem dX11_beside_18 : decode cX11_beside 18 = .ok (.aload_n 0, 1) := by decide +kernel
theorem dX11_beside_19 : decode cX11_beside 19 = .ok (.getfield 30, 3) := by decide +kernel
theorem dX11_beside_22 : decode cX11_beside 22 = .ok (.invokevirtual 282, 3) := by decide +kernel
theorem dX11_beside_25 : decode cX11_beside 25 = .ok (.if_icmp .ge 27, 3) := by decide +kernel
theorem dX11_beside_28 : decode cX11_beside 28 = .ok (.aload_n 0, 1) := by decide +kernel
theorem dX11_beside_29 : decode cX11_beside 29 = .ok (.getfield 36, 3) := by decide +kernel
theorem dX11_beside_32 : decode cX11_beside 32 = .ok (.iload_n 3, 1) := by decide +kernel
theorem dX11_beside_33 : decode cX11_beside 33 = .ok (.iload_n 1, 1) := by decide +kernel
theorem dX11_beside_34 : decode cX11_beside 34 = .ok (.invokevirtual 305, 3) := by decide +kernel
theorem dX11_beside_37 : decode cX11_beside 37 = .ok (.ifCond .eq 9, 3) := by decide +kernel
theorem dX11_beside_40 : decode cX11_beside 40 = .ok (.iload_n 2, 1) := by decide +kernel
theorem dX11_beside_41 : decode cX11_beside 41 = .ok (.iconst 1, 1) := by decide +kernel
theorem dX11_beside_42 : decode cX11_beside 42 = .ok (.iload_n 3, 1) := by decide +kernel
theorem dX11_beside_43 : decode cX11_beside 43 = .ok (.ishl, 1) := by decide +kernel
theorem dX11_beside_44 : decode cX11_beside 44 = .ok (.ior, 1) := by decide +kernel
theorem dX11_beside_45 : decode cX11_beside 45 = .ok (.istore_n 2, 1) := by decide +kernel
theorem dX11_beside_46 : decode cX11_beside 46 = .ok (.iinc 3 1, 3) := by decide +kernel
theorem dX11_beside_49 : decode cX11_beside 49 = .ok (.goto (-32), 3) := by decide +kernel
theorem dX11_beside_52 : decode cX11_beside 52 = .ok (.iload_n 2, 1) := by decide +kernel
theorem dX11_beside_53 : decode cX11_beside 53 = .ok (.ireturn, 1) := by decide +kernel
theorem dX11_slack_0 : decode cX11_slack 0 = .ok (.aload_n 0, 1) := by decide +kernel
theorem dX11_slack_1 : decode cX11_slack 1 = .ok (.getfield 30, 3) := by decide +kernel
theorem dX11_slack_4 : decode cX11_slack 4 = .ok (.iload_n 1, 1) := by decide +kernel
theorem dX11_slack_5 : decode cX11_slack 5 = .ok (.invokevirtual 162, 3) := by decide +kernel
theorem dX11_slack_8 : decode cX11_slack 8 = .ok (.ifCond .eq 27, 3) := by decide +kernel
theorem dX11_slack_11 : decode cX11_slack 11 = .ok (.aload_n 0, 1) := by decide +kernel
theorem dX11_slack_12 : decode cX11_slack 12 = .ok (.getfield 30, 3) := by decide +kernel
theorem dX11_slack_15 : decode cX11_slack 15 = .ok (.invokevirtual 309, 3) := by decide +kernel
theorem dX11_slack_18 : decode cX11_slack 18 = .ok (.aload_n 0, 1) := by decide +kernel
theorem dX11_slack_19 : decode cX11_slack 19 = .ok (.getfield 48, 3) := by decide +kernel
theorem dX11_slack_22 : decode cX11_slack 22 = .ok (.aload_n 0, 1) := by decide +kernel
theorem dX11_slack_23 : decode cX11_slack 23 = .ok (.getfield 36, 3) := by decide +kernel
theorem dX11_slack_26 : decode cX11_slack 26 = .ok (.iload_n 1, 1) := by decide +kernel
theorem dX11_slack_27 : decode cX11_slack 27 = .ok (.iconst 0, 1) := by decide +kernel
theorem dX11_slack_28 : decode cX11_slack 28 = .ok (.invokevirtual 233, 3) := by decide +kernel
theorem dX11_slack_31 : decode cX11_slack 31 = .ok (.isub, 1) := by decide +kernel
theorem dX11_slack_32 : decode cX11_slack 32 = .ok (.goto 5, 3) := by decide +kernel
theorem dX11_slack_35 : decode cX11_slack 35 = .ok (.ldc 219, 2) := by decide +kernel
theorem dX11_slack_37 : decode cX11_slack 37 = .ok (.ireturn, 1) := by decide +kernel
theorem dX11_longest_0 : decode cX11_longest 0 = .ok (.aload_n 0, 1) := by decide +kernel
theorem dX11_longest_1 : decode cX11_longest 1 = .ok (.getfield 30, 3) := by decide +kernel
theorem dX11_longest_4 : decode cX11_longest 4 = .ok (.iload_n 1, 1) := by decide +kernel
theorem dX11_longest_5 : decode cX11_longest 5 = .ok (.invokevirtual 162, 3) := by decide +kernel
theorem dX11_longest_8 : decode cX11_longest 8 = .ok (.ifCond .ne 5, 3) := by decide +kernel
theorem dX11_longest_11 : decode cX11_longest 11 = .ok (.iconst (-1), 1) := by decide +kernel
theorem dX11_longest_12 : decode cX11_longest 12 = .ok (.ireturn, 1) := by decide +kernel
theorem dX11_longest_13 : decode cX11_longest 13 = .ok (.aload_n 0, 1) := by decide +kernel
theorem dX11_longest_14 : decode cX11_longest 14 = .ok (.getfield 48, 3) := by decide +kernel
theorem dX11_longest_17 : decode cX11_longest 17 = .ok (.aload_n 0, 1) := by decide +kernel
theorem dX11_longest_18 : decode cX11_longest 18 = .ok (.getfield 36, 3) := by decide +kernel
theorem dX11_longest_21 : decode cX11_longest 21 = .ok (.iload_n 1, 1) := by decide +kernel
theorem dX11_longest_22 : decode cX11_longest 22 = .ok (.iconst 0, 1) := by decide +kernel
theorem dX11_longest_23 : decode cX11_longest 23 = .ok (.invokevirtual 233, 3) := by decide +kernel
theorem dX11_longest_26 : decode cX11_longest 26 = .ok (.pop, 1) := by decide +kernel
theorem dX11_longest_27 : decode cX11_longest 27 = .ok (.aload_n 0, 1) := by decide +kernel
theorem dX11_longest_28 : decode cX11_longest 28 = .ok (.getfield 48, 3) := by decide +kernel
theorem dX11_longest_31 : decode cX11_longest 31 = .ok (.invokevirtual 312, 3) := by decide +kernel
theorem dX11_longest_34 : decode cX11_longest 34 = .ok (.ireturn, 1) := by decide +kernel
theorem dX11_image_0 : decode cX11_image 0 = .ok (.aload_n 0, 1) := by decide +kernel
theorem dX11_image_1 : decode cX11_image 1 = .ok (.invokevirtual 120, 3) := by decide +kernel
theorem dX11_image_4 : decode cX11_image 4 = .ok (.ifCond .eq 5, 3) := by decide +kernel
theorem dX11_image_7 : decode cX11_image 7 = .ok (.iconst (-1), 1) := by decide +kernel
theorem dX11_image_8 : decode cX11_image 8 = .ok (.ireturn, 1) := by decide +kernel
theorem dX11_image_9 : decode cX11_image 9 = .ok (.aload_n 0, 1) := by decide +kernel
theorem dX11_image_10 : decode cX11_image 10 = .ok (.getfield 55, 3) := by decide +kernel
theorem dX11_image_13 : decode cX11_image 13 = .ok (.aload_n 0, 1) := by decide +kernel
theorem dX11_image_14 : decode cX11_image 14 = .ok (.getfield 36, 3) := by decide +kernel
theorem dX11_image_17 : decode cX11_image 17 = .ok (.invokevirtual 315, 3) := by decide +kernel
theorem dX11_image_20 : decode cX11_image 20 = .ok (.aload_n 0, 1) := by decide +kernel
theorem dX11_image_21 : decode cX11_image 21 = .ok (.getfield 36, 3) := by decide +kernel
theorem dX11_image_24 : decode cX11_image 24 = .ok (.invokevirtual 318, 3) := by decide +kernel
theorem dX11_image_27 : decode cX11_image 27 = .ok (.ireturn, 1) := by decide +kernel
theorem dX11_back_0 : decode cX11_back 0 = .ok (.aload_n 0, 1) := by decide +kernel
theorem dX11_back_1 : decode cX11_back 1 = .ok (.getfield 55, 3) := by decide +kernel
theorem dX11_back_4 : decode cX11_back 4 = .ok (.aload_n 0, 1) := by decide +kernel
theorem dX11_back_5 : decode cX11_back 5 = .ok (.getfield 36, 3) := by decide +kernel
theorem dX11_back_8 : decode cX11_back 8 = .ok (.invokevirtual 321, 3) := by decide +kernel
theorem dX11_back_11 : decode cX11_back 11 = .ok (.ifCond .eq 13, 3) := by decide +kernel
theorem dX11_back_14 : decode cX11_back 14 = .ok (.aload_n 0, 1) := by decide +kernel
theorem dX11_back_15 : decode cX11_back 15 = .ok (.getfield 36, 3) := by decide +kernel
theorem dX11_back_18 : decode cX11_back 18 = .ok (.invokevirtual 318, 3) := by decide +kernel
theorem dX11_back_21 : decode cX11_back 21 = .ok (.goto 4, 3) := by decide +kernel
theorem dX11_back_24 : decode cX11_back 24 = .ok (.iconst (-1), 1) := by decide +kernel
theorem dX11_back_25 : decode cX11_back 25 = .ok (.ireturn, 1) := by decide +kernel
theorem dX11_count_0 : decode cX11_count 0 = .ok (.iload_n 1, 1) := by decide +kernel
theorem dX11_count_1 : decode cX11_count 1 = .ok (.tableswitch 181 0 13 #[71, 79, 87, 95, 103, 111, 116, 124, 132, 137, 145, 153, 165, 173], 71) := by decide +kernel
theorem dX11_count_72 : decode cX11_count 72 = .ok (.aload_n 0, 1) := by decide +kernel
theorem dX11_count_73 : decode cX11_count 73 = .ok (.getfield 30, 3) := by decide +kernel
theorem dX11_count_76 : decode cX11_count 76 = .ok (.invokevirtual 282, 3) := by decide +kernel
theorem dX11_count_79 : decode cX11_count 79 = .ok (.ireturn, 1) := by decide +kernel
theorem dX11_count_80 : decode cX11_count 80 = .ok (.aload_n 0, 1) := by decide +kernel
theorem dX11_count_81 : decode cX11_count 81 = .ok (.getfield 30, 3) := by decide +kernel
theorem dX11_count_84 : decode cX11_count 84 = .ok (.invokevirtual 324, 3) := by decide +kernel
theorem dX11_count_87 : decode cX11_count 87 = .ok (.ireturn, 1) := by decide +kernel
theorem dX11_count_88 : decode cX11_count 88 = .ok (.aload_n 0, 1) := by decide +kernel
theorem dX11_count_89 : decode cX11_count 89 = .ok (.getfield 19, 3) := by decide +kernel
theorem dX11_count_92 : decode cX11_count 92 = .ok (.invokevirtual 168, 3) := by decide +kernel
theorem dX11_count_95 : decode cX11_count 95 = .ok (.ireturn, 1) := by decide +kernel
theorem dX11_count_96 : decode cX11_count 96 = .ok (.aload_n 0, 1) := by decide +kernel
theorem dX11_count_97 : decode cX11_count 97 = .ok (.getfield 19, 3) := by decide +kernel
theorem dX11_count_100 : decode cX11_count 100 = .ok (.invokevirtual 327, 3) := by decide +kernel
theorem dX11_count_103 : decode cX11_count 103 = .ok (.ireturn, 1) := by decide +kernel
theorem dX11_count_104 : decode cX11_count 104 = .ok (.aload_n 0, 1) := by decide +kernel
theorem dX11_count_105 : decode cX11_count 105 = .ok (.getfield 10, 3) := by decide +kernel
theorem dX11_count_108 : decode cX11_count 108 = .ok (.invokevirtual 93, 3) := by decide +kernel
theorem dX11_count_111 : decode cX11_count 111 = .ok (.ireturn, 1) := by decide +kernel
theorem dX11_count_112 : decode cX11_count 112 = .ok (.aload_n 0, 1) := by decide +kernel
theorem dX11_count_113 : decode cX11_count 113 = .ok (.getfield 86, 3) := by decide +kernel
theorem dX11_count_116 : decode cX11_count 116 = .ok (.ireturn, 1) := by decide +kernel
theorem dX11_count_117 : decode cX11_count 117 = .ok (.aload_n 0, 1) := by decide +kernel
theorem dX11_count_118 : decode cX11_count 118 = .ok (.getfield 30, 3) := by decide +kernel
theorem dX11_count_121 : decode cX11_count 121 = .ok (.invokevirtual 143, 3) := by decide +kernel
theorem dX11_count_124 : decode cX11_count 124 = .ok (.ireturn, 1) := by decide +kernel
theorem dX11_count_125 : decode cX11_count 125 = .ok (.aload_n 0, 1) := by decide +kernel
theorem dX11_count_126 : decode cX11_count 126 = .ok (.getfield 36, 3) := by decide +kernel
theorem dX11_count_129 : decode cX11_count 129 = .ok (.invokevirtual 318, 3) := by decide +kernel
theorem dX11_count_132 : decode cX11_count 132 = .ok (.ireturn, 1) := by decide +kernel
theorem dX11_count_133 : decode cX11_count 133 = .ok (.aload_n 0, 1) := by decide +kernel
theorem dX11_count_134 : decode cX11_count 134 = .ok (.getfield 82, 3) := by decide +kernel
theorem dX11_count_137 : decode cX11_count 137 = .ok (.ireturn, 1) := by decide +kernel
theorem dX11_count_138 : decode cX11_count 138 = .ok (.aload_n 0, 1) := by decide +kernel
theorem dX11_count_139 : decode cX11_count 139 = .ok (.getfield 78, 3) := by decide +kernel
theorem dX11_count_142 : decode cX11_count 142 = .ok (.invokevirtual 330, 3) := by decide +kernel
theorem dX11_count_145 : decode cX11_count 145 = .ok (.ireturn, 1) := by decide +kernel
theorem dX11_count_146 : decode cX11_count 146 = .ok (.aload_n 0, 1) := by decide +kernel
theorem dX11_count_147 : decode cX11_count 147 = .ok (.getfield 78, 3) := by decide +kernel
theorem dX11_count_150 : decode cX11_count 150 = .ok (.invokevirtual 333, 3) := by decide +kernel
theorem dX11_count_153 : decode cX11_count 153 = .ok (.ireturn, 1) := by decide +kernel
theorem dX11_count_154 : decode cX11_count 154 = .ok (.aload_n 0, 1) := by decide +kernel
theorem dX11_count_155 : decode cX11_count 155 = .ok (.getfield 55, 3) := by decide +kernel
theorem dX11_count_158 : decode cX11_count 158 = .ok (.aload_n 0, 1) := by decide +kernel
theorem dX11_count_159 : decode cX11_count 159 = .ok (.getfield 36, 3) := by decide +kernel
theorem dX11_count_162 : decode cX11_count 162 = .ok (.invokevirtual 202, 3) := by decide +kernel
theorem dX11_count_165 : decode cX11_count 165 = .ok (.ireturn, 1) := by decide +kernel
theorem dX11_count_166 : decode cX11_count 166 = .ok (.aload_n 0, 1) := by decide +kernel
theorem dX11_count_167 : decode cX11_count 167 = .ok (.getfield 55, 3) := by decide +kernel
theorem dX11_count_170 : decode cX11_count 170 = .ok (.invokevirtual 185, 3) := by decide +kernel
theorem dX11_count_173 : decode cX11_count 173 = .ok (.ireturn, 1) := by decide +kernel
theorem dX11_count_174 : decode cX11_count 174 = .ok (.aload_n 0, 1) := by decide +kernel
theorem dX11_count_175 : decode cX11_count 175 = .ok (.getfield 36, 3) := by decide +kernel
theorem dX11_count_178 : decode cX11_count 178 = .ok (.invokevirtual 230, 3) := by decide +kernel
theorem dX11_count_181 : decode cX11_count 181 = .ok (.ireturn, 1) := by decide +kernel
theorem dX11_count_182 : decode cX11_count 182 = .ok (.ldc 219, 2) := by decide +kernel
theorem dX11_count_184 : decode cX11_count 184 = .ok (.ireturn, 1) := by decide +kernel
theorem dX11_noCar_0 : decode cX11_noCar 0 = .ok (.aload_n 0, 1) := by decide +kernel
theorem dX11_noCar_1 : decode cX11_noCar 1 = .ok (.getfield 30, 3) := by decide +kernel
theorem dX11_noCar_4 : decode cX11_noCar 4 = .ok (.invokevirtual 282, 3) := by decide +kernel
theorem dX11_noCar_7 : decode cX11_noCar 7 = .ok (.ifCond .ne 7, 3) := by decide +kernel
theorem dX11_noCar_10 : decode cX11_noCar 10 = .ok (.iconst 1, 1) := by decide +kernel
theorem dX11_noCar_11 : decode cX11_noCar 11 = .ok (.goto 4, 3) := by decide +kernel
theorem dX11_noCar_14 : decode cX11_noCar 14 = .ok (.iconst 0, 1) := by decide +kernel
theorem dX11_noCar_15 : decode cX11_noCar 15 = .ok (.ireturn, 1) := by decide +kernel
theorem dX11_canRead_0 : decode cX11_canRead 0 = .ok (.iload_n 1, 1) := by decide +kernel
theorem dX11_canRead_1 : decode cX11_canRead 1 = .ok (.ifCond .ne 15, 3) := by decide +kernel
theorem dX11_canRead_4 : decode cX11_canRead 4 = .ok (.aload_n 0, 1) := by decide +kernel
theorem dX11_canRead_5 : decode cX11_canRead 5 = .ok (.getfield 26, 3) := by decide +kernel
theorem dX11_canRead_8 : decode cX11_canRead 8 = .ok (.aload_n 0, 1) := by decide +kernel
theorem dX11_canRead_9 : decode cX11_canRead 9 = .ok (.getfield 10, 3) := by decide +kernel
theorem dX11_canRead_12 : decode cX11_canRead 12 = .ok (.invokevirtual 336, 3) := by decide +kernel
theorem dX11_canRead_15 : decode cX11_canRead 15 = .ok (.ireturn, 1) := by decide +kernel
theorem dX11_canRead_16 : decode cX11_canRead 16 = .ok (.iload_n 1, 1) := by decide +kernel
theorem dX11_canRead_17 : decode cX11_canRead 17 = .ok (.iconst 1, 1) := by decide +kernel
theorem dX11_canRead_18 : decode cX11_canRead 18 = .ok (.if_icmp .ne 20, 3) := by decide +kernel
theorem dX11_canRead_21 : decode cX11_canRead 21 = .ok (.aload_n 0, 1) := by decide +kernel
theorem dX11_canRead_22 : decode cX11_canRead 22 = .ok (.getfield 19, 3) := by decide +kernel
theorem dX11_canRead_25 : decode cX11_canRead 25 = .ok (.invokevirtual 340, 3) := by decide +kernel
theorem dX11_canRead_28 : decode cX11_canRead 28 = .ok (.aload_n 0, 1) := by decide +kernel
theorem dX11_canRead_29 : decode cX11_canRead 29 = .ok (.getfield 10, 3) := by decide +kernel
theorem dX11_canRead_32 : decode cX11_canRead 32 = .ok (.invokevirtual 344, 3) := by decide +kernel
theorem dX11_canRead_35 : decode cX11_canRead 35 = .ok (.goto 17, 3) := by decide +kernel
theorem dX11_canRead_38 : decode cX11_canRead 38 = .ok (.aload_n 0, 1) := by decide +kernel
theorem dX11_canRead_39 : decode cX11_canRead 39 = .ok (.getfield 19, 3) := by decide +kernel
theorem dX11_canRead_42 : decode cX11_canRead 42 = .ok (.invokevirtual 347, 3) := by decide +kernel
theorem dX11_canRead_45 : decode cX11_canRead 45 = .ok (.aload_n 0, 1) := by decide +kernel
theorem dX11_canRead_46 : decode cX11_canRead 46 = .ok (.getfield 10, 3) := by decide +kernel
theorem dX11_canRead_49 : decode cX11_canRead 49 = .ok (.invokevirtual 351, 3) := by decide +kernel
theorem dX11_canRead_52 : decode cX11_canRead 52 = .ok (.ireturn, 1) := by decide +kernel
theorem dX11_board_0 : decode cX11_board 0 = .ok (.aload_n 0, 1) := by decide +kernel
theorem dX11_board_1 : decode cX11_board 1 = .ok (.getfield 30, 3) := by decide +kernel
theorem dX11_board_4 : decode cX11_board 4 = .ok (.aload_n 0, 1) := by decide +kernel
theorem dX11_board_5 : decode cX11_board 5 = .ok (.getfield 26, 3) := by decide +kernel
theorem dX11_board_8 : decode cX11_board 8 = .ok (.invokevirtual 352, 3) := by decide +kernel
theorem dX11_board_11 : decode cX11_board 11 = .ok (.aload_n 0, 1) := by decide +kernel
theorem dX11_board_12 : decode cX11_board 12 = .ok (.getfield 36, 3) := by decide +kernel
theorem dX11_board_15 : decode cX11_board 15 = .ok (.aload_n 0, 1) := by decide +kernel
theorem dX11_board_16 : decode cX11_board 16 = .ok (.getfield 30, 3) := by decide +kernel
theorem dX11_board_19 : decode cX11_board 19 = .ok (.invokevirtual 354, 3) := by decide +kernel
theorem dX11_board_22 : decode cX11_board 22 = .ok (.aload_n 0, 1) := by decide +kernel
theorem dX11_board_23 : decode cX11_board 23 = .ok (.getfield 55, 3) := by decide +kernel
theorem dX11_board_26 : decode cX11_board 26 = .ok (.invokevirtual 357, 3) := by decide +kernel
theorem dX11_board_29 : decode cX11_board 29 = .ok (.aload_n 0, 1) := by decide +kernel
theorem dX11_board_30 : decode cX11_board 30 = .ok (.getfield 78, 3) := by decide +kernel
theorem dX11_board_33 : decode cX11_board 33 = .ok (.invokevirtual 360, 3) := by decide +kernel
theorem dX11_board_36 : decode cX11_board 36 = .ok (.aload_n 0, 1) := by decide +kernel
theorem dX11_board_37 : decode cX11_board 37 = .ok (.getfield 30, 3) := by decide +kernel
theorem dX11_board_40 : decode cX11_board 40 = .ok (.invokevirtual 282, 3) := by decide +kernel
theorem dX11_board_43 : decode cX11_board 43 = .ok (.ireturn, 1) := by decide +kernel
theorem dX11_act_0 : decode cX11_act 0 = .ok (.aload_n 0, 1) := by decide +kernel
theorem dX11_act_1 : decode cX11_act 1 = .ok (.getfield 55, 3) := by decide +kernel
theorem dX11_act_4 : decode cX11_act 4 = .ok (.aload_n 0, 1) := by decide +kernel
theorem dX11_act_5 : decode cX11_act 5 = .ok (.getfield 36, 3) := by decide +kernel
theorem dX11_act_8 : decode cX11_act 8 = .ok (.invokevirtual 192, 3) := by decide +kernel
theorem dX11_act_11 : decode cX11_act 11 = .ok (.aload_n 0, 1) := by decide +kernel
theorem dX11_act_12 : decode cX11_act 12 = .ok (.getfield 48, 3) := by decide +kernel
theorem dX11_act_15 : decode cX11_act 15 = .ok (.aload_n 0, 1) := by decide +kernel
theorem dX11_act_16 : decode cX11_act 16 = .ok (.getfield 36, 3) := by decide +kernel
theorem dX11_act_19 : decode cX11_act 19 = .ok (.iload_n 1, 1) := by decide +kernel
theorem dX11_act_20 : decode cX11_act 20 = .ok (.iload_n 2, 1) := by decide +kernel
theorem dX11_act_21 : decode cX11_act 21 = .ok (.iload_n 3, 1) := by decide +kernel
theorem dX11_act_22 : decode cX11_act 22 = .ok (.invokevirtual 226, 3) := by decide +kernel
theorem dX11_act_25 : decode cX11_act 25 = .ok (.istore 4, 2) := by decide +kernel
theorem dX11_act_27 : decode cX11_act 27 = .ok (.iload 4, 2) := by decide +kernel
theorem dX11_act_29 : decode cX11_act 29 = .ok (.iconst (-1), 1) := by decide +kernel
theorem dX11_act_30 : decode cX11_act 30 = .ok (.if_icmp .eq 22, 3) := by decide +kernel
theorem dX11_act_33 : decode cX11_act 33 = .ok (.aload_n 0, 1) := by decide +kernel
theorem dX11_act_34 : decode cX11_act 34 = .ok (.getfield 55, 3) := by decide +kernel
theorem dX11_act_37 : decode cX11_act 37 = .ok (.invokevirtual 199, 3) := by decide +kernel
theorem dX11_act_40 : decode cX11_act 40 = .ok (.iload_n 1, 1) := by decide +kernel
theorem dX11_act_41 : decode cX11_act 41 = .ok (.iconst 5, 1) := by decide +kernel
theorem dX11_act_42 : decode cX11_act 42 = .ok (.if_icmp .ne 10, 3) := by decide +kernel
theorem dX11_act_45 : decode cX11_act 45 = .ok (.aload_n 0, 1) := by decide +kernel
theorem dX11_act_46 : decode cX11_act 46 = .ok (.iload_n 2, 1) := by decide +kernel
theorem dX11_act_47 : decode cX11_act 47 = .ok (.iload 4, 2) := by decide +kernel
theorem dX11_act_49 : decode cX11_act 49 = .ok (.invokevirtual 361, 3) := by decide +kernel
theorem dX11_act_52 : decode cX11_act 52 = .ok (.iload 4, 2) := by decide +kernel
theorem dX11_act_54 : decode cX11_act 54 = .ok (.ireturn, 1) := by decide +kernel
theorem dX11_writeLog_0 : decode cX11_writeLog 0 = .ok (.aload_n 0, 1) := by decide +kernel
theorem dX11_writeLog_1 : decode cX11_writeLog 1 = .ok (.getfield 55, 3) := by decide +kernel
theorem dX11_writeLog_4 : decode cX11_writeLog 4 = .ok (.aload_n 0, 1) := by decide +kernel
theorem dX11_writeLog_5 : decode cX11_writeLog 5 = .ok (.getfield 36, 3) := by decide +kernel
theorem dX11_writeLog_8 : decode cX11_writeLog 8 = .ok (.iload_n 1, 1) := by decide +kernel
theorem dX11_writeLog_9 : decode cX11_writeLog 9 = .ok (.iload_n 2, 1) := by decide +kernel
theorem dX11_writeLog_10 : decode cX11_writeLog 10 = .ok (.iload_n 2, 1) := by decide +kernel
theorem dX11_writeLog_11 : decode cX11_writeLog 11 = .ok (.aload_n 0, 1) := by decide +kernel
theorem dX11_writeLog_12 : decode cX11_writeLog 12 = .ok (.getfield 30, 3) := by decide +kernel
theorem dX11_writeLog_15 : decode cX11_writeLog 15 = .ok (.invokevirtual 309, 3) := by decide +kernel
theorem dX11_writeLog_18 : decode cX11_writeLog 18 = .ok (.if_icmp .le 7, 3) := by decide +kernel
theorem dX11_writeLog_21 : decode cX11_writeLog 21 = .ok (.iconst 1, 1) := by decide +kernel
theorem dX11_writeLog_22 : decode cX11_writeLog 22 = .ok (.goto 4, 3) := by decide +kernel
theorem dX11_writeLog_25 : decode cX11_writeLog 25 = .ok (.iconst 0, 1) := by decide +kernel
theorem dX11_writeLog_26 : decode cX11_writeLog 26 = .ok (.aload_n 0, 1) := by decide +kernel
theorem dX11_writeLog_27 : decode cX11_writeLog 27 = .ok (.getfield 48, 3) := by decide +kernel
theorem dX11_writeLog_30 : decode cX11_writeLog 30 = .ok (.invokevirtual 237, 3) := by decide +kernel
theorem dX11_writeLog_33 : decode cX11_writeLog 33 = .ok (.invokevirtual 365, 3) := by decide +kernel
theorem dX11_writeLog_36 : decode cX11_writeLog 36 = .ok (.return_, 1) := by decide +kernel
theorem dX11_spendNight_0 : decode cX11_spendNight 0 = .ok (.aload_n 0, 1) := by decide +kernel
theorem dX11_spendNight_1 : decode cX11_spendNight 1 = .ok (.invokevirtual 369, 3) := by decide +kernel
theorem dX11_spendNight_4 : decode cX11_spendNight 4 = .ok (.istore_n 1, 1) := by decide +kernel
theorem dX11_spendNight_5 : decode cX11_spendNight 5 = .ok (.aload_n 0, 1) := by decide +kernel
theorem dX11_spendNight_6 : decode cX11_spendNight 6 = .ok (.iload_n 1, 1) := by decide +kernel
theorem dX11_spendNight_7 : decode cX11_spendNight 7 = .ok (.aload_n 0, 1) := by decide +kernel
theorem dX11_spendNight_8 : decode cX11_spendNight 8 = .ok (.getfield 48, 3) := by decide +kernel
theorem dX11_spendNight_11 : decode cX11_spendNight 11 = .ok (.aload_n 0, 1) := by decide +kernel
theorem dX11_spendNight_12 : decode cX11_spendNight 12 = .ok (.getfield 36, 3) := by decide +kernel
theorem dX11_spendNight_15 : decode cX11_spendNight 15 = .ok (.iload_n 1, 1) := by decide +kernel
theorem dX11_spendNight_16 : decode cX11_spendNight 16 = .ok (.iconst 1, 1) := by decide +kernel
theorem dX11_spendNight_17 : decode cX11_spendNight 17 = .ok (.invokevirtual 233, 3) := by decide +kernel
theorem dX11_spendNight_20 : decode cX11_spendNight 20 = .ok (.invokevirtual 361, 3) := by decide +kernel
theorem dX11_spendNight_23 : decode cX11_spendNight 23 = .ok (.iconst 0, 1) := by decide +kernel
theorem dX11_spendNight_24 : decode cX11_spendNight 24 = .ok (.istore_n 2, 1) := by decide +kernel
theorem dX11_spendNight_25 : decode cX11_spendNight 25 = .ok (.iload_n 2, 1) := by decide +kernel
theorem dX11_spendNight_26 : decode cX11_spendNight 26 = .ok (.aload_n 0, 1) := by decide +kernel
theorem dX11_spendNight_27 : decode cX11_spendNight 27 = .ok (.getfield 30, 3) := by decide +kernel
theorem dX11_spendNight_30 : decode cX11_spendNight 30 = .ok (.invokevirtual 282, 3) := by decide +kernel
theorem dX11_spendNight_33 : decode cX11_spendNight 33 = .ok (.if_icmp .ge 41, 3) := by decide +kernel
theorem dX11_spendNight_36 : decode cX11_spendNight 36 = .ok (.aload_n 0, 1) := by decide +kernel
theorem dX11_spendNight_37 : decode cX11_spendNight 37 = .ok (.getfield 36, 3) := by decide +kernel
theorem dX11_spendNight_40 : decode cX11_spendNight 40 = .ok (.iload_n 2, 1) := by decide +kernel
theorem dX11_spendNight_41 : decode cX11_spendNight 41 = .ok (.invokevirtual 153, 3) := by decide +kernel
theorem dX11_spendNight_44 : decode cX11_spendNight 44 = .ok (.ifCond .ne 24, 3) := by decide +kernel
theorem dX11_spendNight_47 : decode cX11_spendNight 47 = .ok (.aload_n 0, 1) := by decide +kernel
theorem dX11_spendNight_48 : decode cX11_spendNight 48 = .ok (.bipush 100, 2) := by decide +kernel
theorem dX11_spendNight_50 : decode cX11_spendNight 50 = .ok (.invokevirtual 372, 3) := by decide +kernel
theorem dX11_spendNight_53 : decode cX11_spendNight 53 = .ok (.aload_n 0, 1) := by decide +kernel
theorem dX11_spendNight_54 : decode cX11_spendNight 54 = .ok (.getfield 82, 3) := by decide +kernel
theorem dX11_spendNight_57 : decode cX11_spendNight 57 = .ok (.if_icmp .ge 11, 3) := by decide +kernel
theorem dX11_spendNight_60 : decode cX11_spendNight 60 = .ok (.aload_n 0, 1) := by decide +kernel
theorem dX11_spendNight_61 : decode cX11_spendNight 61 = .ok (.getfield 36, 3) := by decide +kernel
theorem dX11_spendNight_64 : decode cX11_spendNight 64 = .ok (.iload_n 2, 1) := by decide +kernel
theorem dX11_spendNight_65 : decode cX11_spendNight 65 = .ok (.invokevirtual 375, 3) := by decide +kernel
theorem dX11_spendNight_68 : decode cX11_spendNight 68 = .ok (.iinc 2 1, 3) := by decide +kernel
theorem dX11_spendNight_71 : decode cX11_spendNight 71 = .ok (.goto (-46), 3) := by decide +kernel
theorem dX11_spendNight_74 : decode cX11_spendNight 74 = .ok (.return_, 1) := by decide +kernel
theorem dX11_drawOfficer_0 : decode cX11_drawOfficer 0 = .ok (.aload_n 0, 1) := by decide +kernel
theorem dX11_drawOfficer_1 : decode cX11_drawOfficer 1 = .ok (.getfield 30, 3) := by decide +kernel
theorem dX11_drawOfficer_4 : decode cX11_drawOfficer 4 = .ok (.invokevirtual 378, 3) := by decide +kernel
theorem dX11_drawOfficer_7 : decode cX11_drawOfficer 7 = .ok (.istore_n 1, 1) := by decide +kernel
theorem dX11_drawOfficer_8 : decode cX11_drawOfficer 8 = .ok (.iload_n 1, 1) := by decide +kernel
theorem dX11_drawOfficer_9 : decode cX11_drawOfficer 9 = .ok (.ifCond .ne 5, 3) := by decide +kernel
theorem dX11_drawOfficer_12 : decode cX11_drawOfficer 12 = .ok (.iconst 0, 1) := by decide +kernel
theorem dX11_drawOfficer_13 : decode cX11_drawOfficer 13 = .ok (.ireturn, 1) := by decide +kernel
theorem dX11_drawOfficer_14 : decode cX11_drawOfficer 14 = .ok (.aload_n 0, 1) := by decide +kernel
theorem dX11_drawOfficer_15 : decode cX11_drawOfficer 15 = .ok (.iload_n 1, 1) := by decide +kernel
theorem dX11_drawOfficer_16 : decode cX11_drawOfficer 16 = .ok (.invokevirtual 372, 3) := by decide +kernel
theorem dX11_drawOfficer_19 : decode cX11_drawOfficer 19 = .ok (.istore_n 2, 1) := by decide +kernel
theorem dX11_drawOfficer_20 : decode cX11_drawOfficer 20 = .ok (.iconst 0, 1) := by decide +kernel
theorem dX11_drawOfficer_21 : decode cX11_drawOfficer 21 = .ok (.istore_n 3, 1) := by decide +kernel
theorem dX11_drawOfficer_22 : decode cX11_drawOfficer 22 = .ok (.iload_n 3, 1) := by decide +kernel
theorem dX11_drawOfficer_23 : decode cX11_drawOfficer 23 = .ok (.iconst 1, 1) := by decide +kernel
theorem dX11_drawOfficer_24 : decode cX11_drawOfficer 24 = .ok (.iadd, 1) := by decide +kernel
theorem dX11_drawOfficer_25 : decode cX11_drawOfficer 25 = .ok (.aload_n 0, 1) := by decide +kernel
theorem dX11_drawOfficer_26 : decode cX11_drawOfficer 26 = .ok (.getfield 30, 3) := by decide +kernel
theorem dX11_drawOfficer_29 : decode cX11_drawOfficer 29 = .ok (.invokevirtual 324, 3) := by decide +kernel
theorem dX11_drawOfficer_32 : decode cX11_drawOfficer 32 = .ok (.if_icmp .ge 34, 3) := by decide +kernel
theorem dX11_drawOfficer_35 : decode cX11_drawOfficer 35 = .ok (.iload_n 2, 1) := by decide +kernel
theorem dX11_drawOfficer_36 : decode cX11_drawOfficer 36 = .ok (.aload_n 0, 1) := by decide +kernel
theorem dX11_drawOfficer_37 : decode cX11_drawOfficer 37 = .ok (.getfield 30, 3) := by decide +kernel
theorem dX11_drawOfficer_40 : decode cX11_drawOfficer 40 = .ok (.iload_n 3, 1) := by decide +kernel
theorem dX11_drawOfficer_41 : decode cX11_drawOfficer 41 = .ok (.iconst 0, 1) := by decide +kernel
theorem dX11_drawOfficer_42 : decode cX11_drawOfficer 42 = .ok (.invokevirtual 165, 3) := by decide +kernel
theorem dX11_drawOfficer_45 : decode cX11_drawOfficer 45 = .ok (.if_icmp .lt 21, 3) := by decide +kernel
theorem dX11_drawOfficer_48 : decode cX11_drawOfficer 48 = .ok (.iload_n 2, 1) := by decide +kernel
theorem dX11_drawOfficer_49 : decode cX11_drawOfficer 49 = .ok (.aload_n 0, 1) := by decide +kernel
theorem dX11_drawOfficer_50 : decode cX11_drawOfficer 50 = .ok (.getfield 30, 3) := by decide +kernel
theorem dX11_drawOfficer_53 : decode cX11_drawOfficer 53 = .ok (.iload_n 3, 1) := by decide +kernel
theorem dX11_drawOfficer_54 : decode cX11_drawOfficer 54 = .ok (.iconst 0, 1) := by decide +kernel
theorem dX11_drawOfficer_55 : decode cX11_drawOfficer 55 = .ok (.invokevirtual 165, 3) := by decide +kernel
theorem dX11_drawOfficer_58 : decode cX11_drawOfficer 58 = .ok (.isub, 1) := by decide +kernel
theorem dX11_drawOfficer_59 : decode cX11_drawOfficer 59 = .ok (.istore_n 2, 1) := by decide +kernel
theorem dX11_drawOfficer_60 : decode cX11_drawOfficer 60 = .ok (.iinc 3 1, 3) := by decide +kernel
theorem dX11_drawOfficer_63 : decode cX11_drawOfficer 63 = .ok (.goto (-41), 3) := by decide +kernel
theorem dX11_drawOfficer_66 : decode cX11_drawOfficer 66 = .ok (.iload_n 3, 1) := by decide +kernel
theorem dX11_drawOfficer_67 : decode cX11_drawOfficer 67 = .ok (.ireturn, 1) := by decide +kernel
theorem dX11_draw_0 : decode cX11_draw 0 = .ok (.aload_n 0, 1) := by decide +kernel
theorem dX11_draw_1 : decode cX11_draw 1 = .ok (.aload_n 0, 1) := by decide +kernel
theorem dX11_draw_2 : decode cX11_draw 2 = .ok (.getfield 188, 3) := by decide +kernel
theorem dX11_draw_5 : decode cX11_draw 5 = .ok (.ldc2_w 381, 3) := by decide +kernel
theorem dX11_draw_8 : decode cX11_draw 8 = .ok (.lmul, 1) := by decide +kernel
theorem dX11_draw_9 : decode cX11_draw 9 = .ok (.ldc2_w 383, 3) := by decide +kernel
theorem dX11_draw_12 : decode cX11_draw 12 = .ok (.ladd, 1) := by decide +kernel
theorem dX11_draw_13 : decode cX11_draw 13 = .ok (.putfield 188, 3) := by decide +kernel
theorem dX11_draw_16 : decode cX11_draw 16 = .ok (.iload_n 1, 1) := by decide +kernel
theorem dX11_draw_17 : decode cX11_draw 17 = .ok (.iconst 1, 1) := by decide +kernel
theorem dX11_draw_18 : decode cX11_draw 18 = .ok (.if_icmp .ge 7, 3) := by decide +kernel
theorem dX11_draw_21 : decode cX11_draw 21 = .ok (.iconst 0, 1) := by decide +kernel
theorem dX11_draw_22 : decode cX11_draw 22 = .ok (.goto 14, 3) := by decide +kernel
theorem dX11_draw_25 : decode cX11_draw 25 = .ok (.aload_n 0, 1) := by decide +kernel
theorem dX11_draw_26 : decode cX11_draw 26 = .ok (.getfield 188, 3) := by decide +kernel
theorem dX11_draw_29 : decode cX11_draw 29 = .ok (.bipush 33, 2) := by decide +kernel
theorem dX11_draw_31 : decode cX11_draw 31 = .ok (.lushr, 1) := by decide +kernel
theorem dX11_draw_32 : decode cX11_draw 32 = .ok (.iload_n 1, 1) := by decide +kernel
theorem dX11_draw_33 : decode cX11_draw 33 = .ok (.i2l, 1) := by decide +kernel
theorem dX11_draw_34 : decode cX11_draw 34 = .ok (.lrem, 1) := by decide +kernel
theorem dX11_draw_35 : decode cX11_draw 35 = .ok (.l2i, 1) := by decide +kernel
theorem dX11_draw_36 : decode cX11_draw 36 = .ok (.ireturn, 1) := by decide +kernel
theorem dX11_houseHas_0 : decode cX11_houseHas 0 = .ok (.iconst 0, 1) := by decide +kernel
theorem dX11_houseHas_1 : decode cX11_houseHas 1 = .ok (.istore 5, 2) := by decide +kernel
theorem dX11_houseHas_3 : decode cX11_houseHas 3 = .ok (.iload_n 3, 1) := by decide +kernel
theorem dX11_houseHas_4 : decode cX11_houseHas 4 = .ok (.iconst 1, 1) := by decide +kernel
theorem dX11_houseHas_5 : decode cX11_houseHas 5 = .ok (.if_icmp .ne 34, 3) := by decide +kernel
theorem dX11_houseHas_8 : decode cX11_houseHas 8 = .ok (.iload 5, 2) := by decide +kernel
theorem dX11_houseHas_10 : decode cX11_houseHas 10 = .ok (.iconst 2, 1) := by decide +kernel
theorem dX11_houseHas_11 : decode cX11_houseHas 11 = .ok (.iload_n 2, 1) := by decide +kernel
theorem dX11_houseHas_12 : decode cX11_houseHas 12 = .ok (.imul, 1) := by decide +kernel
theorem dX11_houseHas_13 : decode cX11_houseHas 13 = .ok (.isub, 1) := by decide +kernel
theorem dX11_houseHas_14 : decode cX11_houseHas 14 = .ok (.istore 5, 2) := by decide +kernel
theorem dX11_houseHas_16 : decode cX11_houseHas 16 = .ok (.iload 4, 2) := by decide +kernel
theorem dX11_houseHas_18 : decode cX11_houseHas 18 = .ok (.ifCond .ne 21, 3) := by decide +kernel
theorem dX11_houseHas_21 : decode cX11_houseHas 21 = .ok (.iload 5, 2) := by decide +kernel
theorem dX11_houseHas_23 : decode cX11_houseHas 23 = .ok (.aload_n 0, 1) := by decide +kernel
theorem dX11_houseHas_24 : decode cX11_houseHas 24 = .ok (.getfield 30, 3) := by decide +kernel
theorem dX11_houseHas_27 : decode cX11_houseHas 27 = .ok (.iload_n 1, 1) := by decide +kernel
theorem dX11_houseHas_28 : decode cX11_houseHas 28 = .ok (.iconst 3, 1) := by decide +kernel
theorem dX11_houseHas_29 : decode cX11_houseHas 29 = .ok (.invokevirtual 165, 3) := by decide +kernel
theorem dX11_houseHas_32 : decode cX11_houseHas 32 = .ok (.iload_n 2, 1) := by decide +kernel
theorem dX11_houseHas_33 : decode cX11_houseHas 33 = .ok (.iconst 1, 1) := by decide +kernel
theorem dX11_houseHas_34 : decode cX11_houseHas 34 = .ok (.isub, 1) := by decide +kernel
theorem dX11_houseHas_35 : decode cX11_houseHas 35 = .ok (.imul, 1) := by decide +kernel
theorem dX11_houseHas_36 : decode cX11_houseHas 36 = .ok (.iadd, 1) := by decide +kernel
theorem dX11_houseHas_37 : decode cX11_houseHas 37 = .ok (.istore 5, 2) := by decide +kernel
theorem dX11_houseHas_39 : decode cX11_houseHas 39 = .ok (.iload 4, 2) := by decide +kernel
theorem dX11_houseHas_41 : decode cX11_houseHas 41 = .ok (.iconst 1, 1) := by decide +kernel
theorem dX11_houseHas_42 : decode cX11_houseHas 42 = .ok (.if_icmp .ne 24, 3) := by decide +kernel
theorem dX11_houseHas_45 : decode cX11_houseHas 45 = .ok (.iload 5, 2) := by decide +kernel
theorem dX11_houseHas_47 : decode cX11_houseHas 47 = .ok (.aload_n 0, 1) := by decide +kernel
theorem dX11_houseHas_48 : decode cX11_houseHas 48 = .ok (.getfield 48, 3) := by decide +kernel
theorem dX11_houseHas_51 : decode cX11_houseHas 51 = .ok (.aload_n 0, 1) := by decide +kernel
theorem dX11_houseHas_52 : decode cX11_houseHas 52 = .ok (.getfield 36, 3) := by decide +kernel
theorem dX11_houseHas_55 : decode cX11_houseHas 55 = .ok (.invokevirtual 385, 3) := by decide +kernel
theorem dX11_houseHas_58 : decode cX11_houseHas 58 = .ok (.bipush 10, 2) := by decide +kernel
theorem dX11_houseHas_60 : decode cX11_houseHas 60 = .ok (.idiv, 1) := by decide +kernel
theorem dX11_houseHas_61 : decode cX11_houseHas 61 = .ok (.iload_n 2, 1) := by decide +kernel
theorem dX11_houseHas_62 : decode cX11_houseHas 62 = .ok (.imul, 1) := by decide +kernel
theorem dX11_houseHas_63 : decode cX11_houseHas 63 = .ok (.isub, 1) := by decide +kernel
theorem dX11_houseHas_64 : decode cX11_houseHas 64 = .ok (.istore 5, 2) := by decide +kernel
theorem dX11_houseHas_66 : decode cX11_houseHas 66 = .ok (.iload 5, 2) := by decide +kernel
theorem dX11_houseHas_68 : decode cX11_houseHas 68 = .ok (.ireturn, 1) := by decide +kernel
theorem dX11_officerHas_0 : decode cX11_officerHas 0 = .ok (.iconst 3, 1) := by decide +kernel
theorem dX11_officerHas_1 : decode cX11_officerHas 1 = .ok (.iload_n 0, 1) := by decide +kernel
theorem dX11_officerHas_2 : decode cX11_officerHas 2 = .ok (.imul, 1) := by decide +kernel
theorem dX11_officerHas_3 : decode cX11_officerHas 3 = .ok (.iload_n 1, 1) := by decide +kernel
theorem dX11_officerHas_4 : decode cX11_officerHas 4 = .ok (.imul, 1) := by decide +kernel
theorem dX11_officerHas_5 : decode cX11_officerHas 5 = .ok (.iload_n 0, 1) := by decide +kernel
theorem dX11_officerHas_6 : decode cX11_officerHas 6 = .ok (.iload_n 2, 1) := by decide +kernel
theorem dX11_officerHas_7 : decode cX11_officerHas 7 = .ok (.imul, 1) := by decide +kernel
theorem dX11_officerHas_8 : decode cX11_officerHas 8 = .ok (.iadd, 1) := by decide +kernel
theorem dX11_officerHas_9 : decode cX11_officerHas 9 = .ok (.iconst 2, 1) := by decide +kernel
theorem dX11_officerHas_10 : decode cX11_officerHas 10 = .ok (.iload_n 0, 1) := by decide +kernel
theorem dX11_officerHas_11 : decode cX11_officerHas 11 = .ok (.imul, 1) := by decide +kernel
theorem dX11_officerHas_12 : decode cX11_officerHas 12 = .ok (.iload_n 1, 1) := by decide +kernel
theorem dX11_officerHas_13 : decode cX11_officerHas 13 = .ok (.imul, 1) := by decide +kernel
theorem dX11_officerHas_14 : decode cX11_officerHas 14 = .ok (.iload_n 2, 1) := by decide +kernel
theorem dX11_officerHas_15 : decode cX11_officerHas 15 = .ok (.imul, 1) := by decide +kernel
theorem dX11_officerHas_16 : decode cX11_officerHas 16 = .ok (.isub, 1) := by decide +kernel
theorem dX11_officerHas_17 : decode cX11_officerHas 17 = .ok (.ireturn, 1) := by decide +kernel
theorem dJ6_bitCount_0f7a4_0 : decode cJ6_bitCount_0f7a4 0 = .ok (.iload_n 0, 1) := by decide +kernel
theorem dJ6_bitCount_0f7a4_1 : decode cJ6_bitCount_0f7a4 1 = .ok (.iload_n 0, 1) := by decide +kernel
theorem dJ6_bitCount_0f7a4_2 : decode cJ6_bitCount_0f7a4 2 = .ok (.iconst 1, 1) := by decide +kernel
theorem dJ6_bitCount_0f7a4_3 : decode cJ6_bitCount_0f7a4 3 = .ok (.iushr, 1) := by decide +kernel
theorem dJ6_bitCount_0f7a4_4 : decode cJ6_bitCount_0f7a4 4 = .ok (.ldc_w 265, 3) := by decide +kernel
theorem dJ6_bitCount_0f7a4_7 : decode cJ6_bitCount_0f7a4 7 = .ok (.iand, 1) := by decide +kernel
theorem dJ6_bitCount_0f7a4_8 : decode cJ6_bitCount_0f7a4 8 = .ok (.isub, 1) := by decide +kernel
theorem dJ6_bitCount_0f7a4_9 : decode cJ6_bitCount_0f7a4 9 = .ok (.istore_n 0, 1) := by decide +kernel
theorem dJ6_bitCount_0f7a4_10 : decode cJ6_bitCount_0f7a4 10 = .ok (.iload_n 0, 1) := by decide +kernel
theorem dJ6_bitCount_0f7a4_11 : decode cJ6_bitCount_0f7a4 11 = .ok (.ldc_w 266, 3) := by decide +kernel
theorem dJ6_bitCount_0f7a4_14 : decode cJ6_bitCount_0f7a4 14 = .ok (.iand, 1) := by decide +kernel
theorem dJ6_bitCount_0f7a4_15 : decode cJ6_bitCount_0f7a4 15 = .ok (.iload_n 0, 1) := by decide +kernel
theorem dJ6_bitCount_0f7a4_16 : decode cJ6_bitCount_0f7a4 16 = .ok (.iconst 2, 1) := by decide +kernel
theorem dJ6_bitCount_0f7a4_17 : decode cJ6_bitCount_0f7a4 17 = .ok (.iushr, 1) := by decide +kernel
theorem dJ6_bitCount_0f7a4_18 : decode cJ6_bitCount_0f7a4 18 = .ok (.ldc_w 266, 3) := by decide +kernel
theorem dJ6_bitCount_0f7a4_21 : decode cJ6_bitCount_0f7a4 21 = .ok (.iand, 1) := by decide +kernel
theorem dJ6_bitCount_0f7a4_22 : decode cJ6_bitCount_0f7a4 22 = .ok (.iadd, 1) := by decide +kernel
theorem dJ6_bitCount_0f7a4_23 : decode cJ6_bitCount_0f7a4 23 = .ok (.istore_n 0, 1) := by decide +kernel
theorem dJ6_bitCount_0f7a4_24 : decode cJ6_bitCount_0f7a4 24 = .ok (.iload_n 0, 1) := by decide +kernel
theorem dJ6_bitCount_0f7a4_25 : decode cJ6_bitCount_0f7a4 25 = .ok (.iload_n 0, 1) := by decide +kernel
theorem dJ6_bitCount_0f7a4_26 : decode cJ6_bitCount_0f7a4 26 = .ok (.iconst 4, 1) := by decide +kernel
theorem dJ6_bitCount_0f7a4_27 : decode cJ6_bitCount_0f7a4 27 = .ok (.iushr, 1) := by decide +kernel
theorem dJ6_bitCount_0f7a4_28 : decode cJ6_bitCount_0f7a4 28 = .ok (.iadd, 1) := by decide +kernel
theorem dJ6_bitCount_0f7a4_29 : decode cJ6_bitCount_0f7a4 29 = .ok (.ldc_w 267, 3) := by decide +kernel
theorem dJ6_bitCount_0f7a4_32 : decode cJ6_bitCount_0f7a4 32 = .ok (.iand, 1) := by decide +kernel
theorem dJ6_bitCount_0f7a4_33 : decode cJ6_bitCount_0f7a4 33 = .ok (.istore_n 0, 1) := by decide +kernel
theorem dJ6_bitCount_0f7a4_34 : decode cJ6_bitCount_0f7a4 34 = .ok (.iload_n 0, 1) := by decide +kernel
theorem dJ6_bitCount_0f7a4_35 : decode cJ6_bitCount_0f7a4 35 = .ok (.iload_n 0, 1) := by decide +kernel
theorem dJ6_bitCount_0f7a4_36 : decode cJ6_bitCount_0f7a4 36 = .ok (.bipush 8, 2) := by decide +kernel
theorem dJ6_bitCount_0f7a4_38 : decode cJ6_bitCount_0f7a4 38 = .ok (.iushr, 1) := by decide +kernel
theorem dJ6_bitCount_0f7a4_39 : decode cJ6_bitCount_0f7a4 39 = .ok (.iadd, 1) := by decide +kernel
theorem dJ6_bitCount_0f7a4_40 : decode cJ6_bitCount_0f7a4 40 = .ok (.istore_n 0, 1) := by decide +kernel
theorem dJ6_bitCount_0f7a4_41 : decode cJ6_bitCount_0f7a4 41 = .ok (.iload_n 0, 1) := by decide +kernel
theorem dJ6_bitCount_0f7a4_42 : decode cJ6_bitCount_0f7a4 42 = .ok (.iload_n 0, 1) := by decide +kernel
theorem dJ6_bitCount_0f7a4_43 : decode cJ6_bitCount_0f7a4 43 = .ok (.bipush 16, 2) := by decide +kernel
theorem dJ6_bitCount_0f7a4_45 : decode cJ6_bitCount_0f7a4 45 = .ok (.iushr, 1) := by decide +kernel
theorem dJ6_bitCount_0f7a4_46 : decode cJ6_bitCount_0f7a4 46 = .ok (.iadd, 1) := by decide +kernel
theorem dJ6_bitCount_0f7a4_47 : decode cJ6_bitCount_0f7a4 47 = .ok (.istore_n 0, 1) := by decide +kernel
theorem dJ6_bitCount_0f7a4_48 : decode cJ6_bitCount_0f7a4 48 = .ok (.iload_n 0, 1) := by decide +kernel
theorem dJ6_bitCount_0f7a4_49 : decode cJ6_bitCount_0f7a4 49 = .ok (.bipush 63, 2) := by decide +kernel
theorem dJ6_bitCount_0f7a4_51 : decode cJ6_bitCount_0f7a4 51 = .ok (.iand, 1) := by decide +kernel
theorem dJ6_bitCount_0f7a4_52 : decode cJ6_bitCount_0f7a4 52 = .ok (.ireturn, 1) := by decide +kernel
theorem dJ9_abs_0f7a4_0 : decode cJ9_abs_0f7a4 0 = .ok (.iload_n 0, 1) := by decide +kernel
theorem dJ9_abs_0f7a4_1 : decode cJ9_abs_0f7a4 1 = .ok (.ifCond .ge 8, 3) := by decide +kernel
theorem dJ9_abs_0f7a4_4 : decode cJ9_abs_0f7a4 4 = .ok (.iload_n 0, 1) := by decide +kernel
theorem dJ9_abs_0f7a4_5 : decode cJ9_abs_0f7a4 5 = .ok (.ineg, 1) := by decide +kernel
theorem dJ9_abs_0f7a4_6 : decode cJ9_abs_0f7a4 6 = .ok (.goto 4, 3) := by decide +kernel
theorem dJ9_abs_0f7a4_9 : decode cJ9_abs_0f7a4 9 = .ok (.iload_n 0, 1) := by decide +kernel
theorem dJ9_abs_0f7a4_10 : decode cJ9_abs_0f7a4 10 = .ok (.ireturn, 1) := by decide +kernel
theorem dJ9_max_7cf53_0 : decode cJ9_max_7cf53 0 = .ok (.iload_n 0, 1) := by decide +kernel
theorem dJ9_max_7cf53_1 : decode cJ9_max_7cf53 1 = .ok (.iload_n 1, 1) := by decide +kernel
theorem dJ9_max_7cf53_2 : decode cJ9_max_7cf53 2 = .ok (.if_icmp .lt 7, 3) := by decide +kernel
theorem dJ9_max_7cf53_5 : decode cJ9_max_7cf53 5 = .ok (.iload_n 0, 1) := by decide +kernel
theorem dJ9_max_7cf53_6 : decode cJ9_max_7cf53 6 = .ok (.goto 4, 3) := by decide +kernel
theorem dJ9_max_7cf53_9 : decode cJ9_max_7cf53 9 = .ok (.iload_n 1, 1) := by decide +kernel
theorem dJ9_max_7cf53_10 : decode cJ9_max_7cf53 10 = .ok (.ireturn, 1) := by decide +kernel
theorem dJ9_max_f86c9_0 : decode cJ9_max_f86c9 0 = .ok (.lload_n 0, 1) := by decide +kernel
theorem dJ9_max_f86c9_1 : decode cJ9_max_f86c9 1 = .ok (.lload_n 2, 1) := by decide +kernel
theorem dJ9_max_f86c9_2 : decode cJ9_max_f86c9 2 = .ok (.lcmp, 1) := by decide +kernel
theorem dJ9_max_f86c9_3 : decode cJ9_max_f86c9 3 = .ok (.ifCond .lt 7, 3) := by decide +kernel
theorem dJ9_max_f86c9_6 : decode cJ9_max_f86c9 6 = .ok (.lload_n 0, 1) := by decide +kernel
theorem dJ9_max_f86c9_7 : decode cJ9_max_f86c9 7 = .ok (.goto 4, 3) := by decide +kernel
theorem dJ9_max_f86c9_10 : decode cJ9_max_f86c9 10 = .ok (.lload_n 2, 1) := by decide +kernel
theorem dJ9_max_f86c9_11 : decode cJ9_max_f86c9 11 = .ok (.lreturn, 1) := by decide +kernel
theorem dJ9_min_7cf53_0 : decode cJ9_min_7cf53 0 = .ok (.iload_n 0, 1) := by decide +kernel
theorem dJ9_min_7cf53_1 : decode cJ9_min_7cf53 1 = .ok (.iload_n 1, 1) := by decide +kernel
theorem dJ9_min_7cf53_2 : decode cJ9_min_7cf53 2 = .ok (.if_icmp .gt 7, 3) := by decide +kernel
theorem dJ9_min_7cf53_5 : decode cJ9_min_7cf53 5 = .ok (.iload_n 0, 1) := by decide +kernel
theorem dJ9_min_7cf53_6 : decode cJ9_min_7cf53 6 = .ok (.goto 4, 3) := by decide +kernel
theorem dJ9_min_7cf53_9 : decode cJ9_min_7cf53 9 = .ok (.iload_n 1, 1) := by decide +kernel
theorem dJ9_min_7cf53_10 : decode cJ9_min_7cf53 10 = .ok (.ireturn, 1) := by decide +kernel
theorem dJ9_min_f86c9_0 : decode cJ9_min_f86c9 0 = .ok (.lload_n 0, 1) := by decide +kernel
theorem dJ9_min_f86c9_1 : decode cJ9_min_f86c9 1 = .ok (.lload_n 2, 1) := by decide +kernel
theorem dJ9_min_f86c9_2 : decode cJ9_min_f86c9 2 = .ok (.lcmp, 1) := by decide +kernel
theorem dJ9_min_f86c9_3 : decode cJ9_min_f86c9 3 = .ok (.ifCond .gt 7, 3) := by decide +kernel
theorem dJ9_min_f86c9_6 : decode cJ9_min_f86c9 6 = .ok (.lload_n 0, 1) := by decide +kernel
theorem dJ9_min_f86c9_7 : decode cJ9_min_f86c9 7 = .ok (.goto 4, 3) := by decide +kernel
theorem dJ9_min_f86c9_10 : decode cJ9_min_f86c9 10 = .ok (.lload_n 2, 1) := by decide +kernel
theorem dJ9_min_f86c9_11 : decode cJ9_min_f86c9 11 = .ok (.lreturn, 1) := by decide +kernel
theorem dJ0_length_8abf5_0 : decode cJ0_length_8abf5 0 = .ok (.aload_n 0, 1) := by decide +kernel
theorem dJ0_length_8abf5_1 : decode cJ0_length_8abf5 1 = .ok (.getfield 9, 3) := by decide +kernel
theorem dJ0_length_8abf5_4 : decode cJ0_length_8abf5 4 = .ok (.arraylength, 1) := by decide +kernel
theorem dJ0_length_8abf5_5 : decode cJ0_length_8abf5 5 = .ok (.aload_n 0, 1) := by decide +kernel
theorem dJ0_length_8abf5_6 : decode cJ0_length_8abf5 6 = .ok (.invokevirtual 335, 3) := by decide +kernel
theorem dJ0_length_8abf5_9 : decode cJ0_length_8abf5 9 = .ok (.ishr, 1) := by decide +kernel
theorem dJ0_length_8abf5_10 : decode cJ0_length_8abf5 10 = .ok (.ireturn, 1) := by decide +kernel
theorem dJ0_charAt_5068e_0 : decode cJ0_charAt_5068e 0 = .ok (.aload_n 0, 1) := by decide +kernel
theorem dJ0_charAt_5068e_1 : decode cJ0_charAt_5068e 1 = .ok (.invokevirtual 492, 3) := by decide +kernel
theorem dJ0_charAt_5068e_4 : decode cJ0_charAt_5068e 4 = .ok (.ifCond .eq 12, 3) := by decide +kernel
theorem dJ0_charAt_5068e_7 : decode cJ0_charAt_5068e 7 = .ok (.aload_n 0, 1) := by decide +kernel
theorem dJ0_charAt_5068e_8 : decode cJ0_charAt_5068e 8 = .ok (.getfield 9, 3) := by decide +kernel
theorem dJ0_charAt_5068e_11 : decode cJ0_charAt_5068e 11 = .ok (.iload_n 1, 1) := by decide +kernel
theorem dJ0_charAt_5068e_12 : decode cJ0_charAt_5068e 12 = .ok (.invokestatic 495, 3) := by decide +kernel
theorem dJ0_charAt_5068e_15 : decode cJ0_charAt_5068e 15 = .ok (.ireturn, 1) := by decide +kernel
theorem dJ0_charAt_5068e_16 : decode cJ0_charAt_5068e 16 = .ok (.aload_n 0, 1) := by decide +kernel
theorem dJ0_charAt_5068e_17 : decode cJ0_charAt_5068e 17 = .ok (.getfield 9, 3) := by decide +kernel
theorem dJ0_charAt_5068e_20 : decode cJ0_charAt_5068e 20 = .ok (.iload_n 1, 1) := by decide +kernel
theorem dJ0_charAt_5068e_21 : decode cJ0_charAt_5068e 21 = .ok (.invokestatic 498, 3) := by decide +kernel
theorem dJ0_charAt_5068e_24 : decode cJ0_charAt_5068e 24 = .ok (.ireturn, 1) := by decide +kernel
theorem dJ0_coder_7d493_0 : decode cJ0_coder_7d493 0 = .ok (.getstatic 38, 3) := by decide +kernel
theorem dJ0_coder_7d493_3 : decode cJ0_coder_7d493 3 = .ok (.ifCond .eq 10, 3) := by decide +kernel
theorem dJ0_coder_7d493_6 : decode cJ0_coder_7d493 6 = .ok (.aload_n 0, 1) := by decide +kernel
theorem dJ0_coder_7d493_7 : decode cJ0_coder_7d493 7 = .ok (.getfield 15, 3) := by decide +kernel
theorem dJ0_coder_7d493_10 : decode cJ0_coder_7d493 10 = .ok (.goto 4, 3) := by decide +kernel
theorem dJ0_coder_7d493_13 : decode cJ0_coder_7d493 13 = .ok (.iconst 1, 1) := by decide +kernel
theorem dJ0_coder_7d493_14 : decode cJ0_coder_7d493 14 = .ok (.ireturn, 1) := by decide +kernel
theorem dJ0_isLatin1_aae02_0 : decode cJ0_isLatin1_aae02 0 = .ok (.getstatic 38, 3) := by decide +kernel
theorem dJ0_isLatin1_aae02_3 : decode cJ0_isLatin1_aae02 3 = .ok (.ifCond .eq 14, 3) := by decide +kernel
theorem dJ0_isLatin1_aae02_6 : decode cJ0_isLatin1_aae02 6 = .ok (.aload_n 0, 1) := by decide +kernel
theorem dJ0_isLatin1_aae02_7 : decode cJ0_isLatin1_aae02 7 = .ok (.getfield 15, 3) := by decide +kernel
theorem dJ0_isLatin1_aae02_10 : decode cJ0_isLatin1_aae02 10 = .ok (.ifCond .ne 7, 3) := by decide +kernel
theorem dJ0_isLatin1_aae02_13 : decode cJ0_isLatin1_aae02 13 = .ok (.iconst 1, 1) := by decide +kernel
theorem dJ0_isLatin1_aae02_14 : decode cJ0_isLatin1_aae02 14 = .ok (.goto 4, 3) := by decide +kernel
theorem dJ0_isLatin1_aae02_17 : decode cJ0_isLatin1_aae02 17 = .ok (.iconst 0, 1) := by decide +kernel
theorem dJ0_isLatin1_aae02_18 : decode cJ0_isLatin1_aae02 18 = .ok (.ireturn, 1) := by decide +kernel
theorem dJ0_checkIndex_df160_0 : decode cJ0_checkIndex_df160 0 = .ok (.iload_n 0, 1) := by decide +kernel
theorem dJ0_checkIndex_df160_1 : decode cJ0_checkIndex_df160 1 = .ok (.iload_n 1, 1) := by decide +kernel
theorem dJ0_checkIndex_df160_2 : decode cJ0_checkIndex_df160 2 = .ok (.getstatic 1053, 3) := by decide +kernel
theorem dJ0_checkIndex_df160_5 : decode cJ0_checkIndex_df160 5 = .ok (.invokestatic 1059, 3) := by decide +kernel
theorem dJ0_checkIndex_df160_8 : decode cJ0_checkIndex_df160 8 = .ok (.pop, 1) := by decide +kernel
theorem dJ0_checkIndex_df160_9 : decode cJ0_checkIndex_df160 9 = .ok (.return_, 1) := by decide +kernel
theorem dJ1_charAt_3b067_0 : decode cJ1_charAt_3b067 0 = .ok (.iload_n 1, 1) := by decide +kernel
theorem dJ1_charAt_3b067_1 : decode cJ1_charAt_3b067 1 = .ok (.aload_n 0, 1) := by decide +kernel
theorem dJ1_charAt_3b067_2 : decode cJ1_charAt_3b067 2 = .ok (.arraylength, 1) := by decide +kernel
theorem dJ1_charAt_3b067_3 : decode cJ1_charAt_3b067 3 = .ok (.invokestatic 9, 3) := by decide +kernel
theorem dJ1_charAt_3b067_6 : decode cJ1_charAt_3b067 6 = .ok (.aload_n 0, 1) := by decide +kernel
theorem dJ1_charAt_3b067_7 : decode cJ1_charAt_3b067 7 = .ok (.iload_n 1, 1) := by decide +kernel
theorem dJ1_charAt_3b067_8 : decode cJ1_charAt_3b067 8 = .ok (.baload, 1) := by decide +kernel
theorem dJ1_charAt_3b067_9 : decode cJ1_charAt_3b067 9 = .ok (.sipush 255, 3) := by decide +kernel
theorem dJ1_charAt_3b067_12 : decode cJ1_charAt_3b067 12 = .ok (.iand, 1) := by decide +kernel
theorem dJ1_charAt_3b067_13 : decode cJ1_charAt_3b067 13 = .ok (.i2c, 1) := by decide +kernel
theorem dJ1_charAt_3b067_14 : decode cJ1_charAt_3b067 14 = .ok (.ireturn, 1) := by decide +kernel
