theorem dX12_readCar_139 : decode cX12_readCar 139 = .ok (.return_, 1) := by decide +kernel
theorem dX12_digit_0 : decode cX12_digit 0 = .ok (.aload_n 0, 1) := by decide +kernel
theorem dX12_digit_1 : decode cX12_digit 1 = .ok (.invokevirtual 141, 3) := by decide +kernel
theorem dX12_digit_4 : decode cX12_digit 4 = .ok (.istore_n 2, 1) := by decide +kernel
theorem dX12_digit_5 : decode cX12_digit 5 = .ok (.aload_n 0, 1) := by decide +kernel
theorem dX12_digit_6 : decode cX12_digit 6 = .ok (.invokevirtual 171, 3) := by decide +kernel
theorem dX12_digit_9 : decode cX12_digit 9 = .ok (.ifCond .eq 11, 3) := by decide +kernel
theorem dX12_digit_12 : decode cX12_digit 12 = .ok (.iload_n 2, 1) := by decide +kernel
theorem dX12_digit_13 : decode cX12_digit 13 = .ok (.bipush 48, 2) := by decide +kernel
theorem dX12_digit_15 : decode cX12_digit 15 = .ok (.isub, 1) := by decide +kernel
theorem dX12_digit_16 : decode cX12_digit 16 = .ok (.iload_n 1, 1) := by decide +kernel
theorem dX12_digit_17 : decode cX12_digit 17 = .ok (.if_icmp .le 10, 3) := by decide +kernel
theorem dX12_digit_20 : decode cX12_digit 20 = .ok (.aload_n 0, 1) := by decide +kernel
theorem dX12_digit_21 : decode cX12_digit 21 = .ok (.invokevirtual 137, 3) := by decide +kernel
theorem dX12_digit_24 : decode cX12_digit 24 = .ok (.pop, 1) := by decide +kernel
theorem dX12_digit_25 : decode cX12_digit 25 = .ok (.iconst 0, 1) := by decide +kernel
theorem dX12_digit_26 : decode cX12_digit 26 = .ok (.ireturn, 1) := by decide +kernel
theorem dX12_digit_27 : decode cX12_digit 27 = .ok (.aload_n 0, 1) := by decide +kernel
theorem dX12_digit_28 : decode cX12_digit 28 = .ok (.dup, 1) := by decide +kernel
theorem dX12_digit_29 : decode cX12_digit 29 = .ok (.getfield 122, 3) := by decide +kernel
theorem dX12_digit_32 : decode cX12_digit 32 = .ok (.iconst 1, 1) := by decide +kernel
theorem dX12_digit_33 : decode cX12_digit 33 = .ok (.iadd, 1) := by decide +kernel
theorem dX12_digit_34 : decode cX12_digit 34 = .ok (.putfield 122, 3) := by decide +kernel
theorem dX12_digit_37 : decode cX12_digit 37 = .ok (.iload_n 2, 1) := by decide +kernel
theorem dX12_digit_38 : decode cX12_digit 38 = .ok (.bipush 48, 2) := by decide +kernel
theorem dX12_digit_40 : decode cX12_digit 40 = .ok (.isub, 1) := by decide +kernel
theorem dX12_digit_41 : decode cX12_digit 41 = .ok (.ireturn, 1) := by decide +kernel
theorem dX12_readStep_0 : decode cX12_readStep 0 = .ok (.ldc_w 270, 3) := by decide +kernel
theorem dX12_readStep_3 : decode cX12_readStep 3 = .ok (.aload_n 0, 1) := by decide +kernel
theorem dX12_readStep_4 : decode cX12_readStep 4 = .ok (.invokevirtual 141, 3) := by decide +kernel
theorem dX12_readStep_7 : decode cX12_readStep 7 = .ok (.invokestatic 228, 3) := by decide +kernel
theorem dX12_readStep_10 : decode cX12_readStep 10 = .ok (.istore_n 2, 1) := by decide +kernel
theorem dX12_readStep_11 : decode cX12_readStep 11 = .ok (.iload_n 2, 1) := by decide +kernel
theorem dX12_readStep_12 : decode cX12_readStep 12 = .ok (.iconst (-1), 1) := by decide +kernel
theorem dX12_readStep_13 : decode cX12_readStep 13 = .ok (.if_icmp .ne 9, 3) := by decide +kernel
theorem dX12_readStep_16 : decode cX12_readStep 16 = .ok (.aload_n 0, 1) := by decide +kernel
theorem dX12_readStep_17 : decode cX12_readStep 17 = .ok (.invokevirtual 137, 3) := by decide +kernel
theorem dX12_readStep_20 : decode cX12_readStep 20 = .ok (.pop, 1) := by decide +kernel
theorem dX12_readStep_21 : decode cX12_readStep 21 = .ok (.return_, 1) := by decide +kernel
theorem dX12_readStep_22 : decode cX12_readStep 22 = .ok (.aload_n 0, 1) := by decide +kernel
theorem dX12_readStep_23 : decode cX12_readStep 23 = .ok (.dup, 1) := by decide +kernel
theorem dX12_readStep_24 : decode cX12_readStep 24 = .ok (.getfield 122, 3) := by decide +kernel
theorem dX12_readStep_27 : decode cX12_readStep 27 = .ok (.iconst 1, 1) := by decide +kernel
theorem dX12_readStep_28 : decode cX12_readStep 28 = .ok (.iadd, 1) := by decide +kernel
theorem dX12_readStep_29 : decode cX12_readStep 29 = .ok (.putfield 122, 3) := by decide +kernel
theorem dX12_readStep_32 : decode cX12_readStep 32 = .ok (.aload_n 0, 1) := by decide +kernel
theorem dX12_readStep_33 : decode cX12_readStep 33 = .ok (.getfield 55, 3) := by decide +kernel
theorem dX12_readStep_36 : decode cX12_readStep 36 = .ok (.iload_n 1, 1) := by decide +kernel
theorem dX12_readStep_37 : decode cX12_readStep 37 = .ok (.iload_n 2, 1) := by decide +kernel
theorem dX12_readStep_38 : decode cX12_readStep 38 = .ok (.iastore, 1) := by decide +kernel
theorem dX12_readStep_39 : decode cX12_readStep 39 = .ok (.aload_n 0, 1) := by decide +kernel
theorem dX12_readStep_40 : decode cX12_readStep 40 = .ok (.getfield 55, 3) := by decide +kernel
theorem dX12_readStep_43 : decode cX12_readStep 43 = .ok (.iload_n 1, 1) := by decide +kernel
theorem dX12_readStep_44 : decode cX12_readStep 44 = .ok (.iconst 1, 1) := by decide +kernel
theorem dX12_readStep_45 : decode cX12_readStep 45 = .ok (.iadd, 1) := by decide +kernel
theorem dX12_readStep_46 : decode cX12_readStep 46 = .ok (.aload_n 0, 1) := by decide +kernel
theorem dX12_readStep_47 : decode cX12_readStep 47 = .ok (.bipush 9, 2) := by decide +kernel
theorem dX12_readStep_49 : decode cX12_readStep 49 = .ok (.invokevirtual 272, 3) := by decide +kernel
theorem dX12_readStep_52 : decode cX12_readStep 52 = .ok (.iastore, 1) := by decide +kernel
theorem dX12_readStep_53 : decode cX12_readStep 53 = .ok (.aload_n 0, 1) := by decide +kernel
theorem dX12_readStep_54 : decode cX12_readStep 54 = .ok (.getfield 55, 3) := by decide +kernel
theorem dX12_readStep_57 : decode cX12_readStep 57 = .ok (.iload_n 1, 1) := by decide +kernel
theorem dX12_readStep_58 : decode cX12_readStep 58 = .ok (.iconst 2, 1) := by decide +kernel
theorem dX12_readStep_59 : decode cX12_readStep 59 = .ok (.iadd, 1) := by decide +kernel
theorem dX12_readStep_60 : decode cX12_readStep 60 = .ok (.iconst (-1), 1) := by decide +kernel
theorem dX12_readStep_61 : decode cX12_readStep 61 = .ok (.iastore, 1) := by decide +kernel
theorem dX12_readStep_62 : decode cX12_readStep 62 = .ok (.aload_n 0, 1) := by decide +kernel
theorem dX12_readStep_63 : decode cX12_readStep 63 = .ok (.getfield 131, 3) := by decide +kernel
theorem dX12_readStep_66 : decode cX12_readStep 66 = .ok (.iconst (-1), 1) := by decide +kernel
theorem dX12_readStep_67 : decode cX12_readStep 67 = .ok (.if_icmp .ne 36, 3) := by decide +kernel
theorem dX12_readStep_70 : decode cX12_readStep 70 = .ok (.iload_n 2, 1) := by decide +kernel
theorem dX12_readStep_71 : decode cX12_readStep 71 = .ok (.iconst 2, 1) := by decide +kernel
theorem dX12_readStep_72 : decode cX12_readStep 72 = .ok (.if_icmp .lt 8, 3) := by decide +kernel
theorem dX12_readStep_75 : decode cX12_readStep 75 = .ok (.iload_n 2, 1) := by decide +kernel
theorem dX12_readStep_76 : decode cX12_readStep 76 = .ok (.iconst 4, 1) := by decide +kernel
theorem dX12_readStep_77 : decode cX12_readStep 77 = .ok (.if_icmp .ne 26, 3) := by decide +kernel
theorem dX12_readStep_80 : decode cX12_readStep 80 = .ok (.aload_n 0, 1) := by decide +kernel
theorem dX12_readStep_81 : decode cX12_readStep 81 = .ok (.getfield 55, 3) := by decide +kernel
theorem dX12_readStep_84 : decode cX12_readStep 84 = .ok (.iload_n 1, 1) := by decide +kernel
theorem dX12_readStep_85 : decode cX12_readStep 85 = .ok (.iconst 2, 1) := by decide +kernel
theorem dX12_readStep_86 : decode cX12_readStep 86 = .ok (.iadd, 1) := by decide +kernel
theorem dX12_readStep_87 : decode cX12_readStep 87 = .ok (.aload_n 0, 1) := by decide +kernel
theorem dX12_readStep_88 : decode cX12_readStep 88 = .ok (.iload_n 2, 1) := by decide +kernel
theorem dX12_readStep_89 : decode cX12_readStep 89 = .ok (.iconst 1, 1) := by decide +kernel
theorem dX12_readStep_90 : decode cX12_readStep 90 = .ok (.if_icmp .ne 7, 3) := by decide +kernel
theorem dX12_readStep_93 : decode cX12_readStep 93 = .ok (.iconst 2, 1) := by decide +kernel
theorem dX12_readStep_94 : decode cX12_readStep 94 = .ok (.goto 5, 3) := by decide +kernel
theorem dX12_readStep_97 : decode cX12_readStep 97 = .ok (.bipush 9, 2) := by decide +kernel
theorem dX12_readStep_99 : decode cX12_readStep 99 = .ok (.invokevirtual 272, 3) := by decide +kernel
theorem dX12_readStep_102 : decode cX12_readStep 102 = .ok (.iastore, 1) := by decide +kernel
theorem dX12_readStep_103 : decode cX12_readStep 103 = .ok (.return_, 1) := by decide +kernel
theorem dX12_readLines_0 : decode cX12_readLines 0 = .ok (.aload_n 0, 1) := by decide +kernel
theorem dX12_readLines_1 : decode cX12_readLines 1 = .ok (.aload_n 0, 1) := by decide +kernel
theorem dX12_readLines_2 : decode cX12_readLines 2 = .ok (.getfield 9, 3) := by decide +kernel
theorem dX12_readLines_5 : decode cX12_readLines 5 = .ok (.iconst 0, 1) := by decide +kernel
theorem dX12_readLines_6 : decode cX12_readLines 6 = .ok (.aload_n 0, 1) := by decide +kernel
theorem dX12_readLines_7 : decode cX12_readLines 7 = .ok (.getfield 112, 3) := by decide +kernel
theorem dX12_readLines_10 : decode cX12_readLines 10 = .ok (.invokevirtual 210, 3) := by decide +kernel
theorem dX12_readLines_13 : decode cX12_readLines 13 = .ok (.iconst 0, 1) := by decide +kernel
theorem dX12_readLines_14 : decode cX12_readLines 14 = .ok (.istore_n 1, 1) := by decide +kernel
theorem dX12_readLines_15 : decode cX12_readLines 15 = .ok (.iconst 1, 1) := by decide +kernel
theorem dX12_readLines_16 : decode cX12_readLines 16 = .ok (.istore_n 2, 1) := by decide +kernel
theorem dX12_readLines_17 : decode cX12_readLines 17 = .ok (.iload_n 2, 1) := by decide +kernel
theorem dX12_readLines_18 : decode cX12_readLines 18 = .ok (.ifCond .eq 73, 3) := by decide +kernel
theorem dX12_readLines_21 : decode cX12_readLines 21 = .ok (.aload_n 0, 1) := by decide +kernel
theorem dX12_readLines_22 : decode cX12_readLines 22 = .ok (.iconst 3, 1) := by decide +kernel
theorem dX12_readLines_23 : decode cX12_readLines 23 = .ok (.bipush 64, 2) := by decide +kernel
theorem dX12_readLines_25 : decode cX12_readLines 25 = .ok (.iload_n 1, 1) := by decide +kernel
theorem dX12_readLines_26 : decode cX12_readLines 26 = .ok (.iadd, 1) := by decide +kernel
theorem dX12_readLines_27 : decode cX12_readLines 27 = .ok (.imul, 1) := by decide +kernel
theorem dX12_readLines_28 : decode cX12_readLines 28 = .ok (.invokevirtual 275, 3) := by decide +kernel
theorem dX12_readLines_31 : decode cX12_readLines 31 = .ok (.aload_n 0, 1) := by decide +kernel
theorem dX12_readLines_32 : decode cX12_readLines 32 = .ok (.getfield 131, 3) := by decide +kernel
theorem dX12_readLines_35 : decode cX12_readLines 35 = .ok (.iconst (-1), 1) := by decide +kernel
theorem dX12_readLines_36 : decode cX12_readLines 36 = .ok (.if_icmp .eq 4, 3) := by decide +kernel
theorem dX12_readLines_39 : decode cX12_readLines 39 = .ok (.return_, 1) := by decide +kernel
theorem dX12_readLines_40 : decode cX12_readLines 40 = .ok (.iinc 1 1, 3) := by decide +kernel
theorem dX12_readLines_43 : decode cX12_readLines 43 = .ok (.aload_n 0, 1) := by decide +kernel
theorem dX12_readLines_44 : decode cX12_readLines 44 = .ok (.invokevirtual 141, 3) := by decide +kernel
theorem dX12_readLines_47 : decode cX12_readLines 47 = .ok (.bipush 59, 2) := by decide +kernel
theorem dX12_readLines_49 : decode cX12_readLines 49 = .ok (.if_icmp .ne 7, 3) := by decide +kernel
theorem dX12_readLines_52 : decode cX12_readLines 52 = .ok (.iconst 1, 1) := by decide +kernel
theorem dX12_readLines_53 : decode cX12_readLines 53 = .ok (.goto 4, 3) := by decide +kernel
theorem dX12_readLines_56 : decode cX12_readLines 56 = .ok (.iconst 0, 1) := by decide +kernel
theorem dX12_readLines_57 : decode cX12_readLines 57 = .ok (.istore_n 2, 1) := by decide +kernel
theorem dX12_readLines_58 : decode cX12_readLines 58 = .ok (.iload_n 2, 1) := by decide +kernel
theorem dX12_readLines_59 : decode cX12_readLines 59 = .ok (.ifCond .eq 15, 3) := by decide +kernel
theorem dX12_readLines_62 : decode cX12_readLines 62 = .ok (.iload_n 1, 1) := by decide +kernel
theorem dX12_readLines_63 : decode cX12_readLines 63 = .ok (.bipush 16, 2) := by decide +kernel
theorem dX12_readLines_65 : decode cX12_readLines 65 = .ok (.if_icmp .ne 9, 3) := by decide +kernel
theorem dX12_readLines_68 : decode cX12_readLines 68 = .ok (.aload_n 0, 1) := by decide +kernel
theorem dX12_readLines_69 : decode cX12_readLines 69 = .ok (.invokevirtual 137, 3) := by decide +kernel
theorem dX12_readLines_72 : decode cX12_readLines 72 = .ok (.pop, 1) := by decide +kernel
theorem dX12_readLines_73 : decode cX12_readLines 73 = .ok (.return_, 1) := by decide +kernel
theorem dX12_readLines_74 : decode cX12_readLines 74 = .ok (.iload_n 2, 1) := by decide +kernel
theorem dX12_readLines_75 : decode cX12_readLines 75 = .ok (.ifCond .eq (-58), 3) := by decide +kernel
theorem dX12_readLines_78 : decode cX12_readLines 78 = .ok (.aload_n 0, 1) := by decide +kernel
theorem dX12_readLines_79 : decode cX12_readLines 79 = .ok (.dup, 1) := by decide +kernel
theorem dX12_readLines_80 : decode cX12_readLines 80 = .ok (.getfield 122, 3) := by decide +kernel
theorem dX12_readLines_83 : decode cX12_readLines 83 = .ok (.iconst 1, 1) := by decide +kernel
theorem dX12_readLines_84 : decode cX12_readLines 84 = .ok (.iadd, 1) := by decide +kernel
theorem dX12_readLines_85 : decode cX12_readLines 85 = .ok (.putfield 122, 3) := by decide +kernel
theorem dX12_readLines_88 : decode cX12_readLines 88 = .ok (.goto (-71), 3) := by decide +kernel
theorem dX12_readLines_91 : decode cX12_readLines 91 = .ok (.aload_n 0, 1) := by decide +kernel
theorem dX12_readLines_92 : decode cX12_readLines 92 = .ok (.getfield 58, 3) := by decide +kernel
theorem dX12_readLines_95 : decode cX12_readLines 95 = .ok (.iconst 4, 1) := by decide +kernel
theorem dX12_readLines_96 : decode cX12_readLines 96 = .ok (.iload_n 1, 1) := by decide +kernel
theorem dX12_readLines_97 : decode cX12_readLines 97 = .ok (.iastore, 1) := by decide +kernel
theorem dX12_readLines_98 : decode cX12_readLines 98 = .ok (.aload_n 0, 1) := by decide +kernel
theorem dX12_readLines_99 : decode cX12_readLines 99 = .ok (.invokevirtual 141, 3) := by decide +kernel
theorem dX12_readLines_102 : decode cX12_readLines 102 = .ok (.iconst (-1), 1) := by decide +kernel
theorem dX12_readLines_103 : decode cX12_readLines 103 = .ok (.if_icmp .eq 8, 3) := by decide +kernel
theorem dX12_readLines_106 : decode cX12_readLines 106 = .ok (.aload_n 0, 1) := by decide +kernel
theorem dX12_readLines_107 : decode cX12_readLines 107 = .ok (.invokevirtual 137, 3) := by decide +kernel
theorem dX12_readLines_110 : decode cX12_readLines 110 = .ok (.pop, 1) := by decide +kernel
theorem dX12_readLines_111 : decode cX12_readLines 111 = .ok (.return_, 1) := by decide +kernel
theorem dX12_fault_0 : decode cX12_fault 0 = .ok (.aload_n 0, 1) := by decide +kernel
theorem dX12_fault_1 : decode cX12_fault 1 = .ok (.iconst 0, 1) := by decide +kernel
theorem dX12_fault_2 : decode cX12_fault 2 = .ok (.putfield 99, 3) := by decide +kernel
theorem dX12_fault_5 : decode cX12_fault 5 = .ok (.iload_n 1, 1) := by decide +kernel
theorem dX12_fault_6 : decode cX12_fault 6 = .ok (.i2l, 1) := by decide +kernel
theorem dX12_fault_7 : decode cX12_fault 7 = .ok (.lconst 0, 1) := by decide +kernel
theorem dX12_fault_8 : decode cX12_fault 8 = .ok (.ldc2_w 278, 3) := by decide +kernel
theorem dX12_fault_11 : decode cX12_fault 11 = .ok (.invokestatic 220, 3) := by decide +kernel
theorem dX12_fault_14 : decode cX12_fault 14 = .ok (.ifCond .ne 6, 3) := by decide +kernel
theorem dX12_fault_17 : decode cX12_fault 17 = .ok (.bipush (-2), 2) := by decide +kernel
theorem dX12_fault_19 : decode cX12_fault 19 = .ok (.ireturn, 1) := by decide +kernel
theorem dX12_fault_20 : decode cX12_fault 20 = .ok (.iload_n 1, 1) := by decide +kernel
theorem dX12_fault_21 : decode cX12_fault 21 = .ok (.ifCond .ne 7, 3) := by decide +kernel
theorem dX12_fault_24 : decode cX12_fault 24 = .ok (.aload_n 0, 1) := by decide +kernel
theorem dX12_fault_25 : decode cX12_fault 25 = .ok (.invokevirtual 280, 3) := by decide +kernel
theorem dX12_fault_28 : decode cX12_fault 28 = .ok (.iload_n 1, 1) := by decide +kernel
theorem dX12_fault_29 : decode cX12_fault 29 = .ok (.iconst 1, 1) := by decide +kernel
theorem dX12_fault_30 : decode cX12_fault 30 = .ok (.if_icmp .ne 16, 3) := by decide +kernel
theorem dX12_fault_33 : decode cX12_fault 33 = .ok (.aload_n 0, 1) := by decide +kernel
theorem dX12_fault_34 : decode cX12_fault 34 = .ok (.aload_n 0, 1) := by decide +kernel
theorem dX12_fault_35 : decode cX12_fault 35 = .ok (.getfield 9, 3) := by decide +kernel
theorem dX12_fault_38 : decode cX12_fault 38 = .ok (.iconst 0, 1) := by decide +kernel
theorem dX12_fault_39 : decode cX12_fault 39 = .ok (.aload_n 0, 1) := by decide +kernel
theorem dX12_fault_40 : decode cX12_fault 40 = .ok (.getfield 112, 3) := by decide +kernel
theorem dX12_fault_43 : decode cX12_fault 43 = .ok (.invokevirtual 283, 3) := by decide +kernel
theorem dX12_fault_46 : decode cX12_fault 46 = .ok (.iload_n 1, 1) := by decide +kernel
theorem dX12_fault_47 : decode cX12_fault 47 = .ok (.iconst 2, 1) := by decide +kernel
theorem dX12_fault_48 : decode cX12_fault 48 = .ok (.if_icmp .ne 7, 3) := by decide +kernel
theorem dX12_fault_51 : decode cX12_fault 51 = .ok (.aload_n 0, 1) := by decide +kernel
theorem dX12_fault_52 : decode cX12_fault 52 = .ok (.invokevirtual 286, 3) := by decide +kernel
theorem dX12_fault_55 : decode cX12_fault 55 = .ok (.aload_n 0, 1) := by decide +kernel
theorem dX12_fault_56 : decode cX12_fault 56 = .ok (.getfield 131, 3) := by decide +kernel
theorem dX12_fault_59 : decode cX12_fault 59 = .ok (.ireturn, 1) := by decide +kernel
theorem dX12_text_0 : decode cX12_text 0 = .ok (.aload_n 0, 1) := by decide +kernel
theorem dX12_text_1 : decode cX12_text 1 = .ok (.iconst 0, 1) := by decide +kernel
theorem dX12_text_2 : decode cX12_text 2 = .ok (.putfield 99, 3) := by decide +kernel
theorem dX12_text_5 : decode cX12_text 5 = .ok (.iload_n 1, 1) := by decide +kernel
theorem dX12_text_6 : decode cX12_text 6 = .ok (.i2l, 1) := by decide +kernel
theorem dX12_text_7 : decode cX12_text 7 = .ok (.lconst 0, 1) := by decide +kernel
theorem dX12_text_8 : decode cX12_text 8 = .ok (.ldc2_w 278, 3) := by decide +kernel
theorem dX12_text_11 : decode cX12_text 11 = .ok (.invokestatic 220, 3) := by decide +kernel
theorem dX12_text_14 : decode cX12_text 14 = .ok (.ifCond .eq 38, 3) := by decide +kernel
theorem dX12_text_17 : decode cX12_text 17 = .ok (.iload_n 1, 1) := by decide +kernel
theorem dX12_text_18 : decode cX12_text 18 = .ok (.iconst 1, 1) := by decide +kernel
theorem dX12_text_19 : decode cX12_text 19 = .ok (.if_icmp .ne 11, 3) := by decide +kernel
theorem dX12_text_22 : decode cX12_text 22 = .ok (.aload_n 0, 1) := by decide +kernel
theorem dX12_text_23 : decode cX12_text 23 = .ok (.getfield 289, 3) := by decide +kernel
theorem dX12_text_26 : decode cX12_text 26 = .ok (.iconst 4, 1) := by decide +kernel
theorem dX12_text_27 : decode cX12_text 27 = .ok (.if_icmp .eq 25, 3) := by decide +kernel
theorem dX12_text_30 : decode cX12_text 30 = .ok (.iload_n 1, 1) := by decide +kernel
theorem dX12_text_31 : decode cX12_text 31 = .ok (.iconst 2, 1) := by decide +kernel
theorem dX12_text_32 : decode cX12_text 32 = .ok (.if_icmp .ne 11, 3) := by decide +kernel
theorem dX12_text_35 : decode cX12_text 35 = .ok (.aload_n 0, 1) := by decide +kernel
theorem dX12_text_36 : decode cX12_text 36 = .ok (.getfield 292, 3) := by decide +kernel
theorem dX12_text_39 : decode cX12_text 39 = .ok (.iconst 4, 1) := by decide +kernel
theorem dX12_text_40 : decode cX12_text 40 = .ok (.if_icmp .eq 12, 3) := by decide +kernel
theorem dX12_text_43 : decode cX12_text 43 = .ok (.aload_n 0, 1) := by decide +kernel
theorem dX12_text_44 : decode cX12_text 44 = .ok (.iload_n 1, 1) := by decide +kernel
theorem dX12_text_45 : decode cX12_text 45 = .ok (.invokevirtual 295, 3) := by decide +kernel
theorem dX12_text_48 : decode cX12_text 48 = .ok (.iconst (-1), 1) := by decide +kernel
theorem dX12_text_49 : decode cX12_text 49 = .ok (.if_icmp .eq 5, 3) := by decide +kernel
theorem dX12_text_52 : decode cX12_text 52 = .ok (.iconst (-1), 1) := by decide +kernel
theorem dX12_text_53 : decode cX12_text 53 = .ok (.ireturn, 1) := by decide +kernel
theorem dX12_text_54 : decode cX12_text 54 = .ok (.aload_n 0, 1) := by decide +kernel
theorem dX12_text_55 : decode cX12_text 55 = .ok (.getfield 112, 3) := by decide +kernel
theorem dX12_text_58 : decode cX12_text 58 = .ok (.istore_n 2, 1) := by decide +kernel
theorem dX12_text_59 : decode cX12_text 59 = .ok (.aload_n 0, 1) := by decide +kernel
theorem dX12_text_60 : decode cX12_text 60 = .ok (.iconst 0, 1) := by decide +kernel
theorem dX12_text_61 : decode cX12_text 61 = .ok (.putfield 112, 3) := by decide +kernel
theorem dX12_text_64 : decode cX12_text 64 = .ok (.iload_n 1, 1) := by decide +kernel
theorem dX12_text_65 : decode cX12_text 65 = .ok (.iconst 1, 1) := by decide +kernel
theorem dX12_text_66 : decode cX12_text 66 = .ok (.if_icmp .ne 64, 3) := by decide +kernel
theorem dX12_text_69 : decode cX12_text 69 = .ok (.iconst 0, 1) := by decide +kernel
theorem dX12_text_70 : decode cX12_text 70 = .ok (.istore_n 3, 1) := by decide +kernel
theorem dX12_text_71 : decode cX12_text 71 = .ok (.iload_n 3, 1) := by decide +kernel
theorem dX12_text_72 : decode cX12_text 72 = .ok (.iload_n 2, 1) := by decide +kernel
theorem dX12_text_73 : decode cX12_text 73 = .ok (.if_icmp .ge 30, 3) := by decide +kernel
theorem dX12_text_76 : decode cX12_text 76 = .ok (.aload_n 0, 1) := by decide +kernel
theorem dX12_text_77 : decode cX12_text 77 = .ok (.getfield 13, 3) := by decide +kernel
theorem dX12_text_80 : decode cX12_text 80 = .ok (.sipush 240, 3) := by decide +kernel
theorem dX12_text_83 : decode cX12_text 83 = .ok (.aload_n 0, 1) := by decide +kernel
theorem dX12_text_84 : decode cX12_text 84 = .ok (.getfield 289, 3) := by decide +kernel
theorem dX12_text_87 : decode cX12_text 87 = .ok (.imul, 1) := by decide +kernel
theorem dX12_text_88 : decode cX12_text 88 = .ok (.iload_n 3, 1) := by decide +kernel
theorem dX12_text_89 : decode cX12_text 89 = .ok (.iadd, 1) := by decide +kernel
theorem dX12_text_90 : decode cX12_text 90 = .ok (.aload_n 0, 1) := by decide +kernel
theorem dX12_text_91 : decode cX12_text 91 = .ok (.getfield 9, 3) := by decide +kernel
theorem dX12_text_94 : decode cX12_text 94 = .ok (.iload_n 3, 1) := by decide +kernel
theorem dX12_text_95 : decode cX12_text 95 = .ok (.baload, 1) := by decide +kernel
theorem dX12_text_96 : decode cX12_text 96 = .ok (.bastore, 1) := by decide +kernel
theorem dX12_text_97 : decode cX12_text 97 = .ok (.iinc 3 1, 3) := by decide +kernel
theorem dX12_text_100 : decode cX12_text 100 = .ok (.goto (-29), 3) := by decide +kernel
theorem dX12_text_103 : decode cX12_text 103 = .ok (.aload_n 0, 1) := by decide +kernel
theorem dX12_text_104 : decode cX12_text 104 = .ok (.getfield 16, 3) := by decide +kernel
theorem dX12_text_107 : decode cX12_text 107 = .ok (.aload_n 0, 1) := by decide +kernel
theorem dX12_text_108 : decode cX12_text 108 = .ok (.getfield 289, 3) := by decide +kernel
theorem dX12_text_111 : decode cX12_text 111 = .ok (.iload_n 2, 1) := by decide +kernel
theorem dX12_text_112 : decode cX12_text 112 = .ok (.iastore, 1) := by decide +kernel
theorem dX12_text_113 : decode cX12_text 113 = .ok (.aload_n 0, 1) := by decide +kernel
theorem dX12_text_114 : decode cX12_text 114 = .ok (.dup, 1) := by decide +kernel
theorem dX12_text_115 : decode cX12_text 115 = .ok (.getfield 289, 3) := by decide +kernel
theorem dX12_text_118 : decode cX12_text 118 = .ok (.iconst 1, 1) := by decide +kernel
theorem dX12_text_119 : decode cX12_text 119 = .ok (.iadd, 1) := by decide +kernel
theorem dX12_text_120 : decode cX12_text 120 = .ok (.putfield 289, 3) := by decide +kernel
theorem dX12_text_123 : decode cX12_text 123 = .ok (.aload_n 0, 1) := by decide +kernel
theorem dX12_text_124 : decode cX12_text 124 = .ok (.getfield 289, 3) := by decide +kernel
theorem dX12_text_127 : decode cX12_text 127 = .ok (.iconst 1, 1) := by decide +kernel
theorem dX12_text_128 : decode cX12_text 128 = .ok (.isub, 1) := by decide +kernel
theorem dX12_text_129 : decode cX12_text 129 = .ok (.ireturn, 1) := by decide +kernel
theorem dX12_text_130 : decode cX12_text 130 = .ok (.iload_n 1, 1) := by decide +kernel
theorem dX12_text_131 : decode cX12_text 131 = .ok (.iconst 2, 1) := by decide +kernel
theorem dX12_text_132 : decode cX12_text 132 = .ok (.if_icmp .ne 73, 3) := by decide +kernel
theorem dX12_text_135 : decode cX12_text 135 = .ok (.iconst 0, 1) := by decide +kernel
theorem dX12_text_136 : decode cX12_text 136 = .ok (.istore_n 3, 1) := by decide +kernel
theorem dX12_text_137 : decode cX12_text 137 = .ok (.iload_n 3, 1) := by decide +kernel
theorem dX12_text_138 : decode cX12_text 138 = .ok (.bipush 48, 2) := by decide +kernel
theorem dX12_text_140 : decode cX12_text 140 = .ok (.if_icmp .ge 33, 3) := by decide +kernel
theorem dX12_text_143 : decode cX12_text 143 = .ok (.aload_n 0, 1) := by decide +kernel
theorem dX12_text_144 : decode cX12_text 144 = .ok (.getfield 55, 3) := by decide +kernel
theorem dX12_text_147 : decode cX12_text 147 = .ok (.bipush 48, 2) := by decide +kernel
theorem dX12_text_149 : decode cX12_text 149 = .ok (.aload_n 0, 1) := by decide +kernel
theorem dX12_text_150 : decode cX12_text 150 = .ok (.getfield 292, 3) := by decide +kernel
theorem dX12_text_153 : decode cX12_text 153 = .ok (.imul, 1) := by decide +kernel
theorem dX12_text_154 : decode cX12_text 154 = .ok (.iload_n 3, 1) := by decide +kernel
theorem dX12_text_155 : decode cX12_text 155 = .ok (.iadd, 1) := by decide +kernel
theorem dX12_text_156 : decode cX12_text 156 = .ok (.aload_n 0, 1) := by decide +kernel
theorem dX12_text_157 : decode cX12_text 157 = .ok (.getfield 55, 3) := by decide +kernel
theorem dX12_text_160 : decode cX12_text 160 = .ok (.sipush 192, 3) := by decide +kernel
theorem dX12_text_163 : decode cX12_text 163 = .ok (.iload_n 3, 1) := by decide +kernel
theorem dX12_text_164 : decode cX12_text 164 = .ok (.iadd, 1) := by decide +kernel
theorem dX12_text_165 : decode cX12_text 165 = .ok (.iaload, 1) := by decide +kernel
theorem dX12_text_166 : decode cX12_text 166 = .ok (.iastore, 1) := by decide +kernel
theorem dX12_text_167 : decode cX12_text 167 = .ok (.iinc 3 1, 3) := by decide +kernel
theorem dX12_text_170 : decode cX12_text 170 = .ok (.goto (-33), 3) := by decide +kernel
theorem dX12_text_173 : decode cX12_text 173 = .ok (.aload_n 0, 1) := by decide +kernel
theorem dX12_text_174 : decode cX12_text 174 = .ok (.getfield 58, 3) := by decide +kernel
theorem dX12_text_177 : decode cX12_text 177 = .ok (.aload_n 0, 1) := by decide +kernel
theorem dX12_text_178 : decode cX12_text 178 = .ok (.getfield 292, 3) := by decide +kernel
theorem dX12_text_181 : decode cX12_text 181 = .ok (.aload_n 0, 1) := by decide +kernel
theorem dX12_text_182 : decode cX12_text 182 = .ok (.getfield 58, 3) := by decide +kernel
theorem dX12_text_185 : decode cX12_text 185 = .ok (.iconst 4, 1) := by decide +kernel
theorem dX12_text_186 : decode cX12_text 186 = .ok (.iaload, 1) := by decide +kernel
theorem dX12_text_187 : decode cX12_text 187 = .ok (.iastore, 1) := by decide +kernel
theorem dX12_text_188 : decode cX12_text 188 = .ok (.aload_n 0, 1) := by decide +kernel
theorem dX12_text_189 : decode cX12_text 189 = .ok (.dup, 1) := by decide +kernel
theorem dX12_text_190 : decode cX12_text 190 = .ok (.getfield 292, 3) := by decide +kernel
theorem dX12_text_193 : decode cX12_text 193 = .ok (.iconst 1, 1) := by decide +kernel
theorem dX12_text_194 : decode cX12_text 194 = .ok (.iadd, 1) := by decide +kernel
theorem dX12_text_195 : decode cX12_text 195 = .ok (.putfield 292, 3) := by decide +kernel
theorem dX12_text_198 : decode cX12_text 198 = .ok (.aload_n 0, 1) := by decide +kernel
theorem dX12_text_199 : decode cX12_text 199 = .ok (.getfield 292, 3) := by decide +kernel
theorem dX12_text_202 : decode cX12_text 202 = .ok (.iconst 1, 1) := by decide +kernel
theorem dX12_text_203 : decode cX12_text 203 = .ok (.isub, 1) := by decide +kernel
theorem dX12_text_204 : decode cX12_text 204 = .ok (.ireturn, 1) := by decide +kernel
theorem dX12_text_205 : decode cX12_text 205 = .ok (.aload_n 0, 1) := by decide +kernel
theorem dX12_text_206 : decode cX12_text 206 = .ok (.aload_n 0, 1) := by decide +kernel
theorem dX12_text_207 : decode cX12_text 207 = .ok (.getfield 248, 3) := by decide +kernel
theorem dX12_text_210 : decode cX12_text 210 = .ok (.putfield 297, 3) := by decide +kernel
theorem dX12_text_213 : decode cX12_text 213 = .ok (.aload_n 0, 1) := by decide +kernel
theorem dX12_text_214 : decode cX12_text 214 = .ok (.aload_n 0, 1) := by decide +kernel
theorem dX12_text_215 : decode cX12_text 215 = .ok (.getfield 251, 3) := by decide +kernel
theorem dX12_text_218 : decode cX12_text 218 = .ok (.putfield 300, 3) := by decide +kernel
theorem dX12_text_221 : decode cX12_text 221 = .ok (.iconst 0, 1) := by decide +kernel
theorem dX12_text_222 : decode cX12_text 222 = .ok (.istore_n 3, 1) := by decide +kernel
theorem dX12_text_223 : decode cX12_text 223 = .ok (.iload_n 3, 1) := by decide +kernel
theorem dX12_text_224 : decode cX12_text 224 = .ok (.iconst 4, 1) := by decide +kernel
theorem dX12_text_225 : decode cX12_text 225 = .ok (.if_icmp .ge 21, 3) := by decide +kernel
theorem dX12_text_228 : decode cX12_text 228 = .ok (.aload_n 0, 1) := by decide +kernel
theorem dX12_text_229 : decode cX12_text 229 = .ok (.getfield 37, 3) := by decide +kernel
theorem dX12_text_232 : decode cX12_text 232 = .ok (.iload_n 3, 1) := by decide +kernel
theorem dX12_text_233 : decode cX12_text 233 = .ok (.aload_n 0, 1) := by decide +kernel
theorem dX12_text_234 : decode cX12_text 234 = .ok (.getfield 40, 3) := by decide +kernel
theorem dX12_text_237 : decode cX12_text 237 = .ok (.iload_n 3, 1) := by decide +kernel
theorem dX12_text_238 : decode cX12_text 238 = .ok (.iaload, 1) := by decide +kernel
theorem dX12_text_239 : decode cX12_text 239 = .ok (.iastore, 1) := by decide +kernel
theorem dX12_text_240 : decode cX12_text 240 = .ok (.iinc 3 1, 3) := by decide +kernel
theorem dX12_text_243 : decode cX12_text 243 = .ok (.goto (-20), 3) := by decide +kernel
theorem dX12_text_246 : decode cX12_text 246 = .ok (.iconst 0, 1) := by decide +kernel
theorem dX12_text_247 : decode cX12_text 247 = .ok (.istore_n 3, 1) := by decide +kernel
theorem dX12_text_248 : decode cX12_text 248 = .ok (.iload_n 3, 1) := by decide +kernel
theorem dX12_text_249 : decode cX12_text 249 = .ok (.bipush 54, 2) := by decide +kernel
theorem dX12_text_251 : decode cX12_text 251 = .ok (.if_icmp .ge 21, 3) := by decide +kernel
theorem dX12_text_254 : decode cX12_text 254 = .ok (.aload_n 0, 1) := by decide +kernel
theorem dX12_text_255 : decode cX12_text 255 = .ok (.getfield 43, 3) := by decide +kernel
theorem dX12_text_258 : decode cX12_text 258 = .ok (.iload_n 3, 1) := by decide +kernel
theorem dX12_text_259 : decode cX12_text 259 = .ok (.aload_n 0, 1) := by decide +kernel
theorem dX12_text_260 : decode cX12_text 260 = .ok (.getfield 46, 3) := by decide +kernel
theorem dX12_text_263 : decode cX12_text 263 = .ok (.iload_n 3, 1) := by decide +kernel
theorem dX12_text_264 : decode cX12_text 264 = .ok (.iaload, 1) := by decide +kernel
theorem dX12_text_265 : decode cX12_text 265 = .ok (.iastore, 1) := by decide +kernel
theorem dX12_text_266 : decode cX12_text 266 = .ok (.iinc 3 1, 3) := by decide +kernel
theorem dX12_text_269 : decode cX12_text 269 = .ok (.goto (-21), 3) := by decide +kernel
theorem dX12_text_272 : decode cX12_text 272 = .ok (.iconst 0, 1) := by decide +kernel
theorem dX12_text_273 : decode cX12_text 273 = .ok (.istore_n 3, 1) := by decide +kernel
theorem dX12_text_274 : decode cX12_text 274 = .ok (.iload_n 3, 1) := by decide +kernel
theorem dX12_text_275 : decode cX12_text 275 = .ok (.bipush 16, 2) := by decide +kernel
theorem dX12_text_277 : decode cX12_text 277 = .ok (.if_icmp .ge 21, 3) := by decide +kernel
theorem dX12_text_280 : decode cX12_text 280 = .ok (.aload_n 0, 1) := by decide +kernel
theorem dX12_text_281 : decode cX12_text 281 = .ok (.getfield 49, 3) := by decide +kernel
theorem dX12_text_284 : decode cX12_text 284 = .ok (.iload_n 3, 1) := by decide +kernel
theorem dX12_text_285 : decode cX12_text 285 = .ok (.aload_n 0, 1) := by decide +kernel
theorem dX12_text_286 : decode cX12_text 286 = .ok (.getfield 52, 3) := by decide +kernel
theorem dX12_text_289 : decode cX12_text 289 = .ok (.iload_n 3, 1) := by decide +kernel
theorem dX12_text_290 : decode cX12_text 290 = .ok (.iaload, 1) := by decide +kernel
theorem dX12_text_291 : decode cX12_text 291 = .ok (.iastore, 1) := by decide +kernel
theorem dX12_text_292 : decode cX12_text 292 = .ok (.iinc 3 1, 3) := by decide +kernel
theorem dX12_text_295 : decode cX12_text 295 = .ok (.goto (-21), 3) := by decide +kernel
theorem dX12_text_298 : decode cX12_text 298 = .ok (.iconst 0, 1) := by decide +kernel
theorem dX12_text_299 : decode cX12_text 299 = .ok (.istore_n 3, 1) := by decide +kernel
theorem dX12_text_300 : decode cX12_text 300 = .ok (.iload_n 3, 1) := by decide +kernel
theorem dX12_text_301 : decode cX12_text 301 = .ok (.sipush 296, 3) := by decide +kernel
theorem dX12_text_304 : decode cX12_text 304 = .ok (.if_icmp .ge 16, 3) := by decide +kernel
theorem dX12_text_307 : decode cX12_text 307 = .ok (.aload_n 0, 1) := by decide +kernel
theorem dX12_text_308 : decode cX12_text 308 = .ok (.getfield 61, 3) := by decide +kernel
theorem dX12_text_311 : decode cX12_text 311 = .ok (.iload_n 3, 1) := by decide +kernel
theorem dX12_text_312 : decode cX12_text 312 = .ok (.iconst 0, 1) := by decide +kernel
theorem dX12_text_313 : decode cX12_text 313 = .ok (.iastore, 1) := by decide +kernel
theorem dX12_text_314 : decode cX12_text 314 = .ok (.iinc 3 1, 3) := by decide +kernel
theorem dX12_text_317 : decode cX12_text 317 = .ok (.goto (-17), 3) := by decide +kernel
theorem dX12_text_320 : decode cX12_text 320 = .ok (.aload_n 0, 1) := by decide +kernel
theorem dX12_text_321 : decode cX12_text 321 = .ok (.iconst 0, 1) := by decide +kernel
theorem dX12_text_322 : decode cX12_text 322 = .ok (.putfield 303, 3) := by decide +kernel
theorem dX12_text_325 : decode cX12_text 325 = .ok (.iconst 0, 1) := by decide +kernel
theorem dX12_text_326 : decode cX12_text 326 = .ok (.istore_n 3, 1) := by decide +kernel
theorem dX12_text_327 : decode cX12_text 327 = .ok (.iload_n 3, 1) := by decide +kernel
theorem dX12_text_328 : decode cX12_text 328 = .ok (.aload_n 0, 1) := by decide +kernel
theorem dX12_text_329 : decode cX12_text 329 = .ok (.getfield 297, 3) := by decide +kernel
theorem dX12_text_332 : decode cX12_text 332 = .ok (.if_icmp .ge 89, 3) := by decide +kernel
theorem dX12_text_335 : decode cX12_text 335 = .ok (.aload_n 0, 1) := by decide +kernel
theorem dX12_text_336 : decode cX12_text 336 = .ok (.getfield 61, 3) := by decide +kernel
theorem dX12_text_339 : decode cX12_text 339 = .ok (.bipush 6, 2) := by decide +kernel
theorem dX12_text_341 : decode cX12_text 341 = .ok (.iload_n 3, 1) := by decide +kernel
theorem dX12_text_342 : decode cX12_text 342 = .ok (.imul, 1) := by decide +kernel
theorem dX12_text_343 : decode cX12_text 343 = .ok (.iconst 0, 1) := by decide +kernel
theorem dX12_text_344 : decode cX12_text 344 = .ok (.iadd, 1) := by decide +kernel
theorem dX12_text_345 : decode cX12_text 345 = .ok (.iload_n 3, 1) := by decide +kernel
theorem dX12_text_346 : decode cX12_text 346 = .ok (.iastore, 1) := by decide +kernel
theorem dX12_text_347 : decode cX12_text 347 = .ok (.aload_n 0, 1) := by decide +kernel
theorem dX12_text_348 : decode cX12_text 348 = .ok (.getfield 61, 3) := by decide +kernel
theorem dX12_text_351 : decode cX12_text 351 = .ok (.bipush 6, 2) := by decide +kernel
theorem dX12_text_353 : decode cX12_text 353 = .ok (.iload_n 3, 1) := by decide +kernel
theorem dX12_text_354 : decode cX12_text 354 = .ok (.imul, 1) := by decide +kernel
theorem dX12_text_355 : decode cX12_text 355 = .ok (.iconst 1, 1) := by decide +kernel
theorem dX12_text_356 : decode cX12_text 356 = .ok (.iadd, 1) := by decide +kernel
theorem dX12_text_357 : decode cX12_text 357 = .ok (.aload_n 0, 1) := by decide +kernel
theorem dX12_text_358 : decode cX12_text 358 = .ok (.getfield 43, 3) := by decide +kernel
theorem dX12_text_361 : decode cX12_text 361 = .ok (.bipush 6, 2) := by decide +kernel
theorem dX12_text_363 : decode cX12_text 363 = .ok (.iload_n 3, 1) := by decide +kernel
theorem dX12_text_364 : decode cX12_text 364 = .ok (.imul, 1) := by decide +kernel
theorem dX12_text_365 : decode cX12_text 365 = .ok (.iconst 5, 1) := by decide +kernel
theorem dX12_text_366 : decode cX12_text 366 = .ok (.iadd, 1) := by decide +kernel
theorem dX12_text_367 : decode cX12_text 367 = .ok (.iaload, 1) := by decide +kernel
theorem dX12_text_368 : decode cX12_text 368 = .ok (.iconst 1, 1) := by decide +kernel
theorem dX12_text_369 : decode cX12_text 369 = .ok (.if_icmp .ne 7, 3) := by decide +kernel
theorem dX12_text_372 : decode cX12_text 372 = .ok (.iconst (-1), 1) := by decide +kernel
theorem dX12_text_373 : decode cX12_text 373 = .ok (.goto 7, 3) := by decide +kernel
theorem dX12_text_376 : decode cX12_text 376 = .ok (.aload_n 0, 1) := by decide +kernel
theorem dX12_text_377 : decode cX12_text 377 = .ok (.getfield 303, 3) := by decide +kernel
theorem dX12_text_380 : decode cX12_text 380 = .ok (.iastore, 1) := by decide +kernel
theorem dX12_text_381 : decode cX12_text 381 = .ok (.aload_n 0, 1) := by decide +kernel
theorem dX12_text_382 : decode cX12_text 382 = .ok (.dup, 1) := by decide +kernel
theorem dX12_text_383 : decode cX12_text 383 = .ok (.getfield 303, 3) := by decide +kernel
theorem dX12_text_386 : decode cX12_text 386 = .ok (.iconst 1, 1) := by decide +kernel
theorem dX12_text_387 : decode cX12_text 387 = .ok (.aload_n 0, 1) := by decide +kernel
theorem dX12_text_388 : decode cX12_text 388 = .ok (.getfield 43, 3) := by decide +kernel
theorem dX12_text_391 : decode cX12_text 391 = .ok (.bipush 6, 2) := by decide +kernel
theorem dX12_text_393 : decode cX12_text 393 = .ok (.iload_n 3, 1) := by decide +kernel
theorem dX12_text_394 : decode cX12_text 394 = .ok (.imul, 1) := by decide +kernel
theorem dX12_text_395 : decode cX12_text 395 = .ok (.iconst 5, 1) := by decide +kernel
theorem dX12_text_396 : decode cX12_text 396 = .ok (.iadd, 1) := by decide +kernel
theorem dX12_text_397 : decode cX12_text 397 = .ok (.iaload, 1) := by decide +kernel
theorem dX12_text_398 : decode cX12_text 398 = .ok (.isub, 1) := by decide +kernel
theorem dX12_text_399 : decode cX12_text 399 = .ok (.iadd, 1) := by decide +kernel
theorem dX12_text_400 : decode cX12_text 400 = .ok (.putfield 303, 3) := by decide +kernel
theorem dX12_text_403 : decode cX12_text 403 = .ok (.aload_n 0, 1) := by decide +kernel
theorem dX12_text_404 : decode cX12_text 404 = .ok (.getfield 61, 3) := by decide +kernel
theorem dX12_text_407 : decode cX12_text 407 = .ok (.bipush 6, 2) := by decide +kernel
theorem dX12_text_409 : decode cX12_text 409 = .ok (.iload_n 3, 1) := by decide +kernel
theorem dX12_text_410 : decode cX12_text 410 = .ok (.imul, 1) := by decide +kernel
theorem dX12_text_411 : decode cX12_text 411 = .ok (.iconst 3, 1) := by decide +kernel
theorem dX12_text_412 : decode cX12_text 412 = .ok (.iadd, 1) := by decide +kernel
theorem dX12_text_413 : decode cX12_text 413 = .ok (.iconst 1, 1) := by decide +kernel
theorem dX12_text_414 : decode cX12_text 414 = .ok (.iastore, 1) := by decide +kernel
theorem dX12_text_415 : decode cX12_text 415 = .ok (.iinc 3 1, 3) := by decide +kernel
theorem dX12_text_418 : decode cX12_text 418 = .ok (.goto (-91), 3) := by decide +kernel
theorem dX12_text_421 : decode cX12_text 421 = .ok (.aload_n 0, 1) := by decide +kernel
theorem dX12_text_422 : decode cX12_text 422 = .ok (.getfield 61, 3) := by decide +kernel
theorem dX12_text_425 : decode cX12_text 425 = .ok (.bipush 54, 2) := by decide +kernel
theorem dX12_text_427 : decode cX12_text 427 = .ok (.aload_n 0, 1) := by decide +kernel
theorem dX12_text_428 : decode cX12_text 428 = .ok (.getfield 37, 3) := by decide +kernel
theorem dX12_text_431 : decode cX12_text 431 = .ok (.iconst 2, 1) := by decide +kernel
theorem dX12_text_432 : decode cX12_text 432 = .ok (.iaload, 1) := by decide +kernel
theorem dX12_text_433 : decode cX12_text 433 = .ok (.iastore, 1) := by decide +kernel
theorem dX12_text_434 : decode cX12_text 434 = .ok (.aload_n 0, 1) := by decide +kernel
theorem dX12_text_435 : decode cX12_text 435 = .ok (.iconst 0, 1) := by decide +kernel
theorem dX12_text_436 : decode cX12_text 436 = .ok (.putfield 306, 3) := by decide +kernel
theorem dX12_text_439 : decode cX12_text 439 = .ok (.aload_n 0, 1) := by decide +kernel
theorem dX12_text_440 : decode cX12_text 440 = .ok (.iconst 0, 1) := by decide +kernel
theorem dX12_text_441 : decode cX12_text 441 = .ok (.putfield 309, 3) := by decide +kernel
theorem dX12_text_444 : decode cX12_text 444 = .ok (.aload_n 0, 1) := by decide +kernel
theorem dX12_text_445 : decode cX12_text 445 = .ok (.iconst 0, 1) := by decide +kernel
theorem dX12_text_446 : decode cX12_text 446 = .ok (.putfield 312, 3) := by decide +kernel
theorem dX12_text_449 : decode cX12_text 449 = .ok (.aload_n 0, 1) := by decide +kernel
theorem dX12_text_450 : decode cX12_text 450 = .ok (.iconst 0, 1) := by decide +kernel
theorem dX12_text_451 : decode cX12_text 451 = .ok (.putfield 315, 3) := by decide +kernel
theorem dX12_text_454 : decode cX12_text 454 = .ok (.aload_n 0, 1) := by decide +kernel
theorem dX12_text_455 : decode cX12_text 455 = .ok (.getfield 297, 3) := by decide +kernel
theorem dX12_text_458 : decode cX12_text 458 = .ok (.ireturn, 1) := by decide +kernel
theorem dX12_copy_0 : decode cX12_copy 0 = .ok (.bipush 56, 2) := by decide +kernel
theorem dX12_copy_2 : decode cX12_copy 2 = .ok (.iconst 4, 1) := by decide +kernel
theorem dX12_copy_3 : decode cX12_copy 3 = .ok (.aload_n 0, 1) := by decide +kernel
theorem dX12_copy_4 : decode cX12_copy 4 = .ok (.bipush 55, 2) := by decide +kernel
theorem dX12_copy_6 : decode cX12_copy 6 = .ok (.iaload, 1) := by decide +kernel
theorem dX12_copy_7 : decode cX12_copy 7 = .ok (.imul, 1) := by decide +kernel
theorem dX12_copy_8 : decode cX12_copy 8 = .ok (.iadd, 1) := by decide +kernel
theorem dX12_copy_9 : decode cX12_copy 9 = .ok (.istore_n 2, 1) := by decide +kernel
theorem dX12_copy_10 : decode cX12_copy 10 = .ok (.iconst 0, 1) := by decide +kernel
theorem dX12_copy_11 : decode cX12_copy 11 = .ok (.istore_n 3, 1) := by decide +kernel
theorem dX12_copy_12 : decode cX12_copy 12 = .ok (.iload_n 3, 1) := by decide +kernel
theorem dX12_copy_13 : decode cX12_copy 13 = .ok (.iload_n 2, 1) := by decide +kernel
theorem dX12_copy_14 : decode cX12_copy 14 = .ok (.if_icmp .ge 15, 3) := by decide +kernel
theorem dX12_copy_17 : decode cX12_copy 17 = .ok (.aload_n 1, 1) := by decide +kernel
theorem dX12_copy_18 : decode cX12_copy 18 = .ok (.iload_n 3, 1) := by decide +kernel
theorem dX12_copy_19 : decode cX12_copy 19 = .ok (.aload_n 0, 1) := by decide +kernel
theorem dX12_copy_20 : decode cX12_copy 20 = .ok (.iload_n 3, 1) := by decide +kernel
theorem dX12_copy_21 : decode cX12_copy 21 = .ok (.iaload, 1) := by decide +kernel
theorem dX12_copy_22 : decode cX12_copy 22 = .ok (.iastore, 1) := by decide +kernel
theorem dX12_copy_23 : decode cX12_copy 23 = .ok (.iinc 3 1, 3) := by decide +kernel
theorem dX12_copy_26 : decode cX12_copy 26 = .ok (.goto (-14), 3) := by decide +kernel
theorem dX12_copy_29 : decode cX12_copy 29 = .ok (.return_, 1) := by decide +kernel
theorem dX12_isSleeper_0 : decode cX12_isSleeper 0 = .ok (.iload_n 1, 1) := by decide +kernel
theorem dX12_isSleeper_1 : decode cX12_isSleeper 1 = .ok (.ifCond .lt 15, 3) := by decide +kernel
theorem dX12_isSleeper_4 : decode cX12_isSleeper 4 = .ok (.iload_n 1, 1) := by decide +kernel
theorem dX12_isSleeper_5 : decode cX12_isSleeper 5 = .ok (.aload_n 0, 1) := by decide +kernel
theorem dX12_isSleeper_6 : decode cX12_isSleeper 6 = .ok (.getfield 297, 3) := by decide +kernel
theorem dX12_isSleeper_9 : decode cX12_isSleeper 9 = .ok (.if_icmp .ge 7, 3) := by decide +kernel
theorem dX12_isSleeper_12 : decode cX12_isSleeper 12 = .ok (.iconst 1, 1) := by decide +kernel
theorem dX12_isSleeper_13 : decode cX12_isSleeper 13 = .ok (.goto 4, 3) := by decide +kernel
theorem dX12_isSleeper_16 : decode cX12_isSleeper 16 = .ok (.iconst 0, 1) := by decide +kernel
theorem dX12_isSleeper_17 : decode cX12_isSleeper 17 = .ok (.ireturn, 1) := by decide +kernel
theorem dX12_isOfficer_0 : decode cX12_isOfficer 0 = .ok (.iload_n 1, 1) := by decide +kernel
theorem dX12_isOfficer_1 : decode cX12_isOfficer 1 = .ok (.ifCond .lt 15, 3) := by decide +kernel
theorem dX12_isOfficer_4 : decode cX12_isOfficer 4 = .ok (.iload_n 1, 1) := by decide +kernel
theorem dX12_isOfficer_5 : decode cX12_isOfficer 5 = .ok (.aload_n 0, 1) := by decide +kernel
theorem dX12_isOfficer_6 : decode cX12_isOfficer 6 = .ok (.getfield 300, 3) := by decide +kernel
theorem dX12_isOfficer_9 : decode cX12_isOfficer 9 = .ok (.if_icmp .ge 7, 3) := by decide +kernel
theorem dX12_isOfficer_12 : decode cX12_isOfficer 12 = .ok (.iconst 1, 1) := by decide +kernel
theorem dX12_isOfficer_13 : decode cX12_isOfficer 13 = .ok (.goto 4, 3) := by decide +kernel
theorem dX12_isOfficer_16 : decode cX12_isOfficer 16 = .ok (.iconst 0, 1) := by decide +kernel
theorem dX12_isOfficer_17 : decode cX12_isOfficer 17 = .ok (.ireturn, 1) := by decide +kernel
theorem dX12_isChild_0 : decode cX12_isChild 0 = .ok (.aload_n 0, 1) := by decide +kernel
theorem dX12_isChild_1 : decode cX12_isChild 1 = .ok (.getfield 43, 3) := by decide +kernel
theorem dX12_isChild_4 : decode cX12_isChild 4 = .ok (.bipush 6, 2) := by decide +kernel
theorem dX12_isChild_6 : decode cX12_isChild 6 = .ok (.iload_n 1, 1) := by decide +kernel
theorem dX12_isChild_7 : decode cX12_isChild 7 = .ok (.imul, 1) := by decide +kernel
theorem dX12_isChild_8 : decode cX12_isChild 8 = .ok (.iconst 5, 1) := by decide +kernel
theorem dX12_isChild_9 : decode cX12_isChild 9 = .ok (.iadd, 1) := by decide +kernel
theorem dX12_isChild_10 : decode cX12_isChild 10 = .ok (.iaload, 1) := by decide +kernel
theorem dX12_isChild_11 : decode cX12_isChild 11 = .ok (.iconst 1, 1) := by decide +kernel
theorem dX12_isChild_12 : decode cX12_isChild 12 = .ok (.if_icmp .ne 7, 3) := by decide +kernel
theorem dX12_isChild_15 : decode cX12_isChild 15 = .ok (.iconst 1, 1) := by decide +kernel
theorem dX12_isChild_16 : decode cX12_isChild 16 = .ok (.goto 4, 3) := by decide +kernel
theorem dX12_isChild_19 : decode cX12_isChild 19 = .ok (.iconst 0, 1) := by decide +kernel
theorem dX12_isChild_20 : decode cX12_isChild 20 = .ok (.ireturn, 1) := by decide +kernel
theorem dX12_inBerth_0 : decode cX12_inBerth 0 = .ok (.iconst 0, 1) := by decide +kernel
theorem dX12_inBerth_1 : decode cX12_inBerth 1 = .ok (.istore_n 3, 1) := by decide +kernel
theorem dX12_inBerth_2 : decode cX12_inBerth 2 = .ok (.iload_n 3, 1) := by decide +kernel
theorem dX12_inBerth_3 : decode cX12_inBerth 3 = .ok (.aload_n 0, 1) := by decide +kernel
theorem dX12_inBerth_4 : decode cX12_inBerth 4 = .ok (.getfield 297, 3) := by decide +kernel
theorem dX12_inBerth_7 : decode cX12_inBerth 7 = .ok (.if_icmp .ge 23, 3) := by decide +kernel
theorem dX12_inBerth_10 : decode cX12_inBerth 10 = .ok (.aload_n 1, 1) := by decide +kernel
theorem dX12_inBerth_11 : decode cX12_inBerth 11 = .ok (.bipush 6, 2) := by decide +kernel
theorem dX12_inBerth_13 : decode cX12_inBerth 13 = .ok (.iload_n 3, 1) := by decide +kernel
theorem dX12_inBerth_14 : decode cX12_inBerth 14 = .ok (.imul, 1) := by decide +kernel
theorem dX12_inBerth_15 : decode cX12_inBerth 15 = .ok (.iconst 0, 1) := by decide +kernel
theorem dX12_inBerth_16 : decode cX12_inBerth 16 = .ok (.iadd, 1) := by decide +kernel
theorem dX12_inBerth_17 : decode cX12_inBerth 17 = .ok (.iaload, 1) := by decide +kernel
theorem dX12_inBerth_18 : decode cX12_inBerth 18 = .ok (.iload_n 2, 1) := by decide +kernel
theorem dX12_inBerth_19 : decode cX12_inBerth 19 = .ok (.if_icmp .ne 5, 3) := by decide +kernel
theorem dX12_inBerth_22 : decode cX12_inBerth 22 = .ok (.iload_n 3, 1) := by decide +kernel
theorem dX12_inBerth_23 : decode cX12_inBerth 23 = .ok (.ireturn, 1) := by decide +kernel
theorem dX12_inBerth_24 : decode cX12_inBerth 24 = .ok (.iinc 3 1, 3) := by decide +kernel
theorem dX12_inBerth_27 : decode cX12_inBerth 27 = .ok (.goto (-25), 3) := by decide +kernel
theorem dX12_inBerth_30 : decode cX12_inBerth 30 = .ok (.iconst (-1), 1) := by decide +kernel
theorem dX12_inBerth_31 : decode cX12_inBerth 31 = .ok (.ireturn, 1) := by decide +kernel
theorem dX12_snoresBeside_0 : decode cX12_snoresBeside 0 = .ok (.iconst 0, 1) := by decide +kernel
theorem dX12_snoresBeside_1 : decode cX12_snoresBeside 1 = .ok (.istore_n 3, 1) := by decide +kernel
theorem dX12_snoresBeside_2 : decode cX12_snoresBeside 2 = .ok (.iconst (-1), 1) := by decide +kernel
theorem dX12_snoresBeside_3 : decode cX12_snoresBeside 3 = .ok (.istore 4, 2) := by decide +kernel
theorem dX12_snoresBeside_5 : decode cX12_snoresBeside 5 = .ok (.iload 4, 2) := by decide +kernel
theorem dX12_snoresBeside_7 : decode cX12_snoresBeside 7 = .ok (.iconst 2, 1) := by decide +kernel
theorem dX12_snoresBeside_8 : decode cX12_snoresBeside 8 = .ok (.if_icmp .ge 52, 3) := by decide +kernel
theorem dX12_snoresBeside_11 : decode cX12_snoresBeside 11 = .ok (.aload_n 0, 1) := by decide +kernel
theorem dX12_snoresBeside_12 : decode cX12_snoresBeside 12 = .ok (.aload_n 1, 1) := by decide +kernel
theorem dX12_snoresBeside_13 : decode cX12_snoresBeside 13 = .ok (.aload_n 1, 1) := by decide +kernel
theorem dX12_snoresBeside_14 : decode cX12_snoresBeside 14 = .ok (.bipush 6, 2) := by decide +kernel
theorem dX12_snoresBeside_16 : decode cX12_snoresBeside 16 = .ok (.iload_n 2, 1) := by decide +kernel
theorem dX12_snoresBeside_17 : decode cX12_snoresBeside 17 = .ok (.imul, 1) := by decide +kernel
theorem dX12_snoresBeside_18 : decode cX12_snoresBeside 18 = .ok (.iconst 0, 1) := by decide +kernel
theorem dX12_snoresBeside_19 : decode cX12_snoresBeside 19 = .ok (.iadd, 1) := by decide +kernel
theorem dX12_snoresBeside_20 : decode cX12_snoresBeside 20 = .ok (.iaload, 1) := by decide +kernel
theorem dX12_snoresBeside_21 : decode cX12_snoresBeside 21 = .ok (.iload 4, 2) := by decide +kernel
theorem dX12_snoresBeside_23 : decode cX12_snoresBeside 23 = .ok (.iadd, 1) := by decide +kernel
theorem dX12_snoresBeside_24 : decode cX12_snoresBeside 24 = .ok (.invokevirtual 318, 3) := by decide +kernel
theorem dX12_snoresBeside_27 : decode cX12_snoresBeside 27 = .ok (.istore 5, 2) := by decide +kernel
theorem dX12_snoresBeside_29 : decode cX12_snoresBeside 29 = .ok (.iload_n 3, 1) := by decide +kernel
theorem dX12_snoresBeside_30 : decode cX12_snoresBeside 30 = .ok (.iload 5, 2) := by decide +kernel
theorem dX12_snoresBeside_32 : decode cX12_snoresBeside 32 = .ok (.iconst (-1), 1) := by decide +kernel
theorem dX12_snoresBeside_33 : decode cX12_snoresBeside 33 = .ok (.if_icmp .ne 7, 3) := by decide +kernel
theorem dX12_snoresBeside_36 : decode cX12_snoresBeside 36 = .ok (.iconst 0, 1) := by decide +kernel
theorem dX12_snoresBeside_37 : decode cX12_snoresBeside 37 = .ok (.goto 15, 3) := by decide +kernel
theorem dX12_snoresBeside_40 : decode cX12_snoresBeside 40 = .ok (.aload_n 0, 1) := by decide +kernel
theorem dX12_snoresBeside_41 : decode cX12_snoresBeside 41 = .ok (.getfield 43, 3) := by decide +kernel
theorem dX12_snoresBeside_44 : decode cX12_snoresBeside 44 = .ok (.bipush 6, 2) := by decide +kernel
theorem dX12_snoresBeside_46 : decode cX12_snoresBeside 46 = .ok (.iload 5, 2) := by decide +kernel
theorem dX12_snoresBeside_48 : decode cX12_snoresBeside 48 = .ok (.imul, 1) := by decide +kernel
theorem dX12_snoresBeside_49 : decode cX12_snoresBeside 49 = .ok (.iconst 3, 1) := by decide +kernel
theorem dX12_snoresBeside_50 : decode cX12_snoresBeside 50 = .ok (.iadd, 1) := by decide +kernel
theorem dX12_snoresBeside_51 : decode cX12_snoresBeside 51 = .ok (.iaload, 1) := by decide +kernel
theorem dX12_snoresBeside_52 : decode cX12_snoresBeside 52 = .ok (.iadd, 1) := by decide +kernel
theorem dX12_snoresBeside_53 : decode cX12_snoresBeside 53 = .ok (.istore_n 3, 1) := by decide +kernel
theorem dX12_snoresBeside_54 : decode cX12_snoresBeside 54 = .ok (.iinc 4 2, 3) := by decide +kernel
theorem dX12_snoresBeside_57 : decode cX12_snoresBeside 57 = .ok (.goto (-52), 3) := by decide +kernel
theorem dX12_snoresBeside_60 : decode cX12_snoresBeside 60 = .ok (.iload_n 3, 1) := by decide +kernel
theorem dX12_snoresBeside_61 : decode cX12_snoresBeside 61 = .ok (.ireturn, 1) := by decide +kernel
theorem dX12_sleepOf_0 : decode cX12_sleepOf 0 = .ok (.iconst 5, 1) := by decide +kernel
theorem dX12_sleepOf_1 : decode cX12_sleepOf 1 = .ok (.aload_n 0, 1) := by decide +kernel
theorem dX12_sleepOf_2 : decode cX12_sleepOf 2 = .ok (.getfield 43, 3) := by decide +kernel
theorem dX12_sleepOf_5 : decode cX12_sleepOf 5 = .ok (.bipush 6, 2) := by decide +kernel
theorem dX12_sleepOf_7 : decode cX12_sleepOf 7 = .ok (.iload_n 2, 1) := by decide +kernel
theorem dX12_sleepOf_8 : decode cX12_sleepOf 8 = .ok (.imul, 1) := by decide +kernel
theorem dX12_sleepOf_9 : decode cX12_sleepOf 9 = .ok (.iconst 2, 1) := by decide +kernel
theorem dX12_sleepOf_10 : decode cX12_sleepOf 10 = .ok (.iadd, 1) := by decide +kernel
theorem dX12_sleepOf_11 : decode cX12_sleepOf 11 = .ok (.iaload, 1) := by decide +kernel
theorem dX12_sleepOf_12 : decode cX12_sleepOf 12 = .ok (.iadd, 1) := by decide +kernel
theorem dX12_sleepOf_13 : decode cX12_sleepOf 13 = .ok (.iconst 5, 1) := by decide +kernel
theorem dX12_sleepOf_14 : decode cX12_sleepOf 14 = .ok (.aload_n 1, 1) := by decide +kernel
theorem dX12_sleepOf_15 : decode cX12_sleepOf 15 = .ok (.bipush 6, 2) := by decide +kernel
theorem dX12_sleepOf_17 : decode cX12_sleepOf 17 = .ok (.iload_n 2, 1) := by decide +kernel
theorem dX12_sleepOf_18 : decode cX12_sleepOf 18 = .ok (.imul, 1) := by decide +kernel
theorem dX12_sleepOf_19 : decode cX12_sleepOf 19 = .ok (.iconst 4, 1) := by decide +kernel
theorem dX12_sleepOf_20 : decode cX12_sleepOf 20 = .ok (.iadd, 1) := by decide +kernel
theorem dX12_sleepOf_21 : decode cX12_sleepOf 21 = .ok (.iaload, 1) := by decide +kernel
theorem dX12_sleepOf_22 : decode cX12_sleepOf 22 = .ok (.imul, 1) := by decide +kernel
theorem dX12_sleepOf_23 : decode cX12_sleepOf 23 = .ok (.iadd, 1) := by decide +kernel
theorem dX12_sleepOf_24 : decode cX12_sleepOf 24 = .ok (.istore 5, 2) := by decide +kernel
theorem dX12_sleepOf_26 : decode cX12_sleepOf 26 = .ok (.aload_n 0, 1) := by decide +kernel
theorem dX12_sleepOf_27 : decode cX12_sleepOf 27 = .ok (.getfield 67, 3) := by decide +kernel
theorem dX12_sleepOf_30 : decode cX12_sleepOf 30 = .ok (.iconst (-1), 1) := by decide +kernel
theorem dX12_sleepOf_31 : decode cX12_sleepOf 31 = .ok (.if_icmp .eq 115, 3) := by decide +kernel
theorem dX12_sleepOf_34 : decode cX12_sleepOf 34 = .ok (.aload_n 0, 1) := by decide +kernel
theorem dX12_sleepOf_35 : decode cX12_sleepOf 35 = .ok (.getfield 20, 3) := by decide +kernel
theorem dX12_sleepOf_38 : decode cX12_sleepOf 38 = .ok (.bipush 110, 2) := by decide +kernel
theorem dX12_sleepOf_40 : decode cX12_sleepOf 40 = .ok (.aload_n 0, 1) := by decide +kernel
theorem dX12_sleepOf_41 : decode cX12_sleepOf 41 = .ok (.getfield 43, 3) := by decide +kernel
theorem dX12_sleepOf_44 : decode cX12_sleepOf 44 = .ok (.bipush 6, 2) := by decide +kernel
theorem dX12_sleepOf_46 : decode cX12_sleepOf 46 = .ok (.iload_n 2, 1) := by decide +kernel
theorem dX12_sleepOf_47 : decode cX12_sleepOf 47 = .ok (.imul, 1) := by decide +kernel
theorem dX12_sleepOf_48 : decode cX12_sleepOf 48 = .ok (.iconst 2, 1) := by decide +kernel
theorem dX12_sleepOf_49 : decode cX12_sleepOf 49 = .ok (.iadd, 1) := by decide +kernel
theorem dX12_sleepOf_50 : decode cX12_sleepOf 50 = .ok (.iaload, 1) := by decide +kernel
theorem dX12_sleepOf_51 : decode cX12_sleepOf 51 = .ok (.iastore, 1) := by decide +kernel
theorem dX12_sleepOf_52 : decode cX12_sleepOf 52 = .ok (.aload_n 0, 1) := by decide +kernel
theorem dX12_sleepOf_53 : decode cX12_sleepOf 53 = .ok (.getfield 20, 3) := by decide +kernel
theorem dX12_sleepOf_56 : decode cX12_sleepOf 56 = .ok (.bipush 119, 2) := by decide +kernel
theorem dX12_sleepOf_58 : decode cX12_sleepOf 58 = .ok (.aload_n 1, 1) := by decide +kernel
theorem dX12_sleepOf_59 : decode cX12_sleepOf 59 = .ok (.bipush 6, 2) := by decide +kernel
theorem dX12_sleepOf_61 : decode cX12_sleepOf 61 = .ok (.iload_n 2, 1) := by decide +kernel
theorem dX12_sleepOf_62 : decode cX12_sleepOf 62 = .ok (.imul, 1) := by decide +kernel
theorem dX12_sleepOf_63 : decode cX12_sleepOf 63 = .ok (.iconst 4, 1) := by decide +kernel
theorem dX12_sleepOf_64 : decode cX12_sleepOf 64 = .ok (.iadd, 1) := by decide +kernel
theorem dX12_sleepOf_65 : decode cX12_sleepOf 65 = .ok (.iaload, 1) := by decide +kernel
theorem dX12_sleepOf_66 : decode cX12_sleepOf 66 = .ok (.iastore, 1) := by decide +kernel
theorem dX12_sleepOf_67 : decode cX12_sleepOf 67 = .ok (.aload_n 0, 1) := by decide +kernel
theorem dX12_sleepOf_68 : decode cX12_sleepOf 68 = .ok (.getfield 20, 3) := by decide +kernel
theorem dX12_sleepOf_71 : decode cX12_sleepOf 71 = .ok (.bipush 116, 2) := by decide +kernel
theorem dX12_sleepOf_73 : decode cX12_sleepOf 73 = .ok (.iload_n 3, 1) := by decide +kernel
theorem dX12_sleepOf_74 : decode cX12_sleepOf 74 = .ok (.iastore, 1) := by decide +kernel
theorem dX12_sleepOf_75 : decode cX12_sleepOf 75 = .ok (.aload_n 0, 1) := by decide +kernel
theorem dX12_sleepOf_76 : decode cX12_sleepOf 76 = .ok (.getfield 20, 3) := by decide +kernel
theorem dX12_sleepOf_79 : decode cX12_sleepOf 79 = .ok (.bipush 99, 2) := by decide +kernel
theorem dX12_sleepOf_81 : decode cX12_sleepOf 81 = .ok (.aload_n 0, 1) := by decide +kernel
theorem dX12_sleepOf_82 : decode cX12_sleepOf 82 = .ok (.getfield 43, 3) := by decide +kernel
theorem dX12_sleepOf_85 : decode cX12_sleepOf 85 = .ok (.bipush 6, 2) := by decide +kernel
theorem dX12_sleepOf_87 : decode cX12_sleepOf 87 = .ok (.iload_n 2, 1) := by decide +kernel
theorem dX12_sleepOf_88 : decode cX12_sleepOf 88 = .ok (.imul, 1) := by decide +kernel
theorem dX12_sleepOf_89 : decode cX12_sleepOf 89 = .ok (.iconst 5, 1) := by decide +kernel
theorem dX12_sleepOf_90 : decode cX12_sleepOf 90 = .ok (.iadd, 1) := by decide +kernel
theorem dX12_sleepOf_91 : decode cX12_sleepOf 91 = .ok (.iaload, 1) := by decide +kernel
theorem dX12_sleepOf_92 : decode cX12_sleepOf 92 = .ok (.iastore, 1) := by decide +kernel
theorem dX12_sleepOf_93 : decode cX12_sleepOf 93 = .ok (.aload_n 0, 1) := by decide +kernel
theorem dX12_sleepOf_94 : decode cX12_sleepOf 94 = .ok (.getfield 20, 3) := by decide +kernel
theorem dX12_sleepOf_97 : decode cX12_sleepOf 97 = .ok (.bipush 111, 2) := by decide +kernel
theorem dX12_sleepOf_99 : decode cX12_sleepOf 99 = .ok (.iload 4, 2) := by decide +kernel
theorem dX12_sleepOf_101 : decode cX12_sleepOf 101 = .ok (.iastore, 1) := by decide +kernel
theorem dX12_sleepOf_102 : decode cX12_sleepOf 102 = .ok (.aload_n 0, 1) := by decide +kernel
theorem dX12_sleepOf_103 : decode cX12_sleepOf 103 = .ok (.getfield 20, 3) := by decide +kernel
theorem dX12_sleepOf_106 : decode cX12_sleepOf 106 = .ok (.bipush 115, 2) := by decide +kernel
theorem dX12_sleepOf_108 : decode cX12_sleepOf 108 = .ok (.aload_n 0, 1) := by decide +kernel
theorem dX12_sleepOf_109 : decode cX12_sleepOf 109 = .ok (.aload_n 1, 1) := by decide +kernel
theorem dX12_sleepOf_110 : decode cX12_sleepOf 110 = .ok (.iload_n 2, 1) := by decide +kernel
theorem dX12_sleepOf_111 : decode cX12_sleepOf 111 = .ok (.invokevirtual 322, 3) := by decide +kernel
theorem dX12_sleepOf_114 : decode cX12_sleepOf 114 = .ok (.iastore, 1) := by decide +kernel
theorem dX12_sleepOf_115 : decode cX12_sleepOf 115 = .ok (.aload_n 0, 1) := by decide +kernel
theorem dX12_sleepOf_116 : decode cX12_sleepOf 116 = .ok (.aload_n 0, 1) := by decide +kernel
theorem dX12_sleepOf_117 : decode cX12_sleepOf 117 = .ok (.getfield 13, 3) := by decide +kernel
theorem dX12_sleepOf_120 : decode cX12_sleepOf 120 = .ok (.sipush 240, 3) := by decide +kernel
theorem dX12_sleepOf_123 : decode cX12_sleepOf 123 = .ok (.aload_n 0, 1) := by decide +kernel
theorem dX12_sleepOf_124 : decode cX12_sleepOf 124 = .ok (.getfield 67, 3) := by decide +kernel
theorem dX12_sleepOf_127 : decode cX12_sleepOf 127 = .ok (.imul, 1) := by decide +kernel
theorem dX12_sleepOf_128 : decode cX12_sleepOf 128 = .ok (.aload_n 0, 1) := by decide +kernel
theorem dX12_sleepOf_129 : decode cX12_sleepOf 129 = .ok (.getfield 16, 3) := by decide +kernel
theorem dX12_sleepOf_132 : decode cX12_sleepOf 132 = .ok (.aload_n 0, 1) := by decide +kernel
theorem dX12_sleepOf_133 : decode cX12_sleepOf 133 = .ok (.getfield 67, 3) := by decide +kernel
theorem dX12_sleepOf_136 : decode cX12_sleepOf 136 = .ok (.iaload, 1) := by decide +kernel
theorem dX12_sleepOf_137 : decode cX12_sleepOf 137 = .ok (.invokevirtual 283, 3) := by decide +kernel
theorem dX12_sleepOf_140 : decode cX12_sleepOf 140 = .ok (.aload_n 0, 1) := by decide +kernel
theorem dX12_sleepOf_141 : decode cX12_sleepOf 141 = .ok (.getfield 207, 3) := by decide +kernel
theorem dX12_sleepOf_144 : decode cX12_sleepOf 144 = .ok (.istore 5, 2) := by decide +kernel
theorem dX12_sleepOf_146 : decode cX12_sleepOf 146 = .ok (.iconst 0, 1) := by decide +kernel
theorem dX12_sleepOf_147 : decode cX12_sleepOf 147 = .ok (.bipush 99, 2) := by decide +kernel
theorem dX12_sleepOf_149 : decode cX12_sleepOf 149 = .ok (.iload 5, 2) := by decide +kernel
theorem dX12_sleepOf_151 : decode cX12_sleepOf 151 = .ok (.invokestatic 325, 3) := by decide +kernel
theorem dX12_sleepOf_154 : decode cX12_sleepOf 154 = .ok (.invokestatic 327, 3) := by decide +kernel
theorem dX12_sleepOf_157 : decode cX12_sleepOf 157 = .ok (.ireturn, 1) := by decide +kernel
theorem dX12_wakes_0 : decode cX12_wakes 0 = .ok (.aload_n 0, 1) := by decide +kernel
theorem dX12_wakes_1 : decode cX12_wakes 1 = .ok (.aload_n 1, 1) := by decide +kernel
theorem dX12_wakes_2 : decode cX12_wakes 2 = .ok (.iload_n 2, 1) := by decide +kernel
theorem dX12_wakes_3 : decode cX12_wakes 3 = .ok (.iload_n 3, 1) := by decide +kernel
theorem dX12_wakes_4 : decode cX12_wakes 4 = .ok (.iload 4, 2) := by decide +kernel
theorem dX12_wakes_6 : decode cX12_wakes 6 = .ok (.invokevirtual 329, 3) := by decide +kernel
theorem dX12_wakes_9 : decode cX12_wakes 9 = .ok (.istore 5, 2) := by decide +kernel
theorem dX12_wakes_11 : decode cX12_wakes 11 = .ok (.aload_n 1, 1) := by decide +kernel
theorem dX12_wakes_12 : decode cX12_wakes 12 = .ok (.bipush 6, 2) := by decide +kernel
theorem dX12_wakes_14 : decode cX12_wakes 14 = .ok (.iload_n 2, 1) := by decide +kernel
theorem dX12_wakes_15 : decode cX12_wakes 15 = .ok (.imul, 1) := by decide +kernel
theorem dX12_wakes_16 : decode cX12_wakes 16 = .ok (.iconst 3, 1) := by decide +kernel
theorem dX12_wakes_17 : decode cX12_wakes 17 = .ok (.iadd, 1) := by decide +kernel
theorem dX12_wakes_18 : decode cX12_wakes 18 = .ok (.iconst 0, 1) := by decide +kernel
theorem dX12_wakes_19 : decode cX12_wakes 19 = .ok (.iastore, 1) := by decide +kernel
theorem dX12_wakes_20 : decode cX12_wakes 20 = .ok (.aload_n 1, 1) := by decide +kernel
theorem dX12_wakes_21 : decode cX12_wakes 21 = .ok (.bipush 6, 2) := by decide +kernel
theorem dX12_wakes_23 : decode cX12_wakes 23 = .ok (.iload_n 2, 1) := by decide +kernel
theorem dX12_wakes_24 : decode cX12_wakes 24 = .ok (.imul, 1) := by decide +kernel
theorem dX12_wakes_25 : decode cX12_wakes 25 = .ok (.iconst 4, 1) := by decide +kernel
theorem dX12_wakes_26 : decode cX12_wakes 26 = .ok (.iadd, 1) := by decide +kernel
theorem dX12_wakes_27 : decode cX12_wakes 27 = .ok (.dup2, 1) := by decide +kernel
theorem dX12_wakes_28 : decode cX12_wakes 28 = .ok (.iaload, 1) := by decide +kernel
theorem dX12_wakes_29 : decode cX12_wakes 29 = .ok (.iconst 1, 1) := by decide +kernel
theorem dX12_wakes_30 : decode cX12_wakes 30 = .ok (.iadd, 1) := by decide +kernel
theorem dX12_wakes_31 : decode cX12_wakes 31 = .ok (.iastore, 1) := by decide +kernel
theorem dX12_wakes_32 : decode cX12_wakes 32 = .ok (.aload_n 1, 1) := by decide +kernel
theorem dX12_wakes_33 : decode cX12_wakes 33 = .ok (.bipush 6, 2) := by decide +kernel
theorem dX12_wakes_35 : decode cX12_wakes 35 = .ok (.iload_n 2, 1) := by decide +kernel
theorem dX12_wakes_36 : decode cX12_wakes 36 = .ok (.imul, 1) := by decide +kernel
theorem dX12_wakes_37 : decode cX12_wakes 37 = .ok (.iconst 5, 1) := by decide +kernel
theorem dX12_wakes_38 : decode cX12_wakes 38 = .ok (.iadd, 1) := by decide +kernel
theorem dX12_wakes_39 : decode cX12_wakes 39 = .ok (.dup2, 1) := by decide +kernel
theorem dX12_wakes_40 : decode cX12_wakes 40 = .ok (.iaload, 1) := by decide +kernel
theorem dX12_wakes_41 : decode cX12_wakes 41 = .ok (.iload 5, 2) := by decide +kernel
theorem dX12_wakes_43 : decode cX12_wakes 43 = .ok (.iadd, 1) := by decide +kernel
theorem dX12_wakes_44 : decode cX12_wakes 44 = .ok (.iastore, 1) := by decide +kernel
theorem dX12_wakes_45 : decode cX12_wakes 45 = .ok (.iload 5, 2) := by decide +kernel
theorem dX12_wakes_47 : decode cX12_wakes 47 = .ok (.ireturn, 1) := by decide +kernel
theorem dX12_paperAt_0 : decode cX12_paperAt 0 = .ok (.iconst 0, 1) := by decide +kernel
theorem dX12_paperAt_1 : decode cX12_paperAt 1 = .ok (.istore_n 3, 1) := by decide +kernel
theorem dX12_paperAt_2 : decode cX12_paperAt 2 = .ok (.iload_n 3, 1) := by decide +kernel
theorem dX12_paperAt_3 : decode cX12_paperAt 3 = .ok (.aload_n 0, 1) := by decide +kernel
theorem dX12_paperAt_4 : decode cX12_paperAt 4 = .ok (.getfield 297, 3) := by decide +kernel
theorem dX12_paperAt_7 : decode cX12_paperAt 7 = .ok (.if_icmp .ge 23, 3) := by decide +kernel
theorem dX12_paperAt_10 : decode cX12_paperAt 10 = .ok (.aload_n 1, 1) := by decide +kernel
theorem dX12_paperAt_11 : decode cX12_paperAt 11 = .ok (.bipush 6, 2) := by decide +kernel
theorem dX12_paperAt_13 : decode cX12_paperAt 13 = .ok (.iload_n 3, 1) := by decide +kernel
theorem dX12_paperAt_14 : decode cX12_paperAt 14 = .ok (.imul, 1) := by decide +kernel
theorem dX12_paperAt_15 : decode cX12_paperAt 15 = .ok (.iconst 1, 1) := by decide +kernel
theorem dX12_paperAt_16 : decode cX12_paperAt 16 = .ok (.iadd, 1) := by decide +kernel
theorem dX12_paperAt_17 : decode cX12_paperAt 17 = .ok (.iaload, 1) := by decide +kernel
theorem dX12_paperAt_18 : decode cX12_paperAt 18 = .ok (.iload_n 2, 1) := by decide +kernel
theorem dX12_paperAt_19 : decode cX12_paperAt 19 = .ok (.if_icmp .ne 5, 3) := by decide +kernel
theorem dX12_paperAt_22 : decode cX12_paperAt 22 = .ok (.iload_n 3, 1) := by decide +kernel
theorem dX12_paperAt_23 : decode cX12_paperAt 23 = .ok (.ireturn, 1) := by decide +kernel
theorem dX12_paperAt_24 : decode cX12_paperAt 24 = .ok (.iinc 3 1, 3) := by decide +kernel
theorem dX12_paperAt_27 : decode cX12_paperAt 27 = .ok (.goto (-25), 3) := by decide +kernel
theorem dX12_paperAt_30 : decode cX12_paperAt 30 = .ok (.iconst (-1), 1) := by decide +kernel
theorem dX12_paperAt_31 : decode cX12_paperAt 31 = .ok (.ireturn, 1) := by decide +kernel
theorem dX12_turnOf_0 : decode cX12_turnOf 0 = .ok (.aload_n 0, 1) := by decide +kernel
theorem dX12_turnOf_1 : decode cX12_turnOf 1 = .ok (.getfield 49, 3) := by decide +kernel
theorem dX12_turnOf_4 : decode cX12_turnOf 4 = .ok (.iconst 4, 1) := by decide +kernel
theorem dX12_turnOf_5 : decode cX12_turnOf 5 = .ok (.iload_n 3, 1) := by decide +kernel
theorem dX12_turnOf_6 : decode cX12_turnOf 6 = .ok (.imul, 1) := by decide +kernel
theorem dX12_turnOf_7 : decode cX12_turnOf 7 = .ok (.iconst 1, 1) := by decide +kernel
theorem dX12_turnOf_8 : decode cX12_turnOf 8 = .ok (.iadd, 1) := by decide +kernel
theorem dX12_turnOf_9 : decode cX12_turnOf 9 = .ok (.iaload, 1) := by decide +kernel
theorem dX12_turnOf_10 : decode cX12_turnOf 10 = .ok (.ifCond .ne 13, 3) := by decide +kernel
theorem dX12_turnOf_13 : decode cX12_turnOf 13 = .ok (.aload_n 0, 1) := by decide +kernel
theorem dX12_turnOf_14 : decode cX12_turnOf 14 = .ok (.getfield 43, 3) := by decide +kernel
theorem dX12_turnOf_17 : decode cX12_turnOf 17 = .ok (.bipush 6, 2) := by decide +kernel
theorem dX12_turnOf_19 : decode cX12_turnOf 19 = .ok (.iload_n 2, 1) := by decide +kernel
theorem dX12_turnOf_20 : decode cX12_turnOf 20 = .ok (.imul, 1) := by decide +kernel
theorem dX12_turnOf_21 : decode cX12_turnOf 21 = .ok (.iaload, 1) := by decide +kernel
theorem dX12_turnOf_22 : decode cX12_turnOf 22 = .ok (.ireturn, 1) := by decide +kernel
theorem dX12_turnOf_23 : decode cX12_turnOf 23 = .ok (.aload_n 0, 1) := by decide +kernel
theorem dX12_turnOf_24 : decode cX12_turnOf 24 = .ok (.getfield 43, 3) := by decide +kernel
theorem dX12_turnOf_27 : decode cX12_turnOf 27 = .ok (.bipush 6, 2) := by decide +kernel
theorem dX12_turnOf_29 : decode cX12_turnOf 29 = .ok (.iload_n 2, 1) := by decide +kernel
theorem dX12_turnOf_30 : decode cX12_turnOf 30 = .ok (.imul, 1) := by decide +kernel
theorem dX12_turnOf_31 : decode cX12_turnOf 31 = .ok (.iaload, 1) := by decide +kernel
theorem dX12_turnOf_32 : decode cX12_turnOf 32 = .ok (.aload_n 0, 1) := by decide +kernel
theorem dX12_turnOf_33 : decode cX12_turnOf 33 = .ok (.getfield 49, 3) := by decide +kernel
theorem dX12_turnOf_36 : decode cX12_turnOf 36 = .ok (.iconst 4, 1) := by decide +kernel
theorem dX12_turnOf_37 : decode cX12_turnOf 37 = .ok (.iload_n 3, 1) := by decide +kernel
theorem dX12_turnOf_38 : decode cX12_turnOf 38 = .ok (.imul, 1) := by decide +kernel
theorem dX12_turnOf_39 : decode cX12_turnOf 39 = .ok (.iconst 2, 1) := by decide +kernel
theorem dX12_turnOf_40 : decode cX12_turnOf 40 = .ok (.iadd, 1) := by decide +kernel
theorem dX12_turnOf_41 : decode cX12_turnOf 41 = .ok (.iaload, 1) := by decide +kernel
theorem dX12_turnOf_42 : decode cX12_turnOf 42 = .ok (.iadd, 1) := by decide +kernel
theorem dX12_turnOf_43 : decode cX12_turnOf 43 = .ok (.aload_n 1, 1) := by decide +kernel
theorem dX12_turnOf_44 : decode cX12_turnOf 44 = .ok (.bipush 6, 2) := by decide +kernel
theorem dX12_turnOf_46 : decode cX12_turnOf 46 = .ok (.iload_n 2, 1) := by decide +kernel
theorem dX12_turnOf_47 : decode cX12_turnOf 47 = .ok (.imul, 1) := by decide +kernel
theorem dX12_turnOf_48 : decode cX12_turnOf 48 = .ok (.iconst 3, 1) := by decide +kernel
theorem dX12_turnOf_49 : decode cX12_turnOf 49 = .ok (.iadd, 1) := by decide +kernel
theorem dX12_turnOf_50 : decode cX12_turnOf 50 = .ok (.iaload, 1) := by decide +kernel
theorem dX12_turnOf_51 : decode cX12_turnOf 51 = .ok (.iconst 1, 1) := by decide +kernel
theorem dX12_turnOf_52 : decode cX12_turnOf 52 = .ok (.if_icmp .ne 12, 3) := by decide +kernel
theorem dX12_turnOf_55 : decode cX12_turnOf 55 = .ok (.aload_n 0, 1) := by decide +kernel
theorem dX12_turnOf_56 : decode cX12_turnOf 56 = .ok (.getfield 37, 3) := by decide +kernel
theorem dX12_turnOf_59 : decode cX12_turnOf 59 = .ok (.iconst 3, 1) := by decide +kernel
theorem dX12_turnOf_60 : decode cX12_turnOf 60 = .ok (.iaload, 1) := by decide +kernel
theorem dX12_turnOf_61 : decode cX12_turnOf 61 = .ok (.goto 4, 3) := by decide +kernel
theorem dX12_turnOf_64 : decode cX12_turnOf 64 = .ok (.iconst 0, 1) := by decide +kernel
theorem dX12_turnOf_65 : decode cX12_turnOf 65 = .ok (.iadd, 1) := by decide +kernel
theorem dX12_turnOf_66 : decode cX12_turnOf 66 = .ok (.ireturn, 1) := by decide +kernel
theorem dX12_waitOf_0 : decode cX12_waitOf 0 = .ok (.bipush 6, 2) := by decide +kernel
theorem dX12_waitOf_2 : decode cX12_waitOf 2 = .ok (.aload_n 0, 1) := by decide +kernel
theorem dX12_waitOf_3 : decode cX12_waitOf 3 = .ok (.getfield 43, 3) := by decide +kernel
theorem dX12_waitOf_6 : decode cX12_waitOf 6 = .ok (.bipush 6, 2) := by decide +kernel
theorem dX12_waitOf_8 : decode cX12_waitOf 8 = .ok (.iload_n 2, 1) := by decide +kernel
theorem dX12_waitOf_9 : decode cX12_waitOf 9 = .ok (.imul, 1) := by decide +kernel
theorem dX12_waitOf_10 : decode cX12_waitOf 10 = .ok (.iconst 1, 1) := by decide +kernel
theorem dX12_waitOf_11 : decode cX12_waitOf 11 = .ok (.iadd, 1) := by decide +kernel
theorem dX12_waitOf_12 : decode cX12_waitOf 12 = .ok (.iaload, 1) := by decide +kernel
theorem dX12_waitOf_13 : decode cX12_waitOf 13 = .ok (.imul, 1) := by decide +kernel
theorem dX12_waitOf_14 : decode cX12_waitOf 14 = .ok (.istore 5, 2) := by decide +kernel
theorem dX12_waitOf_16 : decode cX12_waitOf 16 = .ok (.aload_n 1, 1) := by decide +kernel
theorem dX12_waitOf_17 : decode cX12_waitOf 17 = .ok (.bipush 6, 2) := by decide +kernel
theorem dX12_waitOf_19 : decode cX12_waitOf 19 = .ok (.iload_n 2, 1) := by decide +kernel
theorem dX12_waitOf_20 : decode cX12_waitOf 20 = .ok (.imul, 1) := by decide +kernel
theorem dX12_waitOf_21 : decode cX12_waitOf 21 = .ok (.iconst 2, 1) := by decide +kernel
theorem dX12_waitOf_22 : decode cX12_waitOf 22 = .ok (.iadd, 1) := by decide +kernel
theorem dX12_waitOf_23 : decode cX12_waitOf 23 = .ok (.iaload, 1) := by decide +kernel
theorem dX12_waitOf_24 : decode cX12_waitOf 24 = .ok (.istore 6, 2) := by decide +kernel
theorem dX12_waitOf_26 : decode cX12_waitOf 26 = .ok (.iload 6, 2) := by decide +kernel
theorem dX12_waitOf_28 : decode cX12_waitOf 28 = .ok (.iconst 1, 1) := by decide +kernel
theorem dX12_waitOf_29 : decode cX12_waitOf 29 = .ok (.if_icmp .ne 28, 3) := by decide +kernel
theorem dX12_waitOf_32 : decode cX12_waitOf 32 = .ok (.aload_n 0, 1) := by decide +kernel
theorem dX12_waitOf_33 : decode cX12_waitOf 33 = .ok (.getfield 49, 3) := by decide +kernel
theorem dX12_waitOf_36 : decode cX12_waitOf 36 = .ok (.iconst 4, 1) := by decide +kernel
theorem dX12_waitOf_37 : decode cX12_waitOf 37 = .ok (.iload_n 3, 1) := by decide +kernel
theorem dX12_waitOf_38 : decode cX12_waitOf 38 = .ok (.imul, 1) := by decide +kernel
theorem dX12_waitOf_39 : decode cX12_waitOf 39 = .ok (.iconst 1, 1) := by decide +kernel
theorem dX12_waitOf_40 : decode cX12_waitOf 40 = .ok (.iadd, 1) := by decide +kernel
theorem dX12_waitOf_41 : decode cX12_waitOf 41 = .ok (.iaload, 1) := by decide +kernel
theorem dX12_waitOf_42 : decode cX12_waitOf 42 = .ok (.ifCond .ne 10, 3) := by decide +kernel
theorem dX12_waitOf_45 : decode cX12_waitOf 45 = .ok (.iload 5, 2) := by decide +kernel
theorem dX12_waitOf_47 : decode cX12_waitOf 47 = .ok (.iconst 2, 1) := by decide +kernel
theorem dX12_waitOf_48 : decode cX12_waitOf 48 = .ok (.idiv, 1) := by decide +kernel
theorem dX12_waitOf_49 : decode cX12_waitOf 49 = .ok (.goto 7, 3) := by decide +kernel
theorem dX12_waitOf_52 : decode cX12_waitOf 52 = .ok (.iconst 2, 1) := by decide +kernel
theorem dX12_waitOf_53 : decode cX12_waitOf 53 = .ok (.iload 5, 2) := by decide +kernel
theorem dX12_waitOf_55 : decode cX12_waitOf 55 = .ok (.imul, 1) := by decide +kernel
theorem dX12_waitOf_56 : decode cX12_waitOf 56 = .ok (.ireturn, 1) := by decide +kernel
theorem dX12_waitOf_57 : decode cX12_waitOf 57 = .ok (.iload 6, 2) := by decide +kernel
theorem dX12_waitOf_59 : decode cX12_waitOf 59 = .ok (.iconst 2, 1) := by decide +kernel
theorem dX12_waitOf_60 : decode cX12_waitOf 60 = .ok (.if_icmp .ne 31, 3) := by decide +kernel
theorem dX12_waitOf_63 : decode cX12_waitOf 63 = .ok (.iload 4, 2) := by decide +kernel
theorem dX12_waitOf_65 : decode cX12_waitOf 65 = .ok (.ifCond .eq 26, 3) := by decide +kernel
theorem dX12_waitOf_68 : decode cX12_waitOf 68 = .ok (.iconst 0, 1) := by decide +kernel
theorem dX12_waitOf_69 : decode cX12_waitOf 69 = .ok (.iload 5, 2) := by decide +kernel
theorem dX12_waitOf_71 : decode cX12_waitOf 71 = .ok (.bipush 6, 2) := by decide +kernel
theorem dX12_waitOf_73 : decode cX12_waitOf 73 = .ok (.aload_n 0, 1) := by decide +kernel
theorem dX12_waitOf_74 : decode cX12_waitOf 74 = .ok (.getfield 49, 3) := by decide +kernel
theorem dX12_waitOf_77 : decode cX12_waitOf 77 = .ok (.iconst 4, 1) := by decide +kernel
theorem dX12_waitOf_78 : decode cX12_waitOf 78 = .ok (.iload_n 3, 1) := by decide +kernel
theorem dX12_waitOf_79 : decode cX12_waitOf 79 = .ok (.imul, 1) := by decide +kernel
theorem dX12_waitOf_80 : decode cX12_waitOf 80 = .ok (.iconst 3, 1) := by decide +kernel
theorem dX12_waitOf_81 : decode cX12_waitOf 81 = .ok (.iadd, 1) := by decide +kernel
theorem dX12_waitOf_82 : decode cX12_waitOf 82 = .ok (.iaload, 1) := by decide +kernel
theorem dX12_waitOf_83 : decode cX12_waitOf 83 = .ok (.imul, 1) := by decide +kernel
theorem dX12_waitOf_84 : decode cX12_waitOf 84 = .ok (.isub, 1) := by decide +kernel
theorem dX12_waitOf_85 : decode cX12_waitOf 85 = .ok (.invokestatic 327, 3) := by decide +kernel
theorem dX12_waitOf_88 : decode cX12_waitOf 88 = .ok (.goto 5, 3) := by decide +kernel
theorem dX12_waitOf_91 : decode cX12_waitOf 91 = .ok (.iload 5, 2) := by decide +kernel
theorem dX12_waitOf_93 : decode cX12_waitOf 93 = .ok (.ireturn, 1) := by decide +kernel
theorem dX12_goBorder_0 : decode cX12_goBorder 0 = .ok (.iconst 0, 1) := by decide +kernel
theorem dX12_goBorder_1 : decode cX12_goBorder 1 = .ok (.istore_n 3, 1) := by decide +kernel
theorem dX12_goBorder_2 : decode cX12_goBorder 2 = .ok (.aload_n 0, 1) := by decide +kernel
theorem dX12_goBorder_3 : decode cX12_goBorder 3 = .ok (.iconst 0, 1) := by decide +kernel
theorem dX12_goBorder_4 : decode cX12_goBorder 4 = .ok (.putfield 333, 3) := by decide +kernel
theorem dX12_goBorder_7 : decode cX12_goBorder 7 = .ok (.aload_n 0, 1) := by decide +kernel
theorem dX12_goBorder_8 : decode cX12_goBorder 8 = .ok (.iconst 0, 1) := by decide +kernel
theorem dX12_goBorder_9 : decode cX12_goBorder 9 = .ok (.putfield 336, 3) := by decide +kernel
theorem dX12_goBorder_12 : decode cX12_goBorder 12 = .ok (.aload_n 0, 1) := by decide +kernel
theorem dX12_goBorder_13 : decode cX12_goBorder 13 = .ok (.iconst (-1), 1) := by decide +kernel
theorem dX12_goBorder_14 : decode cX12_goBorder 14 = .ok (.putfield 339, 3) := by decide +kernel
theorem dX12_goBorder_17 : decode cX12_goBorder 17 = .ok (.aload_n 0, 1) := by decide +kernel
theorem dX12_goBorder_18 : decode cX12_goBorder 18 = .ok (.iconst 0, 1) := by decide +kernel
theorem dX12_goBorder_19 : decode cX12_goBorder 19 = .ok (.putfield 342, 3) := by decide +kernel
theorem dX12_goBorder_22 : decode cX12_goBorder 22 = .ok (.iconst 0, 1) := by decide +kernel
theorem dX12_goBorder_23 : decode cX12_goBorder 23 = .ok (.istore 4, 2) := by decide +kernel
theorem dX12_goBorder_25 : decode cX12_goBorder 25 = .ok (.iload 4, 2) := by decide +kernel
theorem dX12_goBorder_27 : decode cX12_goBorder 27 = .ok (.aload_n 0, 1) := by decide +kernel
theorem dX12_goBorder_28 : decode cX12_goBorder 28 = .ok (.getfield 303, 3) := by decide +kernel
theorem dX12_goBorder_31 : decode cX12_goBorder 31 = .ok (.if_icmp .ge 193, 3) := by decide +kernel
theorem dX12_goBorder_34 : decode cX12_goBorder 34 = .ok (.aload_n 0, 1) := by decide +kernel
theorem dX12_goBorder_35 : decode cX12_goBorder 35 = .ok (.aload_n 1, 1) := by decide +kernel
theorem dX12_goBorder_36 : decode cX12_goBorder 36 = .ok (.iload 4, 2) := by decide +kernel
theorem dX12_goBorder_38 : decode cX12_goBorder 38 = .ok (.invokevirtual 345, 3) := by decide +kernel
theorem dX12_goBorder_41 : decode cX12_goBorder 41 = .ok (.istore 5, 2) := by decide +kernel
theorem dX12_goBorder_43 : decode cX12_goBorder 43 = .ok (.aload_n 0, 1) := by decide +kernel
theorem dX12_goBorder_44 : decode cX12_goBorder 44 = .ok (.aload_n 1, 1) := by decide +kernel
theorem dX12_goBorder_45 : decode cX12_goBorder 45 = .ok (.iload 5, 2) := by decide +kernel
theorem dX12_goBorder_47 : decode cX12_goBorder 47 = .ok (.iload_n 2, 1) := by decide +kernel
theorem dX12_goBorder_48 : decode cX12_goBorder 48 = .ok (.invokevirtual 348, 3) := by decide +kernel
theorem dX12_goBorder_51 : decode cX12_goBorder 51 = .ok (.istore 6, 2) := by decide +kernel
theorem dX12_goBorder_53 : decode cX12_goBorder 53 = .ok (.aload_n 0, 1) := by decide +kernel
theorem dX12_goBorder_54 : decode cX12_goBorder 54 = .ok (.getfield 49, 3) := by decide +kernel
theorem dX12_goBorder_57 : decode cX12_goBorder 57 = .ok (.iconst 4, 1) := by decide +kernel
theorem dX12_goBorder_58 : decode cX12_goBorder 58 = .ok (.iload_n 2, 1) := by decide +kernel
theorem dX12_goBorder_59 : decode cX12_goBorder 59 = .ok (.imul, 1) := by decide +kernel
theorem dX12_goBorder_60 : decode cX12_goBorder 60 = .ok (.iconst 1, 1) := by decide +kernel
theorem dX12_goBorder_61 : decode cX12_goBorder 61 = .ok (.iadd, 1) := by decide +kernel
theorem dX12_goBorder_62 : decode cX12_goBorder 62 = .ok (.iaload, 1) := by decide +kernel
theorem dX12_goBorder_63 : decode cX12_goBorder 63 = .ok (.iconst 1, 1) := by decide +kernel
theorem dX12_goBorder_64 : decode cX12_goBorder 64 = .ok (.if_icmp .ne 34, 3) := by decide +kernel
theorem dX12_goBorder_67 : decode cX12_goBorder 67 = .ok (.aload_n 1, 1) := by decide +kernel
theorem dX12_goBorder_68 : decode cX12_goBorder 68 = .ok (.bipush 6, 2) := by decide +kernel
theorem dX12_goBorder_70 : decode cX12_goBorder 70 = .ok (.iload 5, 2) := by decide +kernel
theorem dX12_goBorder_72 : decode cX12_goBorder 72 = .ok (.imul, 1) := by decide +kernel
theorem dX12_goBorder_73 : decode cX12_goBorder 73 = .ok (.iconst 3, 1) := by decide +kernel
theorem dX12_goBorder_74 : decode cX12_goBorder 74 = .ok (.iadd, 1) := by decide +kernel
theorem dX12_goBorder_75 : decode cX12_goBorder 75 = .ok (.iaload, 1) := by decide +kernel
theorem dX12_goBorder_76 : decode cX12_goBorder 76 = .ok (.iconst 1, 1) := by decide +kernel
theorem dX12_goBorder_77 : decode cX12_goBorder 77 = .ok (.if_icmp .ne 21, 3) := by decide +kernel
theorem dX12_goBorder_80 : decode cX12_goBorder 80 = .ok (.aload_n 0, 1) := by decide +kernel
theorem dX12_goBorder_81 : decode cX12_goBorder 81 = .ok (.dup, 1) := by decide +kernel
theorem dX12_goBorder_82 : decode cX12_goBorder 82 = .ok (.getfield 336, 3) := by decide +kernel
theorem dX12_goBorder_85 : decode cX12_goBorder 85 = .ok (.aload_n 0, 1) := by decide +kernel
theorem dX12_goBorder_86 : decode cX12_goBorder 86 = .ok (.aload_n 1, 1) := by decide +kernel
theorem dX12_goBorder_87 : decode cX12_goBorder 87 = .ok (.iload 5, 2) := by decide +kernel
theorem dX12_goBorder_89 : decode cX12_goBorder 89 = .ok (.iload_n 3, 1) := by decide +kernel
theorem dX12_goBorder_90 : decode cX12_goBorder 90 = .ok (.iload_n 2, 1) := by decide +kernel
theorem dX12_goBorder_91 : decode cX12_goBorder 91 = .ok (.invokevirtual 352, 3) := by decide +kernel
theorem dX12_goBorder_94 : decode cX12_goBorder 94 = .ok (.iadd, 1) := by decide +kernel
theorem dX12_goBorder_95 : decode cX12_goBorder 95 = .ok (.putfield 336, 3) := by decide +kernel
theorem dX12_goBorder_98 : decode cX12_goBorder 98 = .ok (.iload_n 3, 1) := by decide +kernel
theorem dX12_goBorder_99 : decode cX12_goBorder 99 = .ok (.iload 6, 2) := by decide +kernel
theorem dX12_goBorder_101 : decode cX12_goBorder 101 = .ok (.iadd, 1) := by decide +kernel
theorem dX12_goBorder_102 : decode cX12_goBorder 102 = .ok (.istore_n 3, 1) := by decide +kernel
theorem dX12_goBorder_103 : decode cX12_goBorder 103 = .ok (.aload_n 0, 1) := by decide +kernel
theorem dX12_goBorder_104 : decode cX12_goBorder 104 = .ok (.getfield 43, 3) := by decide +kernel
theorem dX12_goBorder_107 : decode cX12_goBorder 107 = .ok (.bipush 6, 2) := by decide +kernel
theorem dX12_goBorder_109 : decode cX12_goBorder 109 = .ok (.iload 5, 2) := by decide +kernel
theorem dX12_goBorder_111 : decode cX12_goBorder 111 = .ok (.imul, 1) := by decide +kernel
theorem dX12_goBorder_112 : decode cX12_goBorder 112 = .ok (.iconst 1, 1) := by decide +kernel
theorem dX12_goBorder_113 : decode cX12_goBorder 113 = .ok (.iadd, 1) := by decide +kernel
theorem dX12_goBorder_114 : decode cX12_goBorder 114 = .ok (.iaload, 1) := by decide +kernel
theorem dX12_goBorder_115 : decode cX12_goBorder 115 = .ok (.ifCond .ne 6, 3) := by decide +kernel
theorem dX12_goBorder_118 : decode cX12_goBorder 118 = .ok (.goto 100, 3) := by decide +kernel
theorem dX12_goBorder_121 : decode cX12_goBorder 121 = .ok (.iload_n 3, 1) := by decide +kernel
theorem dX12_goBorder_122 : decode cX12_goBorder 122 = .ok (.aload_n 0, 1) := by decide +kernel
theorem dX12_goBorder_123 : decode cX12_goBorder 123 = .ok (.aload_n 1, 1) := by decide +kernel
theorem dX12_goBorder_124 : decode cX12_goBorder 124 = .ok (.iload 5, 2) := by decide +kernel
theorem dX12_goBorder_126 : decode cX12_goBorder 126 = .ok (.iload_n 2, 1) := by decide +kernel
theorem dX12_goBorder_127 : decode cX12_goBorder 127 = .ok (.aload_n 1, 1) := by decide +kernel
theorem dX12_goBorder_128 : decode cX12_goBorder 128 = .ok (.bipush 54, 2) := by decide +kernel
theorem dX12_goBorder_130 : decode cX12_goBorder 130 = .ok (.iaload, 1) := by decide +kernel
theorem dX12_goBorder_131 : decode cX12_goBorder 131 = .ok (.ifCond .le 7, 3) := by decide +kernel
theorem dX12_goBorder_134 : decode cX12_goBorder 134 = .ok (.iconst 1, 1) := by decide +kernel
theorem dX12_goBorder_135 : decode cX12_goBorder 135 = .ok (.goto 4, 3) := by decide +kernel
theorem dX12_goBorder_138 : decode cX12_goBorder 138 = .ok (.iconst 0, 1) := by decide +kernel
theorem dX12_goBorder_139 : decode cX12_goBorder 139 = .ok (.invokevirtual 355, 3) := by decide +kernel
theorem dX12_goBorder_142 : decode cX12_goBorder 142 = .ok (.iadd, 1) := by decide +kernel
theorem dX12_goBorder_143 : decode cX12_goBorder 143 = .ok (.istore 7, 2) := by decide +kernel
theorem dX12_goBorder_145 : decode cX12_goBorder 145 = .ok (.aload_n 1, 1) := by decide +kernel
theorem dX12_goBorder_146 : decode cX12_goBorder 146 = .ok (.bipush 6, 2) := by decide +kernel
theorem dX12_goBorder_148 : decode cX12_goBorder 148 = .ok (.iload 5, 2) := by decide +kernel
theorem dX12_goBorder_150 : decode cX12_goBorder 150 = .ok (.imul, 1) := by decide +kernel
theorem dX12_goBorder_151 : decode cX12_goBorder 151 = .ok (.iconst 2, 1) := by decide +kernel
theorem dX12_goBorder_152 : decode cX12_goBorder 152 = .ok (.iadd, 1) := by decide +kernel
theorem dX12_goBorder_153 : decode cX12_goBorder 153 = .ok (.iaload, 1) := by decide +kernel
theorem dX12_goBorder_154 : decode cX12_goBorder 154 = .ok (.iconst 2, 1) := by decide +kernel
theorem dX12_goBorder_155 : decode cX12_goBorder 155 = .ok (.if_icmp .ne 18, 3) := by decide +kernel
theorem dX12_goBorder_158 : decode cX12_goBorder 158 = .ok (.aload_n 1, 1) := by decide +kernel
theorem dX12_goBorder_159 : decode cX12_goBorder 159 = .ok (.bipush 54, 2) := by decide +kernel
theorem dX12_goBorder_161 : decode cX12_goBorder 161 = .ok (.iaload, 1) := by decide +kernel
theorem dX12_goBorder_162 : decode cX12_goBorder 162 = .ok (.ifCond .le 11, 3) := by decide +kernel
theorem dX12_goBorder_165 : decode cX12_goBorder 165 = .ok (.aload_n 1, 1) := by decide +kernel
theorem dX12_goBorder_166 : decode cX12_goBorder 166 = .ok (.bipush 54, 2) := by decide +kernel
theorem dX12_goBorder_168 : decode cX12_goBorder 168 = .ok (.dup2, 1) := by decide +kernel
theorem dX12_goBorder_169 : decode cX12_goBorder 169 = .ok (.iaload, 1) := by decide +kernel
theorem dX12_goBorder_170 : decode cX12_goBorder 170 = .ok (.iconst 1, 1) := by decide +kernel
theorem dX12_goBorder_171 : decode cX12_goBorder 171 = .ok (.isub, 1) := by decide +kernel
theorem dX12_goBorder_172 : decode cX12_goBorder 172 = .ok (.iastore, 1) := by decide +kernel
theorem dX12_goBorder_173 : decode cX12_goBorder 173 = .ok (.aload_n 0, 1) := by decide +kernel
theorem dX12_goBorder_174 : decode cX12_goBorder 174 = .ok (.aload_n 0, 1) := by decide +kernel
theorem dX12_goBorder_175 : decode cX12_goBorder 175 = .ok (.getfield 333, 3) := by decide +kernel
theorem dX12_goBorder_178 : decode cX12_goBorder 178 = .ok (.iload 7, 2) := by decide +kernel
theorem dX12_goBorder_180 : decode cX12_goBorder 180 = .ok (.invokestatic 327, 3) := by decide +kernel
theorem dX12_goBorder_183 : decode cX12_goBorder 183 = .ok (.putfield 333, 3) := by decide +kernel
theorem dX12_goBorder_186 : decode cX12_goBorder 186 = .ok (.aload_n 0, 1) := by decide +kernel
theorem dX12_goBorder_187 : decode cX12_goBorder 187 = .ok (.getfield 339, 3) := by decide +kernel
theorem dX12_goBorder_190 : decode cX12_goBorder 190 = .ok (.iconst (-1), 1) := by decide +kernel
theorem dX12_goBorder_191 : decode cX12_goBorder 191 = .ok (.if_icmp .eq 15, 3) := by decide +kernel
theorem dX12_goBorder_194 : decode cX12_goBorder 194 = .ok (.iload 7, 2) := by decide +kernel
theorem dX12_goBorder_196 : decode cX12_goBorder 196 = .ok (.aload_n 0, 1) := by decide +kernel
theorem dX12_goBorder_197 : decode cX12_goBorder 197 = .ok (.getfield 342, 3) := by decide +kernel
theorem dX12_goBorder_200 : decode cX12_goBorder 200 = .ok (.if_icmp .gt 6, 3) := by decide +kernel
theorem dX12_goBorder_203 : decode cX12_goBorder 203 = .ok (.goto 15, 3) := by decide +kernel
theorem dX12_goBorder_206 : decode cX12_goBorder 206 = .ok (.aload_n 0, 1) := by decide +kernel
theorem dX12_goBorder_207 : decode cX12_goBorder 207 = .ok (.iload 5, 2) := by decide +kernel
theorem dX12_goBorder_209 : decode cX12_goBorder 209 = .ok (.putfield 339, 3) := by decide +kernel
theorem dX12_goBorder_212 : decode cX12_goBorder 212 = .ok (.aload_n 0, 1) := by decide +kernel
theorem dX12_goBorder_213 : decode cX12_goBorder 213 = .ok (.iload 7, 2) := by decide +kernel
theorem dX12_goBorder_215 : decode cX12_goBorder 215 = .ok (.putfield 342, 3) := by decide +kernel
theorem dX12_goBorder_218 : decode cX12_goBorder 218 = .ok (.iinc 4 1, 3) := by decide +kernel
theorem dX12_goBorder_221 : decode cX12_goBorder 221 = .ok (.goto (-196), 3) := by decide +kernel
theorem dX12_goBorder_224 : decode cX12_goBorder 224 = .ok (.aload_n 0, 1) := by decide +kernel
theorem dX12_goBorder_225 : decode cX12_goBorder 225 = .ok (.aload_n 0, 1) := by decide +kernel
theorem dX12_goBorder_226 : decode cX12_goBorder 226 = .ok (.getfield 333, 3) := by decide +kernel
theorem dX12_goBorder_229 : decode cX12_goBorder 229 = .ok (.iload_n 3, 1) := by decide +kernel
theorem dX12_goBorder_230 : decode cX12_goBorder 230 = .ok (.invokestatic 327, 3) := by decide +kernel
theorem dX12_goBorder_233 : decode cX12_goBorder 233 = .ok (.putfield 333, 3) := by decide +kernel
theorem dX12_goBorder_236 : decode cX12_goBorder 236 = .ok (.return_, 1) := by decide +kernel
theorem dX12_tryBorder_0 : decode cX12_tryBorder 0 = .ok (.aload_n 0, 1) := by decide +kernel
theorem dX12_tryBorder_1 : decode cX12_tryBorder 1 = .ok (.getfield 61, 3) := by decide +kernel
theorem dX12_tryBorder_4 : decode cX12_tryBorder 4 = .ok (.aload_n 0, 1) := by decide +kernel
theorem dX12_tryBorder_5 : decode cX12_tryBorder 5 = .ok (.getfield 64, 3) := by decide +kernel
theorem dX12_tryBorder_8 : decode cX12_tryBorder 8 = .ok (.invokestatic 359, 3) := by decide +kernel
theorem dX12_tryBorder_11 : decode cX12_tryBorder 11 = .ok (.aload_n 0, 1) := by decide +kernel
theorem dX12_tryBorder_12 : decode cX12_tryBorder 12 = .ok (.aload_n 0, 1) := by decide +kernel
theorem dX12_tryBorder_13 : decode cX12_tryBorder 13 = .ok (.getfield 64, 3) := by decide +kernel
theorem dX12_tryBorder_16 : decode cX12_tryBorder 16 = .ok (.iload_n 1, 1) := by decide +kernel
theorem dX12_tryBorder_17 : decode cX12_tryBorder 17 = .ok (.invokevirtual 363, 3) := by decide +kernel
theorem dX12_tryBorder_20 : decode cX12_tryBorder 20 = .ok (.return_, 1) := by decide +kernel
theorem dX12_isLate_0 : decode cX12_isLate 0 = .ok (.iload_n 1, 1) := by decide +kernel
theorem dX12_isLate_1 : decode cX12_isLate 1 = .ok (.bipush 6, 2) := by decide +kernel
theorem dX12_isLate_3 : decode cX12_isLate 3 = .ok (.aload_n 0, 1) := by decide +kernel
theorem dX12_isLate_4 : decode cX12_isLate 4 = .ok (.getfield 37, 3) := by decide +kernel
theorem dX12_isLate_7 : decode cX12_isLate 7 = .ok (.iconst 0, 1) := by decide +kernel
theorem dX12_isLate_8 : decode cX12_isLate 8 = .ok (.iaload, 1) := by decide +kernel
theorem dX12_isLate_9 : decode cX12_isLate 9 = .ok (.imul, 1) := by decide +kernel
theorem dX12_isLate_10 : decode cX12_isLate 10 = .ok (.if_icmp .le 7, 3) := by decide +kernel
theorem dX12_isLate_13 : decode cX12_isLate 13 = .ok (.iconst 1, 1) := by decide +kernel
theorem dX12_isLate_14 : decode cX12_isLate 14 = .ok (.goto 4, 3) := by decide +kernel
theorem dX12_isLate_17 : decode cX12_isLate 17 = .ok (.iconst 0, 1) := by decide +kernel
theorem dX12_isLate_18 : decode cX12_isLate 18 = .ok (.ireturn, 1) := by decide +kernel
theorem dX12_rule_0 : decode cX12_rule 0 = .ok (.aload_n 0, 1) := by decide +kernel
theorem dX12_rule_1 : decode cX12_rule 1 = .ok (.iconst 0, 1) := by decide +kernel
theorem dX12_rule_2 : decode cX12_rule 2 = .ok (.putfield 99, 3) := by decide +kernel
theorem dX12_rule_5 : decode cX12_rule 5 = .ok (.aload_n 0, 1) := by decide +kernel
theorem dX12_rule_6 : decode cX12_rule 6 = .ok (.getfield 297, 3) := by decide +kernel
theorem dX12_rule_9 : decode cX12_rule 9 = .ok (.ifCond .le 39, 3) := by decide +kernel
theorem dX12_rule_12 : decode cX12_rule 12 = .ok (.iload_n 1, 1) := by decide +kernel
theorem dX12_rule_13 : decode cX12_rule 13 = .ok (.i2l, 1) := by decide +kernel
theorem dX12_rule_14 : decode cX12_rule 14 = .ok (.lconst 0, 1) := by decide +kernel
theorem dX12_rule_15 : decode cX12_rule 15 = .ok (.ldc2_w 367, 3) := by decide +kernel
theorem dX12_rule_18 : decode cX12_rule 18 = .ok (.invokestatic 220, 3) := by decide +kernel
theorem dX12_rule_21 : decode cX12_rule 21 = .ok (.ifCond .eq 27, 3) := by decide +kernel
theorem dX12_rule_24 : decode cX12_rule 24 = .ok (.iload_n 1, 1) := by decide +kernel
theorem dX12_rule_25 : decode cX12_rule 25 = .ok (.iconst 2, 1) := by decide +kernel
theorem dX12_rule_26 : decode cX12_rule 26 = .ok (.if_icmp .ne 13, 3) := by decide +kernel
theorem dX12_rule_29 : decode cX12_rule 29 = .ok (.aload_n 0, 1) := by decide +kernel
theorem dX12_rule_30 : decode cX12_rule 30 = .ok (.getfield 61, 3) := by decide +kernel
theorem dX12_rule_33 : decode cX12_rule 33 = .ok (.bipush 54, 2) := by decide +kernel
theorem dX12_rule_35 : decode cX12_rule 35 = .ok (.iaload, 1) := by decide +kernel
theorem dX12_rule_36 : decode cX12_rule 36 = .ok (.goto 13, 3) := by decide +kernel
theorem dX12_rule_39 : decode cX12_rule 39 = .ok (.aload_n 0, 1) := by decide +kernel
theorem dX12_rule_40 : decode cX12_rule 40 = .ok (.getfield 37, 3) := by decide +kernel
theorem dX12_rule_43 : decode cX12_rule 43 = .ok (.iload_n 1, 1) := by decide +kernel
theorem dX12_rule_44 : decode cX12_rule 44 = .ok (.iaload, 1) := by decide +kernel
theorem dX12_rule_45 : decode cX12_rule 45 = .ok (.goto 4, 3) := by decide +kernel
theorem dX12_rule_48 : decode cX12_rule 48 = .ok (.iconst (-1), 1) := by decide +kernel
theorem dX12_rule_49 : decode cX12_rule 49 = .ok (.ireturn, 1) := by decide +kernel
theorem dX12_sleeper_0 : decode cX12_sleeper 0 = .ok (.aload_n 0, 1) := by decide +kernel
theorem dX12_sleeper_1 : decode cX12_sleeper 1 = .ok (.aload_n 0, 1) := by decide +kernel
theorem dX12_sleeper_2 : decode cX12_sleeper 2 = .ok (.iload_n 1, 1) := by decide +kernel
theorem dX12_sleeper_3 : decode cX12_sleeper 3 = .ok (.invokevirtual 369, 3) := by decide +kernel
theorem dX12_sleeper_6 : decode cX12_sleeper 6 = .ok (.ifCond .eq 19, 3) := by decide +kernel
theorem dX12_sleeper_9 : decode cX12_sleeper 9 = .ok (.iload_n 2, 1) := by decide +kernel
theorem dX12_sleeper_10 : decode cX12_sleeper 10 = .ok (.i2l, 1) := by decide +kernel
theorem dX12_sleeper_11 : decode cX12_sleeper 11 = .ok (.lconst 0, 1) := by decide +kernel
theorem dX12_sleeper_12 : decode cX12_sleeper 12 = .ok (.ldc2_w 372, 3) := by decide +kernel
theorem dX12_sleeper_15 : decode cX12_sleeper 15 = .ok (.invokestatic 220, 3) := by decide +kernel
theorem dX12_sleeper_18 : decode cX12_sleeper 18 = .ok (.ifCond .eq 7, 3) := by decide +kernel
theorem dX12_sleeper_21 : decode cX12_sleeper 21 = .ok (.iconst 0, 1) := by decide +kernel
theorem dX12_sleeper_22 : decode cX12_sleeper 22 = .ok (.goto 4, 3) := by decide +kernel
theorem dX12_sleeper_25 : decode cX12_sleeper 25 = .ok (.iconst 1, 1) := by decide +kernel
theorem dX12_sleeper_26 : decode cX12_sleeper 26 = .ok (.putfield 99, 3) := by decide +kernel
theorem dX12_sleeper_29 : decode cX12_sleeper 29 = .ok (.aload_n 0, 1) := by decide +kernel
theorem dX12_sleeper_30 : decode cX12_sleeper 30 = .ok (.getfield 99, 3) := by decide +kernel
theorem dX12_sleeper_33 : decode cX12_sleeper 33 = .ok (.ifCond .le 5, 3) := by decide +kernel
theorem dX12_sleeper_36 : decode cX12_sleeper 36 = .ok (.iconst 0, 1) := by decide +kernel
theorem dX12_sleeper_37 : decode cX12_sleeper 37 = .ok (.ireturn, 1) := by decide +kernel
theorem dX12_sleeper_38 : decode cX12_sleeper 38 = .ok (.iload_n 2, 1) := by decide +kernel
theorem dX12_sleeper_39 : decode cX12_sleeper 39 = .ok (.bipush 6, 2) := by decide +kernel
theorem dX12_sleeper_41 : decode cX12_sleeper 41 = .ok (.if_icmp .ge 15, 3) := by decide +kernel
theorem dX12_sleeper_44 : decode cX12_sleeper 44 = .ok (.aload_n 0, 1) := by decide +kernel
theorem dX12_sleeper_45 : decode cX12_sleeper 45 = .ok (.getfield 43, 3) := by decide +kernel
theorem dX12_sleeper_48 : decode cX12_sleeper 48 = .ok (.bipush 6, 2) := by decide +kernel
theorem dX12_sleeper_50 : decode cX12_sleeper 50 = .ok (.iload_n 1, 1) := by decide +kernel
theorem dX12_sleeper_51 : decode cX12_sleeper 51 = .ok (.imul, 1) := by decide +kernel
theorem dX12_sleeper_52 : decode cX12_sleeper 52 = .ok (.iload_n 2, 1) := by decide +kernel
theorem dX12_sleeper_53 : decode cX12_sleeper 53 = .ok (.iadd, 1) := by decide +kernel
theorem dX12_sleeper_54 : decode cX12_sleeper 54 = .ok (.iaload, 1) := by decide +kernel
theorem dX12_sleeper_55 : decode cX12_sleeper 55 = .ok (.ireturn, 1) := by decide +kernel
theorem dX12_sleeper_56 : decode cX12_sleeper 56 = .ok (.iload_n 2, 1) := by decide +kernel
theorem dX12_sleeper_57 : decode cX12_sleeper 57 = .ok (.bipush 10, 2) := by decide +kernel
theorem dX12_sleeper_59 : decode cX12_sleeper 59 = .ok (.if_icmp .ne 17, 3) := by decide +kernel
theorem dX12_sleeper_62 : decode cX12_sleeper 62 = .ok (.aload_n 0, 1) := by decide +kernel
theorem dX12_sleeper_63 : decode cX12_sleeper 63 = .ok (.getfield 61, 3) := by decide +kernel
theorem dX12_sleeper_66 : decode cX12_sleeper 66 = .ok (.bipush 6, 2) := by decide +kernel
theorem dX12_sleeper_68 : decode cX12_sleeper 68 = .ok (.iload_n 1, 1) := by decide +kernel
theorem dX12_sleeper_69 : decode cX12_sleeper 69 = .ok (.imul, 1) := by decide +kernel
theorem dX12_sleeper_70 : decode cX12_sleeper 70 = .ok (.iconst 5, 1) := by decide +kernel
theorem dX12_sleeper_71 : decode cX12_sleeper 71 = .ok (.iadd, 1) := by decide +kernel
theorem dX12_sleeper_72 : decode cX12_sleeper 72 = .ok (.iaload, 1) := by decide +kernel
theorem dX12_sleeper_73 : decode cX12_sleeper 73 = .ok (.goto 17, 3) := by decide +kernel
theorem dX12_sleeper_76 : decode cX12_sleeper 76 = .ok (.aload_n 0, 1) := by decide +kernel
theorem dX12_sleeper_77 : decode cX12_sleeper 77 = .ok (.getfield 61, 3) := by decide +kernel
theorem dX12_sleeper_80 : decode cX12_sleeper 80 = .ok (.bipush 6, 2) := by decide +kernel
theorem dX12_sleeper_82 : decode cX12_sleeper 82 = .ok (.iload_n 1, 1) := by decide +kernel
theorem dX12_sleeper_83 : decode cX12_sleeper 83 = .ok (.imul, 1) := by decide +kernel
theorem dX12_sleeper_84 : decode cX12_sleeper 84 = .ok (.iload_n 2, 1) := by decide +kernel
theorem dX12_sleeper_85 : decode cX12_sleeper 85 = .ok (.iadd, 1) := by decide +kernel
theorem dX12_sleeper_86 : decode cX12_sleeper 86 = .ok (.bipush 6, 2) := by decide +kernel
theorem dX12_sleeper_88 : decode cX12_sleeper 88 = .ok (.isub, 1) := by decide +kernel
theorem dX12_sleeper_89 : decode cX12_sleeper 89 = .ok (.iaload, 1) := by decide +kernel
theorem dX12_sleeper_90 : decode cX12_sleeper 90 = .ok (.ireturn, 1) := by decide +kernel
theorem dX12_officer_0 : decode cX12_officer 0 = .ok (.aload_n 0, 1) := by decide +kernel
theorem dX12_officer_1 : decode cX12_officer 1 = .ok (.iconst 0, 1) := by decide +kernel
theorem dX12_officer_2 : decode cX12_officer 2 = .ok (.putfield 99, 3) := by decide +kernel
theorem dX12_officer_5 : decode cX12_officer 5 = .ok (.aload_n 0, 1) := by decide +kernel
theorem dX12_officer_6 : decode cX12_officer 6 = .ok (.iload_n 1, 1) := by decide +kernel
theorem dX12_officer_7 : decode cX12_officer 7 = .ok (.invokevirtual 374, 3) := by decide +kernel
theorem dX12_officer_10 : decode cX12_officer 10 = .ok (.ifCond .eq 28, 3) := by decide +kernel
theorem dX12_officer_13 : decode cX12_officer 13 = .ok (.iload_n 2, 1) := by decide +kernel
theorem dX12_officer_14 : decode cX12_officer 14 = .ok (.i2l, 1) := by decide +kernel
theorem dX12_officer_15 : decode cX12_officer 15 = .ok (.lconst 0, 1) := by decide +kernel
theorem dX12_officer_16 : decode cX12_officer 16 = .ok (.ldc2_w 367, 3) := by decide +kernel
theorem dX12_officer_19 : decode cX12_officer 19 = .ok (.invokestatic 220, 3) := by decide +kernel
theorem dX12_officer_22 : decode cX12_officer 22 = .ok (.ifCond .eq 16, 3) := by decide +kernel
theorem dX12_officer_25 : decode cX12_officer 25 = .ok (.aload_n 0, 1) := by decide +kernel
theorem dX12_officer_26 : decode cX12_officer 26 = .ok (.getfield 49, 3) := by decide +kernel
theorem dX12_officer_29 : decode cX12_officer 29 = .ok (.iconst 4, 1) := by decide +kernel
theorem dX12_officer_30 : decode cX12_officer 30 = .ok (.iload_n 1, 1) := by decide +kernel
theorem dX12_officer_31 : decode cX12_officer 31 = .ok (.imul, 1) := by decide +kernel
theorem dX12_officer_32 : decode cX12_officer 32 = .ok (.iload_n 2, 1) := by decide +kernel
theorem dX12_officer_33 : decode cX12_officer 33 = .ok (.iadd, 1) := by decide +kernel
theorem dX12_officer_34 : decode cX12_officer 34 = .ok (.iaload, 1) := by decide +kernel
theorem dX12_officer_35 : decode cX12_officer 35 = .ok (.goto 4, 3) := by decide +kernel
theorem dX12_officer_38 : decode cX12_officer 38 = .ok (.iconst (-1), 1) := by decide +kernel
theorem dX12_officer_39 : decode cX12_officer 39 = .ok (.ireturn, 1) := by decide +kernel
theorem dX12_law_0 : decode cX12_law 0 = .ok (.aload_n 0, 1) := by decide +kernel
theorem dX12_law_1 : decode cX12_law 1 = .ok (.iconst 0, 1) := by decide +kernel
theorem dX12_law_2 : decode cX12_law 2 = .ok (.putfield 99, 3) := by decide +kernel
theorem dX12_law_5 : decode cX12_law 5 = .ok (.iload_n 1, 1) := by decide +kernel
theorem dX12_law_6 : decode cX12_law 6 = .ok (.iconst (-1), 1) := by decide +kernel
theorem dX12_law_7 : decode cX12_law 7 = .ok (.if_icmp .eq 21, 3) := by decide +kernel
theorem dX12_law_10 : decode cX12_law 10 = .ok (.iload_n 1, 1) := by decide +kernel
theorem dX12_law_11 : decode cX12_law 11 = .ok (.i2l, 1) := by decide +kernel
theorem dX12_law_12 : decode cX12_law 12 = .ok (.lconst 0, 1) := by decide +kernel
theorem dX12_law_13 : decode cX12_law 13 = .ok (.aload_n 0, 1) := by decide +kernel
theorem dX12_law_14 : decode cX12_law 14 = .ok (.getfield 289, 3) := by decide +kernel
theorem dX12_law_17 : decode cX12_law 17 = .ok (.iconst 1, 1) := by decide +kernel
theorem dX12_law_18 : decode cX12_law 18 = .ok (.isub, 1) := by decide +kernel
theorem dX12_law_19 : decode cX12_law 19 = .ok (.i2l, 1) := by decide +kernel
theorem dX12_law_20 : decode cX12_law 20 = .ok (.invokestatic 220, 3) := by decide +kernel
theorem dX12_law_23 : decode cX12_law 23 = .ok (.ifCond .ne 5, 3) := by decide +kernel
theorem dX12_law_26 : decode cX12_law 26 = .ok (.iconst 0, 1) := by decide +kernel
theorem dX12_law_27 : decode cX12_law 27 = .ok (.ireturn, 1) := by decide +kernel
theorem dX12_law_28 : decode cX12_law 28 = .ok (.aload_n 0, 1) := by decide +kernel
theorem dX12_law_29 : decode cX12_law 29 = .ok (.iload_n 1, 1) := by decide +kernel
theorem dX12_law_30 : decode cX12_law 30 = .ok (.putfield 67, 3) := by decide +kernel
theorem dX12_law_33 : decode cX12_law 33 = .ok (.iconst 1, 1) := by decide +kernel
theorem dX12_law_34 : decode cX12_law 34 = .ok (.ireturn, 1) := by decide +kernel
theorem dX12_drowsy_0 : decode cX12_drowsy 0 = .ok (.aload_n 0, 1) := by decide +kernel
theorem dX12_drowsy_1 : decode cX12_drowsy 1 = .ok (.iconst 0, 1) := by decide +kernel
theorem dX12_drowsy_2 : decode cX12_drowsy 2 = .ok (.putfield 99, 3) := by decide +kernel
theorem dX12_drowsy_5 : decode cX12_drowsy 5 = .ok (.iload_n 1, 1) := by decide +kernel
theorem dX12_drowsy_6 : decode cX12_drowsy 6 = .ok (.i2l, 1) := by decide +kernel
theorem dX12_drowsy_7 : decode cX12_drowsy 7 = .ok (.lconst 0, 1) := by decide +kernel
theorem dX12_drowsy_8 : decode cX12_drowsy 8 = .ok (.ldc2_w 377, 3) := by decide +kernel
theorem dX12_drowsy_11 : decode cX12_drowsy 11 = .ok (.invokestatic 220, 3) := by decide +kernel
theorem dX12_drowsy_14 : decode cX12_drowsy 14 = .ok (.ifCond .eq 11, 3) := by decide +kernel
theorem dX12_drowsy_17 : decode cX12_drowsy 17 = .ok (.iload_n 1, 1) := by decide +kernel
theorem dX12_drowsy_18 : decode cX12_drowsy 18 = .ok (.aload_n 0, 1) := by decide +kernel
theorem dX12_drowsy_19 : decode cX12_drowsy 19 = .ok (.getfield 71, 3) := by decide +kernel
theorem dX12_drowsy_22 : decode cX12_drowsy 22 = .ok (.if_icmp .ne 5, 3) := by decide +kernel
theorem dX12_drowsy_25 : decode cX12_drowsy 25 = .ok (.iconst 0, 1) := by decide +kernel
theorem dX12_drowsy_26 : decode cX12_drowsy 26 = .ok (.ireturn, 1) := by decide +kernel
theorem dX12_drowsy_27 : decode cX12_drowsy 27 = .ok (.aload_n 0, 1) := by decide +kernel
theorem dX12_drowsy_28 : decode cX12_drowsy 28 = .ok (.iload_n 1, 1) := by decide +kernel
theorem dX12_drowsy_29 : decode cX12_drowsy 29 = .ok (.putfield 71, 3) := by decide +kernel
theorem dX12_drowsy_32 : decode cX12_drowsy 32 = .ok (.iconst 1, 1) := by decide +kernel
theorem dX12_drowsy_33 : decode cX12_drowsy 33 = .ok (.ireturn, 1) := by decide +kernel
theorem dX12_remember_0 : decode cX12_remember 0 = .ok (.aload_n 0, 1) := by decide +kernel
theorem dX12_remember_1 : decode cX12_remember 1 = .ok (.getfield 312, 3) := by decide +kernel
theorem dX12_remember_4 : decode cX12_remember 4 = .ok (.bipush 40, 2) := by decide +kernel
theorem dX12_remember_6 : decode cX12_remember 6 = .ok (.if_icmp .ne 44, 3) := by decide +kernel
theorem dX12_remember_9 : decode cX12_remember 9 = .ok (.iconst 0, 1) := by decide +kernel
theorem dX12_remember_10 : decode cX12_remember 10 = .ok (.istore_n 1, 1) := by decide +kernel
theorem dX12_remember_11 : decode cX12_remember 11 = .ok (.iload_n 1, 1) := by decide +kernel
theorem dX12_remember_12 : decode cX12_remember 12 = .ok (.sipush 11544, 3) := by decide +kernel
theorem dX12_remember_15 : decode cX12_remember 15 = .ok (.if_icmp .ge 25, 3) := by decide +kernel
theorem dX12_remember_18 : decode cX12_remember 18 = .ok (.aload_n 0, 1) := by decide +kernel
theorem dX12_remember_19 : decode cX12_remember 19 = .ok (.getfield 74, 3) := by decide +kernel
theorem dX12_remember_22 : decode cX12_remember 22 = .ok (.iload_n 1, 1) := by decide +kernel
theorem dX12_remember_23 : decode cX12_remember 23 = .ok (.aload_n 0, 1) := by decide +kernel
theorem dX12_remember_24 : decode cX12_remember 24 = .ok (.getfield 74, 3) := by decide +kernel
theorem dX12_remember_27 : decode cX12_remember 27 = .ok (.iload_n 1, 1) := by decide +kernel
theorem dX12_remember_28 : decode cX12_remember 28 = .ok (.sipush 296, 3) := by decide +kernel
theorem dX12_remember_31 : decode cX12_remember 31 = .ok (.iadd, 1) := by decide +kernel
theorem dX12_remember_32 : decode cX12_remember 32 = .ok (.iaload, 1) := by decide +kernel
theorem dX12_remember_33 : decode cX12_remember 33 = .ok (.iastore, 1) := by decide +kernel
theorem dX12_remember_34 : decode cX12_remember 34 = .ok (.iinc 1 1, 3) := by decide +kernel
theorem dX12_remember_37 : decode cX12_remember 37 = .ok (.goto (-26), 3) := by decide +kernel
theorem dX12_remember_40 : decode cX12_remember 40 = .ok (.aload_n 0, 1) := by decide +kernel
theorem dX12_remember_41 : decode cX12_remember 41 = .ok (.dup, 1) := by decide +kernel
theorem dX12_remember_42 : decode cX12_remember 42 = .ok (.getfield 312, 3) := by decide +kernel
theorem dX12_remember_45 : decode cX12_remember 45 = .ok (.iconst 1, 1) := by decide +kernel
theorem dX12_remember_46 : decode cX12_remember 46 = .ok (.isub, 1) := by decide +kernel
theorem dX12_remember_47 : decode cX12_remember 47 = .ok (.putfield 312, 3) := by decide +kernel
theorem dX12_remember_50 : decode cX12_remember 50 = .ok (.iconst 0, 1) := by decide +kernel
theorem dX12_remember_51 : decode cX12_remember 51 = .ok (.istore_n 1, 1) := by decide +kernel
theorem dX12_remember_52 : decode cX12_remember 52 = .ok (.iload_n 1, 1) := by decide +kernel
theorem dX12_remember_53 : decode cX12_remember 53 = .ok (.sipush 296, 3) := by decide +kernel
theorem dX12_remember_56 : decode cX12_remember 56 = .ok (.if_icmp .ge 30, 3) := by decide +kernel
theorem dX12_remember_59 : decode cX12_remember 59 = .ok (.aload_n 0, 1) := by decide +kernel
theorem dX12_remember_60 : decode cX12_remember 60 = .ok (.getfield 74, 3) := by decide +kernel
theorem dX12_remember_63 : decode cX12_remember 63 = .ok (.sipush 296, 3) := by decide +kernel
theorem dX12_remember_66 : decode cX12_remember 66 = .ok (.aload_n 0, 1) := by decide +kernel
theorem dX12_remember_67 : decode cX12_remember 67 = .ok (.getfield 312, 3) := by decide +kernel
theorem dX12_remember_70 : decode cX12_remember 70 = .ok (.imul, 1) := by decide +kernel
theorem dX12_remember_71 : decode cX12_remember 71 = .ok (.iload_n 1, 1) := by decide +kernel
theorem dX12_remember_72 : decode cX12_remember 72 = .ok (.iadd, 1) := by decide +kernel
theorem dX12_remember_73 : decode cX12_remember 73 = .ok (.aload_n 0, 1) := by decide +kernel
theorem dX12_remember_74 : decode cX12_remember 74 = .ok (.getfield 61, 3) := by decide +kernel
theorem dX12_remember_77 : decode cX12_remember 77 = .ok (.iload_n 1, 1) := by decide +kernel
theorem dX12_remember_78 : decode cX12_remember 78 = .ok (.iaload, 1) := by decide +kernel
theorem dX12_remember_79 : decode cX12_remember 79 = .ok (.iastore, 1) := by decide +kernel
theorem dX12_remember_80 : decode cX12_remember 80 = .ok (.iinc 1 1, 3) := by decide +kernel
theorem dX12_remember_83 : decode cX12_remember 83 = .ok (.goto (-31), 3) := by decide +kernel
theorem dX12_remember_86 : decode cX12_remember 86 = .ok (.aload_n 0, 1) := by decide +kernel
theorem dX12_remember_87 : decode cX12_remember 87 = .ok (.dup, 1) := by decide +kernel
theorem dX12_remember_88 : decode cX12_remember 88 = .ok (.getfield 312, 3) := by decide +kernel
theorem dX12_remember_91 : decode cX12_remember 91 = .ok (.iconst 1, 1) := by decide +kernel
theorem dX12_remember_92 : decode cX12_remember 92 = .ok (.iadd, 1) := by decide +kernel
theorem dX12_remember_93 : decode cX12_remember 93 = .ok (.putfield 312, 3) := by decide +kernel
theorem dX12_remember_96 : decode cX12_remember 96 = .ok (.return_, 1) := by decide +kernel
theorem dX12_canMove_0 : decode cX12_canMove 0 = .ok (.aload_n 0, 1) := by decide +kernel
theorem dX12_canMove_1 : decode cX12_canMove 1 = .ok (.iload_n 2, 1) := by decide +kernel
theorem dX12_canMove_2 : decode cX12_canMove 2 = .ok (.invokevirtual 369, 3) := by decide +kernel
theorem dX12_canMove_5 : decode cX12_canMove 5 = .ok (.ifCond .eq 43, 3) := by decide +kernel
theorem dX12_canMove_8 : decode cX12_canMove 8 = .ok (.aload_n 0, 1) := by decide +kernel
theorem dX12_canMove_9 : decode cX12_canMove 9 = .ok (.iload_n 2, 1) := by decide +kernel
theorem dX12_canMove_10 : decode cX12_canMove 10 = .ok (.invokevirtual 379, 3) := by decide +kernel
theorem dX12_canMove_13 : decode cX12_canMove 13 = .ok (.ifCond .ne 35, 3) := by decide +kernel
theorem dX12_canMove_16 : decode cX12_canMove 16 = .ok (.iload_n 3, 1) := by decide +kernel
theorem dX12_canMove_17 : decode cX12_canMove 17 = .ok (.i2l, 1) := by decide +kernel
theorem dX12_canMove_18 : decode cX12_canMove 18 = .ok (.lconst 0, 1) := by decide +kernel
theorem dX12_canMove_19 : decode cX12_canMove 19 = .ok (.aload_n 0, 1) := by decide +kernel
theorem dX12_canMove_20 : decode cX12_canMove 20 = .ok (.getfield 303, 3) := by decide +kernel
theorem dX12_canMove_23 : decode cX12_canMove 23 = .ok (.iconst 1, 1) := by decide +kernel
theorem dX12_canMove_24 : decode cX12_canMove 24 = .ok (.isub, 1) := by decide +kernel
theorem dX12_canMove_25 : decode cX12_canMove 25 = .ok (.i2l, 1) := by decide +kernel
theorem dX12_canMove_26 : decode cX12_canMove 26 = .ok (.invokestatic 220, 3) := by decide +kernel
theorem dX12_canMove_29 : decode cX12_canMove 29 = .ok (.ifCond .eq 19, 3) := by decide +kernel
theorem dX12_canMove_32 : decode cX12_canMove 32 = .ok (.aload_n 1, 1) := by decide +kernel
theorem dX12_canMove_33 : decode cX12_canMove 33 = .ok (.bipush 6, 2) := by decide +kernel
theorem dX12_canMove_35 : decode cX12_canMove 35 = .ok (.iload_n 2, 1) := by decide +kernel
theorem dX12_canMove_36 : decode cX12_canMove 36 = .ok (.imul, 1) := by decide +kernel
theorem dX12_canMove_37 : decode cX12_canMove 37 = .ok (.iconst 1, 1) := by decide +kernel
theorem dX12_canMove_38 : decode cX12_canMove 38 = .ok (.iadd, 1) := by decide +kernel
theorem dX12_canMove_39 : decode cX12_canMove 39 = .ok (.iaload, 1) := by decide +kernel
theorem dX12_canMove_40 : decode cX12_canMove 40 = .ok (.iload_n 3, 1) := by decide +kernel
theorem dX12_canMove_41 : decode cX12_canMove 41 = .ok (.if_icmp .eq 7, 3) := by decide +kernel
theorem dX12_canMove_44 : decode cX12_canMove 44 = .ok (.iconst 1, 1) := by decide +kernel
theorem dX12_canMove_45 : decode cX12_canMove 45 = .ok (.goto 4, 3) := by decide +kernel
theorem dX12_canMove_48 : decode cX12_canMove 48 = .ok (.iconst 0, 1) := by decide +kernel
theorem dX12_canMove_49 : decode cX12_canMove 49 = .ok (.ireturn, 1) := by decide +kernel
theorem dX12_moves_0 : decode cX12_moves 0 = .ok (.aload_n 1, 1) := by decide +kernel
theorem dX12_moves_1 : decode cX12_moves 1 = .ok (.bipush 6, 2) := by decide +kernel
theorem dX12_moves_3 : decode cX12_moves 3 = .ok (.iload_n 2, 1) := by decide +kernel
theorem dX12_moves_4 : decode cX12_moves 4 = .ok (.imul, 1) := by decide +kernel
theorem dX12_moves_5 : decode cX12_moves 5 = .ok (.iconst 1, 1) := by decide +kernel
theorem dX12_moves_6 : decode cX12_moves 6 = .ok (.iadd, 1) := by decide +kernel
theorem dX12_moves_7 : decode cX12_moves 7 = .ok (.iaload, 1) := by decide +kernel
theorem dX12_moves_8 : decode cX12_moves 8 = .ok (.istore 4, 2) := by decide +kernel
theorem dX12_moves_10 : decode cX12_moves 10 = .ok (.iconst 0, 1) := by decide +kernel
theorem dX12_moves_11 : decode cX12_moves 11 = .ok (.istore 5, 2) := by decide +kernel
theorem dX12_moves_13 : decode cX12_moves 13 = .ok (.iload 5, 2) := by decide +kernel
theorem dX12_moves_15 : decode cX12_moves 15 = .ok (.aload_n 0, 1) := by decide +kernel
theorem dX12_moves_16 : decode cX12_moves 16 = .ok (.getfield 297, 3) := by decide +kernel
theorem dX12_moves_19 : decode cX12_moves 19 = .ok (.if_icmp .ge 71, 3) := by decide +kernel
theorem dX12_moves_22 : decode cX12_moves 22 = .ok (.bipush 6, 2) := by decide +kernel
theorem dX12_moves_24 : decode cX12_moves 24 = .ok (.iload 5, 2) := by decide +kernel
theorem dX12_moves_26 : decode cX12_moves 26 = .ok (.imul, 1) := by decide +kernel
theorem dX12_moves_27 : decode cX12_moves 27 = .ok (.iconst 1, 1) := by decide +kernel
theorem dX12_moves_28 : decode cX12_moves 28 = .ok (.iadd, 1) := by decide +kernel
theorem dX12_moves_29 : decode cX12_moves 29 = .ok (.istore 6, 2) := by decide +kernel
theorem dX12_moves_31 : decode cX12_moves 31 = .ok (.aload_n 1, 1) := by decide +kernel
theorem dX12_moves_32 : decode cX12_moves 32 = .ok (.iload 6, 2) := by decide +kernel
theorem dX12_moves_34 : decode cX12_moves 34 = .ok (.iaload, 1) := by decide +kernel
theorem dX12_moves_35 : decode cX12_moves 35 = .ok (.iload 4, 2) := by decide +kernel
theorem dX12_moves_37 : decode cX12_moves 37 = .ok (.if_icmp .le 22, 3) := by decide +kernel
theorem dX12_moves_40 : decode cX12_moves 40 = .ok (.aload_n 1, 1) := by decide +kernel
theorem dX12_moves_41 : decode cX12_moves 41 = .ok (.iload 6, 2) := by decide +kernel
theorem dX12_moves_43 : decode cX12_moves 43 = .ok (.iaload, 1) := by decide +kernel
theorem dX12_moves_44 : decode cX12_moves 44 = .ok (.iload_n 3, 1) := by decide +kernel
theorem dX12_moves_45 : decode cX12_moves 45 = .ok (.if_icmp .gt 14, 3) := by decide +kernel
theorem dX12_moves_48 : decode cX12_moves 48 = .ok (.aload_n 1, 1) := by decide +kernel
theorem dX12_moves_49 : decode cX12_moves 49 = .ok (.iload 6, 2) := by decide +kernel
theorem dX12_moves_51 : decode cX12_moves 51 = .ok (.dup2, 1) := by decide +kernel
theorem dX12_moves_52 : decode cX12_moves 52 = .ok (.iaload, 1) := by decide +kernel
theorem dX12_moves_53 : decode cX12_moves 53 = .ok (.iconst 1, 1) := by decide +kernel
theorem dX12_moves_54 : decode cX12_moves 54 = .ok (.isub, 1) := by decide +kernel
theorem dX12_moves_55 : decode cX12_moves 55 = .ok (.iastore, 1) := by decide +kernel
theorem dX12_moves_56 : decode cX12_moves 56 = .ok (.goto 28, 3) := by decide +kernel
theorem dX12_moves_59 : decode cX12_moves 59 = .ok (.aload_n 1, 1) := by decide +kernel
theorem dX12_moves_60 : decode cX12_moves 60 = .ok (.iload 6, 2) := by decide +kernel
theorem dX12_moves_62 : decode cX12_moves 62 = .ok (.iaload, 1) := by decide +kernel
theorem dX12_moves_63 : decode cX12_moves 63 = .ok (.iload 4, 2) := by decide +kernel
theorem dX12_moves_65 : decode cX12_moves 65 = .ok (.if_icmp .ge 19, 3) := by decide +kernel
theorem dX12_moves_68 : decode cX12_moves 68 = .ok (.aload_n 1, 1) := by decide +kernel
theorem dX12_moves_69 : decode cX12_moves 69 = .ok (.iload 6, 2) := by decide +kernel
theorem dX12_moves_71 : decode cX12_moves 71 = .ok (.iaload, 1) := by decide +kernel
theorem dX12_moves_72 : decode cX12_moves 72 = .ok (.iload_n 3, 1) := by decide +kernel
theorem dX12_moves_73 : decode cX12_moves 73 = .ok (.if_icmp .lt 11, 3) := by decide +kernel
theorem dX12_moves_76 : decode cX12_moves 76 = .ok (.aload_n 1, 1) := by decide +kernel
theorem dX12_moves_77 : decode cX12_moves 77 = .ok (.iload 6, 2) := by decide +kernel
theorem dX12_moves_79 : decode cX12_moves 79 = .ok (.dup2, 1) := by decide +kernel
theorem dX12_moves_80 : decode cX12_moves 80 = .ok (.iaload, 1) := by decide +kernel
theorem dX12_moves_81 : decode cX12_moves 81 = .ok (.iconst 1, 1) := by decide +kernel
theorem dX12_moves_82 : decode cX12_moves 82 = .ok (.iadd, 1) := by decide +kernel
theorem dX12_moves_83 : decode cX12_moves 83 = .ok (.iastore, 1) := by decide +kernel
theorem dX12_moves_84 : decode cX12_moves 84 = .ok (.iinc 5 1, 3) := by decide +kernel
theorem dX12_moves_87 : decode cX12_moves 87 = .ok (.goto (-74), 3) := by decide +kernel
theorem dX12_moves_90 : decode cX12_moves 90 = .ok (.aload_n 1, 1) := by decide +kernel
theorem dX12_moves_91 : decode cX12_moves 91 = .ok (.bipush 6, 2) := by decide +kernel
theorem dX12_moves_93 : decode cX12_moves 93 = .ok (.iload_n 2, 1) := by decide +kernel
theorem dX12_moves_94 : decode cX12_moves 94 = .ok (.imul, 1) := by decide +kernel
theorem dX12_moves_95 : decode cX12_moves 95 = .ok (.iconst 1, 1) := by decide +kernel
theorem dX12_moves_96 : decode cX12_moves 96 = .ok (.iadd, 1) := by decide +kernel
theorem dX12_moves_97 : decode cX12_moves 97 = .ok (.iload_n 3, 1) := by decide +kernel
theorem dX12_moves_98 : decode cX12_moves 98 = .ok (.iastore, 1) := by decide +kernel
theorem dX12_moves_99 : decode cX12_moves 99 = .ok (.return_, 1) := by decide +kernel
theorem dX12_move_0 : decode cX12_move 0 = .ok (.aload_n 0, 1) := by decide +kernel
theorem dX12_move_1 : decode cX12_move 1 = .ok (.iconst 0, 1) := by decide +kernel
theorem dX12_move_2 : decode cX12_move 2 = .ok (.putfield 99, 3) := by decide +kernel
theorem dX12_move_5 : decode cX12_move 5 = .ok (.aload_n 0, 1) := by decide +kernel
theorem dX12_move_6 : decode cX12_move 6 = .ok (.aload_n 0, 1) := by decide +kernel
theorem dX12_move_7 : decode cX12_move 7 = .ok (.getfield 61, 3) := by decide +kernel
theorem dX12_move_10 : decode cX12_move 10 = .ok (.iload_n 1, 1) := by decide +kernel
theorem dX12_move_11 : decode cX12_move 11 = .ok (.iload_n 2, 1) := by decide +kernel
theorem dX12_move_12 : decode cX12_move 12 = .ok (.invokevirtual 382, 3) := by decide +kernel
theorem dX12_move_15 : decode cX12_move 15 = .ok (.ifCond .ne 5, 3) := by decide +kernel
theorem dX12_move_18 : decode cX12_move 18 = .ok (.iconst (-1), 1) := by decide +kernel
theorem dX12_move_19 : decode cX12_move 19 = .ok (.ireturn, 1) := by decide +kernel
theorem dX12_move_20 : decode cX12_move 20 = .ok (.aload_n 0, 1) := by decide +kernel
theorem dX12_move_21 : decode cX12_move 21 = .ok (.invokevirtual 386, 3) := by decide +kernel
theorem dX12_move_24 : decode cX12_move 24 = .ok (.aload_n 0, 1) := by decide +kernel
theorem dX12_move_25 : decode cX12_move 25 = .ok (.getfield 61, 3) := by decide +kernel
theorem dX12_move_28 : decode cX12_move 28 = .ok (.bipush 6, 2) := by decide +kernel
theorem dX12_move_30 : decode cX12_move 30 = .ok (.iload_n 1, 1) := by decide +kernel
theorem dX12_move_31 : decode cX12_move 31 = .ok (.imul, 1) := by decide +kernel
theorem dX12_move_32 : decode cX12_move 32 = .ok (.iconst 1, 1) := by decide +kernel
theorem dX12_move_33 : decode cX12_move 33 = .ok (.iadd, 1) := by decide +kernel
theorem dX12_move_34 : decode cX12_move 34 = .ok (.iaload, 1) := by decide +kernel
theorem dX12_move_35 : decode cX12_move 35 = .ok (.istore_n 3, 1) := by decide +kernel
theorem dX12_move_36 : decode cX12_move 36 = .ok (.aload_n 0, 1) := by decide +kernel
theorem dX12_move_37 : decode cX12_move 37 = .ok (.aload_n 0, 1) := by decide +kernel
theorem dX12_move_38 : decode cX12_move 38 = .ok (.getfield 61, 3) := by decide +kernel
theorem dX12_move_41 : decode cX12_move 41 = .ok (.iload_n 1, 1) := by decide +kernel
theorem dX12_move_42 : decode cX12_move 42 = .ok (.iload_n 2, 1) := by decide +kernel
theorem dX12_move_43 : decode cX12_move 43 = .ok (.invokevirtual 389, 3) := by decide +kernel
theorem dX12_move_46 : decode cX12_move 46 = .ok (.iload_n 3, 1) := by decide +kernel
theorem dX12_move_47 : decode cX12_move 47 = .ok (.ireturn, 1) := by decide +kernel
theorem dX12_canSay_0 : decode cX12_canSay 0 = .ok (.aload_n 0, 1) := by decide +kernel
theorem dX12_canSay_1 : decode cX12_canSay 1 = .ok (.iload_n 2, 1) := by decide +kernel
theorem dX12_canSay_2 : decode cX12_canSay 2 = .ok (.invokevirtual 369, 3) := by decide +kernel
theorem dX12_canSay_5 : decode cX12_canSay 5 = .ok (.ifCond .eq 53, 3) := by decide +kernel
theorem dX12_canSay_8 : decode cX12_canSay 8 = .ok (.aload_n 0, 1) := by decide +kernel
theorem dX12_canSay_9 : decode cX12_canSay 9 = .ok (.iload_n 2, 1) := by decide +kernel
theorem dX12_canSay_10 : decode cX12_canSay 10 = .ok (.invokevirtual 379, 3) := by decide +kernel
theorem dX12_canSay_13 : decode cX12_canSay 13 = .ok (.ifCond .ne 45, 3) := by decide +kernel
theorem dX12_canSay_16 : decode cX12_canSay 16 = .ok (.aload_n 0, 1) := by decide +kernel
theorem dX12_canSay_17 : decode cX12_canSay 17 = .ok (.getfield 43, 3) := by decide +kernel
theorem dX12_canSay_20 : decode cX12_canSay 20 = .ok (.bipush 6, 2) := by decide +kernel
theorem dX12_canSay_22 : decode cX12_canSay 22 = .ok (.iload_n 2, 1) := by decide +kernel
theorem dX12_canSay_23 : decode cX12_canSay 23 = .ok (.imul, 1) := by decide +kernel
theorem dX12_canSay_24 : decode cX12_canSay 24 = .ok (.iconst 1, 1) := by decide +kernel
theorem dX12_canSay_25 : decode cX12_canSay 25 = .ok (.iadd, 1) := by decide +kernel
theorem dX12_canSay_26 : decode cX12_canSay 26 = .ok (.iaload, 1) := by decide +kernel
theorem dX12_canSay_27 : decode cX12_canSay 27 = .ok (.ifCond .le 31, 3) := by decide +kernel
theorem dX12_canSay_30 : decode cX12_canSay 30 = .ok (.iload_n 3, 1) := by decide +kernel
theorem dX12_canSay_31 : decode cX12_canSay 31 = .ok (.i2l, 1) := by decide +kernel
theorem dX12_canSay_32 : decode cX12_canSay 32 = .ok (.lconst 0, 1) := by decide +kernel
theorem dX12_canSay_33 : decode cX12_canSay 33 = .ok (.ldc2_w 278, 3) := by decide +kernel
theorem dX12_canSay_36 : decode cX12_canSay 36 = .ok (.invokestatic 220, 3) := by decide +kernel
theorem dX12_canSay_39 : decode cX12_canSay 39 = .ok (.ifCond .eq 19, 3) := by decide +kernel
theorem dX12_canSay_42 : decode cX12_canSay 42 = .ok (.aload_n 1, 1) := by decide +kernel
theorem dX12_canSay_43 : decode cX12_canSay 43 = .ok (.bipush 6, 2) := by decide +kernel
theorem dX12_canSay_45 : decode cX12_canSay 45 = .ok (.iload_n 2, 1) := by decide +kernel
theorem dX12_canSay_46 : decode cX12_canSay 46 = .ok (.imul, 1) := by decide +kernel
theorem dX12_canSay_47 : decode cX12_canSay 47 = .ok (.iconst 2, 1) := by decide +kernel
theorem dX12_canSay_48 : decode cX12_canSay 48 = .ok (.iadd, 1) := by decide +kernel
theorem dX12_canSay_49 : decode cX12_canSay 49 = .ok (.iaload, 1) := by decide +kernel
theorem dX12_canSay_50 : decode cX12_canSay 50 = .ok (.iload_n 3, 1) := by decide +kernel
theorem dX12_canSay_51 : decode cX12_canSay 51 = .ok (.if_icmp .eq 7, 3) := by decide +kernel
theorem dX12_canSay_54 : decode cX12_canSay 54 = .ok (.iconst 1, 1) := by decide +kernel
theorem dX12_canSay_55 : decode cX12_canSay 55 = .ok (.goto 4, 3) := by decide +kernel
theorem dX12_canSay_58 : decode cX12_canSay 58 = .ok (.iconst 0, 1) := by decide +kernel
theorem dX12_canSay_59 : decode cX12_canSay 59 = .ok (.ireturn, 1) := by decide +kernel
theorem dX12_say_0 : decode cX12_say 0 = .ok (.aload_n 0, 1) := by decide +kernel
theorem dX12_say_1 : decode cX12_say 1 = .ok (.iconst 0, 1) := by decide +kernel
theorem dX12_say_2 : decode cX12_say 2 = .ok (.putfield 99, 3) := by decide +kernel
theorem dX12_say_5 : decode cX12_say 5 = .ok (.aload_n 0, 1) := by decide +kernel
theorem dX12_say_6 : decode cX12_say 6 = .ok (.aload_n 0, 1) := by decide +kernel
theorem dX12_say_7 : decode cX12_say 7 = .ok (.getfield 61, 3) := by decide +kernel
theorem dX12_say_10 : decode cX12_say 10 = .ok (.iload_n 1, 1) := by decide +kernel
theorem dX12_say_11 : decode cX12_say 11 = .ok (.iload_n 2, 1) := by decide +kernel
theorem dX12_say_12 : decode cX12_say 12 = .ok (.invokevirtual 393, 3) := by decide +kernel
theorem dX12_say_15 : decode cX12_say 15 = .ok (.ifCond .ne 5, 3) := by decide +kernel
theorem dX12_say_18 : decode cX12_say 18 = .ok (.iconst (-1), 1) := by decide +kernel
theorem dX12_say_19 : decode cX12_say 19 = .ok (.ireturn, 1) := by decide +kernel
theorem dX12_say_20 : decode cX12_say 20 = .ok (.aload_n 0, 1) := by decide +kernel
theorem dX12_say_21 : decode cX12_say 21 = .ok (.invokevirtual 386, 3) := by decide +kernel
theorem dX12_say_24 : decode cX12_say 24 = .ok (.aload_n 0, 1) := by decide +kernel
theorem dX12_say_25 : decode cX12_say 25 = .ok (.getfield 61, 3) := by decide +kernel
theorem dX12_say_28 : decode cX12_say 28 = .ok (.bipush 6, 2) := by decide +kernel
theorem dX12_say_30 : decode cX12_say 30 = .ok (.iload_n 1, 1) := by decide +kernel
theorem dX12_say_31 : decode cX12_say 31 = .ok (.imul, 1) := by decide +kernel
theorem dX12_say_32 : decode cX12_say 32 = .ok (.iconst 2, 1) := by decide +kernel
