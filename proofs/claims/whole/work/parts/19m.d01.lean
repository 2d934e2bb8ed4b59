theorem dX2_init_0 : decode cX2_init 0 = .ok (.aload_n 0, 1) := by decide +kernel
theorem dX2_init_1 : decode cX2_init 1 = .ok (.invokespecial 3, 3) := by decide +kernel
theorem dX2_init_4 : decode cX2_init 4 = .ok (.aload_n 0, 1) := by decide +kernel
theorem dX2_init_5 : decode cX2_init 5 = .ok (.bipush 8, 2) := by decide +kernel
theorem dX2_init_7 : decode cX2_init 7 = .ok (.newarray .boolean, 2) := by decide +kernel
theorem dX2_init_9 : decode cX2_init 9 = .ok (.putfield 11, 3) := by decide +kernel
theorem dX2_init_12 : decode cX2_init 12 = .ok (.aload_n 0, 1) := by decide +kernel
theorem dX2_init_13 : decode cX2_init 13 = .ok (.bipush 8, 2) := by decide +kernel
theorem dX2_init_15 : decode cX2_init 15 = .ok (.newarray .int, 2) := by decide +kernel
theorem dX2_init_17 : decode cX2_init 17 = .ok (.putfield 15, 3) := by decide +kernel
theorem dX2_init_20 : decode cX2_init 20 = .ok (.aload_n 0, 1) := by decide +kernel
theorem dX2_init_21 : decode cX2_init 21 = .ok (.bipush 10, 2) := by decide +kernel
theorem dX2_init_23 : decode cX2_init 23 = .ok (.newarray .int, 2) := by decide +kernel
theorem dX2_init_25 : decode cX2_init 25 = .ok (.putfield 19, 3) := by decide +kernel
theorem dX2_init_28 : decode cX2_init 28 = .ok (.aload_n 0, 1) := by decide +kernel
theorem dX2_init_29 : decode cX2_init 29 = .ok (.bipush 10, 2) := by decide +kernel
theorem dX2_init_31 : decode cX2_init 31 = .ok (.newarray .boolean, 2) := by decide +kernel
theorem dX2_init_33 : decode cX2_init 33 = .ok (.putfield 22, 3) := by decide +kernel
theorem dX2_init_36 : decode cX2_init 36 = .ok (.aload_n 0, 1) := by decide +kernel
theorem dX2_init_37 : decode cX2_init 37 = .ok (.aload_n 1, 1) := by decide +kernel
theorem dX2_init_38 : decode cX2_init 38 = .ok (.putfield 25, 3) := by decide +kernel
theorem dX2_init_41 : decode cX2_init 41 = .ok (.aload_n 0, 1) := by decide +kernel
theorem dX2_init_42 : decode cX2_init 42 = .ok (.aload_n 2, 1) := by decide +kernel
theorem dX2_init_43 : decode cX2_init 43 = .ok (.putfield 29, 3) := by decide +kernel
theorem dX2_init_46 : decode cX2_init 46 = .ok (.aload_n 0, 1) := by decide +kernel
theorem dX2_init_47 : decode cX2_init 47 = .ok (.aload_n 3, 1) := by decide +kernel
theorem dX2_init_48 : decode cX2_init 48 = .ok (.putfield 33, 3) := by decide +kernel
theorem dX2_init_51 : decode cX2_init 51 = .ok (.return_, 1) := by decide +kernel
theorem dX2_clear_0 : decode cX2_clear 0 = .ok (.aload_n 0, 1) := by decide +kernel
theorem dX2_clear_1 : decode cX2_clear 1 = .ok (.iconst 0, 1) := by decide +kernel
theorem dX2_clear_2 : decode cX2_clear 2 = .ok (.putfield 37, 3) := by decide +kernel
theorem dX2_clear_5 : decode cX2_clear 5 = .ok (.aload_n 0, 1) := by decide +kernel
theorem dX2_clear_6 : decode cX2_clear 6 = .ok (.iconst 0, 1) := by decide +kernel
theorem dX2_clear_7 : decode cX2_clear 7 = .ok (.putfield 41, 3) := by decide +kernel
theorem dX2_clear_10 : decode cX2_clear 10 = .ok (.return_, 1) := by decide +kernel
theorem dX2_heard_0 : decode cX2_heard 0 = .ok (.aload_n 0, 1) := by decide +kernel
theorem dX2_heard_1 : decode cX2_heard 1 = .ok (.getfield 37, 3) := by decide +kernel
theorem dX2_heard_4 : decode cX2_heard 4 = .ok (.ireturn, 1) := by decide +kernel
theorem dX2_looks_0 : decode cX2_looks 0 = .ok (.aload_n 0, 1) := by decide +kernel
theorem dX2_looks_1 : decode cX2_looks 1 = .ok (.getfield 41, 3) := by decide +kernel
theorem dX2_looks_4 : decode cX2_looks 4 = .ok (.ireturn, 1) := by decide +kernel
theorem dX2_addHeard_0 : decode cX2_addHeard 0 = .ok (.aload_n 0, 1) := by decide +kernel
theorem dX2_addHeard_1 : decode cX2_addHeard 1 = .ok (.getfield 37, 3) := by decide +kernel
theorem dX2_addHeard_4 : decode cX2_addHeard 4 = .ok (.bipush 8, 2) := by decide +kernel
theorem dX2_addHeard_6 : decode cX2_addHeard 6 = .ok (.if_icmp .ne 5, 3) := by decide +kernel
theorem dX2_addHeard_9 : decode cX2_addHeard 9 = .ok (.iconst (-1), 1) := by decide +kernel
theorem dX2_addHeard_10 : decode cX2_addHeard 10 = .ok (.ireturn, 1) := by decide +kernel
theorem dX2_addHeard_11 : decode cX2_addHeard 11 = .ok (.aload_n 0, 1) := by decide +kernel
theorem dX2_addHeard_12 : decode cX2_addHeard 12 = .ok (.getfield 11, 3) := by decide +kernel
theorem dX2_addHeard_15 : decode cX2_addHeard 15 = .ok (.aload_n 0, 1) := by decide +kernel
theorem dX2_addHeard_16 : decode cX2_addHeard 16 = .ok (.getfield 37, 3) := by decide +kernel
theorem dX2_addHeard_19 : decode cX2_addHeard 19 = .ok (.iload_n 1, 1) := by decide +kernel
theorem dX2_addHeard_20 : decode cX2_addHeard 20 = .ok (.bastore, 1) := by decide +kernel
theorem dX2_addHeard_21 : decode cX2_addHeard 21 = .ok (.aload_n 0, 1) := by decide +kernel
theorem dX2_addHeard_22 : decode cX2_addHeard 22 = .ok (.getfield 15, 3) := by decide +kernel
theorem dX2_addHeard_25 : decode cX2_addHeard 25 = .ok (.aload_n 0, 1) := by decide +kernel
theorem dX2_addHeard_26 : decode cX2_addHeard 26 = .ok (.getfield 37, 3) := by decide +kernel
theorem dX2_addHeard_29 : decode cX2_addHeard 29 = .ok (.iload_n 2, 1) := by decide +kernel
theorem dX2_addHeard_30 : decode cX2_addHeard 30 = .ok (.iastore, 1) := by decide +kernel
theorem dX2_addHeard_31 : decode cX2_addHeard 31 = .ok (.aload_n 0, 1) := by decide +kernel
theorem dX2_addHeard_32 : decode cX2_addHeard 32 = .ok (.dup, 1) := by decide +kernel
theorem dX2_addHeard_33 : decode cX2_addHeard 33 = .ok (.getfield 37, 3) := by decide +kernel
theorem dX2_addHeard_36 : decode cX2_addHeard 36 = .ok (.iconst 1, 1) := by decide +kernel
theorem dX2_addHeard_37 : decode cX2_addHeard 37 = .ok (.iadd, 1) := by decide +kernel
theorem dX2_addHeard_38 : decode cX2_addHeard 38 = .ok (.putfield 37, 3) := by decide +kernel
theorem dX2_addHeard_41 : decode cX2_addHeard 41 = .ok (.aload_n 0, 1) := by decide +kernel
theorem dX2_addHeard_42 : decode cX2_addHeard 42 = .ok (.getfield 37, 3) := by decide +kernel
theorem dX2_addHeard_45 : decode cX2_addHeard 45 = .ok (.ireturn, 1) := by decide +kernel
theorem dX2_addLook_0 : decode cX2_addLook 0 = .ok (.aload_n 0, 1) := by decide +kernel
theorem dX2_addLook_1 : decode cX2_addLook 1 = .ok (.getfield 41, 3) := by decide +kernel
theorem dX2_addLook_4 : decode cX2_addLook 4 = .ok (.bipush 10, 2) := by decide +kernel
theorem dX2_addLook_6 : decode cX2_addLook 6 = .ok (.if_icmp .ne 5, 3) := by decide +kernel
theorem dX2_addLook_9 : decode cX2_addLook 9 = .ok (.iconst (-1), 1) := by decide +kernel
theorem dX2_addLook_10 : decode cX2_addLook 10 = .ok (.ireturn, 1) := by decide +kernel
theorem dX2_addLook_11 : decode cX2_addLook 11 = .ok (.aload_n 0, 1) := by decide +kernel
theorem dX2_addLook_12 : decode cX2_addLook 12 = .ok (.getfield 19, 3) := by decide +kernel
theorem dX2_addLook_15 : decode cX2_addLook 15 = .ok (.aload_n 0, 1) := by decide +kernel
theorem dX2_addLook_16 : decode cX2_addLook 16 = .ok (.getfield 41, 3) := by decide +kernel
theorem dX2_addLook_19 : decode cX2_addLook 19 = .ok (.iload_n 1, 1) := by decide +kernel
theorem dX2_addLook_20 : decode cX2_addLook 20 = .ok (.iastore, 1) := by decide +kernel
theorem dX2_addLook_21 : decode cX2_addLook 21 = .ok (.aload_n 0, 1) := by decide +kernel
theorem dX2_addLook_22 : decode cX2_addLook 22 = .ok (.getfield 22, 3) := by decide +kernel
theorem dX2_addLook_25 : decode cX2_addLook 25 = .ok (.aload_n 0, 1) := by decide +kernel
theorem dX2_addLook_26 : decode cX2_addLook 26 = .ok (.getfield 41, 3) := by decide +kernel
theorem dX2_addLook_29 : decode cX2_addLook 29 = .ok (.iload_n 2, 1) := by decide +kernel
theorem dX2_addLook_30 : decode cX2_addLook 30 = .ok (.bastore, 1) := by decide +kernel
theorem dX2_addLook_31 : decode cX2_addLook 31 = .ok (.aload_n 0, 1) := by decide +kernel
theorem dX2_addLook_32 : decode cX2_addLook 32 = .ok (.dup, 1) := by decide +kernel
theorem dX2_addLook_33 : decode cX2_addLook 33 = .ok (.getfield 41, 3) := by decide +kernel
theorem dX2_addLook_36 : decode cX2_addLook 36 = .ok (.iconst 1, 1) := by decide +kernel
theorem dX2_addLook_37 : decode cX2_addLook 37 = .ok (.iadd, 1) := by decide +kernel
theorem dX2_addLook_38 : decode cX2_addLook 38 = .ok (.putfield 41, 3) := by decide +kernel
theorem dX2_addLook_41 : decode cX2_addLook 41 = .ok (.aload_n 0, 1) := by decide +kernel
theorem dX2_addLook_42 : decode cX2_addLook 42 = .ok (.getfield 41, 3) := by decide +kernel
theorem dX2_addLook_45 : decode cX2_addLook 45 = .ok (.ireturn, 1) := by decide +kernel
theorem dX2_chanceOf_0 : decode cX2_chanceOf 0 = .ok (.aload_n 0, 1) := by decide +kernel
theorem dX2_chanceOf_1 : decode cX2_chanceOf 1 = .ok (.iload_n 1, 1) := by decide +kernel
theorem dX2_chanceOf_2 : decode cX2_chanceOf 2 = .ok (.invokevirtual 44, 3) := by decide +kernel
theorem dX2_chanceOf_5 : decode cX2_chanceOf 5 = .ok (.ifCond .ne 5, 3) := by decide +kernel
theorem dX2_chanceOf_8 : decode cX2_chanceOf 8 = .ok (.iconst 0, 1) := by decide +kernel
theorem dX2_chanceOf_9 : decode cX2_chanceOf 9 = .ok (.ireturn, 1) := by decide +kernel
theorem dX2_chanceOf_10 : decode cX2_chanceOf 10 = .ok (.iconst 0, 1) := by decide +kernel
theorem dX2_chanceOf_11 : decode cX2_chanceOf 11 = .ok (.istore_n 2, 1) := by decide +kernel
theorem dX2_chanceOf_12 : decode cX2_chanceOf 12 = .ok (.iconst 0, 1) := by decide +kernel
theorem dX2_chanceOf_13 : decode cX2_chanceOf 13 = .ok (.istore_n 3, 1) := by decide +kernel
theorem dX2_chanceOf_14 : decode cX2_chanceOf 14 = .ok (.iload_n 3, 1) := by decide +kernel
theorem dX2_chanceOf_15 : decode cX2_chanceOf 15 = .ok (.aload_n 0, 1) := by decide +kernel
theorem dX2_chanceOf_16 : decode cX2_chanceOf 16 = .ok (.getfield 25, 3) := by decide +kernel
theorem dX2_chanceOf_19 : decode cX2_chanceOf 19 = .ok (.invokevirtual 48, 3) := by decide +kernel
theorem dX2_chanceOf_22 : decode cX2_chanceOf 22 = .ok (.if_icmp .ge 29, 3) := by decide +kernel
theorem dX2_chanceOf_25 : decode cX2_chanceOf 25 = .ok (.aload_n 0, 1) := by decide +kernel
theorem dX2_chanceOf_26 : decode cX2_chanceOf 26 = .ok (.iload_n 3, 1) := by decide +kernel
theorem dX2_chanceOf_27 : decode cX2_chanceOf 27 = .ok (.invokevirtual 44, 3) := by decide +kernel
theorem dX2_chanceOf_30 : decode cX2_chanceOf 30 = .ok (.ifCond .eq 15, 3) := by decide +kernel
theorem dX2_chanceOf_33 : decode cX2_chanceOf 33 = .ok (.iload_n 2, 1) := by decide +kernel
theorem dX2_chanceOf_34 : decode cX2_chanceOf 34 = .ok (.aload_n 0, 1) := by decide +kernel
theorem dX2_chanceOf_35 : decode cX2_chanceOf 35 = .ok (.getfield 25, 3) := by decide +kernel
theorem dX2_chanceOf_38 : decode cX2_chanceOf 38 = .ok (.iload_n 3, 1) := by decide +kernel
theorem dX2_chanceOf_39 : decode cX2_chanceOf 39 = .ok (.iconst 0, 1) := by decide +kernel
theorem dX2_chanceOf_40 : decode cX2_chanceOf 40 = .ok (.invokevirtual 54, 3) := by decide +kernel
theorem dX2_chanceOf_43 : decode cX2_chanceOf 43 = .ok (.iadd, 1) := by decide +kernel
theorem dX2_chanceOf_44 : decode cX2_chanceOf 44 = .ok (.istore_n 2, 1) := by decide +kernel
theorem dX2_chanceOf_45 : decode cX2_chanceOf 45 = .ok (.iinc 3 1, 3) := by decide +kernel
theorem dX2_chanceOf_48 : decode cX2_chanceOf 48 = .ok (.goto (-34), 3) := by decide +kernel
theorem dX2_chanceOf_51 : decode cX2_chanceOf 51 = .ok (.iload_n 2, 1) := by decide +kernel
theorem dX2_chanceOf_52 : decode cX2_chanceOf 52 = .ok (.ifCond .ne 7, 3) := by decide +kernel
theorem dX2_chanceOf_55 : decode cX2_chanceOf 55 = .ok (.iconst 0, 1) := by decide +kernel
theorem dX2_chanceOf_56 : decode cX2_chanceOf 56 = .ok (.goto 17, 3) := by decide +kernel
theorem dX2_chanceOf_59 : decode cX2_chanceOf 59 = .ok (.ldc 58, 2) := by decide +kernel
theorem dX2_chanceOf_61 : decode cX2_chanceOf 61 = .ok (.aload_n 0, 1) := by decide +kernel
theorem dX2_chanceOf_62 : decode cX2_chanceOf 62 = .ok (.getfield 25, 3) := by decide +kernel
theorem dX2_chanceOf_65 : decode cX2_chanceOf 65 = .ok (.iload_n 1, 1) := by decide +kernel
theorem dX2_chanceOf_66 : decode cX2_chanceOf 66 = .ok (.iconst 0, 1) := by decide +kernel
theorem dX2_chanceOf_67 : decode cX2_chanceOf 67 = .ok (.invokevirtual 54, 3) := by decide +kernel
theorem dX2_chanceOf_70 : decode cX2_chanceOf 70 = .ok (.imul, 1) := by decide +kernel
theorem dX2_chanceOf_71 : decode cX2_chanceOf 71 = .ok (.iload_n 2, 1) := by decide +kernel
theorem dX2_chanceOf_72 : decode cX2_chanceOf 72 = .ok (.idiv, 1) := by decide +kernel
theorem dX2_chanceOf_73 : decode cX2_chanceOf 73 = .ok (.ireturn, 1) := by decide +kernel
theorem dX2_couldBe_0 : decode cX2_couldBe 0 = .ok (.aload_n 0, 1) := by decide +kernel
theorem dX2_couldBe_1 : decode cX2_couldBe 1 = .ok (.getfield 29, 3) := by decide +kernel
theorem dX2_couldBe_4 : decode cX2_couldBe 4 = .ok (.aload_n 0, 1) := by decide +kernel
theorem dX2_couldBe_5 : decode cX2_couldBe 5 = .ok (.getfield 33, 3) := by decide +kernel
theorem dX2_couldBe_8 : decode cX2_couldBe 8 = .ok (.iload_n 1, 1) := by decide +kernel
theorem dX2_couldBe_9 : decode cX2_couldBe 9 = .ok (.iconst 0, 1) := by decide +kernel
theorem dX2_couldBe_10 : decode cX2_couldBe 10 = .ok (.invokevirtual 59, 3) := by decide +kernel
theorem dX2_couldBe_13 : decode cX2_couldBe 13 = .ok (.istore_n 2, 1) := by decide +kernel
theorem dX2_couldBe_14 : decode cX2_couldBe 14 = .ok (.iconst 0, 1) := by decide +kernel
theorem dX2_couldBe_15 : decode cX2_couldBe 15 = .ok (.istore_n 3, 1) := by decide +kernel
theorem dX2_couldBe_16 : decode cX2_couldBe 16 = .ok (.iload_n 3, 1) := by decide +kernel
theorem dX2_couldBe_17 : decode cX2_couldBe 17 = .ok (.aload_n 0, 1) := by decide +kernel
theorem dX2_couldBe_18 : decode cX2_couldBe 18 = .ok (.getfield 37, 3) := by decide +kernel
theorem dX2_couldBe_21 : decode cX2_couldBe 21 = .ok (.if_icmp .ge 38, 3) := by decide +kernel
theorem dX2_couldBe_24 : decode cX2_couldBe 24 = .ok (.aload_n 0, 1) := by decide +kernel
theorem dX2_couldBe_25 : decode cX2_couldBe 25 = .ok (.getfield 11, 3) := by decide +kernel
theorem dX2_couldBe_28 : decode cX2_couldBe 28 = .ok (.iload_n 3, 1) := by decide +kernel
theorem dX2_couldBe_29 : decode cX2_couldBe 29 = .ok (.baload, 1) := by decide +kernel
theorem dX2_couldBe_30 : decode cX2_couldBe 30 = .ok (.aload_n 0, 1) := by decide +kernel
theorem dX2_couldBe_31 : decode cX2_couldBe 31 = .ok (.getfield 25, 3) := by decide +kernel
theorem dX2_couldBe_34 : decode cX2_couldBe 34 = .ok (.iload_n 1, 1) := by decide +kernel
theorem dX2_couldBe_35 : decode cX2_couldBe 35 = .ok (.invokevirtual 65, 3) := by decide +kernel
theorem dX2_couldBe_38 : decode cX2_couldBe 38 = .ok (.if_icmp .ne 13, 3) := by decide +kernel
theorem dX2_couldBe_41 : decode cX2_couldBe 41 = .ok (.iload_n 2, 1) := by decide +kernel
theorem dX2_couldBe_42 : decode cX2_couldBe 42 = .ok (.aload_n 0, 1) := by decide +kernel
theorem dX2_couldBe_43 : decode cX2_couldBe 43 = .ok (.getfield 15, 3) := by decide +kernel
theorem dX2_couldBe_46 : decode cX2_couldBe 46 = .ok (.iload_n 3, 1) := by decide +kernel
theorem dX2_couldBe_47 : decode cX2_couldBe 47 = .ok (.iaload, 1) := by decide +kernel
theorem dX2_couldBe_48 : decode cX2_couldBe 48 = .ok (.if_icmp .ge 5, 3) := by decide +kernel
theorem dX2_couldBe_51 : decode cX2_couldBe 51 = .ok (.iconst 0, 1) := by decide +kernel
theorem dX2_couldBe_52 : decode cX2_couldBe 52 = .ok (.ireturn, 1) := by decide +kernel
theorem dX2_couldBe_53 : decode cX2_couldBe 53 = .ok (.iinc 3 1, 3) := by decide +kernel
theorem dX2_couldBe_56 : decode cX2_couldBe 56 = .ok (.goto (-40), 3) := by decide +kernel
theorem dX2_couldBe_59 : decode cX2_couldBe 59 = .ok (.iconst 1, 1) := by decide +kernel
theorem dX2_couldBe_60 : decode cX2_couldBe 60 = .ok (.ireturn, 1) := by decide +kernel
theorem dX2_fitting_0 : decode cX2_fitting 0 = .ok (.iconst 0, 1) := by decide +kernel
theorem dX2_fitting_1 : decode cX2_fitting 1 = .ok (.istore_n 2, 1) := by decide +kernel
theorem dX2_fitting_2 : decode cX2_fitting 2 = .ok (.aload_n 0, 1) := by decide +kernel
theorem dX2_fitting_3 : decode cX2_fitting 3 = .ok (.iconst (-1), 1) := by decide +kernel
theorem dX2_fitting_4 : decode cX2_fitting 4 = .ok (.iconst (-1), 1) := by decide +kernel
theorem dX2_fitting_5 : decode cX2_fitting 5 = .ok (.invokevirtual 68, 3) := by decide +kernel
theorem dX2_fitting_8 : decode cX2_fitting 8 = .ok (.ifCond .eq 12, 3) := by decide +kernel
theorem dX2_fitting_11 : decode cX2_fitting 11 = .ok (.iload_n 1, 1) := by decide +kernel
theorem dX2_fitting_12 : decode cX2_fitting 12 = .ok (.ifCond .ne 5, 3) := by decide +kernel
theorem dX2_fitting_15 : decode cX2_fitting 15 = .ok (.iconst 0, 1) := by decide +kernel
theorem dX2_fitting_16 : decode cX2_fitting 16 = .ok (.ireturn, 1) := by decide +kernel
theorem dX2_fitting_17 : decode cX2_fitting 17 = .ok (.iinc 2 1, 3) := by decide +kernel
theorem dX2_fitting_20 : decode cX2_fitting 20 = .ok (.iconst 0, 1) := by decide +kernel
theorem dX2_fitting_21 : decode cX2_fitting 21 = .ok (.istore_n 3, 1) := by decide +kernel
theorem dX2_fitting_22 : decode cX2_fitting 22 = .ok (.iload_n 3, 1) := by decide +kernel
theorem dX2_fitting_23 : decode cX2_fitting 23 = .ok (.aload_n 0, 1) := by decide +kernel
theorem dX2_fitting_24 : decode cX2_fitting 24 = .ok (.getfield 25, 3) := by decide +kernel
theorem dX2_fitting_27 : decode cX2_fitting 27 = .ok (.invokevirtual 72, 3) := by decide +kernel
theorem dX2_fitting_30 : decode cX2_fitting 30 = .ok (.if_icmp .ge 61, 3) := by decide +kernel
theorem dX2_fitting_33 : decode cX2_fitting 33 = .ok (.iload_n 3, 1) := by decide +kernel
theorem dX2_fitting_34 : decode cX2_fitting 34 = .ok (.iconst 1, 1) := by decide +kernel
theorem dX2_fitting_35 : decode cX2_fitting 35 = .ok (.iadd, 1) := by decide +kernel
theorem dX2_fitting_36 : decode cX2_fitting 36 = .ok (.istore 4, 2) := by decide +kernel
theorem dX2_fitting_38 : decode cX2_fitting 38 = .ok (.iload 4, 2) := by decide +kernel
theorem dX2_fitting_40 : decode cX2_fitting 40 = .ok (.aload_n 0, 1) := by decide +kernel
theorem dX2_fitting_41 : decode cX2_fitting 41 = .ok (.getfield 25, 3) := by decide +kernel
theorem dX2_fitting_44 : decode cX2_fitting 44 = .ok (.invokevirtual 72, 3) := by decide +kernel
theorem dX2_fitting_47 : decode cX2_fitting 47 = .ok (.if_icmp .ge 38, 3) := by decide +kernel
theorem dX2_fitting_50 : decode cX2_fitting 50 = .ok (.aload_n 0, 1) := by decide +kernel
theorem dX2_fitting_51 : decode cX2_fitting 51 = .ok (.iload_n 3, 1) := by decide +kernel
theorem dX2_fitting_52 : decode cX2_fitting 52 = .ok (.iload 4, 2) := by decide +kernel
theorem dX2_fitting_54 : decode cX2_fitting 54 = .ok (.invokevirtual 68, 3) := by decide +kernel
theorem dX2_fitting_57 : decode cX2_fitting 57 = .ok (.ifCond .eq 22, 3) := by decide +kernel
theorem dX2_fitting_60 : decode cX2_fitting 60 = .ok (.iload_n 2, 1) := by decide +kernel
theorem dX2_fitting_61 : decode cX2_fitting 61 = .ok (.iload_n 1, 1) := by decide +kernel
theorem dX2_fitting_62 : decode cX2_fitting 62 = .ok (.if_icmp .ne 14, 3) := by decide +kernel
theorem dX2_fitting_65 : decode cX2_fitting 65 = .ok (.bipush 101, 2) := by decide +kernel
theorem dX2_fitting_67 : decode cX2_fitting 67 = .ok (.bipush 10, 2) := by decide +kernel
theorem dX2_fitting_69 : decode cX2_fitting 69 = .ok (.iload_n 3, 1) := by decide +kernel
theorem dX2_fitting_70 : decode cX2_fitting 70 = .ok (.imul, 1) := by decide +kernel
theorem dX2_fitting_71 : decode cX2_fitting 71 = .ok (.iadd, 1) := by decide +kernel
theorem dX2_fitting_72 : decode cX2_fitting 72 = .ok (.iload 4, 2) := by decide +kernel
theorem dX2_fitting_74 : decode cX2_fitting 74 = .ok (.iadd, 1) := by decide +kernel
theorem dX2_fitting_75 : decode cX2_fitting 75 = .ok (.ireturn, 1) := by decide +kernel
theorem dX2_fitting_76 : decode cX2_fitting 76 = .ok (.iinc 2 1, 3) := by decide +kernel
theorem dX2_fitting_79 : decode cX2_fitting 79 = .ok (.iinc 4 1, 3) := by decide +kernel
theorem dX2_fitting_82 : decode cX2_fitting 82 = .ok (.goto (-44), 3) := by decide +kernel
theorem dX2_fitting_85 : decode cX2_fitting 85 = .ok (.iinc 3 1, 3) := by decide +kernel
theorem dX2_fitting_88 : decode cX2_fitting 88 = .ok (.goto (-66), 3) := by decide +kernel
theorem dX2_fitting_91 : decode cX2_fitting 91 = .ok (.iload_n 1, 1) := by decide +kernel
theorem dX2_fitting_92 : decode cX2_fitting 92 = .ok (.iconst (-1), 1) := by decide +kernel
theorem dX2_fitting_93 : decode cX2_fitting 93 = .ok (.if_icmp .ne 7, 3) := by decide +kernel
theorem dX2_fitting_96 : decode cX2_fitting 96 = .ok (.iload_n 2, 1) := by decide +kernel
theorem dX2_fitting_97 : decode cX2_fitting 97 = .ok (.goto 4, 3) := by decide +kernel
theorem dX2_fitting_100 : decode cX2_fitting 100 = .ok (.iconst (-1), 1) := by decide +kernel
theorem dX2_fitting_101 : decode cX2_fitting 101 = .ok (.ireturn, 1) := by decide +kernel
theorem dX2_fits_0 : decode cX2_fits 0 = .ok (.iload_n 1, 1) := by decide +kernel
theorem dX2_fits_1 : decode cX2_fits 1 = .ok (.iconst (-1), 1) := by decide +kernel
theorem dX2_fits_2 : decode cX2_fits 2 = .ok (.if_icmp .eq 26, 3) := by decide +kernel
theorem dX2_fits_5 : decode cX2_fits 5 = .ok (.aload_n 0, 1) := by decide +kernel
theorem dX2_fits_6 : decode cX2_fits 6 = .ok (.getfield 25, 3) := by decide +kernel
theorem dX2_fits_9 : decode cX2_fits 9 = .ok (.iload_n 1, 1) := by decide +kernel
theorem dX2_fits_10 : decode cX2_fits 10 = .ok (.iconst 4, 1) := by decide +kernel
theorem dX2_fits_11 : decode cX2_fits 11 = .ok (.invokevirtual 75, 3) := by decide +kernel
theorem dX2_fits_14 : decode cX2_fits 14 = .ok (.aload_n 0, 1) := by decide +kernel
theorem dX2_fits_15 : decode cX2_fits 15 = .ok (.getfield 25, 3) := by decide +kernel
theorem dX2_fits_18 : decode cX2_fits 18 = .ok (.iload_n 2, 1) := by decide +kernel
theorem dX2_fits_19 : decode cX2_fits 19 = .ok (.iconst 4, 1) := by decide +kernel
theorem dX2_fits_20 : decode cX2_fits 20 = .ok (.invokevirtual 75, 3) := by decide +kernel
theorem dX2_fits_23 : decode cX2_fits 23 = .ok (.if_icmp .ne 5, 3) := by decide +kernel
theorem dX2_fits_26 : decode cX2_fits 26 = .ok (.iconst 0, 1) := by decide +kernel
theorem dX2_fits_27 : decode cX2_fits 27 = .ok (.ireturn, 1) := by decide +kernel
theorem dX2_fits_28 : decode cX2_fits 28 = .ok (.iconst 0, 1) := by decide +kernel
theorem dX2_fits_29 : decode cX2_fits 29 = .ok (.istore_n 3, 1) := by decide +kernel
theorem dX2_fits_30 : decode cX2_fits 30 = .ok (.iload_n 3, 1) := by decide +kernel
theorem dX2_fits_31 : decode cX2_fits 31 = .ok (.aload_n 0, 1) := by decide +kernel
theorem dX2_fits_32 : decode cX2_fits 32 = .ok (.getfield 41, 3) := by decide +kernel
theorem dX2_fits_35 : decode cX2_fits 35 = .ok (.if_icmp .ge 49, 3) := by decide +kernel
theorem dX2_fits_38 : decode cX2_fits 38 = .ok (.aload_n 0, 1) := by decide +kernel
theorem dX2_fits_39 : decode cX2_fits 39 = .ok (.getfield 19, 3) := by decide +kernel
theorem dX2_fits_42 : decode cX2_fits 42 = .ok (.iload_n 3, 1) := by decide +kernel
theorem dX2_fits_43 : decode cX2_fits 43 = .ok (.iaload, 1) := by decide +kernel
theorem dX2_fits_44 : decode cX2_fits 44 = .ok (.iload_n 1, 1) := by decide +kernel
theorem dX2_fits_45 : decode cX2_fits 45 = .ok (.if_icmp .eq 17, 3) := by decide +kernel
theorem dX2_fits_48 : decode cX2_fits 48 = .ok (.aload_n 0, 1) := by decide +kernel
theorem dX2_fits_49 : decode cX2_fits 49 = .ok (.getfield 19, 3) := by decide +kernel
theorem dX2_fits_52 : decode cX2_fits 52 = .ok (.iload_n 3, 1) := by decide +kernel
theorem dX2_fits_53 : decode cX2_fits 53 = .ok (.iaload, 1) := by decide +kernel
theorem dX2_fits_54 : decode cX2_fits 54 = .ok (.iload_n 2, 1) := by decide +kernel
theorem dX2_fits_55 : decode cX2_fits 55 = .ok (.if_icmp .eq 7, 3) := by decide +kernel
theorem dX2_fits_58 : decode cX2_fits 58 = .ok (.iconst 1, 1) := by decide +kernel
theorem dX2_fits_59 : decode cX2_fits 59 = .ok (.goto 4, 3) := by decide +kernel
theorem dX2_fits_62 : decode cX2_fits 62 = .ok (.iconst 0, 1) := by decide +kernel
theorem dX2_fits_63 : decode cX2_fits 63 = .ok (.istore 4, 2) := by decide +kernel
theorem dX2_fits_65 : decode cX2_fits 65 = .ok (.iload 4, 2) := by decide +kernel
theorem dX2_fits_67 : decode cX2_fits 67 = .ok (.aload_n 0, 1) := by decide +kernel
theorem dX2_fits_68 : decode cX2_fits 68 = .ok (.getfield 22, 3) := by decide +kernel
theorem dX2_fits_71 : decode cX2_fits 71 = .ok (.iload_n 3, 1) := by decide +kernel
theorem dX2_fits_72 : decode cX2_fits 72 = .ok (.baload, 1) := by decide +kernel
theorem dX2_fits_73 : decode cX2_fits 73 = .ok (.if_icmp .eq 5, 3) := by decide +kernel
theorem dX2_fits_76 : decode cX2_fits 76 = .ok (.iconst 0, 1) := by decide +kernel
theorem dX2_fits_77 : decode cX2_fits 77 = .ok (.ireturn, 1) := by decide +kernel
theorem dX2_fits_78 : decode cX2_fits 78 = .ok (.iinc 3 1, 3) := by decide +kernel
theorem dX2_fits_81 : decode cX2_fits 81 = .ok (.goto (-51), 3) := by decide +kernel
theorem dX2_fits_84 : decode cX2_fits 84 = .ok (.iconst 1, 1) := by decide +kernel
theorem dX2_fits_85 : decode cX2_fits 85 = .ok (.ireturn, 1) := by decide +kernel
theorem dX2_bestBerth_0 : decode cX2_bestBerth 0 = .ok (.aload_n 0, 1) := by decide +kernel
theorem dX2_bestBerth_1 : decode cX2_bestBerth 1 = .ok (.iconst (-1), 1) := by decide +kernel
theorem dX2_bestBerth_2 : decode cX2_bestBerth 2 = .ok (.invokevirtual 78, 3) := by decide +kernel
theorem dX2_bestBerth_5 : decode cX2_bestBerth 5 = .ok (.ifCond .ne 5, 3) := by decide +kernel
theorem dX2_bestBerth_8 : decode cX2_bestBerth 8 = .ok (.iconst (-1), 1) := by decide +kernel
theorem dX2_bestBerth_9 : decode cX2_bestBerth 9 = .ok (.ireturn, 1) := by decide +kernel
theorem dX2_bestBerth_10 : decode cX2_bestBerth 10 = .ok (.iconst (-1), 1) := by decide +kernel
theorem dX2_bestBerth_11 : decode cX2_bestBerth 11 = .ok (.istore_n 1, 1) := by decide +kernel
theorem dX2_bestBerth_12 : decode cX2_bestBerth 12 = .ok (.iconst 0, 1) := by decide +kernel
theorem dX2_bestBerth_13 : decode cX2_bestBerth 13 = .ok (.istore_n 2, 1) := by decide +kernel
theorem dX2_bestBerth_14 : decode cX2_bestBerth 14 = .ok (.iconst 0, 1) := by decide +kernel
theorem dX2_bestBerth_15 : decode cX2_bestBerth 15 = .ok (.istore_n 3, 1) := by decide +kernel
theorem dX2_bestBerth_16 : decode cX2_bestBerth 16 = .ok (.iload_n 3, 1) := by decide +kernel
theorem dX2_bestBerth_17 : decode cX2_bestBerth 17 = .ok (.aload_n 0, 1) := by decide +kernel
theorem dX2_bestBerth_18 : decode cX2_bestBerth 18 = .ok (.getfield 25, 3) := by decide +kernel
theorem dX2_bestBerth_21 : decode cX2_bestBerth 21 = .ok (.invokevirtual 72, 3) := by decide +kernel
theorem dX2_bestBerth_24 : decode cX2_bestBerth 24 = .ok (.if_icmp .ge 32, 3) := by decide +kernel
theorem dX2_bestBerth_27 : decode cX2_bestBerth 27 = .ok (.aload_n 0, 1) := by decide +kernel
theorem dX2_bestBerth_28 : decode cX2_bestBerth 28 = .ok (.iload_n 3, 1) := by decide +kernel
theorem dX2_bestBerth_29 : decode cX2_bestBerth 29 = .ok (.invokevirtual 82, 3) := by decide +kernel
theorem dX2_bestBerth_32 : decode cX2_bestBerth 32 = .ok (.istore 4, 2) := by decide +kernel
theorem dX2_bestBerth_34 : decode cX2_bestBerth 34 = .ok (.iload_n 1, 1) := by decide +kernel
theorem dX2_bestBerth_35 : decode cX2_bestBerth 35 = .ok (.iconst (-1), 1) := by decide +kernel
theorem dX2_bestBerth_36 : decode cX2_bestBerth 36 = .ok (.if_icmp .eq 9, 3) := by decide +kernel
theorem dX2_bestBerth_39 : decode cX2_bestBerth 39 = .ok (.iload 4, 2) := by decide +kernel
theorem dX2_bestBerth_41 : decode cX2_bestBerth 41 = .ok (.iload_n 2, 1) := by decide +kernel
theorem dX2_bestBerth_42 : decode cX2_bestBerth 42 = .ok (.if_icmp .ge 8, 3) := by decide +kernel
theorem dX2_bestBerth_45 : decode cX2_bestBerth 45 = .ok (.iload_n 3, 1) := by decide +kernel
theorem dX2_bestBerth_46 : decode cX2_bestBerth 46 = .ok (.istore_n 1, 1) := by decide +kernel
theorem dX2_bestBerth_47 : decode cX2_bestBerth 47 = .ok (.iload 4, 2) := by decide +kernel
theorem dX2_bestBerth_49 : decode cX2_bestBerth 49 = .ok (.istore_n 2, 1) := by decide +kernel
theorem dX2_bestBerth_50 : decode cX2_bestBerth 50 = .ok (.iinc 3 1, 3) := by decide +kernel
theorem dX2_bestBerth_53 : decode cX2_bestBerth 53 = .ok (.goto (-37), 3) := by decide +kernel
theorem dX2_bestBerth_56 : decode cX2_bestBerth 56 = .ok (.iload_n 1, 1) := by decide +kernel
theorem dX2_bestBerth_57 : decode cX2_bestBerth 57 = .ok (.ireturn, 1) := by decide +kernel
theorem dX2_apartAt_0 : decode cX2_apartAt 0 = .ok (.aload_n 0, 1) := by decide +kernel
theorem dX2_apartAt_1 : decode cX2_apartAt 1 = .ok (.iconst (-1), 1) := by decide +kernel
theorem dX2_apartAt_2 : decode cX2_apartAt 2 = .ok (.iconst (-1), 1) := by decide +kernel
theorem dX2_apartAt_3 : decode cX2_apartAt 3 = .ok (.invokevirtual 68, 3) := by decide +kernel
theorem dX2_apartAt_6 : decode cX2_apartAt 6 = .ok (.ifCond .eq 7, 3) := by decide +kernel
theorem dX2_apartAt_9 : decode cX2_apartAt 9 = .ok (.iconst 1, 1) := by decide +kernel
theorem dX2_apartAt_10 : decode cX2_apartAt 10 = .ok (.goto 4, 3) := by decide +kernel
theorem dX2_apartAt_13 : decode cX2_apartAt 13 = .ok (.iconst 0, 1) := by decide +kernel
theorem dX2_apartAt_14 : decode cX2_apartAt 14 = .ok (.istore_n 2, 1) := by decide +kernel
theorem dX2_apartAt_15 : decode cX2_apartAt 15 = .ok (.iconst 0, 1) := by decide +kernel
theorem dX2_apartAt_16 : decode cX2_apartAt 16 = .ok (.istore_n 3, 1) := by decide +kernel
theorem dX2_apartAt_17 : decode cX2_apartAt 17 = .ok (.iload_n 3, 1) := by decide +kernel
theorem dX2_apartAt_18 : decode cX2_apartAt 18 = .ok (.aload_n 0, 1) := by decide +kernel
theorem dX2_apartAt_19 : decode cX2_apartAt 19 = .ok (.getfield 25, 3) := by decide +kernel
theorem dX2_apartAt_22 : decode cX2_apartAt 22 = .ok (.invokevirtual 72, 3) := by decide +kernel
theorem dX2_apartAt_25 : decode cX2_apartAt 25 = .ok (.if_icmp .ge 61, 3) := by decide +kernel
theorem dX2_apartAt_28 : decode cX2_apartAt 28 = .ok (.iload_n 3, 1) := by decide +kernel
theorem dX2_apartAt_29 : decode cX2_apartAt 29 = .ok (.iconst 1, 1) := by decide +kernel
theorem dX2_apartAt_30 : decode cX2_apartAt 30 = .ok (.iadd, 1) := by decide +kernel
theorem dX2_apartAt_31 : decode cX2_apartAt 31 = .ok (.istore 4, 2) := by decide +kernel
theorem dX2_apartAt_33 : decode cX2_apartAt 33 = .ok (.iload 4, 2) := by decide +kernel
theorem dX2_apartAt_35 : decode cX2_apartAt 35 = .ok (.aload_n 0, 1) := by decide +kernel
theorem dX2_apartAt_36 : decode cX2_apartAt 36 = .ok (.getfield 25, 3) := by decide +kernel
theorem dX2_apartAt_39 : decode cX2_apartAt 39 = .ok (.invokevirtual 72, 3) := by decide +kernel
theorem dX2_apartAt_42 : decode cX2_apartAt 42 = .ok (.if_icmp .ge 38, 3) := by decide +kernel
theorem dX2_apartAt_45 : decode cX2_apartAt 45 = .ok (.aload_n 0, 1) := by decide +kernel
theorem dX2_apartAt_46 : decode cX2_apartAt 46 = .ok (.iload_n 3, 1) := by decide +kernel
theorem dX2_apartAt_47 : decode cX2_apartAt 47 = .ok (.iload 4, 2) := by decide +kernel
theorem dX2_apartAt_49 : decode cX2_apartAt 49 = .ok (.invokevirtual 68, 3) := by decide +kernel
theorem dX2_apartAt_52 : decode cX2_apartAt 52 = .ok (.ifCond .eq 22, 3) := by decide +kernel
theorem dX2_apartAt_55 : decode cX2_apartAt 55 = .ok (.iload_n 2, 1) := by decide +kernel
theorem dX2_apartAt_56 : decode cX2_apartAt 56 = .ok (.iload_n 1, 1) := by decide +kernel
theorem dX2_apartAt_57 : decode cX2_apartAt 57 = .ok (.iload_n 3, 1) := by decide +kernel
theorem dX2_apartAt_58 : decode cX2_apartAt 58 = .ok (.if_icmp .eq 9, 3) := by decide +kernel
theorem dX2_apartAt_61 : decode cX2_apartAt 61 = .ok (.iload_n 1, 1) := by decide +kernel
theorem dX2_apartAt_62 : decode cX2_apartAt 62 = .ok (.iload 4, 2) := by decide +kernel
theorem dX2_apartAt_64 : decode cX2_apartAt 64 = .ok (.if_icmp .ne 7, 3) := by decide +kernel
theorem dX2_apartAt_67 : decode cX2_apartAt 67 = .ok (.iconst (-1), 1) := by decide +kernel
theorem dX2_apartAt_68 : decode cX2_apartAt 68 = .ok (.goto 4, 3) := by decide +kernel
theorem dX2_apartAt_71 : decode cX2_apartAt 71 = .ok (.iconst 1, 1) := by decide +kernel
theorem dX2_apartAt_72 : decode cX2_apartAt 72 = .ok (.iadd, 1) := by decide +kernel
theorem dX2_apartAt_73 : decode cX2_apartAt 73 = .ok (.istore_n 2, 1) := by decide +kernel
theorem dX2_apartAt_74 : decode cX2_apartAt 74 = .ok (.iinc 4 1, 3) := by decide +kernel
theorem dX2_apartAt_77 : decode cX2_apartAt 77 = .ok (.goto (-44), 3) := by decide +kernel
theorem dX2_apartAt_80 : decode cX2_apartAt 80 = .ok (.iinc 3 1, 3) := by decide +kernel
theorem dX2_apartAt_83 : decode cX2_apartAt 83 = .ok (.goto (-66), 3) := by decide +kernel
theorem dX2_apartAt_86 : decode cX2_apartAt 86 = .ok (.iload_n 2, 1) := by decide +kernel
theorem dX2_apartAt_87 : decode cX2_apartAt 87 = .ok (.invokestatic 85, 3) := by decide +kernel
theorem dX2_apartAt_90 : decode cX2_apartAt 90 = .ok (.ireturn, 1) := by decide +kernel
theorem dX2_headSets_0 : decode cX2_headSets 0 = .ok (.iconst 0, 1) := by decide +kernel
theorem dX2_headSets_1 : decode cX2_headSets 1 = .ok (.istore_n 3, 1) := by decide +kernel
theorem dX2_headSets_2 : decode cX2_headSets 2 = .ok (.iconst 0, 1) := by decide +kernel
theorem dX2_headSets_3 : decode cX2_headSets 3 = .ok (.istore 4, 2) := by decide +kernel
theorem dX2_headSets_5 : decode cX2_headSets 5 = .ok (.iload 4, 2) := by decide +kernel
theorem dX2_headSets_7 : decode cX2_headSets 7 = .ok (.aload_n 0, 1) := by decide +kernel
theorem dX2_headSets_8 : decode cX2_headSets 8 = .ok (.getfield 25, 3) := by decide +kernel
theorem dX2_headSets_11 : decode cX2_headSets 11 = .ok (.invokevirtual 72, 3) := by decide +kernel
theorem dX2_headSets_14 : decode cX2_headSets 14 = .ok (.if_icmp .ge 28, 3) := by decide +kernel
theorem dX2_headSets_17 : decode cX2_headSets 17 = .ok (.aload_n 0, 1) := by decide +kernel
theorem dX2_headSets_18 : decode cX2_headSets 18 = .ok (.getfield 25, 3) := by decide +kernel
theorem dX2_headSets_21 : decode cX2_headSets 21 = .ok (.iload 4, 2) := by decide +kernel
theorem dX2_headSets_23 : decode cX2_headSets 23 = .ok (.invokevirtual 90, 3) := by decide +kernel
theorem dX2_headSets_26 : decode cX2_headSets 26 = .ok (.ifCond .ne 10, 3) := by decide +kernel
theorem dX2_headSets_29 : decode cX2_headSets 29 = .ok (.iload_n 3, 1) := by decide +kernel
theorem dX2_headSets_30 : decode cX2_headSets 30 = .ok (.iconst 1, 1) := by decide +kernel
theorem dX2_headSets_31 : decode cX2_headSets 31 = .ok (.iload 4, 2) := by decide +kernel
theorem dX2_headSets_33 : decode cX2_headSets 33 = .ok (.ishl, 1) := by decide +kernel
theorem dX2_headSets_34 : decode cX2_headSets 34 = .ok (.ior, 1) := by decide +kernel
theorem dX2_headSets_35 : decode cX2_headSets 35 = .ok (.istore_n 3, 1) := by decide +kernel
theorem dX2_headSets_36 : decode cX2_headSets 36 = .ok (.iinc 4 1, 3) := by decide +kernel
theorem dX2_headSets_39 : decode cX2_headSets 39 = .ok (.goto (-34), 3) := by decide +kernel
theorem dX2_headSets_42 : decode cX2_headSets 42 = .ok (.iconst 0, 1) := by decide +kernel
theorem dX2_headSets_43 : decode cX2_headSets 43 = .ok (.istore 4, 2) := by decide +kernel
theorem dX2_headSets_45 : decode cX2_headSets 45 = .ok (.iconst 0, 1) := by decide +kernel
theorem dX2_headSets_46 : decode cX2_headSets 46 = .ok (.istore 5, 2) := by decide +kernel
theorem dX2_headSets_48 : decode cX2_headSets 48 = .ok (.iload 5, 2) := by decide +kernel
theorem dX2_headSets_50 : decode cX2_headSets 50 = .ok (.iconst 1, 1) := by decide +kernel
theorem dX2_headSets_51 : decode cX2_headSets 51 = .ok (.aload_n 0, 1) := by decide +kernel
theorem dX2_headSets_52 : decode cX2_headSets 52 = .ok (.getfield 25, 3) := by decide +kernel
theorem dX2_headSets_55 : decode cX2_headSets 55 = .ok (.invokevirtual 72, 3) := by decide +kernel
theorem dX2_headSets_58 : decode cX2_headSets 58 = .ok (.ishl, 1) := by decide +kernel
theorem dX2_headSets_59 : decode cX2_headSets 59 = .ok (.if_icmp .ge 47, 3) := by decide +kernel
theorem dX2_headSets_62 : decode cX2_headSets 62 = .ok (.iload 5, 2) := by decide +kernel
theorem dX2_headSets_64 : decode cX2_headSets 64 = .ok (.iload_n 3, 1) := by decide +kernel
theorem dX2_headSets_65 : decode cX2_headSets 65 = .ok (.iconst (-1), 1) := by decide +kernel
theorem dX2_headSets_66 : decode cX2_headSets 66 = .ok (.ixor, 1) := by decide +kernel
theorem dX2_headSets_67 : decode cX2_headSets 67 = .ok (.iand, 1) := by decide +kernel
theorem dX2_headSets_68 : decode cX2_headSets 68 = .ok (.ifCond .ne 32, 3) := by decide +kernel
theorem dX2_headSets_71 : decode cX2_headSets 71 = .ok (.aload_n 0, 1) := by decide +kernel
theorem dX2_headSets_72 : decode cX2_headSets 72 = .ok (.getfield 25, 3) := by decide +kernel
theorem dX2_headSets_75 : decode cX2_headSets 75 = .ok (.invokevirtual 93, 3) := by decide +kernel
theorem dX2_headSets_78 : decode cX2_headSets 78 = .ok (.iload 5, 2) := by decide +kernel
theorem dX2_headSets_80 : decode cX2_headSets 80 = .ok (.invokestatic 96, 3) := by decide +kernel
theorem dX2_headSets_83 : decode cX2_headSets 83 = .ok (.iadd, 1) := by decide +kernel
theorem dX2_headSets_84 : decode cX2_headSets 84 = .ok (.iload_n 1, 1) := by decide +kernel
theorem dX2_headSets_85 : decode cX2_headSets 85 = .ok (.if_icmp .ne 15, 3) := by decide +kernel
theorem dX2_headSets_88 : decode cX2_headSets 88 = .ok (.iload 4, 2) := by decide +kernel
theorem dX2_headSets_90 : decode cX2_headSets 90 = .ok (.iload_n 2, 1) := by decide +kernel
theorem dX2_headSets_91 : decode cX2_headSets 91 = .ok (.if_icmp .ne 6, 3) := by decide +kernel
theorem dX2_headSets_94 : decode cX2_headSets 94 = .ok (.iload 5, 2) := by decide +kernel
theorem dX2_headSets_96 : decode cX2_headSets 96 = .ok (.ireturn, 1) := by decide +kernel
theorem dX2_headSets_97 : decode cX2_headSets 97 = .ok (.iinc 4 1, 3) := by decide +kernel
theorem dX2_headSets_100 : decode cX2_headSets 100 = .ok (.iinc 5 1, 3) := by decide +kernel
theorem dX2_headSets_103 : decode cX2_headSets 103 = .ok (.goto (-55), 3) := by decide +kernel
theorem dX2_headSets_106 : decode cX2_headSets 106 = .ok (.iload_n 2, 1) := by decide +kernel
theorem dX2_headSets_107 : decode cX2_headSets 107 = .ok (.iconst (-1), 1) := by decide +kernel
theorem dX2_headSets_108 : decode cX2_headSets 108 = .ok (.if_icmp .ne 8, 3) := by decide +kernel
theorem dX2_headSets_111 : decode cX2_headSets 111 = .ok (.iload 4, 2) := by decide +kernel
theorem dX2_headSets_113 : decode cX2_headSets 113 = .ok (.goto 4, 3) := by decide +kernel
theorem dX2_headSets_116 : decode cX2_headSets 116 = .ok (.iconst (-1), 1) := by decide +kernel
theorem dX2_headSets_117 : decode cX2_headSets 117 = .ok (.ireturn, 1) := by decide +kernel
theorem dX2_officersWaking_0 : decode cX2_officersWaking 0 = .ok (.iconst 0, 1) := by decide +kernel
theorem dX2_officersWaking_1 : decode cX2_officersWaking 1 = .ok (.istore_n 2, 1) := by decide +kernel
theorem dX2_officersWaking_2 : decode cX2_officersWaking 2 = .ok (.iconst 0, 1) := by decide +kernel
theorem dX2_officersWaking_3 : decode cX2_officersWaking 3 = .ok (.istore_n 3, 1) := by decide +kernel
theorem dX2_officersWaking_4 : decode cX2_officersWaking 4 = .ok (.iload_n 3, 1) := by decide +kernel
theorem dX2_officersWaking_5 : decode cX2_officersWaking 5 = .ok (.aload_n 0, 1) := by decide +kernel
theorem dX2_officersWaking_6 : decode cX2_officersWaking 6 = .ok (.getfield 25, 3) := by decide +kernel
theorem dX2_officersWaking_9 : decode cX2_officersWaking 9 = .ok (.invokevirtual 48, 3) := by decide +kernel
theorem dX2_officersWaking_12 : decode cX2_officersWaking 12 = .ok (.if_icmp .ge 82, 3) := by decide +kernel
theorem dX2_officersWaking_15 : decode cX2_officersWaking 15 = .ok (.iconst 0, 1) := by decide +kernel
theorem dX2_officersWaking_16 : decode cX2_officersWaking 16 = .ok (.istore 4, 2) := by decide +kernel
theorem dX2_officersWaking_18 : decode cX2_officersWaking 18 = .ok (.iconst 0, 1) := by decide +kernel
theorem dX2_officersWaking_19 : decode cX2_officersWaking 19 = .ok (.istore 5, 2) := by decide +kernel
theorem dX2_officersWaking_21 : decode cX2_officersWaking 21 = .ok (.iload 5, 2) := by decide +kernel
theorem dX2_officersWaking_23 : decode cX2_officersWaking 23 = .ok (.aload_n 0, 1) := by decide +kernel
theorem dX2_officersWaking_24 : decode cX2_officersWaking 24 = .ok (.getfield 25, 3) := by decide +kernel
theorem dX2_officersWaking_27 : decode cX2_officersWaking 27 = .ok (.invokevirtual 93, 3) := by decide +kernel
theorem dX2_officersWaking_30 : decode cX2_officersWaking 30 = .ok (.if_icmp .ge 46, 3) := by decide +kernel
theorem dX2_officersWaking_33 : decode cX2_officersWaking 33 = .ok (.aload_n 0, 1) := by decide +kernel
theorem dX2_officersWaking_34 : decode cX2_officersWaking 34 = .ok (.getfield 33, 3) := by decide +kernel
theorem dX2_officersWaking_37 : decode cX2_officersWaking 37 = .ok (.iload 5, 2) := by decide +kernel
theorem dX2_officersWaking_39 : decode cX2_officersWaking 39 = .ok (.invokevirtual 101, 3) := by decide +kernel
theorem dX2_officersWaking_42 : decode cX2_officersWaking 42 = .ok (.istore 6, 2) := by decide +kernel
theorem dX2_officersWaking_44 : decode cX2_officersWaking 44 = .ok (.aload_n 0, 1) := by decide +kernel
theorem dX2_officersWaking_45 : decode cX2_officersWaking 45 = .ok (.getfield 29, 3) := by decide +kernel
theorem dX2_officersWaking_48 : decode cX2_officersWaking 48 = .ok (.aload_n 0, 1) := by decide +kernel
theorem dX2_officersWaking_49 : decode cX2_officersWaking 49 = .ok (.getfield 33, 3) := by decide +kernel
theorem dX2_officersWaking_52 : decode cX2_officersWaking 52 = .ok (.iload 6, 2) := by decide +kernel
theorem dX2_officersWaking_54 : decode cX2_officersWaking 54 = .ok (.iload_n 3, 1) := by decide +kernel
theorem dX2_officersWaking_55 : decode cX2_officersWaking 55 = .ok (.invokevirtual 106, 3) := by decide +kernel
theorem dX2_officersWaking_58 : decode cX2_officersWaking 58 = .ok (.ifCond .eq 12, 3) := by decide +kernel
theorem dX2_officersWaking_61 : decode cX2_officersWaking 61 = .ok (.iload 4, 2) := by decide +kernel
theorem dX2_officersWaking_63 : decode cX2_officersWaking 63 = .ok (.iconst 1, 1) := by decide +kernel
theorem dX2_officersWaking_64 : decode cX2_officersWaking 64 = .ok (.iload 6, 2) := by decide +kernel
theorem dX2_officersWaking_66 : decode cX2_officersWaking 66 = .ok (.ishl, 1) := by decide +kernel
theorem dX2_officersWaking_67 : decode cX2_officersWaking 67 = .ok (.ior, 1) := by decide +kernel
theorem dX2_officersWaking_68 : decode cX2_officersWaking 68 = .ok (.istore 4, 2) := by decide +kernel
theorem dX2_officersWaking_70 : decode cX2_officersWaking 70 = .ok (.iinc 5 1, 3) := by decide +kernel
theorem dX2_officersWaking_73 : decode cX2_officersWaking 73 = .ok (.goto (-52), 3) := by decide +kernel
theorem dX2_officersWaking_76 : decode cX2_officersWaking 76 = .ok (.iload 4, 2) := by decide +kernel
theorem dX2_officersWaking_78 : decode cX2_officersWaking 78 = .ok (.iload_n 1, 1) := by decide +kernel
theorem dX2_officersWaking_79 : decode cX2_officersWaking 79 = .ok (.if_icmp .ne 9, 3) := by decide +kernel
theorem dX2_officersWaking_82 : decode cX2_officersWaking 82 = .ok (.iload_n 2, 1) := by decide +kernel
theorem dX2_officersWaking_83 : decode cX2_officersWaking 83 = .ok (.iconst 1, 1) := by decide +kernel
theorem dX2_officersWaking_84 : decode cX2_officersWaking 84 = .ok (.iload_n 3, 1) := by decide +kernel
theorem dX2_officersWaking_85 : decode cX2_officersWaking 85 = .ok (.ishl, 1) := by decide +kernel
theorem dX2_officersWaking_86 : decode cX2_officersWaking 86 = .ok (.ior, 1) := by decide +kernel
theorem dX2_officersWaking_87 : decode cX2_officersWaking 87 = .ok (.istore_n 2, 1) := by decide +kernel
theorem dX2_officersWaking_88 : decode cX2_officersWaking 88 = .ok (.iinc 3 1, 3) := by decide +kernel
theorem dX2_officersWaking_91 : decode cX2_officersWaking 91 = .ok (.goto (-87), 3) := by decide +kernel
theorem dX2_officersWaking_94 : decode cX2_officersWaking 94 = .ok (.iload_n 2, 1) := by decide +kernel
theorem dX2_officersWaking_95 : decode cX2_officersWaking 95 = .ok (.ireturn, 1) := by decide +kernel
theorem dX3_init_0 : decode cX3_init 0 = .ok (.aload_n 0, 1) := by decide +kernel
theorem dX3_init_1 : decode cX3_init 1 = .ok (.invokespecial 3, 3) := by decide +kernel
theorem dX3_init_4 : decode cX3_init 4 = .ok (.aload_n 0, 1) := by decide +kernel
theorem dX3_init_5 : decode cX3_init 5 = .ok (.bipush 6, 2) := by decide +kernel
theorem dX3_init_7 : decode cX3_init 7 = .ok (.newarray .int, 2) := by decide +kernel
theorem dX3_init_9 : decode cX3_init 9 = .ok (.putfield 11, 3) := by decide +kernel
theorem dX3_init_12 : decode cX3_init 12 = .ok (.aload_n 0, 1) := by decide +kernel
theorem dX3_init_13 : decode cX3_init 13 = .ok (.aload_n 1, 1) := by decide +kernel
theorem dX3_init_14 : decode cX3_init 14 = .ok (.putfield 17, 3) := by decide +kernel
theorem dX3_init_17 : decode cX3_init 17 = .ok (.return_, 1) := by decide +kernel
theorem dX3_hold_0 : decode cX3_hold 0 = .ok (.aload_n 0, 1) := by decide +kernel
theorem dX3_hold_1 : decode cX3_hold 1 = .ok (.aload_n 1, 1) := by decide +kernel
theorem dX3_hold_2 : decode cX3_hold 2 = .ok (.putfield 21, 3) := by decide +kernel
theorem dX3_hold_5 : decode cX3_hold 5 = .ok (.return_, 1) := by decide +kernel
theorem dX3_sleepLost_0 : decode cX3_sleepLost 0 = .ok (.aload_n 0, 1) := by decide +kernel
theorem dX3_sleepLost_1 : decode cX3_sleepLost 1 = .ok (.getfield 25, 3) := by decide +kernel
theorem dX3_sleepLost_4 : decode cX3_sleepLost 4 = .ok (.ireturn, 1) := by decide +kernel
theorem dX3_lastFetched_0 : decode cX3_lastFetched 0 = .ok (.aload_n 0, 1) := by decide +kernel
theorem dX3_lastFetched_1 : decode cX3_lastFetched 1 = .ok (.getfield 29, 3) := by decide +kernel
theorem dX3_lastFetched_4 : decode cX3_lastFetched 4 = .ok (.ireturn, 1) := by decide +kernel
theorem dX3_lossByHand_0 : decode cX3_lossByHand 0 = .ok (.aload_n 0, 1) := by decide +kernel
theorem dX3_lossByHand_1 : decode cX3_lossByHand 1 = .ok (.aload_n 1, 1) := by decide +kernel
theorem dX3_lossByHand_2 : decode cX3_lossByHand 2 = .ok (.iload_n 2, 1) := by decide +kernel
theorem dX3_lossByHand_3 : decode cX3_lossByHand 3 = .ok (.iconst 0, 1) := by decide +kernel
theorem dX3_lossByHand_4 : decode cX3_lossByHand 4 = .ok (.bipush 9, 2) := by decide +kernel
theorem dX3_lossByHand_6 : decode cX3_lossByHand 6 = .ok (.invokevirtual 32, 3) := by decide +kernel
theorem dX3_lossByHand_9 : decode cX3_lossByHand 9 = .ok (.ireturn, 1) := by decide +kernel
theorem dX3_lossOfAllByHand_0 : decode cX3_lossOfAllByHand 0 = .ok (.iconst 0, 1) := by decide +kernel
theorem dX3_lossOfAllByHand_1 : decode cX3_lossOfAllByHand 1 = .ok (.istore_n 2, 1) := by decide +kernel
theorem dX3_lossOfAllByHand_2 : decode cX3_lossOfAllByHand 2 = .ok (.iconst 0, 1) := by decide +kernel
theorem dX3_lossOfAllByHand_3 : decode cX3_lossOfAllByHand 3 = .ok (.istore_n 3, 1) := by decide +kernel
theorem dX3_lossOfAllByHand_4 : decode cX3_lossOfAllByHand 4 = .ok (.iload_n 3, 1) := by decide +kernel
theorem dX3_lossOfAllByHand_5 : decode cX3_lossOfAllByHand 5 = .ok (.aload_n 0, 1) := by decide +kernel
theorem dX3_lossOfAllByHand_6 : decode cX3_lossOfAllByHand 6 = .ok (.getfield 17, 3) := by decide +kernel
theorem dX3_lossOfAllByHand_9 : decode cX3_lossOfAllByHand 9 = .ok (.invokevirtual 36, 3) := by decide +kernel
theorem dX3_lossOfAllByHand_12 : decode cX3_lossOfAllByHand 12 = .ok (.if_icmp .ge 22, 3) := by decide +kernel
theorem dX3_lossOfAllByHand_15 : decode cX3_lossOfAllByHand 15 = .ok (.iload_n 2, 1) := by decide +kernel
theorem dX3_lossOfAllByHand_16 : decode cX3_lossOfAllByHand 16 = .ok (.aload_n 0, 1) := by decide +kernel
theorem dX3_lossOfAllByHand_17 : decode cX3_lossOfAllByHand 17 = .ok (.aload_n 1, 1) := by decide +kernel
theorem dX3_lossOfAllByHand_18 : decode cX3_lossOfAllByHand 18 = .ok (.aload_n 1, 1) := by decide +kernel
theorem dX3_lossOfAllByHand_19 : decode cX3_lossOfAllByHand 19 = .ok (.iload_n 3, 1) := by decide +kernel
theorem dX3_lossOfAllByHand_20 : decode cX3_lossOfAllByHand 20 = .ok (.invokevirtual 42, 3) := by decide +kernel
theorem dX3_lossOfAllByHand_23 : decode cX3_lossOfAllByHand 23 = .ok (.invokevirtual 48, 3) := by decide +kernel
theorem dX3_lossOfAllByHand_26 : decode cX3_lossOfAllByHand 26 = .ok (.iadd, 1) := by decide +kernel
theorem dX3_lossOfAllByHand_27 : decode cX3_lossOfAllByHand 27 = .ok (.istore_n 2, 1) := by decide +kernel
theorem dX3_lossOfAllByHand_28 : decode cX3_lossOfAllByHand 28 = .ok (.iinc 3 1, 3) := by decide +kernel
theorem dX3_lossOfAllByHand_31 : decode cX3_lossOfAllByHand 31 = .ok (.goto (-27), 3) := by decide +kernel
theorem dX3_lossOfAllByHand_34 : decode cX3_lossOfAllByHand 34 = .ok (.iload_n 2, 1) := by decide +kernel
theorem dX3_lossOfAllByHand_35 : decode cX3_lossOfAllByHand 35 = .ok (.ireturn, 1) := by decide +kernel
theorem dX3_lossOf_0 : decode cX3_lossOf 0 = .ok (.aload_n 0, 1) := by decide +kernel
theorem dX3_lossOf_1 : decode cX3_lossOf 1 = .ok (.getfield 17, 3) := by decide +kernel
theorem dX3_lossOf_4 : decode cX3_lossOf 4 = .ok (.iload_n 2, 1) := by decide +kernel
theorem dX3_lossOf_5 : decode cX3_lossOf 5 = .ok (.iconst 2, 1) := by decide +kernel
theorem dX3_lossOf_6 : decode cX3_lossOf 6 = .ok (.invokevirtual 52, 3) := by decide +kernel
theorem dX3_lossOf_9 : decode cX3_lossOf 9 = .ok (.istore 5, 2) := by decide +kernel
theorem dX3_lossOf_11 : decode cX3_lossOf 11 = .ok (.iload 5, 2) := by decide +kernel
theorem dX3_lossOf_13 : decode cX3_lossOf 13 = .ok (.iconst 5, 1) := by decide +kernel
theorem dX3_lossOf_14 : decode cX3_lossOf 14 = .ok (.iadd, 1) := by decide +kernel
theorem dX3_lossOf_15 : decode cX3_lossOf 15 = .ok (.iconst 5, 1) := by decide +kernel
theorem dX3_lossOf_16 : decode cX3_lossOf 16 = .ok (.aload_n 1, 1) := by decide +kernel
theorem dX3_lossOf_17 : decode cX3_lossOf 17 = .ok (.iload_n 2, 1) := by decide +kernel
theorem dX3_lossOf_18 : decode cX3_lossOf 18 = .ok (.invokevirtual 56, 3) := by decide +kernel
theorem dX3_lossOf_21 : decode cX3_lossOf 21 = .ok (.imul, 1) := by decide +kernel
theorem dX3_lossOf_22 : decode cX3_lossOf 22 = .ok (.iadd, 1) := by decide +kernel
theorem dX3_lossOf_23 : decode cX3_lossOf 23 = .ok (.istore 6, 2) := by decide +kernel
theorem dX3_lossOf_25 : decode cX3_lossOf 25 = .ok (.aload_n 0, 1) := by decide +kernel
theorem dX3_lossOf_26 : decode cX3_lossOf 26 = .ok (.getfield 21, 3) := by decide +kernel
theorem dX3_lossOf_29 : decode cX3_lossOf 29 = .ok (.ifnull 77, 3) := by decide +kernel
theorem dX3_lossOf_32 : decode cX3_lossOf 32 = .ok (.aload_n 0, 1) := by decide +kernel
theorem dX3_lossOf_33 : decode cX3_lossOf 33 = .ok (.getfield 11, 3) := by decide +kernel
theorem dX3_lossOf_36 : decode cX3_lossOf 36 = .ok (.iconst 0, 1) := by decide +kernel
theorem dX3_lossOf_37 : decode cX3_lossOf 37 = .ok (.iload 5, 2) := by decide +kernel
theorem dX3_lossOf_39 : decode cX3_lossOf 39 = .ok (.iastore, 1) := by decide +kernel
theorem dX3_lossOf_40 : decode cX3_lossOf 40 = .ok (.aload_n 0, 1) := by decide +kernel
theorem dX3_lossOf_41 : decode cX3_lossOf 41 = .ok (.getfield 11, 3) := by decide +kernel
theorem dX3_lossOf_44 : decode cX3_lossOf 44 = .ok (.iconst 1, 1) := by decide +kernel
theorem dX3_lossOf_45 : decode cX3_lossOf 45 = .ok (.aload_n 1, 1) := by decide +kernel
theorem dX3_lossOf_46 : decode cX3_lossOf 46 = .ok (.iload_n 2, 1) := by decide +kernel
theorem dX3_lossOf_47 : decode cX3_lossOf 47 = .ok (.invokevirtual 56, 3) := by decide +kernel
theorem dX3_lossOf_50 : decode cX3_lossOf 50 = .ok (.iastore, 1) := by decide +kernel
theorem dX3_lossOf_51 : decode cX3_lossOf 51 = .ok (.aload_n 0, 1) := by decide +kernel
theorem dX3_lossOf_52 : decode cX3_lossOf 52 = .ok (.getfield 11, 3) := by decide +kernel
theorem dX3_lossOf_55 : decode cX3_lossOf 55 = .ok (.iconst 2, 1) := by decide +kernel
theorem dX3_lossOf_56 : decode cX3_lossOf 56 = .ok (.iload_n 3, 1) := by decide +kernel
theorem dX3_lossOf_57 : decode cX3_lossOf 57 = .ok (.iastore, 1) := by decide +kernel
theorem dX3_lossOf_58 : decode cX3_lossOf 58 = .ok (.aload_n 0, 1) := by decide +kernel
theorem dX3_lossOf_59 : decode cX3_lossOf 59 = .ok (.getfield 11, 3) := by decide +kernel
theorem dX3_lossOf_62 : decode cX3_lossOf 62 = .ok (.iconst 3, 1) := by decide +kernel
theorem dX3_lossOf_63 : decode cX3_lossOf 63 = .ok (.aload_n 0, 1) := by decide +kernel
theorem dX3_lossOf_64 : decode cX3_lossOf 64 = .ok (.getfield 17, 3) := by decide +kernel
theorem dX3_lossOf_67 : decode cX3_lossOf 67 = .ok (.iload_n 2, 1) := by decide +kernel
theorem dX3_lossOf_68 : decode cX3_lossOf 68 = .ok (.iconst 5, 1) := by decide +kernel
theorem dX3_lossOf_69 : decode cX3_lossOf 69 = .ok (.invokevirtual 52, 3) := by decide +kernel
theorem dX3_lossOf_72 : decode cX3_lossOf 72 = .ok (.iastore, 1) := by decide +kernel
theorem dX3_lossOf_73 : decode cX3_lossOf 73 = .ok (.aload_n 0, 1) := by decide +kernel
theorem dX3_lossOf_74 : decode cX3_lossOf 74 = .ok (.getfield 11, 3) := by decide +kernel
theorem dX3_lossOf_77 : decode cX3_lossOf 77 = .ok (.iconst 4, 1) := by decide +kernel
theorem dX3_lossOf_78 : decode cX3_lossOf 78 = .ok (.iload 4, 2) := by decide +kernel
theorem dX3_lossOf_80 : decode cX3_lossOf 80 = .ok (.iastore, 1) := by decide +kernel
theorem dX3_lossOf_81 : decode cX3_lossOf 81 = .ok (.aload_n 0, 1) := by decide +kernel
theorem dX3_lossOf_82 : decode cX3_lossOf 82 = .ok (.getfield 11, 3) := by decide +kernel
theorem dX3_lossOf_85 : decode cX3_lossOf 85 = .ok (.iconst 5, 1) := by decide +kernel
theorem dX3_lossOf_86 : decode cX3_lossOf 86 = .ok (.aload_n 0, 1) := by decide +kernel
theorem dX3_lossOf_87 : decode cX3_lossOf 87 = .ok (.aload_n 1, 1) := by decide +kernel
theorem dX3_lossOf_88 : decode cX3_lossOf 88 = .ok (.iload_n 2, 1) := by decide +kernel
theorem dX3_lossOf_89 : decode cX3_lossOf 89 = .ok (.invokevirtual 59, 3) := by decide +kernel
theorem dX3_lossOf_92 : decode cX3_lossOf 92 = .ok (.iastore, 1) := by decide +kernel
theorem dX3_lossOf_93 : decode cX3_lossOf 93 = .ok (.aload_n 0, 1) := by decide +kernel
theorem dX3_lossOf_94 : decode cX3_lossOf 94 = .ok (.getfield 21, 3) := by decide +kernel
theorem dX3_lossOf_97 : decode cX3_lossOf 97 = .ok (.aload_n 0, 1) := by decide +kernel
theorem dX3_lossOf_98 : decode cX3_lossOf 98 = .ok (.getfield 11, 3) := by decide +kernel
theorem dX3_lossOf_101 : decode cX3_lossOf 101 = .ok (.invokevirtual 62, 3) := by decide +kernel
theorem dX3_lossOf_104 : decode cX3_lossOf 104 = .ok (.istore 6, 2) := by decide +kernel
theorem dX3_lossOf_106 : decode cX3_lossOf 106 = .ok (.iconst 0, 1) := by decide +kernel
theorem dX3_lossOf_107 : decode cX3_lossOf 107 = .ok (.bipush 99, 2) := by decide +kernel
theorem dX3_lossOf_109 : decode cX3_lossOf 109 = .ok (.iload 6, 2) := by decide +kernel
theorem dX3_lossOf_111 : decode cX3_lossOf 111 = .ok (.invokestatic 66, 3) := by decide +kernel
theorem dX3_lossOf_114 : decode cX3_lossOf 114 = .ok (.invokestatic 71, 3) := by decide +kernel
theorem dX3_lossOf_117 : decode cX3_lossOf 117 = .ok (.ireturn, 1) := by decide +kernel
theorem dX3_snoresBeside_0 : decode cX3_snoresBeside 0 = .ok (.iconst 0, 1) := by decide +kernel
theorem dX3_snoresBeside_1 : decode cX3_snoresBeside 1 = .ok (.istore_n 3, 1) := by decide +kernel
theorem dX3_snoresBeside_2 : decode cX3_snoresBeside 2 = .ok (.iconst 0, 1) := by decide +kernel
theorem dX3_snoresBeside_3 : decode cX3_snoresBeside 3 = .ok (.istore 4, 2) := by decide +kernel
theorem dX3_snoresBeside_5 : decode cX3_snoresBeside 5 = .ok (.iload 4, 2) := by decide +kernel
theorem dX3_snoresBeside_7 : decode cX3_snoresBeside 7 = .ok (.aload_n 0, 1) := by decide +kernel
theorem dX3_snoresBeside_8 : decode cX3_snoresBeside 8 = .ok (.getfield 17, 3) := by decide +kernel
theorem dX3_snoresBeside_11 : decode cX3_snoresBeside 11 = .ok (.invokevirtual 74, 3) := by decide +kernel
theorem dX3_snoresBeside_14 : decode cX3_snoresBeside 14 = .ok (.if_icmp .ge 32, 3) := by decide +kernel
theorem dX3_snoresBeside_17 : decode cX3_snoresBeside 17 = .ok (.aload_n 1, 1) := by decide +kernel
theorem dX3_snoresBeside_18 : decode cX3_snoresBeside 18 = .ok (.iload_n 2, 1) := by decide +kernel
theorem dX3_snoresBeside_19 : decode cX3_snoresBeside 19 = .ok (.iload 4, 2) := by decide +kernel
theorem dX3_snoresBeside_21 : decode cX3_snoresBeside 21 = .ok (.invokevirtual 77, 3) := by decide +kernel
theorem dX3_snoresBeside_24 : decode cX3_snoresBeside 24 = .ok (.ifCond .eq 16, 3) := by decide +kernel
theorem dX3_snoresBeside_27 : decode cX3_snoresBeside 27 = .ok (.iload_n 3, 1) := by decide +kernel
theorem dX3_snoresBeside_28 : decode cX3_snoresBeside 28 = .ok (.aload_n 0, 1) := by decide +kernel
theorem dX3_snoresBeside_29 : decode cX3_snoresBeside 29 = .ok (.getfield 17, 3) := by decide +kernel
theorem dX3_snoresBeside_32 : decode cX3_snoresBeside 32 = .ok (.iload 4, 2) := by decide +kernel
theorem dX3_snoresBeside_34 : decode cX3_snoresBeside 34 = .ok (.iconst 3, 1) := by decide +kernel
theorem dX3_snoresBeside_35 : decode cX3_snoresBeside 35 = .ok (.invokevirtual 52, 3) := by decide +kernel
theorem dX3_snoresBeside_38 : decode cX3_snoresBeside 38 = .ok (.iadd, 1) := by decide +kernel
theorem dX3_snoresBeside_39 : decode cX3_snoresBeside 39 = .ok (.istore_n 3, 1) := by decide +kernel
theorem dX3_snoresBeside_40 : decode cX3_snoresBeside 40 = .ok (.iinc 4 1, 3) := by decide +kernel
theorem dX3_snoresBeside_43 : decode cX3_snoresBeside 43 = .ok (.goto (-38), 3) := by decide +kernel
theorem dX3_snoresBeside_46 : decode cX3_snoresBeside 46 = .ok (.iload_n 3, 1) := by decide +kernel
theorem dX3_snoresBeside_47 : decode cX3_snoresBeside 47 = .ok (.ireturn, 1) := by decide +kernel
theorem dX3_turnAwake_0 : decode cX3_turnAwake 0 = .ok (.aload_n 0, 1) := by decide +kernel
theorem dX3_turnAwake_1 : decode cX3_turnAwake 1 = .ok (.getfield 17, 3) := by decide +kernel
theorem dX3_turnAwake_4 : decode cX3_turnAwake 4 = .ok (.iload_n 2, 1) := by decide +kernel
theorem dX3_turnAwake_5 : decode cX3_turnAwake 5 = .ok (.invokevirtual 81, 3) := by decide +kernel
theorem dX3_turnAwake_8 : decode cX3_turnAwake 8 = .ok (.ifCond .eq 15, 3) := by decide +kernel
theorem dX3_turnAwake_11 : decode cX3_turnAwake 11 = .ok (.aload_n 0, 1) := by decide +kernel
theorem dX3_turnAwake_12 : decode cX3_turnAwake 12 = .ok (.getfield 17, 3) := by decide +kernel
theorem dX3_turnAwake_15 : decode cX3_turnAwake 15 = .ok (.iload_n 2, 1) := by decide +kernel
theorem dX3_turnAwake_16 : decode cX3_turnAwake 16 = .ok (.iconst 2, 1) := by decide +kernel
theorem dX3_turnAwake_17 : decode cX3_turnAwake 17 = .ok (.invokevirtual 85, 3) := by decide +kernel
theorem dX3_turnAwake_20 : decode cX3_turnAwake 20 = .ok (.goto 4, 3) := by decide +kernel
theorem dX3_turnAwake_23 : decode cX3_turnAwake 23 = .ok (.iconst 0, 1) := by decide +kernel
theorem dX3_turnAwake_24 : decode cX3_turnAwake 24 = .ok (.istore_n 3, 1) := by decide +kernel
theorem dX3_turnAwake_25 : decode cX3_turnAwake 25 = .ok (.aload_n 0, 1) := by decide +kernel
theorem dX3_turnAwake_26 : decode cX3_turnAwake 26 = .ok (.getfield 17, 3) := by decide +kernel
theorem dX3_turnAwake_29 : decode cX3_turnAwake 29 = .ok (.iload_n 1, 1) := by decide +kernel
theorem dX3_turnAwake_30 : decode cX3_turnAwake 30 = .ok (.iconst 0, 1) := by decide +kernel
theorem dX3_turnAwake_31 : decode cX3_turnAwake 31 = .ok (.invokevirtual 52, 3) := by decide +kernel
theorem dX3_turnAwake_34 : decode cX3_turnAwake 34 = .ok (.iload_n 3, 1) := by decide +kernel
theorem dX3_turnAwake_35 : decode cX3_turnAwake 35 = .ok (.iadd, 1) := by decide +kernel
theorem dX3_turnAwake_36 : decode cX3_turnAwake 36 = .ok (.ireturn, 1) := by decide +kernel
theorem dX3_wakes_0 : decode cX3_wakes 0 = .ok (.aload_n 0, 1) := by decide +kernel
theorem dX3_wakes_1 : decode cX3_wakes 1 = .ok (.getfield 17, 3) := by decide +kernel
theorem dX3_wakes_4 : decode cX3_wakes 4 = .ok (.iload_n 3, 1) := by decide +kernel
theorem dX3_wakes_5 : decode cX3_wakes 5 = .ok (.invokevirtual 81, 3) := by decide +kernel
theorem dX3_wakes_8 : decode cX3_wakes 8 = .ok (.ifCond .eq 15, 3) := by decide +kernel
theorem dX3_wakes_11 : decode cX3_wakes 11 = .ok (.aload_n 1, 1) := by decide +kernel
theorem dX3_wakes_12 : decode cX3_wakes 12 = .ok (.iload_n 2, 1) := by decide +kernel
theorem dX3_wakes_13 : decode cX3_wakes 13 = .ok (.invokevirtual 88, 3) := by decide +kernel
theorem dX3_wakes_16 : decode cX3_wakes 16 = .ok (.ifCond .eq 7, 3) := by decide +kernel
theorem dX3_wakes_19 : decode cX3_wakes 19 = .ok (.iconst 1, 1) := by decide +kernel
theorem dX3_wakes_20 : decode cX3_wakes 20 = .ok (.goto 4, 3) := by decide +kernel
theorem dX3_wakes_23 : decode cX3_wakes 23 = .ok (.iconst 0, 1) := by decide +kernel
theorem dX3_wakes_24 : decode cX3_wakes 24 = .ok (.ireturn, 1) := by decide +kernel
theorem dX3_turnOf_0 : decode cX3_turnOf 0 = .ok (.aload_n 0, 1) := by decide +kernel
theorem dX3_turnOf_1 : decode cX3_turnOf 1 = .ok (.aload_n 1, 1) := by decide +kernel
theorem dX3_turnOf_2 : decode cX3_turnOf 2 = .ok (.iload_n 2, 1) := by decide +kernel
theorem dX3_turnOf_3 : decode cX3_turnOf 3 = .ok (.iload_n 3, 1) := by decide +kernel
theorem dX3_turnOf_4 : decode cX3_turnOf 4 = .ok (.invokevirtual 91, 3) := by decide +kernel
theorem dX3_turnOf_7 : decode cX3_turnOf 7 = .ok (.ifCond .eq 14, 3) := by decide +kernel
theorem dX3_turnOf_10 : decode cX3_turnOf 10 = .ok (.aload_n 0, 1) := by decide +kernel
theorem dX3_turnOf_11 : decode cX3_turnOf 11 = .ok (.getfield 17, 3) := by decide +kernel
theorem dX3_turnOf_14 : decode cX3_turnOf 14 = .ok (.iconst 3, 1) := by decide +kernel
theorem dX3_turnOf_15 : decode cX3_turnOf 15 = .ok (.invokevirtual 95, 3) := by decide +kernel
theorem dX3_turnOf_18 : decode cX3_turnOf 18 = .ok (.goto 4, 3) := by decide +kernel
theorem dX3_turnOf_21 : decode cX3_turnOf 21 = .ok (.iconst 0, 1) := by decide +kernel
theorem dX3_turnOf_22 : decode cX3_turnOf 22 = .ok (.istore 4, 2) := by decide +kernel
theorem dX3_turnOf_24 : decode cX3_turnOf 24 = .ok (.aload_n 0, 1) := by decide +kernel
theorem dX3_turnOf_25 : decode cX3_turnOf 25 = .ok (.iload_n 2, 1) := by decide +kernel
theorem dX3_turnOf_26 : decode cX3_turnOf 26 = .ok (.iload_n 3, 1) := by decide +kernel
theorem dX3_turnOf_27 : decode cX3_turnOf 27 = .ok (.invokevirtual 98, 3) := by decide +kernel
theorem dX3_turnOf_30 : decode cX3_turnOf 30 = .ok (.iload 4, 2) := by decide +kernel
theorem dX3_turnOf_32 : decode cX3_turnOf 32 = .ok (.iadd, 1) := by decide +kernel
theorem dX3_turnOf_33 : decode cX3_turnOf 33 = .ok (.ireturn, 1) := by decide +kernel
theorem dX3_waitOf_0 : decode cX3_waitOf 0 = .ok (.bipush 6, 2) := by decide +kernel
theorem dX3_waitOf_2 : decode cX3_waitOf 2 = .ok (.aload_n 0, 1) := by decide +kernel
theorem dX3_waitOf_3 : decode cX3_waitOf 3 = .ok (.getfield 17, 3) := by decide +kernel
theorem dX3_waitOf_6 : decode cX3_waitOf 6 = .ok (.iload_n 1, 1) := by decide +kernel
theorem dX3_waitOf_7 : decode cX3_waitOf 7 = .ok (.iconst 1, 1) := by decide +kernel
theorem dX3_waitOf_8 : decode cX3_waitOf 8 = .ok (.invokevirtual 52, 3) := by decide +kernel
theorem dX3_waitOf_11 : decode cX3_waitOf 11 = .ok (.imul, 1) := by decide +kernel
theorem dX3_waitOf_12 : decode cX3_waitOf 12 = .ok (.istore 5, 2) := by decide +kernel
theorem dX3_waitOf_14 : decode cX3_waitOf 14 = .ok (.iload_n 3, 1) := by decide +kernel
theorem dX3_waitOf_15 : decode cX3_waitOf 15 = .ok (.iconst 1, 1) := by decide +kernel
theorem dX3_waitOf_16 : decode cX3_waitOf 16 = .ok (.if_icmp .ne 26, 3) := by decide +kernel
theorem dX3_waitOf_19 : decode cX3_waitOf 19 = .ok (.aload_n 0, 1) := by decide +kernel
theorem dX3_waitOf_20 : decode cX3_waitOf 20 = .ok (.getfield 17, 3) := by decide +kernel
theorem dX3_waitOf_23 : decode cX3_waitOf 23 = .ok (.iload_n 2, 1) := by decide +kernel
theorem dX3_waitOf_24 : decode cX3_waitOf 24 = .ok (.invokevirtual 81, 3) := by decide +kernel
theorem dX3_waitOf_27 : decode cX3_waitOf 27 = .ok (.ifCond .eq 10, 3) := by decide +kernel
theorem dX3_waitOf_30 : decode cX3_waitOf 30 = .ok (.iconst 2, 1) := by decide +kernel
theorem dX3_waitOf_31 : decode cX3_waitOf 31 = .ok (.iload 5, 2) := by decide +kernel
theorem dX3_waitOf_33 : decode cX3_waitOf 33 = .ok (.imul, 1) := by decide +kernel
theorem dX3_waitOf_34 : decode cX3_waitOf 34 = .ok (.goto 7, 3) := by decide +kernel
theorem dX3_waitOf_37 : decode cX3_waitOf 37 = .ok (.iload 5, 2) := by decide +kernel
theorem dX3_waitOf_39 : decode cX3_waitOf 39 = .ok (.iconst 2, 1) := by decide +kernel
theorem dX3_waitOf_40 : decode cX3_waitOf 40 = .ok (.idiv, 1) := by decide +kernel
theorem dX3_waitOf_41 : decode cX3_waitOf 41 = .ok (.ireturn, 1) := by decide +kernel
theorem dX3_waitOf_42 : decode cX3_waitOf 42 = .ok (.iload_n 3, 1) := by decide +kernel
theorem dX3_waitOf_43 : decode cX3_waitOf 43 = .ok (.iconst 2, 1) := by decide +kernel
theorem dX3_waitOf_44 : decode cX3_waitOf 44 = .ok (.if_icmp .ne 28, 3) := by decide +kernel
theorem dX3_waitOf_47 : decode cX3_waitOf 47 = .ok (.iload 4, 2) := by decide +kernel
theorem dX3_waitOf_49 : decode cX3_waitOf 49 = .ok (.ifCond .eq 23, 3) := by decide +kernel
theorem dX3_waitOf_52 : decode cX3_waitOf 52 = .ok (.iconst 0, 1) := by decide +kernel
theorem dX3_waitOf_53 : decode cX3_waitOf 53 = .ok (.iload 5, 2) := by decide +kernel
theorem dX3_waitOf_55 : decode cX3_waitOf 55 = .ok (.bipush 6, 2) := by decide +kernel
theorem dX3_waitOf_57 : decode cX3_waitOf 57 = .ok (.aload_n 0, 1) := by decide +kernel
theorem dX3_waitOf_58 : decode cX3_waitOf 58 = .ok (.getfield 17, 3) := by decide +kernel
theorem dX3_waitOf_61 : decode cX3_waitOf 61 = .ok (.iload_n 2, 1) := by decide +kernel
theorem dX3_waitOf_62 : decode cX3_waitOf 62 = .ok (.iconst 3, 1) := by decide +kernel
theorem dX3_waitOf_63 : decode cX3_waitOf 63 = .ok (.invokevirtual 85, 3) := by decide +kernel
theorem dX3_waitOf_66 : decode cX3_waitOf 66 = .ok (.imul, 1) := by decide +kernel
theorem dX3_waitOf_67 : decode cX3_waitOf 67 = .ok (.isub, 1) := by decide +kernel
theorem dX3_waitOf_68 : decode cX3_waitOf 68 = .ok (.invokestatic 71, 3) := by decide +kernel
theorem dX3_waitOf_71 : decode cX3_waitOf 71 = .ok (.ireturn, 1) := by decide +kernel
theorem dX3_waitOf_72 : decode cX3_waitOf 72 = .ok (.iload 5, 2) := by decide +kernel
theorem dX3_waitOf_74 : decode cX3_waitOf 74 = .ok (.ireturn, 1) := by decide +kernel
theorem dX3_takesCoffee_0 : decode cX3_takesCoffee 0 = .ok (.aload_n 1, 1) := by decide +kernel
theorem dX3_takesCoffee_1 : decode cX3_takesCoffee 1 = .ok (.iload_n 2, 1) := by decide +kernel
theorem dX3_takesCoffee_2 : decode cX3_takesCoffee 2 = .ok (.invokevirtual 101, 3) := by decide +kernel
theorem dX3_takesCoffee_5 : decode cX3_takesCoffee 5 = .ok (.iconst 2, 1) := by decide +kernel
theorem dX3_takesCoffee_6 : decode cX3_takesCoffee 6 = .ok (.if_icmp .ne 7, 3) := by decide +kernel
theorem dX3_takesCoffee_9 : decode cX3_takesCoffee 9 = .ok (.iconst 1, 1) := by decide +kernel
theorem dX3_takesCoffee_10 : decode cX3_takesCoffee 10 = .ok (.goto 4, 3) := by decide +kernel
theorem dX3_takesCoffee_13 : decode cX3_takesCoffee 13 = .ok (.iconst 0, 1) := by decide +kernel
theorem dX3_takesCoffee_14 : decode cX3_takesCoffee 14 = .ok (.ireturn, 1) := by decide +kernel
theorem dX3_pass_0 : decode cX3_pass 0 = .ok (.iconst 0, 1) := by decide +kernel
theorem dX3_pass_1 : decode cX3_pass 1 = .ok (.istore 4, 2) := by decide +kernel
theorem dX3_pass_3 : decode cX3_pass 3 = .ok (.iconst 0, 1) := by decide +kernel
theorem dX3_pass_4 : decode cX3_pass 4 = .ok (.istore 5, 2) := by decide +kernel
theorem dX3_pass_6 : decode cX3_pass 6 = .ok (.aload_n 1, 1) := by decide +kernel
theorem dX3_pass_7 : decode cX3_pass 7 = .ok (.invokevirtual 104, 3) := by decide +kernel
theorem dX3_pass_10 : decode cX3_pass 10 = .ok (.istore 6, 2) := by decide +kernel
theorem dX3_pass_12 : decode cX3_pass 12 = .ok (.iconst (-1), 1) := by decide +kernel
theorem dX3_pass_13 : decode cX3_pass 13 = .ok (.istore 7, 2) := by decide +kernel
theorem dX3_pass_15 : decode cX3_pass 15 = .ok (.aload_n 0, 1) := by decide +kernel
theorem dX3_pass_16 : decode cX3_pass 16 = .ok (.iconst 0, 1) := by decide +kernel
theorem dX3_pass_17 : decode cX3_pass 17 = .ok (.putfield 25, 3) := by decide +kernel
theorem dX3_pass_20 : decode cX3_pass 20 = .ok (.aload_n 0, 1) := by decide +kernel
theorem dX3_pass_21 : decode cX3_pass 21 = .ok (.iconst (-1), 1) := by decide +kernel
theorem dX3_pass_22 : decode cX3_pass 22 = .ok (.putfield 29, 3) := by decide +kernel
theorem dX3_pass_25 : decode cX3_pass 25 = .ok (.iconst 0, 1) := by decide +kernel
theorem dX3_pass_26 : decode cX3_pass 26 = .ok (.istore 8, 2) := by decide +kernel
theorem dX3_pass_28 : decode cX3_pass 28 = .ok (.iload 8, 2) := by decide +kernel
theorem dX3_pass_30 : decode cX3_pass 30 = .ok (.aload_n 0, 1) := by decide +kernel
theorem dX3_pass_31 : decode cX3_pass 31 = .ok (.getfield 17, 3) := by decide +kernel
theorem dX3_pass_34 : decode cX3_pass 34 = .ok (.invokevirtual 36, 3) := by decide +kernel
theorem dX3_pass_37 : decode cX3_pass 37 = .ok (.if_icmp .ge 164, 3) := by decide +kernel
theorem dX3_pass_40 : decode cX3_pass 40 = .ok (.aload_n 1, 1) := by decide +kernel
theorem dX3_pass_41 : decode cX3_pass 41 = .ok (.iload 8, 2) := by decide +kernel
theorem dX3_pass_43 : decode cX3_pass 43 = .ok (.invokevirtual 42, 3) := by decide +kernel
theorem dX3_pass_46 : decode cX3_pass 46 = .ok (.istore 9, 2) := by decide +kernel
theorem dX3_pass_48 : decode cX3_pass 48 = .ok (.aload_n 0, 1) := by decide +kernel
theorem dX3_pass_49 : decode cX3_pass 49 = .ok (.aload_n 1, 1) := by decide +kernel
theorem dX3_pass_50 : decode cX3_pass 50 = .ok (.iload 9, 2) := by decide +kernel
theorem dX3_pass_52 : decode cX3_pass 52 = .ok (.iload_n 2, 1) := by decide +kernel
theorem dX3_pass_53 : decode cX3_pass 53 = .ok (.invokevirtual 107, 3) := by decide +kernel
theorem dX3_pass_56 : decode cX3_pass 56 = .ok (.istore 10, 2) := by decide +kernel
theorem dX3_pass_58 : decode cX3_pass 58 = .ok (.aload_n 0, 1) := by decide +kernel
theorem dX3_pass_59 : decode cX3_pass 59 = .ok (.aload_n 1, 1) := by decide +kernel
theorem dX3_pass_60 : decode cX3_pass 60 = .ok (.iload 9, 2) := by decide +kernel
theorem dX3_pass_62 : decode cX3_pass 62 = .ok (.iload_n 2, 1) := by decide +kernel
theorem dX3_pass_63 : decode cX3_pass 63 = .ok (.invokevirtual 91, 3) := by decide +kernel
theorem dX3_pass_66 : decode cX3_pass 66 = .ok (.ifCond .eq 38, 3) := by decide +kernel
theorem dX3_pass_69 : decode cX3_pass 69 = .ok (.aload_n 0, 1) := by decide +kernel
theorem dX3_pass_70 : decode cX3_pass 70 = .ok (.aload_n 1, 1) := by decide +kernel
theorem dX3_pass_71 : decode cX3_pass 71 = .ok (.iload 9, 2) := by decide +kernel
theorem dX3_pass_73 : decode cX3_pass 73 = .ok (.iload 4, 2) := by decide +kernel
theorem dX3_pass_75 : decode cX3_pass 75 = .ok (.iload_n 2, 1) := by decide +kernel
theorem dX3_pass_76 : decode cX3_pass 76 = .ok (.invokevirtual 32, 3) := by decide +kernel
theorem dX3_pass_79 : decode cX3_pass 79 = .ok (.istore 11, 2) := by decide +kernel
theorem dX3_pass_81 : decode cX3_pass 81 = .ok (.aload_n 0, 1) := by decide +kernel
theorem dX3_pass_82 : decode cX3_pass 82 = .ok (.dup, 1) := by decide +kernel
theorem dX3_pass_83 : decode cX3_pass 83 = .ok (.getfield 25, 3) := by decide +kernel
theorem dX3_pass_86 : decode cX3_pass 86 = .ok (.iload 11, 2) := by decide +kernel
theorem dX3_pass_88 : decode cX3_pass 88 = .ok (.iadd, 1) := by decide +kernel
theorem dX3_pass_89 : decode cX3_pass 89 = .ok (.putfield 25, 3) := by decide +kernel
theorem dX3_pass_92 : decode cX3_pass 92 = .ok (.iload_n 3, 1) := by decide +kernel
theorem dX3_pass_93 : decode cX3_pass 93 = .ok (.ifCond .eq 11, 3) := by decide +kernel
theorem dX3_pass_96 : decode cX3_pass 96 = .ok (.aload_n 1, 1) := by decide +kernel
theorem dX3_pass_97 : decode cX3_pass 97 = .ok (.iload 9, 2) := by decide +kernel
theorem dX3_pass_99 : decode cX3_pass 99 = .ok (.iload 11, 2) := by decide +kernel
theorem dX3_pass_101 : decode cX3_pass 101 = .ok (.invokevirtual 111, 3) := by decide +kernel
theorem dX3_pass_104 : decode cX3_pass 104 = .ok (.iload 4, 2) := by decide +kernel
theorem dX3_pass_106 : decode cX3_pass 106 = .ok (.iload 10, 2) := by decide +kernel
theorem dX3_pass_108 : decode cX3_pass 108 = .ok (.iadd, 1) := by decide +kernel
theorem dX3_pass_109 : decode cX3_pass 109 = .ok (.istore 4, 2) := by decide +kernel
theorem dX3_pass_111 : decode cX3_pass 111 = .ok (.iload 4, 2) := by decide +kernel
theorem dX3_pass_113 : decode cX3_pass 113 = .ok (.aload_n 0, 1) := by decide +kernel
theorem dX3_pass_114 : decode cX3_pass 114 = .ok (.iload 9, 2) := by decide +kernel
theorem dX3_pass_116 : decode cX3_pass 116 = .ok (.iload_n 2, 1) := by decide +kernel
theorem dX3_pass_117 : decode cX3_pass 117 = .ok (.aload_n 1, 1) := by decide +kernel
theorem dX3_pass_118 : decode cX3_pass 118 = .ok (.iload 9, 2) := by decide +kernel
theorem dX3_pass_120 : decode cX3_pass 120 = .ok (.invokevirtual 101, 3) := by decide +kernel
theorem dX3_pass_123 : decode cX3_pass 123 = .ok (.iload 6, 2) := by decide +kernel
theorem dX3_pass_125 : decode cX3_pass 125 = .ok (.ifCond .le 7, 3) := by decide +kernel
theorem dX3_pass_128 : decode cX3_pass 128 = .ok (.iconst 1, 1) := by decide +kernel
theorem dX3_pass_129 : decode cX3_pass 129 = .ok (.goto 4, 3) := by decide +kernel
theorem dX3_pass_132 : decode cX3_pass 132 = .ok (.iconst 0, 1) := by decide +kernel
theorem dX3_pass_133 : decode cX3_pass 133 = .ok (.invokevirtual 115, 3) := by decide +kernel
theorem dX3_pass_136 : decode cX3_pass 136 = .ok (.iadd, 1) := by decide +kernel
theorem dX3_pass_137 : decode cX3_pass 137 = .ok (.istore 11, 2) := by decide +kernel
theorem dX3_pass_139 : decode cX3_pass 139 = .ok (.aload_n 0, 1) := by decide +kernel
theorem dX3_pass_140 : decode cX3_pass 140 = .ok (.aload_n 1, 1) := by decide +kernel
theorem dX3_pass_141 : decode cX3_pass 141 = .ok (.iload 9, 2) := by decide +kernel
theorem dX3_pass_143 : decode cX3_pass 143 = .ok (.invokevirtual 119, 3) := by decide +kernel
theorem dX3_pass_146 : decode cX3_pass 146 = .ok (.ifCond .eq 11, 3) := by decide +kernel
theorem dX3_pass_149 : decode cX3_pass 149 = .ok (.iload 6, 2) := by decide +kernel
theorem dX3_pass_151 : decode cX3_pass 151 = .ok (.ifCond .le 6, 3) := by decide +kernel
theorem dX3_pass_154 : decode cX3_pass 154 = .ok (.iinc 6 (-1), 3) := by decide +kernel
theorem dX3_pass_157 : decode cX3_pass 157 = .ok (.aload_n 0, 1) := by decide +kernel
theorem dX3_pass_158 : decode cX3_pass 158 = .ok (.getfield 17, 3) := by decide +kernel
theorem dX3_pass_161 : decode cX3_pass 161 = .ok (.iload 9, 2) := by decide +kernel
theorem dX3_pass_163 : decode cX3_pass 163 = .ok (.invokevirtual 123, 3) := by decide +kernel
theorem dX3_pass_166 : decode cX3_pass 166 = .ok (.ifCond .eq 20, 3) := by decide +kernel
theorem dX3_pass_169 : decode cX3_pass 169 = .ok (.iload 11, 2) := by decide +kernel
theorem dX3_pass_171 : decode cX3_pass 171 = .ok (.iload 7, 2) := by decide +kernel
theorem dX3_pass_173 : decode cX3_pass 173 = .ok (.if_icmp .le 13, 3) := by decide +kernel
theorem dX3_pass_176 : decode cX3_pass 176 = .ok (.iload 11, 2) := by decide +kernel
theorem dX3_pass_178 : decode cX3_pass 178 = .ok (.istore 7, 2) := by decide +kernel
theorem dX3_pass_180 : decode cX3_pass 180 = .ok (.aload_n 0, 1) := by decide +kernel
theorem dX3_pass_181 : decode cX3_pass 181 = .ok (.iload 9, 2) := by decide +kernel
theorem dX3_pass_183 : decode cX3_pass 183 = .ok (.putfield 29, 3) := by decide +kernel
theorem dX3_pass_186 : decode cX3_pass 186 = .ok (.iload 5, 2) := by decide +kernel
theorem dX3_pass_188 : decode cX3_pass 188 = .ok (.iload 11, 2) := by decide +kernel
theorem dX3_pass_190 : decode cX3_pass 190 = .ok (.invokestatic 71, 3) := by decide +kernel
theorem dX3_pass_193 : decode cX3_pass 193 = .ok (.istore 5, 2) := by decide +kernel
theorem dX3_pass_195 : decode cX3_pass 195 = .ok (.iinc 8 1, 3) := by decide +kernel
theorem dX3_pass_198 : decode cX3_pass 198 = .ok (.goto (-170), 3) := by decide +kernel
theorem dX3_pass_201 : decode cX3_pass 201 = .ok (.iload_n 3, 1) := by decide +kernel
theorem dX3_pass_202 : decode cX3_pass 202 = .ok (.ifCond .eq 9, 3) := by decide +kernel
theorem dX3_pass_205 : decode cX3_pass 205 = .ok (.aload_n 1, 1) := by decide +kernel
theorem dX3_pass_206 : decode cX3_pass 206 = .ok (.iload 6, 2) := by decide +kernel
theorem dX3_pass_208 : decode cX3_pass 208 = .ok (.invokevirtual 126, 3) := by decide +kernel
theorem dX3_pass_211 : decode cX3_pass 211 = .ok (.iload 5, 2) := by decide +kernel
theorem dX3_pass_213 : decode cX3_pass 213 = .ok (.ireturn, 1) := by decide +kernel
theorem dX3_done_0 : decode cX3_done 0 = .ok (.iload_n 2, 1) := by decide +kernel
theorem dX3_done_1 : decode cX3_done 1 = .ok (.tableswitch 103 0 5 #[39, 48, 57, 64, 71, 80], 39) := by decide +kernel
theorem dX3_done_40 : decode cX3_done 40 = .ok (.aload_n 0, 1) := by decide +kernel
theorem dX3_done_41 : decode cX3_done 41 = .ok (.aload_n 1, 1) := by decide +kernel
theorem dX3_done_42 : decode cX3_done 42 = .ok (.iload_n 3, 1) := by decide +kernel
theorem dX3_done_43 : decode cX3_done 43 = .ok (.iload 4, 2) := by decide +kernel
theorem dX3_done_45 : decode cX3_done 45 = .ok (.invokevirtual 130, 3) := by decide +kernel
theorem dX3_done_48 : decode cX3_done 48 = .ok (.ireturn, 1) := by decide +kernel
theorem dX3_done_49 : decode cX3_done 49 = .ok (.aload_n 0, 1) := by decide +kernel
theorem dX3_done_50 : decode cX3_done 50 = .ok (.aload_n 1, 1) := by decide +kernel
theorem dX3_done_51 : decode cX3_done 51 = .ok (.iload_n 3, 1) := by decide +kernel
theorem dX3_done_52 : decode cX3_done 52 = .ok (.iload 4, 2) := by decide +kernel
theorem dX3_done_54 : decode cX3_done 54 = .ok (.invokevirtual 133, 3) := by decide +kernel
theorem dX3_done_57 : decode cX3_done 57 = .ok (.ireturn, 1) := by decide +kernel
theorem dX3_done_58 : decode cX3_done 58 = .ok (.aload_n 0, 1) := by decide +kernel
theorem dX3_done_59 : decode cX3_done 59 = .ok (.aload_n 1, 1) := by decide +kernel
theorem dX3_done_60 : decode cX3_done 60 = .ok (.iload_n 3, 1) := by decide +kernel
theorem dX3_done_61 : decode cX3_done 61 = .ok (.invokevirtual 136, 3) := by decide +kernel
theorem dX3_done_64 : decode cX3_done 64 = .ok (.ireturn, 1) := by decide +kernel
theorem dX3_done_65 : decode cX3_done 65 = .ok (.aload_n 0, 1) := by decide +kernel
theorem dX3_done_66 : decode cX3_done 66 = .ok (.aload_n 1, 1) := by decide +kernel
theorem dX3_done_67 : decode cX3_done 67 = .ok (.iload_n 3, 1) := by decide +kernel
theorem dX3_done_68 : decode cX3_done 68 = .ok (.invokevirtual 139, 3) := by decide +kernel
theorem dX3_done_71 : decode cX3_done 71 = .ok (.ireturn, 1) := by decide +kernel
theorem dX3_done_72 : decode cX3_done 72 = .ok (.aload_n 0, 1) := by decide +kernel
theorem dX3_done_73 : decode cX3_done 73 = .ok (.aload_n 1, 1) := by decide +kernel
theorem dX3_done_74 : decode cX3_done 74 = .ok (.iload_n 3, 1) := by decide +kernel
theorem dX3_done_75 : decode cX3_done 75 = .ok (.iload 4, 2) := by decide +kernel
theorem dX3_done_77 : decode cX3_done 77 = .ok (.invokevirtual 142, 3) := by decide +kernel
theorem dX3_done_80 : decode cX3_done 80 = .ok (.ireturn, 1) := by decide +kernel
theorem dX3_done_81 : decode cX3_done 81 = .ok (.aload_n 0, 1) := by decide +kernel
theorem dX3_done_82 : decode cX3_done 82 = .ok (.getfield 17, 3) := by decide +kernel
theorem dX3_done_85 : decode cX3_done 85 = .ok (.iload_n 3, 1) := by decide +kernel
theorem dX3_done_86 : decode cX3_done 86 = .ok (.invokevirtual 145, 3) := by decide +kernel
theorem dX3_done_89 : decode cX3_done 89 = .ok (.ifCond .eq 13, 3) := by decide +kernel
theorem dX3_done_92 : decode cX3_done 92 = .ok (.aload_n 0, 1) := by decide +kernel
theorem dX3_done_93 : decode cX3_done 93 = .ok (.aload_n 1, 1) := by decide +kernel
theorem dX3_done_94 : decode cX3_done 94 = .ok (.iload_n 3, 1) := by decide +kernel
theorem dX3_done_95 : decode cX3_done 95 = .ok (.iconst 1, 1) := by decide +kernel
theorem dX3_done_96 : decode cX3_done 96 = .ok (.invokevirtual 148, 3) := by decide +kernel
theorem dX3_done_99 : decode cX3_done 99 = .ok (.goto 4, 3) := by decide +kernel
theorem dX3_done_102 : decode cX3_done 102 = .ok (.iconst (-1), 1) := by decide +kernel
theorem dX3_done_103 : decode cX3_done 103 = .ok (.ireturn, 1) := by decide +kernel
theorem dX3_done_104 : decode cX3_done 104 = .ok (.iconst (-1), 1) := by decide +kernel
theorem dX3_done_105 : decode cX3_done 105 = .ok (.ireturn, 1) := by decide +kernel
theorem dX3_movePaper_0 : decode cX3_movePaper 0 = .ok (.aload_n 0, 1) := by decide +kernel
theorem dX3_movePaper_1 : decode cX3_movePaper 1 = .ok (.getfield 17, 3) := by decide +kernel
theorem dX3_movePaper_4 : decode cX3_movePaper 4 = .ok (.iload_n 2, 1) := by decide +kernel
theorem dX3_movePaper_5 : decode cX3_movePaper 5 = .ok (.invokevirtual 152, 3) := by decide +kernel
theorem dX3_movePaper_8 : decode cX3_movePaper 8 = .ok (.ifCond .eq 18, 3) := by decide +kernel
theorem dX3_movePaper_11 : decode cX3_movePaper 11 = .ok (.iload_n 3, 1) := by decide +kernel
theorem dX3_movePaper_12 : decode cX3_movePaper 12 = .ok (.ifCond .lt 14, 3) := by decide +kernel
theorem dX3_movePaper_15 : decode cX3_movePaper 15 = .ok (.iload_n 3, 1) := by decide +kernel
theorem dX3_movePaper_16 : decode cX3_movePaper 16 = .ok (.aload_n 0, 1) := by decide +kernel
theorem dX3_movePaper_17 : decode cX3_movePaper 17 = .ok (.getfield 17, 3) := by decide +kernel
theorem dX3_movePaper_20 : decode cX3_movePaper 20 = .ok (.invokevirtual 36, 3) := by decide +kernel
theorem dX3_movePaper_23 : decode cX3_movePaper 23 = .ok (.if_icmp .lt 5, 3) := by decide +kernel
theorem dX3_movePaper_26 : decode cX3_movePaper 26 = .ok (.iconst (-1), 1) := by decide +kernel
theorem dX3_movePaper_27 : decode cX3_movePaper 27 = .ok (.ireturn, 1) := by decide +kernel
theorem dX3_movePaper_28 : decode cX3_movePaper 28 = .ok (.aload_n 1, 1) := by decide +kernel
theorem dX3_movePaper_29 : decode cX3_movePaper 29 = .ok (.iload_n 2, 1) := by decide +kernel
theorem dX3_movePaper_30 : decode cX3_movePaper 30 = .ok (.aload_n 0, 1) := by decide +kernel
theorem dX3_movePaper_31 : decode cX3_movePaper 31 = .ok (.getfield 17, 3) := by decide +kernel
theorem dX3_movePaper_34 : decode cX3_movePaper 34 = .ok (.invokevirtual 36, 3) := by decide +kernel
theorem dX3_movePaper_37 : decode cX3_movePaper 37 = .ok (.invokevirtual 155, 3) := by decide +kernel
theorem dX3_movePaper_40 : decode cX3_movePaper 40 = .ok (.istore 4, 2) := by decide +kernel
theorem dX3_movePaper_42 : decode cX3_movePaper 42 = .ok (.iload 4, 2) := by decide +kernel
theorem dX3_movePaper_44 : decode cX3_movePaper 44 = .ok (.iconst (-1), 1) := by decide +kernel
theorem dX3_movePaper_45 : decode cX3_movePaper 45 = .ok (.if_icmp .eq 9, 3) := by decide +kernel
theorem dX3_movePaper_48 : decode cX3_movePaper 48 = .ok (.iload 4, 2) := by decide +kernel
theorem dX3_movePaper_50 : decode cX3_movePaper 50 = .ok (.iload_n 3, 1) := by decide +kernel
theorem dX3_movePaper_51 : decode cX3_movePaper 51 = .ok (.if_icmp .ne 5, 3) := by decide +kernel
theorem dX3_movePaper_54 : decode cX3_movePaper 54 = .ok (.iconst (-1), 1) := by decide +kernel
theorem dX3_movePaper_55 : decode cX3_movePaper 55 = .ok (.ireturn, 1) := by decide +kernel
theorem dX3_movePaper_56 : decode cX3_movePaper 56 = .ok (.aload_n 1, 1) := by decide +kernel
theorem dX3_movePaper_57 : decode cX3_movePaper 57 = .ok (.iload 4, 2) := by decide +kernel
theorem dX3_movePaper_59 : decode cX3_movePaper 59 = .ok (.iload_n 3, 1) := by decide +kernel
theorem dX3_movePaper_60 : decode cX3_movePaper 60 = .ok (.invokevirtual 158, 3) := by decide +kernel
theorem dX3_movePaper_63 : decode cX3_movePaper 63 = .ok (.iload 4, 2) := by decide +kernel
theorem dX3_movePaper_65 : decode cX3_movePaper 65 = .ok (.ireturn, 1) := by decide +kernel
theorem dX3_sayAnother_0 : decode cX3_sayAnother 0 = .ok (.aload_n 0, 1) := by decide +kernel
theorem dX3_sayAnother_1 : decode cX3_sayAnother 1 = .ok (.getfield 17, 3) := by decide +kernel
theorem dX3_sayAnother_4 : decode cX3_sayAnother 4 = .ok (.iload_n 2, 1) := by decide +kernel
theorem dX3_sayAnother_5 : decode cX3_sayAnother 5 = .ok (.invokevirtual 123, 3) := by decide +kernel
theorem dX3_sayAnother_8 : decode cX3_sayAnother 8 = .ok (.ifCond .eq 21, 3) := by decide +kernel
theorem dX3_sayAnother_11 : decode cX3_sayAnother 11 = .ok (.iload_n 3, 1) := by decide +kernel
theorem dX3_sayAnother_12 : decode cX3_sayAnother 12 = .ok (.ifCond .lt 17, 3) := by decide +kernel
theorem dX3_sayAnother_15 : decode cX3_sayAnother 15 = .ok (.iload_n 3, 1) := by decide +kernel
theorem dX3_sayAnother_16 : decode cX3_sayAnother 16 = .ok (.iconst 2, 1) := by decide +kernel
theorem dX3_sayAnother_17 : decode cX3_sayAnother 17 = .ok (.if_icmp .gt 12, 3) := by decide +kernel
theorem dX3_sayAnother_20 : decode cX3_sayAnother 20 = .ok (.aload_n 1, 1) := by decide +kernel
theorem dX3_sayAnother_21 : decode cX3_sayAnother 21 = .ok (.iload_n 2, 1) := by decide +kernel
theorem dX3_sayAnother_22 : decode cX3_sayAnother 22 = .ok (.invokevirtual 101, 3) := by decide +kernel
theorem dX3_sayAnother_25 : decode cX3_sayAnother 25 = .ok (.iload_n 3, 1) := by decide +kernel
theorem dX3_sayAnother_26 : decode cX3_sayAnother 26 = .ok (.if_icmp .ne 5, 3) := by decide +kernel
theorem dX3_sayAnother_29 : decode cX3_sayAnother 29 = .ok (.iconst (-1), 1) := by decide +kernel
theorem dX3_sayAnother_30 : decode cX3_sayAnother 30 = .ok (.ireturn, 1) := by decide +kernel
theorem dX3_sayAnother_31 : decode cX3_sayAnother 31 = .ok (.aload_n 1, 1) := by decide +kernel
theorem dX3_sayAnother_32 : decode cX3_sayAnother 32 = .ok (.iload_n 2, 1) := by decide +kernel
theorem dX3_sayAnother_33 : decode cX3_sayAnother 33 = .ok (.invokevirtual 101, 3) := by decide +kernel
theorem dX3_sayAnother_36 : decode cX3_sayAnother 36 = .ok (.istore 4, 2) := by decide +kernel
theorem dX3_sayAnother_38 : decode cX3_sayAnother 38 = .ok (.aload_n 1, 1) := by decide +kernel
theorem dX3_sayAnother_39 : decode cX3_sayAnother 39 = .ok (.iload_n 2, 1) := by decide +kernel
theorem dX3_sayAnother_40 : decode cX3_sayAnother 40 = .ok (.iload_n 3, 1) := by decide +kernel
theorem dX3_sayAnother_41 : decode cX3_sayAnother 41 = .ok (.invokevirtual 161, 3) := by decide +kernel
theorem dX3_sayAnother_44 : decode cX3_sayAnother 44 = .ok (.iload 4, 2) := by decide +kernel
theorem dX3_sayAnother_46 : decode cX3_sayAnother 46 = .ok (.ireturn, 1) := by decide +kernel
theorem dX3_wakeByHand_0 : decode cX3_wakeByHand 0 = .ok (.aload_n 0, 1) := by decide +kernel
theorem dX3_wakeByHand_1 : decode cX3_wakeByHand 1 = .ok (.getfield 17, 3) := by decide +kernel
theorem dX3_wakeByHand_4 : decode cX3_wakeByHand 4 = .ok (.iload_n 2, 1) := by decide +kernel
theorem dX3_wakeByHand_5 : decode cX3_wakeByHand 5 = .ok (.invokevirtual 164, 3) := by decide +kernel
theorem dX3_wakeByHand_8 : decode cX3_wakeByHand 8 = .ok (.ifCond .eq 11, 3) := by decide +kernel
theorem dX3_wakeByHand_11 : decode cX3_wakeByHand 11 = .ok (.aload_n 1, 1) := by decide +kernel
theorem dX3_wakeByHand_12 : decode cX3_wakeByHand 12 = .ok (.iload_n 2, 1) := by decide +kernel
theorem dX3_wakeByHand_13 : decode cX3_wakeByHand 13 = .ok (.invokevirtual 88, 3) := by decide +kernel
theorem dX3_wakeByHand_16 : decode cX3_wakeByHand 16 = .ok (.ifCond .ne 5, 3) := by decide +kernel
theorem dX3_wakeByHand_19 : decode cX3_wakeByHand 19 = .ok (.iconst (-1), 1) := by decide +kernel
theorem dX3_wakeByHand_20 : decode cX3_wakeByHand 20 = .ok (.ireturn, 1) := by decide +kernel
theorem dX3_wakeByHand_21 : decode cX3_wakeByHand 21 = .ok (.aload_n 0, 1) := by decide +kernel
theorem dX3_wakeByHand_22 : decode cX3_wakeByHand 22 = .ok (.aload_n 1, 1) := by decide +kernel
theorem dX3_wakeByHand_23 : decode cX3_wakeByHand 23 = .ok (.iload_n 2, 1) := by decide +kernel
theorem dX3_wakeByHand_24 : decode cX3_wakeByHand 24 = .ok (.invokevirtual 48, 3) := by decide +kernel
theorem dX3_wakeByHand_27 : decode cX3_wakeByHand 27 = .ok (.istore_n 3, 1) := by decide +kernel
theorem dX3_wakeByHand_28 : decode cX3_wakeByHand 28 = .ok (.aload_n 1, 1) := by decide +kernel
theorem dX3_wakeByHand_29 : decode cX3_wakeByHand 29 = .ok (.iload_n 2, 1) := by decide +kernel
theorem dX3_wakeByHand_30 : decode cX3_wakeByHand 30 = .ok (.iload_n 3, 1) := by decide +kernel
theorem dX3_wakeByHand_31 : decode cX3_wakeByHand 31 = .ok (.invokevirtual 111, 3) := by decide +kernel
theorem dX3_wakeByHand_34 : decode cX3_wakeByHand 34 = .ok (.iload_n 3, 1) := by decide +kernel
theorem dX3_wakeByHand_35 : decode cX3_wakeByHand 35 = .ok (.ireturn, 1) := by decide +kernel
theorem dX3_lieDown_0 : decode cX3_lieDown 0 = .ok (.aload_n 0, 1) := by decide +kernel
theorem dX3_lieDown_1 : decode cX3_lieDown 1 = .ok (.getfield 17, 3) := by decide +kernel
theorem dX3_lieDown_4 : decode cX3_lieDown 4 = .ok (.iload_n 2, 1) := by decide +kernel
theorem dX3_lieDown_5 : decode cX3_lieDown 5 = .ok (.invokevirtual 164, 3) := by decide +kernel
theorem dX3_lieDown_8 : decode cX3_lieDown 8 = .ok (.ifCond .eq 11, 3) := by decide +kernel
theorem dX3_lieDown_11 : decode cX3_lieDown 11 = .ok (.aload_n 1, 1) := by decide +kernel
theorem dX3_lieDown_12 : decode cX3_lieDown 12 = .ok (.iload_n 2, 1) := by decide +kernel
theorem dX3_lieDown_13 : decode cX3_lieDown 13 = .ok (.invokevirtual 88, 3) := by decide +kernel
theorem dX3_lieDown_16 : decode cX3_lieDown 16 = .ok (.ifCond .eq 5, 3) := by decide +kernel
theorem dX3_lieDown_19 : decode cX3_lieDown 19 = .ok (.iconst (-1), 1) := by decide +kernel
theorem dX3_lieDown_20 : decode cX3_lieDown 20 = .ok (.ireturn, 1) := by decide +kernel
theorem dX3_lieDown_21 : decode cX3_lieDown 21 = .ok (.aload_n 1, 1) := by decide +kernel
theorem dX3_lieDown_22 : decode cX3_lieDown 22 = .ok (.iload_n 2, 1) := by decide +kernel
theorem dX3_lieDown_23 : decode cX3_lieDown 23 = .ok (.invokevirtual 167, 3) := by decide +kernel
theorem dX3_lieDown_26 : decode cX3_lieDown 26 = .ok (.aload_n 1, 1) := by decide +kernel
theorem dX3_lieDown_27 : decode cX3_lieDown 27 = .ok (.invokevirtual 170, 3) := by decide +kernel
theorem dX3_lieDown_30 : decode cX3_lieDown 30 = .ok (.ireturn, 1) := by decide +kernel
theorem dX3_swapBerths_0 : decode cX3_swapBerths 0 = .ok (.aload_n 0, 1) := by decide +kernel
theorem dX3_swapBerths_1 : decode cX3_swapBerths 1 = .ok (.getfield 17, 3) := by decide +kernel
theorem dX3_swapBerths_4 : decode cX3_swapBerths 4 = .ok (.iload_n 2, 1) := by decide +kernel
theorem dX3_swapBerths_5 : decode cX3_swapBerths 5 = .ok (.invokevirtual 164, 3) := by decide +kernel
theorem dX3_swapBerths_8 : decode cX3_swapBerths 8 = .ok (.ifCond .eq 19, 3) := by decide +kernel
theorem dX3_swapBerths_11 : decode cX3_swapBerths 11 = .ok (.aload_n 0, 1) := by decide +kernel
theorem dX3_swapBerths_12 : decode cX3_swapBerths 12 = .ok (.getfield 17, 3) := by decide +kernel
theorem dX3_swapBerths_15 : decode cX3_swapBerths 15 = .ok (.iload_n 3, 1) := by decide +kernel
theorem dX3_swapBerths_16 : decode cX3_swapBerths 16 = .ok (.invokevirtual 164, 3) := by decide +kernel
theorem dX3_swapBerths_19 : decode cX3_swapBerths 19 = .ok (.ifCond .eq 8, 3) := by decide +kernel
theorem dX3_swapBerths_22 : decode cX3_swapBerths 22 = .ok (.iload_n 2, 1) := by decide +kernel
theorem dX3_swapBerths_23 : decode cX3_swapBerths 23 = .ok (.iload_n 3, 1) := by decide +kernel
theorem dX3_swapBerths_24 : decode cX3_swapBerths 24 = .ok (.if_icmp .ne 5, 3) := by decide +kernel
theorem dX3_swapBerths_27 : decode cX3_swapBerths 27 = .ok (.iconst (-1), 1) := by decide +kernel
theorem dX3_swapBerths_28 : decode cX3_swapBerths 28 = .ok (.ireturn, 1) := by decide +kernel
theorem dX3_swapBerths_29 : decode cX3_swapBerths 29 = .ok (.aload_n 1, 1) := by decide +kernel
theorem dX3_swapBerths_30 : decode cX3_swapBerths 30 = .ok (.iload_n 2, 1) := by decide +kernel
theorem dX3_swapBerths_31 : decode cX3_swapBerths 31 = .ok (.iload_n 3, 1) := by decide +kernel
theorem dX3_swapBerths_32 : decode cX3_swapBerths 32 = .ok (.invokevirtual 173, 3) := by decide +kernel
theorem dX3_swapBerths_35 : decode cX3_swapBerths 35 = .ok (.iconst 0, 1) := by decide +kernel
theorem dX3_swapBerths_36 : decode cX3_swapBerths 36 = .ok (.ireturn, 1) := by decide +kernel
