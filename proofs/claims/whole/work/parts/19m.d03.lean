theorem dX8_init_0 : decode cX8_init 0 = .ok (.aload_n 0, 1) := by decide +kernel
theorem dX8_init_1 : decode cX8_init 1 = .ok (.invokespecial 3, 3) := by decide +kernel
theorem dX8_init_4 : decode cX8_init 4 = .ok (.aload_n 0, 1) := by decide +kernel
theorem dX8_init_5 : decode cX8_init 5 = .ok (.bipush 56, 2) := by decide +kernel
theorem dX8_init_7 : decode cX8_init 7 = .ok (.newarray .int, 2) := by decide +kernel
theorem dX8_init_9 : decode cX8_init 9 = .ok (.putfield 11, 3) := by decide +kernel
theorem dX8_init_12 : decode cX8_init 12 = .ok (.return_, 1) := by decide +kernel
theorem dX8_begin_0 : decode cX8_begin 0 = .ok (.aload_n 0, 1) := by decide +kernel
theorem dX8_begin_1 : decode cX8_begin 1 = .ok (.getfield 11, 3) := by decide +kernel
theorem dX8_begin_4 : decode cX8_begin 4 = .ok (.iconst 0, 1) := by decide +kernel
theorem dX8_begin_5 : decode cX8_begin 5 = .ok (.invokestatic 15, 3) := by decide +kernel
theorem dX8_begin_8 : decode cX8_begin 8 = .ok (.iconst 0, 1) := by decide +kernel
theorem dX8_begin_9 : decode cX8_begin 9 = .ok (.istore_n 2, 1) := by decide +kernel
theorem dX8_begin_10 : decode cX8_begin 10 = .ok (.iconst 0, 1) := by decide +kernel
theorem dX8_begin_11 : decode cX8_begin 11 = .ok (.istore_n 3, 1) := by decide +kernel
theorem dX8_begin_12 : decode cX8_begin 12 = .ok (.iload_n 3, 1) := by decide +kernel
theorem dX8_begin_13 : decode cX8_begin 13 = .ok (.aload_n 1, 1) := by decide +kernel
theorem dX8_begin_14 : decode cX8_begin 14 = .ok (.invokevirtual 21, 3) := by decide +kernel
theorem dX8_begin_17 : decode cX8_begin 17 = .ok (.if_icmp .ge 49, 3) := by decide +kernel
theorem dX8_begin_20 : decode cX8_begin 20 = .ok (.aload_n 0, 1) := by decide +kernel
theorem dX8_begin_21 : decode cX8_begin 21 = .ok (.getfield 11, 3) := by decide +kernel
theorem dX8_begin_24 : decode cX8_begin 24 = .ok (.iconst 0, 1) := by decide +kernel
theorem dX8_begin_25 : decode cX8_begin 25 = .ok (.iload_n 3, 1) := by decide +kernel
theorem dX8_begin_26 : decode cX8_begin 26 = .ok (.iadd, 1) := by decide +kernel
theorem dX8_begin_27 : decode cX8_begin 27 = .ok (.iload_n 3, 1) := by decide +kernel
theorem dX8_begin_28 : decode cX8_begin 28 = .ok (.iastore, 1) := by decide +kernel
theorem dX8_begin_29 : decode cX8_begin 29 = .ok (.aload_n 0, 1) := by decide +kernel
theorem dX8_begin_30 : decode cX8_begin 30 = .ok (.getfield 11, 3) := by decide +kernel
theorem dX8_begin_33 : decode cX8_begin 33 = .ok (.bipush 27, 2) := by decide +kernel
theorem dX8_begin_35 : decode cX8_begin 35 = .ok (.iload_n 3, 1) := by decide +kernel
theorem dX8_begin_36 : decode cX8_begin 36 = .ok (.iadd, 1) := by decide +kernel
theorem dX8_begin_37 : decode cX8_begin 37 = .ok (.iconst 1, 1) := by decide +kernel
theorem dX8_begin_38 : decode cX8_begin 38 = .ok (.iastore, 1) := by decide +kernel
theorem dX8_begin_39 : decode cX8_begin 39 = .ok (.aload_n 1, 1) := by decide +kernel
theorem dX8_begin_40 : decode cX8_begin 40 = .ok (.iload_n 3, 1) := by decide +kernel
theorem dX8_begin_41 : decode cX8_begin 41 = .ok (.invokevirtual 27, 3) := by decide +kernel
theorem dX8_begin_44 : decode cX8_begin 44 = .ok (.ifCond .eq 16, 3) := by decide +kernel
theorem dX8_begin_47 : decode cX8_begin 47 = .ok (.aload_n 0, 1) := by decide +kernel
theorem dX8_begin_48 : decode cX8_begin 48 = .ok (.getfield 11, 3) := by decide +kernel
theorem dX8_begin_51 : decode cX8_begin 51 = .ok (.bipush 9, 2) := by decide +kernel
theorem dX8_begin_53 : decode cX8_begin 53 = .ok (.iload_n 2, 1) := by decide +kernel
theorem dX8_begin_54 : decode cX8_begin 54 = .ok (.iadd, 1) := by decide +kernel
theorem dX8_begin_55 : decode cX8_begin 55 = .ok (.iload_n 3, 1) := by decide +kernel
theorem dX8_begin_56 : decode cX8_begin 56 = .ok (.iastore, 1) := by decide +kernel
theorem dX8_begin_57 : decode cX8_begin 57 = .ok (.iinc 2 1, 3) := by decide +kernel
theorem dX8_begin_60 : decode cX8_begin 60 = .ok (.iinc 3 1, 3) := by decide +kernel
theorem dX8_begin_63 : decode cX8_begin 63 = .ok (.goto (-51), 3) := by decide +kernel
theorem dX8_begin_66 : decode cX8_begin 66 = .ok (.aload_n 0, 1) := by decide +kernel
theorem dX8_begin_67 : decode cX8_begin 67 = .ok (.getfield 11, 3) := by decide +kernel
theorem dX8_begin_70 : decode cX8_begin 70 = .ok (.bipush 54, 2) := by decide +kernel
theorem dX8_begin_72 : decode cX8_begin 72 = .ok (.aload_n 1, 1) := by decide +kernel
theorem dX8_begin_73 : decode cX8_begin 73 = .ok (.iconst 2, 1) := by decide +kernel
theorem dX8_begin_74 : decode cX8_begin 74 = .ok (.invokevirtual 31, 3) := by decide +kernel
theorem dX8_begin_77 : decode cX8_begin 77 = .ok (.iastore, 1) := by decide +kernel
theorem dX8_begin_78 : decode cX8_begin 78 = .ok (.return_, 1) := by decide +kernel
theorem dX8_copyFrom_0 : decode cX8_copyFrom 0 = .ok (.aload_n 1, 1) := by decide +kernel
theorem dX8_copyFrom_1 : decode cX8_copyFrom 1 = .ok (.getfield 11, 3) := by decide +kernel
theorem dX8_copyFrom_4 : decode cX8_copyFrom 4 = .ok (.iconst 0, 1) := by decide +kernel
theorem dX8_copyFrom_5 : decode cX8_copyFrom 5 = .ok (.aload_n 0, 1) := by decide +kernel
theorem dX8_copyFrom_6 : decode cX8_copyFrom 6 = .ok (.getfield 11, 3) := by decide +kernel
theorem dX8_copyFrom_9 : decode cX8_copyFrom 9 = .ok (.iconst 0, 1) := by decide +kernel
theorem dX8_copyFrom_10 : decode cX8_copyFrom 10 = .ok (.bipush 56, 2) := by decide +kernel
theorem dX8_copyFrom_12 : decode cX8_copyFrom 12 = .ok (.invokestatic 35, 3) := by decide +kernel
theorem dX8_copyFrom_15 : decode cX8_copyFrom 15 = .ok (.return_, 1) := by decide +kernel
theorem dX8_copyTo_0 : decode cX8_copyTo 0 = .ok (.aload_n 0, 1) := by decide +kernel
theorem dX8_copyTo_1 : decode cX8_copyTo 1 = .ok (.getfield 11, 3) := by decide +kernel
theorem dX8_copyTo_4 : decode cX8_copyTo 4 = .ok (.iconst 0, 1) := by decide +kernel
theorem dX8_copyTo_5 : decode cX8_copyTo 5 = .ok (.aload_n 1, 1) := by decide +kernel
theorem dX8_copyTo_6 : decode cX8_copyTo 6 = .ok (.iload_n 2, 1) := by decide +kernel
theorem dX8_copyTo_7 : decode cX8_copyTo 7 = .ok (.bipush 56, 2) := by decide +kernel
theorem dX8_copyTo_9 : decode cX8_copyTo 9 = .ok (.imul, 1) := by decide +kernel
theorem dX8_copyTo_10 : decode cX8_copyTo 10 = .ok (.bipush 56, 2) := by decide +kernel
theorem dX8_copyTo_12 : decode cX8_copyTo 12 = .ok (.invokestatic 35, 3) := by decide +kernel
theorem dX8_copyTo_15 : decode cX8_copyTo 15 = .ok (.return_, 1) := by decide +kernel
theorem dX8_copyBack_0 : decode cX8_copyBack 0 = .ok (.aload_n 1, 1) := by decide +kernel
theorem dX8_copyBack_1 : decode cX8_copyBack 1 = .ok (.iload_n 2, 1) := by decide +kernel
theorem dX8_copyBack_2 : decode cX8_copyBack 2 = .ok (.bipush 56, 2) := by decide +kernel
theorem dX8_copyBack_4 : decode cX8_copyBack 4 = .ok (.imul, 1) := by decide +kernel
theorem dX8_copyBack_5 : decode cX8_copyBack 5 = .ok (.aload_n 0, 1) := by decide +kernel
theorem dX8_copyBack_6 : decode cX8_copyBack 6 = .ok (.getfield 11, 3) := by decide +kernel
theorem dX8_copyBack_9 : decode cX8_copyBack 9 = .ok (.iconst 0, 1) := by decide +kernel
theorem dX8_copyBack_10 : decode cX8_copyBack 10 = .ok (.bipush 56, 2) := by decide +kernel
theorem dX8_copyBack_12 : decode cX8_copyBack 12 = .ok (.invokestatic 35, 3) := by decide +kernel
theorem dX8_copyBack_15 : decode cX8_copyBack 15 = .ok (.return_, 1) := by decide +kernel
theorem dX8_berthOf_0 : decode cX8_berthOf 0 = .ok (.aload_n 0, 1) := by decide +kernel
theorem dX8_berthOf_1 : decode cX8_berthOf 1 = .ok (.getfield 11, 3) := by decide +kernel
theorem dX8_berthOf_4 : decode cX8_berthOf 4 = .ok (.iconst 0, 1) := by decide +kernel
theorem dX8_berthOf_5 : decode cX8_berthOf 5 = .ok (.iload_n 1, 1) := by decide +kernel
theorem dX8_berthOf_6 : decode cX8_berthOf 6 = .ok (.iadd, 1) := by decide +kernel
theorem dX8_berthOf_7 : decode cX8_berthOf 7 = .ok (.iaload, 1) := by decide +kernel
theorem dX8_berthOf_8 : decode cX8_berthOf 8 = .ok (.ireturn, 1) := by decide +kernel
theorem dX8_areBeside_0 : decode cX8_areBeside 0 = .ok (.aload_n 0, 1) := by decide +kernel
theorem dX8_areBeside_1 : decode cX8_areBeside 1 = .ok (.getfield 11, 3) := by decide +kernel
theorem dX8_areBeside_4 : decode cX8_areBeside 4 = .ok (.iconst 0, 1) := by decide +kernel
theorem dX8_areBeside_5 : decode cX8_areBeside 5 = .ok (.iload_n 1, 1) := by decide +kernel
theorem dX8_areBeside_6 : decode cX8_areBeside 6 = .ok (.iadd, 1) := by decide +kernel
theorem dX8_areBeside_7 : decode cX8_areBeside 7 = .ok (.iaload, 1) := by decide +kernel
theorem dX8_areBeside_8 : decode cX8_areBeside 8 = .ok (.aload_n 0, 1) := by decide +kernel
theorem dX8_areBeside_9 : decode cX8_areBeside 9 = .ok (.getfield 11, 3) := by decide +kernel
theorem dX8_areBeside_12 : decode cX8_areBeside 12 = .ok (.iconst 0, 1) := by decide +kernel
theorem dX8_areBeside_13 : decode cX8_areBeside 13 = .ok (.iload_n 2, 1) := by decide +kernel
theorem dX8_areBeside_14 : decode cX8_areBeside 14 = .ok (.iadd, 1) := by decide +kernel
theorem dX8_areBeside_15 : decode cX8_areBeside 15 = .ok (.iaload, 1) := by decide +kernel
theorem dX8_areBeside_16 : decode cX8_areBeside 16 = .ok (.isub, 1) := by decide +kernel
theorem dX8_areBeside_17 : decode cX8_areBeside 17 = .ok (.invokestatic 41, 3) := by decide +kernel
theorem dX8_areBeside_20 : decode cX8_areBeside 20 = .ok (.iconst 1, 1) := by decide +kernel
theorem dX8_areBeside_21 : decode cX8_areBeside 21 = .ok (.if_icmp .ne 7, 3) := by decide +kernel
theorem dX8_areBeside_24 : decode cX8_areBeside 24 = .ok (.iconst 1, 1) := by decide +kernel
theorem dX8_areBeside_25 : decode cX8_areBeside 25 = .ok (.goto 4, 3) := by decide +kernel
theorem dX8_areBeside_28 : decode cX8_areBeside 28 = .ok (.iconst 0, 1) := by decide +kernel
theorem dX8_areBeside_29 : decode cX8_areBeside 29 = .ok (.ireturn, 1) := by decide +kernel
theorem dX8_inDrawer_0 : decode cX8_inDrawer 0 = .ok (.aload_n 0, 1) := by decide +kernel
theorem dX8_inDrawer_1 : decode cX8_inDrawer 1 = .ok (.getfield 11, 3) := by decide +kernel
theorem dX8_inDrawer_4 : decode cX8_inDrawer 4 = .ok (.bipush 9, 2) := by decide +kernel
theorem dX8_inDrawer_6 : decode cX8_inDrawer 6 = .ok (.iload_n 1, 1) := by decide +kernel
theorem dX8_inDrawer_7 : decode cX8_inDrawer 7 = .ok (.iadd, 1) := by decide +kernel
theorem dX8_inDrawer_8 : decode cX8_inDrawer 8 = .ok (.iaload, 1) := by decide +kernel
theorem dX8_inDrawer_9 : decode cX8_inDrawer 9 = .ok (.ireturn, 1) := by decide +kernel
theorem dX8_placeOf_0 : decode cX8_placeOf 0 = .ok (.iconst 0, 1) := by decide +kernel
theorem dX8_placeOf_1 : decode cX8_placeOf 1 = .ok (.istore_n 3, 1) := by decide +kernel
theorem dX8_placeOf_2 : decode cX8_placeOf 2 = .ok (.iload_n 3, 1) := by decide +kernel
theorem dX8_placeOf_3 : decode cX8_placeOf 3 = .ok (.iload_n 2, 1) := by decide +kernel
theorem dX8_placeOf_4 : decode cX8_placeOf 4 = .ok (.if_icmp .ge 24, 3) := by decide +kernel
theorem dX8_placeOf_7 : decode cX8_placeOf 7 = .ok (.aload_n 0, 1) := by decide +kernel
theorem dX8_placeOf_8 : decode cX8_placeOf 8 = .ok (.getfield 11, 3) := by decide +kernel
theorem dX8_placeOf_11 : decode cX8_placeOf 11 = .ok (.bipush 9, 2) := by decide +kernel
theorem dX8_placeOf_13 : decode cX8_placeOf 13 = .ok (.iload_n 3, 1) := by decide +kernel
theorem dX8_placeOf_14 : decode cX8_placeOf 14 = .ok (.iadd, 1) := by decide +kernel
theorem dX8_placeOf_15 : decode cX8_placeOf 15 = .ok (.iaload, 1) := by decide +kernel
theorem dX8_placeOf_16 : decode cX8_placeOf 16 = .ok (.iload_n 1, 1) := by decide +kernel
theorem dX8_placeOf_17 : decode cX8_placeOf 17 = .ok (.if_icmp .ne 5, 3) := by decide +kernel
theorem dX8_placeOf_20 : decode cX8_placeOf 20 = .ok (.iload_n 3, 1) := by decide +kernel
theorem dX8_placeOf_21 : decode cX8_placeOf 21 = .ok (.ireturn, 1) := by decide +kernel
theorem dX8_placeOf_22 : decode cX8_placeOf 22 = .ok (.iinc 3 1, 3) := by decide +kernel
theorem dX8_placeOf_25 : decode cX8_placeOf 25 = .ok (.goto (-23), 3) := by decide +kernel
theorem dX8_placeOf_28 : decode cX8_placeOf 28 = .ok (.iconst (-1), 1) := by decide +kernel
theorem dX8_placeOf_29 : decode cX8_placeOf 29 = .ok (.ireturn, 1) := by decide +kernel
theorem dX8_saidFor_0 : decode cX8_saidFor 0 = .ok (.aload_n 0, 1) := by decide +kernel
theorem dX8_saidFor_1 : decode cX8_saidFor 1 = .ok (.getfield 11, 3) := by decide +kernel
theorem dX8_saidFor_4 : decode cX8_saidFor 4 = .ok (.bipush 18, 2) := by decide +kernel
theorem dX8_saidFor_6 : decode cX8_saidFor 6 = .ok (.iload_n 1, 1) := by decide +kernel
theorem dX8_saidFor_7 : decode cX8_saidFor 7 = .ok (.iadd, 1) := by decide +kernel
theorem dX8_saidFor_8 : decode cX8_saidFor 8 = .ok (.iaload, 1) := by decide +kernel
theorem dX8_saidFor_9 : decode cX8_saidFor 9 = .ok (.ireturn, 1) := by decide +kernel
theorem dX8_isAsleep_0 : decode cX8_isAsleep 0 = .ok (.aload_n 0, 1) := by decide +kernel
theorem dX8_isAsleep_1 : decode cX8_isAsleep 1 = .ok (.getfield 11, 3) := by decide +kernel
theorem dX8_isAsleep_4 : decode cX8_isAsleep 4 = .ok (.bipush 27, 2) := by decide +kernel
theorem dX8_isAsleep_6 : decode cX8_isAsleep 6 = .ok (.iload_n 1, 1) := by decide +kernel
theorem dX8_isAsleep_7 : decode cX8_isAsleep 7 = .ok (.iadd, 1) := by decide +kernel
theorem dX8_isAsleep_8 : decode cX8_isAsleep 8 = .ok (.iaload, 1) := by decide +kernel
theorem dX8_isAsleep_9 : decode cX8_isAsleep 9 = .ok (.iconst 1, 1) := by decide +kernel
theorem dX8_isAsleep_10 : decode cX8_isAsleep 10 = .ok (.if_icmp .ne 7, 3) := by decide +kernel
theorem dX8_isAsleep_13 : decode cX8_isAsleep 13 = .ok (.iconst 1, 1) := by decide +kernel
theorem dX8_isAsleep_14 : decode cX8_isAsleep 14 = .ok (.goto 4, 3) := by decide +kernel
theorem dX8_isAsleep_17 : decode cX8_isAsleep 17 = .ok (.iconst 0, 1) := by decide +kernel
theorem dX8_isAsleep_18 : decode cX8_isAsleep 18 = .ok (.ireturn, 1) := by decide +kernel
theorem dX8_timesWoken_0 : decode cX8_timesWoken 0 = .ok (.aload_n 0, 1) := by decide +kernel
theorem dX8_timesWoken_1 : decode cX8_timesWoken 1 = .ok (.getfield 11, 3) := by decide +kernel
theorem dX8_timesWoken_4 : decode cX8_timesWoken 4 = .ok (.bipush 36, 2) := by decide +kernel
theorem dX8_timesWoken_6 : decode cX8_timesWoken 6 = .ok (.iload_n 1, 1) := by decide +kernel
theorem dX8_timesWoken_7 : decode cX8_timesWoken 7 = .ok (.iadd, 1) := by decide +kernel
theorem dX8_timesWoken_8 : decode cX8_timesWoken 8 = .ok (.iaload, 1) := by decide +kernel
theorem dX8_timesWoken_9 : decode cX8_timesWoken 9 = .ok (.ireturn, 1) := by decide +kernel
theorem dX8_lostBy_0 : decode cX8_lostBy 0 = .ok (.aload_n 0, 1) := by decide +kernel
theorem dX8_lostBy_1 : decode cX8_lostBy 1 = .ok (.getfield 11, 3) := by decide +kernel
theorem dX8_lostBy_4 : decode cX8_lostBy 4 = .ok (.bipush 45, 2) := by decide +kernel
theorem dX8_lostBy_6 : decode cX8_lostBy 6 = .ok (.iload_n 1, 1) := by decide +kernel
theorem dX8_lostBy_7 : decode cX8_lostBy 7 = .ok (.iadd, 1) := by decide +kernel
theorem dX8_lostBy_8 : decode cX8_lostBy 8 = .ok (.iaload, 1) := by decide +kernel
theorem dX8_lostBy_9 : decode cX8_lostBy 9 = .ok (.ireturn, 1) := by decide +kernel
theorem dX8_coffees_0 : decode cX8_coffees 0 = .ok (.aload_n 0, 1) := by decide +kernel
theorem dX8_coffees_1 : decode cX8_coffees 1 = .ok (.getfield 11, 3) := by decide +kernel
theorem dX8_coffees_4 : decode cX8_coffees 4 = .ok (.bipush 54, 2) := by decide +kernel
theorem dX8_coffees_6 : decode cX8_coffees 6 = .ok (.iaload, 1) := by decide +kernel
theorem dX8_coffees_7 : decode cX8_coffees 7 = .ok (.ireturn, 1) := by decide +kernel
theorem dX8_borders_0 : decode cX8_borders 0 = .ok (.aload_n 0, 1) := by decide +kernel
theorem dX8_borders_1 : decode cX8_borders 1 = .ok (.getfield 11, 3) := by decide +kernel
theorem dX8_borders_4 : decode cX8_borders 4 = .ok (.bipush 55, 2) := by decide +kernel
theorem dX8_borders_6 : decode cX8_borders 6 = .ok (.iaload, 1) := by decide +kernel
theorem dX8_borders_7 : decode cX8_borders 7 = .ok (.ireturn, 1) := by decide +kernel
theorem dX8_asleepInAll_0 : decode cX8_asleepInAll 0 = .ok (.aload_n 0, 1) := by decide +kernel
theorem dX8_asleepInAll_1 : decode cX8_asleepInAll 1 = .ok (.bipush 27, 2) := by decide +kernel
theorem dX8_asleepInAll_3 : decode cX8_asleepInAll 3 = .ok (.invokevirtual 46, 3) := by decide +kernel
theorem dX8_asleepInAll_6 : decode cX8_asleepInAll 6 = .ok (.ireturn, 1) := by decide +kernel
theorem dX8_lostInAll_0 : decode cX8_lostInAll 0 = .ok (.aload_n 0, 1) := by decide +kernel
theorem dX8_lostInAll_1 : decode cX8_lostInAll 1 = .ok (.bipush 45, 2) := by decide +kernel
theorem dX8_lostInAll_3 : decode cX8_lostInAll 3 = .ok (.invokevirtual 46, 3) := by decide +kernel
theorem dX8_lostInAll_6 : decode cX8_lostInAll 6 = .ok (.ireturn, 1) := by decide +kernel
theorem dX8_sumFrom_0 : decode cX8_sumFrom 0 = .ok (.iconst 0, 1) := by decide +kernel
theorem dX8_sumFrom_1 : decode cX8_sumFrom 1 = .ok (.istore_n 2, 1) := by decide +kernel
theorem dX8_sumFrom_2 : decode cX8_sumFrom 2 = .ok (.iconst 0, 1) := by decide +kernel
theorem dX8_sumFrom_3 : decode cX8_sumFrom 3 = .ok (.istore_n 3, 1) := by decide +kernel
theorem dX8_sumFrom_4 : decode cX8_sumFrom 4 = .ok (.iload_n 3, 1) := by decide +kernel
theorem dX8_sumFrom_5 : decode cX8_sumFrom 5 = .ok (.bipush 9, 2) := by decide +kernel
theorem dX8_sumFrom_7 : decode cX8_sumFrom 7 = .ok (.if_icmp .ge 20, 3) := by decide +kernel
theorem dX8_sumFrom_10 : decode cX8_sumFrom 10 = .ok (.iload_n 2, 1) := by decide +kernel
theorem dX8_sumFrom_11 : decode cX8_sumFrom 11 = .ok (.aload_n 0, 1) := by decide +kernel
theorem dX8_sumFrom_12 : decode cX8_sumFrom 12 = .ok (.getfield 11, 3) := by decide +kernel
theorem dX8_sumFrom_15 : decode cX8_sumFrom 15 = .ok (.iload_n 1, 1) := by decide +kernel
theorem dX8_sumFrom_16 : decode cX8_sumFrom 16 = .ok (.iload_n 3, 1) := by decide +kernel
theorem dX8_sumFrom_17 : decode cX8_sumFrom 17 = .ok (.iadd, 1) := by decide +kernel
theorem dX8_sumFrom_18 : decode cX8_sumFrom 18 = .ok (.iaload, 1) := by decide +kernel
theorem dX8_sumFrom_19 : decode cX8_sumFrom 19 = .ok (.iadd, 1) := by decide +kernel
theorem dX8_sumFrom_20 : decode cX8_sumFrom 20 = .ok (.istore_n 2, 1) := by decide +kernel
theorem dX8_sumFrom_21 : decode cX8_sumFrom 21 = .ok (.iinc 3 1, 3) := by decide +kernel
theorem dX8_sumFrom_24 : decode cX8_sumFrom 24 = .ok (.goto (-20), 3) := by decide +kernel
theorem dX8_sumFrom_27 : decode cX8_sumFrom 27 = .ok (.iload_n 2, 1) := by decide +kernel
theorem dX8_sumFrom_28 : decode cX8_sumFrom 28 = .ok (.ireturn, 1) := by decide +kernel
theorem dX8_shiftPaper_0 : decode cX8_shiftPaper 0 = .ok (.aload_n 0, 1) := by decide +kernel
theorem dX8_shiftPaper_1 : decode cX8_shiftPaper 1 = .ok (.getfield 11, 3) := by decide +kernel
theorem dX8_shiftPaper_4 : decode cX8_shiftPaper 4 = .ok (.bipush 9, 2) := by decide +kernel
theorem dX8_shiftPaper_6 : decode cX8_shiftPaper 6 = .ok (.iload_n 1, 1) := by decide +kernel
theorem dX8_shiftPaper_7 : decode cX8_shiftPaper 7 = .ok (.iadd, 1) := by decide +kernel
theorem dX8_shiftPaper_8 : decode cX8_shiftPaper 8 = .ok (.iaload, 1) := by decide +kernel
theorem dX8_shiftPaper_9 : decode cX8_shiftPaper 9 = .ok (.istore_n 3, 1) := by decide +kernel
theorem dX8_shiftPaper_10 : decode cX8_shiftPaper 10 = .ok (.iload_n 1, 1) := by decide +kernel
theorem dX8_shiftPaper_11 : decode cX8_shiftPaper 11 = .ok (.istore 4, 2) := by decide +kernel
theorem dX8_shiftPaper_13 : decode cX8_shiftPaper 13 = .ok (.iload 4, 2) := by decide +kernel
theorem dX8_shiftPaper_15 : decode cX8_shiftPaper 15 = .ok (.iload_n 2, 1) := by decide +kernel
theorem dX8_shiftPaper_16 : decode cX8_shiftPaper 16 = .ok (.if_icmp .ge 31, 3) := by decide +kernel
theorem dX8_shiftPaper_19 : decode cX8_shiftPaper 19 = .ok (.aload_n 0, 1) := by decide +kernel
theorem dX8_shiftPaper_20 : decode cX8_shiftPaper 20 = .ok (.getfield 11, 3) := by decide +kernel
theorem dX8_shiftPaper_23 : decode cX8_shiftPaper 23 = .ok (.bipush 9, 2) := by decide +kernel
theorem dX8_shiftPaper_25 : decode cX8_shiftPaper 25 = .ok (.iload 4, 2) := by decide +kernel
theorem dX8_shiftPaper_27 : decode cX8_shiftPaper 27 = .ok (.iadd, 1) := by decide +kernel
theorem dX8_shiftPaper_28 : decode cX8_shiftPaper 28 = .ok (.aload_n 0, 1) := by decide +kernel
theorem dX8_shiftPaper_29 : decode cX8_shiftPaper 29 = .ok (.getfield 11, 3) := by decide +kernel
theorem dX8_shiftPaper_32 : decode cX8_shiftPaper 32 = .ok (.bipush 9, 2) := by decide +kernel
theorem dX8_shiftPaper_34 : decode cX8_shiftPaper 34 = .ok (.iload 4, 2) := by decide +kernel
theorem dX8_shiftPaper_36 : decode cX8_shiftPaper 36 = .ok (.iadd, 1) := by decide +kernel
theorem dX8_shiftPaper_37 : decode cX8_shiftPaper 37 = .ok (.iconst 1, 1) := by decide +kernel
theorem dX8_shiftPaper_38 : decode cX8_shiftPaper 38 = .ok (.iadd, 1) := by decide +kernel
theorem dX8_shiftPaper_39 : decode cX8_shiftPaper 39 = .ok (.iaload, 1) := by decide +kernel
theorem dX8_shiftPaper_40 : decode cX8_shiftPaper 40 = .ok (.iastore, 1) := by decide +kernel
theorem dX8_shiftPaper_41 : decode cX8_shiftPaper 41 = .ok (.iinc 4 1, 3) := by decide +kernel
theorem dX8_shiftPaper_44 : decode cX8_shiftPaper 44 = .ok (.goto (-31), 3) := by decide +kernel
theorem dX8_shiftPaper_47 : decode cX8_shiftPaper 47 = .ok (.iload_n 1, 1) := by decide +kernel
theorem dX8_shiftPaper_48 : decode cX8_shiftPaper 48 = .ok (.istore 4, 2) := by decide +kernel
theorem dX8_shiftPaper_50 : decode cX8_shiftPaper 50 = .ok (.iload 4, 2) := by decide +kernel
theorem dX8_shiftPaper_52 : decode cX8_shiftPaper 52 = .ok (.iload_n 2, 1) := by decide +kernel
theorem dX8_shiftPaper_53 : decode cX8_shiftPaper 53 = .ok (.if_icmp .le 31, 3) := by decide +kernel
theorem dX8_shiftPaper_56 : decode cX8_shiftPaper 56 = .ok (.aload_n 0, 1) := by decide +kernel
theorem dX8_shiftPaper_57 : decode cX8_shiftPaper 57 = .ok (.getfield 11, 3) := by decide +kernel
theorem dX8_shiftPaper_60 : decode cX8_shiftPaper 60 = .ok (.bipush 9, 2) := by decide +kernel
theorem dX8_shiftPaper_62 : decode cX8_shiftPaper 62 = .ok (.iload 4, 2) := by decide +kernel
theorem dX8_shiftPaper_64 : decode cX8_shiftPaper 64 = .ok (.iadd, 1) := by decide +kernel
theorem dX8_shiftPaper_65 : decode cX8_shiftPaper 65 = .ok (.aload_n 0, 1) := by decide +kernel
theorem dX8_shiftPaper_66 : decode cX8_shiftPaper 66 = .ok (.getfield 11, 3) := by decide +kernel
theorem dX8_shiftPaper_69 : decode cX8_shiftPaper 69 = .ok (.bipush 9, 2) := by decide +kernel
theorem dX8_shiftPaper_71 : decode cX8_shiftPaper 71 = .ok (.iload 4, 2) := by decide +kernel
theorem dX8_shiftPaper_73 : decode cX8_shiftPaper 73 = .ok (.iadd, 1) := by decide +kernel
theorem dX8_shiftPaper_74 : decode cX8_shiftPaper 74 = .ok (.iconst 1, 1) := by decide +kernel
theorem dX8_shiftPaper_75 : decode cX8_shiftPaper 75 = .ok (.isub, 1) := by decide +kernel
theorem dX8_shiftPaper_76 : decode cX8_shiftPaper 76 = .ok (.iaload, 1) := by decide +kernel
theorem dX8_shiftPaper_77 : decode cX8_shiftPaper 77 = .ok (.iastore, 1) := by decide +kernel
theorem dX8_shiftPaper_78 : decode cX8_shiftPaper 78 = .ok (.iinc 4 (-1), 3) := by decide +kernel
theorem dX8_shiftPaper_81 : decode cX8_shiftPaper 81 = .ok (.goto (-31), 3) := by decide +kernel
theorem dX8_shiftPaper_84 : decode cX8_shiftPaper 84 = .ok (.aload_n 0, 1) := by decide +kernel
theorem dX8_shiftPaper_85 : decode cX8_shiftPaper 85 = .ok (.getfield 11, 3) := by decide +kernel
theorem dX8_shiftPaper_88 : decode cX8_shiftPaper 88 = .ok (.bipush 9, 2) := by decide +kernel
theorem dX8_shiftPaper_90 : decode cX8_shiftPaper 90 = .ok (.iload_n 2, 1) := by decide +kernel
theorem dX8_shiftPaper_91 : decode cX8_shiftPaper 91 = .ok (.iadd, 1) := by decide +kernel
theorem dX8_shiftPaper_92 : decode cX8_shiftPaper 92 = .ok (.iload_n 3, 1) := by decide +kernel
theorem dX8_shiftPaper_93 : decode cX8_shiftPaper 93 = .ok (.iastore, 1) := by decide +kernel
theorem dX8_shiftPaper_94 : decode cX8_shiftPaper 94 = .ok (.return_, 1) := by decide +kernel
theorem dX8_putSaid_0 : decode cX8_putSaid 0 = .ok (.aload_n 0, 1) := by decide +kernel
theorem dX8_putSaid_1 : decode cX8_putSaid 1 = .ok (.getfield 11, 3) := by decide +kernel
theorem dX8_putSaid_4 : decode cX8_putSaid 4 = .ok (.bipush 18, 2) := by decide +kernel
theorem dX8_putSaid_6 : decode cX8_putSaid 6 = .ok (.iload_n 1, 1) := by decide +kernel
theorem dX8_putSaid_7 : decode cX8_putSaid 7 = .ok (.iadd, 1) := by decide +kernel
theorem dX8_putSaid_8 : decode cX8_putSaid 8 = .ok (.iload_n 2, 1) := by decide +kernel
theorem dX8_putSaid_9 : decode cX8_putSaid 9 = .ok (.iastore, 1) := by decide +kernel
theorem dX8_putSaid_10 : decode cX8_putSaid 10 = .ok (.return_, 1) := by decide +kernel
theorem dX8_rouse_0 : decode cX8_rouse 0 = .ok (.aload_n 0, 1) := by decide +kernel
theorem dX8_rouse_1 : decode cX8_rouse 1 = .ok (.getfield 11, 3) := by decide +kernel
theorem dX8_rouse_4 : decode cX8_rouse 4 = .ok (.bipush 27, 2) := by decide +kernel
theorem dX8_rouse_6 : decode cX8_rouse 6 = .ok (.iload_n 1, 1) := by decide +kernel
theorem dX8_rouse_7 : decode cX8_rouse 7 = .ok (.iadd, 1) := by decide +kernel
theorem dX8_rouse_8 : decode cX8_rouse 8 = .ok (.iconst 0, 1) := by decide +kernel
theorem dX8_rouse_9 : decode cX8_rouse 9 = .ok (.iastore, 1) := by decide +kernel
theorem dX8_rouse_10 : decode cX8_rouse 10 = .ok (.aload_n 0, 1) := by decide +kernel
theorem dX8_rouse_11 : decode cX8_rouse 11 = .ok (.getfield 11, 3) := by decide +kernel
theorem dX8_rouse_14 : decode cX8_rouse 14 = .ok (.bipush 36, 2) := by decide +kernel
theorem dX8_rouse_16 : decode cX8_rouse 16 = .ok (.iload_n 1, 1) := by decide +kernel
theorem dX8_rouse_17 : decode cX8_rouse 17 = .ok (.iadd, 1) := by decide +kernel
theorem dX8_rouse_18 : decode cX8_rouse 18 = .ok (.dup2, 1) := by decide +kernel
theorem dX8_rouse_19 : decode cX8_rouse 19 = .ok (.iaload, 1) := by decide +kernel
theorem dX8_rouse_20 : decode cX8_rouse 20 = .ok (.iconst 1, 1) := by decide +kernel
theorem dX8_rouse_21 : decode cX8_rouse 21 = .ok (.iadd, 1) := by decide +kernel
theorem dX8_rouse_22 : decode cX8_rouse 22 = .ok (.iastore, 1) := by decide +kernel
theorem dX8_rouse_23 : decode cX8_rouse 23 = .ok (.aload_n 0, 1) := by decide +kernel
theorem dX8_rouse_24 : decode cX8_rouse 24 = .ok (.getfield 11, 3) := by decide +kernel
theorem dX8_rouse_27 : decode cX8_rouse 27 = .ok (.bipush 45, 2) := by decide +kernel
theorem dX8_rouse_29 : decode cX8_rouse 29 = .ok (.iload_n 1, 1) := by decide +kernel
theorem dX8_rouse_30 : decode cX8_rouse 30 = .ok (.iadd, 1) := by decide +kernel
theorem dX8_rouse_31 : decode cX8_rouse 31 = .ok (.dup2, 1) := by decide +kernel
theorem dX8_rouse_32 : decode cX8_rouse 32 = .ok (.iaload, 1) := by decide +kernel
theorem dX8_rouse_33 : decode cX8_rouse 33 = .ok (.iload_n 2, 1) := by decide +kernel
theorem dX8_rouse_34 : decode cX8_rouse 34 = .ok (.iadd, 1) := by decide +kernel
theorem dX8_rouse_35 : decode cX8_rouse 35 = .ok (.iastore, 1) := by decide +kernel
theorem dX8_rouse_36 : decode cX8_rouse 36 = .ok (.return_, 1) := by decide +kernel
theorem dX8_layDown_0 : decode cX8_layDown 0 = .ok (.aload_n 0, 1) := by decide +kernel
theorem dX8_layDown_1 : decode cX8_layDown 1 = .ok (.getfield 11, 3) := by decide +kernel
theorem dX8_layDown_4 : decode cX8_layDown 4 = .ok (.bipush 27, 2) := by decide +kernel
theorem dX8_layDown_6 : decode cX8_layDown 6 = .ok (.iload_n 1, 1) := by decide +kernel
theorem dX8_layDown_7 : decode cX8_layDown 7 = .ok (.iadd, 1) := by decide +kernel
theorem dX8_layDown_8 : decode cX8_layDown 8 = .ok (.iconst 1, 1) := by decide +kernel
theorem dX8_layDown_9 : decode cX8_layDown 9 = .ok (.iastore, 1) := by decide +kernel
theorem dX8_layDown_10 : decode cX8_layDown 10 = .ok (.return_, 1) := by decide +kernel
theorem dX8_exchange_0 : decode cX8_exchange 0 = .ok (.aload_n 0, 1) := by decide +kernel
theorem dX8_exchange_1 : decode cX8_exchange 1 = .ok (.getfield 11, 3) := by decide +kernel
theorem dX8_exchange_4 : decode cX8_exchange 4 = .ok (.iconst 0, 1) := by decide +kernel
theorem dX8_exchange_5 : decode cX8_exchange 5 = .ok (.iload_n 1, 1) := by decide +kernel
theorem dX8_exchange_6 : decode cX8_exchange 6 = .ok (.iadd, 1) := by decide +kernel
theorem dX8_exchange_7 : decode cX8_exchange 7 = .ok (.iaload, 1) := by decide +kernel
theorem dX8_exchange_8 : decode cX8_exchange 8 = .ok (.istore_n 3, 1) := by decide +kernel
theorem dX8_exchange_9 : decode cX8_exchange 9 = .ok (.aload_n 0, 1) := by decide +kernel
theorem dX8_exchange_10 : decode cX8_exchange 10 = .ok (.getfield 11, 3) := by decide +kernel
theorem dX8_exchange_13 : decode cX8_exchange 13 = .ok (.iconst 0, 1) := by decide +kernel
theorem dX8_exchange_14 : decode cX8_exchange 14 = .ok (.iload_n 1, 1) := by decide +kernel
theorem dX8_exchange_15 : decode cX8_exchange 15 = .ok (.iadd, 1) := by decide +kernel
theorem dX8_exchange_16 : decode cX8_exchange 16 = .ok (.aload_n 0, 1) := by decide +kernel
theorem dX8_exchange_17 : decode cX8_exchange 17 = .ok (.getfield 11, 3) := by decide +kernel
theorem dX8_exchange_20 : decode cX8_exchange 20 = .ok (.iconst 0, 1) := by decide +kernel
theorem dX8_exchange_21 : decode cX8_exchange 21 = .ok (.iload_n 2, 1) := by decide +kernel
theorem dX8_exchange_22 : decode cX8_exchange 22 = .ok (.iadd, 1) := by decide +kernel
theorem dX8_exchange_23 : decode cX8_exchange 23 = .ok (.iaload, 1) := by decide +kernel
theorem dX8_exchange_24 : decode cX8_exchange 24 = .ok (.iastore, 1) := by decide +kernel
theorem dX8_exchange_25 : decode cX8_exchange 25 = .ok (.aload_n 0, 1) := by decide +kernel
theorem dX8_exchange_26 : decode cX8_exchange 26 = .ok (.getfield 11, 3) := by decide +kernel
theorem dX8_exchange_29 : decode cX8_exchange 29 = .ok (.iconst 0, 1) := by decide +kernel
theorem dX8_exchange_30 : decode cX8_exchange 30 = .ok (.iload_n 2, 1) := by decide +kernel
theorem dX8_exchange_31 : decode cX8_exchange 31 = .ok (.iadd, 1) := by decide +kernel
theorem dX8_exchange_32 : decode cX8_exchange 32 = .ok (.iload_n 3, 1) := by decide +kernel
theorem dX8_exchange_33 : decode cX8_exchange 33 = .ok (.iastore, 1) := by decide +kernel
theorem dX8_exchange_34 : decode cX8_exchange 34 = .ok (.return_, 1) := by decide +kernel
theorem dX8_leaveCoffees_0 : decode cX8_leaveCoffees 0 = .ok (.aload_n 0, 1) := by decide +kernel
theorem dX8_leaveCoffees_1 : decode cX8_leaveCoffees 1 = .ok (.getfield 11, 3) := by decide +kernel
theorem dX8_leaveCoffees_4 : decode cX8_leaveCoffees 4 = .ok (.bipush 54, 2) := by decide +kernel
theorem dX8_leaveCoffees_6 : decode cX8_leaveCoffees 6 = .ok (.iload_n 1, 1) := by decide +kernel
theorem dX8_leaveCoffees_7 : decode cX8_leaveCoffees 7 = .ok (.iastore, 1) := by decide +kernel
theorem dX8_leaveCoffees_8 : decode cX8_leaveCoffees 8 = .ok (.return_, 1) := by decide +kernel
theorem dX8_addBorder_0 : decode cX8_addBorder 0 = .ok (.aload_n 0, 1) := by decide +kernel
theorem dX8_addBorder_1 : decode cX8_addBorder 1 = .ok (.getfield 11, 3) := by decide +kernel
theorem dX8_addBorder_4 : decode cX8_addBorder 4 = .ok (.bipush 55, 2) := by decide +kernel
theorem dX8_addBorder_6 : decode cX8_addBorder 6 = .ok (.dup2, 1) := by decide +kernel
theorem dX8_addBorder_7 : decode cX8_addBorder 7 = .ok (.iaload, 1) := by decide +kernel
theorem dX8_addBorder_8 : decode cX8_addBorder 8 = .ok (.iconst 1, 1) := by decide +kernel
theorem dX8_addBorder_9 : decode cX8_addBorder 9 = .ok (.iadd, 1) := by decide +kernel
theorem dX8_addBorder_10 : decode cX8_addBorder 10 = .ok (.iastore, 1) := by decide +kernel
theorem dX8_addBorder_11 : decode cX8_addBorder 11 = .ok (.return_, 1) := by decide +kernel
theorem dX9_init_0 : decode cX9_init 0 = .ok (.aload_n 0, 1) := by decide +kernel
theorem dX9_init_1 : decode cX9_init 1 = .ok (.invokespecial 3, 3) := by decide +kernel
theorem dX9_init_4 : decode cX9_init 4 = .ok (.aload_n 0, 1) := by decide +kernel
theorem dX9_init_5 : decode cX9_init 5 = .ok (.iconst 4, 1) := by decide +kernel
theorem dX9_init_6 : decode cX9_init 6 = .ok (.anewarray 11, 3) := by decide +kernel
theorem dX9_init_9 : decode cX9_init 9 = .ok (.putfield 13, 3) := by decide +kernel
theorem dX9_init_12 : decode cX9_init 12 = .ok (.aload_n 0, 1) := by decide +kernel
theorem dX9_init_13 : decode cX9_init 13 = .ok (.iconst 4, 1) := by decide +kernel
theorem dX9_init_14 : decode cX9_init 14 = .ok (.anewarray 17, 3) := by decide +kernel
theorem dX9_init_17 : decode cX9_init 17 = .ok (.putfield 19, 3) := by decide +kernel
theorem dX9_init_20 : decode cX9_init 20 = .ok (.aload_n 0, 1) := by decide +kernel
theorem dX9_init_21 : decode cX9_init 21 = .ok (.new 11, 3) := by decide +kernel
theorem dX9_init_24 : decode cX9_init 24 = .ok (.dup, 1) := by decide +kernel
theorem dX9_init_25 : decode cX9_init 25 = .ok (.invokespecial 23, 3) := by decide +kernel
theorem dX9_init_28 : decode cX9_init 28 = .ok (.putfield 24, 3) := by decide +kernel
theorem dX9_init_31 : decode cX9_init 31 = .ok (.aload_n 0, 1) := by decide +kernel
theorem dX9_init_32 : decode cX9_init 32 = .ok (.new 17, 3) := by decide +kernel
theorem dX9_init_35 : decode cX9_init 35 = .ok (.dup, 1) := by decide +kernel
theorem dX9_init_36 : decode cX9_init 36 = .ok (.invokespecial 28, 3) := by decide +kernel
theorem dX9_init_39 : decode cX9_init 39 = .ok (.putfield 29, 3) := by decide +kernel
theorem dX9_init_42 : decode cX9_init 42 = .ok (.return_, 1) := by decide +kernel
theorem dX9_lawCount_0 : decode cX9_lawCount 0 = .ok (.aload_n 0, 1) := by decide +kernel
theorem dX9_lawCount_1 : decode cX9_lawCount 1 = .ok (.getfield 33, 3) := by decide +kernel
theorem dX9_lawCount_4 : decode cX9_lawCount 4 = .ok (.ireturn, 1) := by decide +kernel
theorem dX9_linesCount_0 : decode cX9_linesCount 0 = .ok (.aload_n 0, 1) := by decide +kernel
theorem dX9_linesCount_1 : decode cX9_linesCount 1 = .ok (.getfield 37, 3) := by decide +kernel
theorem dX9_linesCount_4 : decode cX9_linesCount 4 = .ok (.ireturn, 1) := by decide +kernel
theorem dX9_lawAt_0 : decode cX9_lawAt 0 = .ok (.iload_n 1, 1) := by decide +kernel
theorem dX9_lawAt_1 : decode cX9_lawAt 1 = .ok (.ifCond .lt 20, 3) := by decide +kernel
theorem dX9_lawAt_4 : decode cX9_lawAt 4 = .ok (.iload_n 1, 1) := by decide +kernel
theorem dX9_lawAt_5 : decode cX9_lawAt 5 = .ok (.aload_n 0, 1) := by decide +kernel
theorem dX9_lawAt_6 : decode cX9_lawAt 6 = .ok (.getfield 33, 3) := by decide +kernel
theorem dX9_lawAt_9 : decode cX9_lawAt 9 = .ok (.if_icmp .ge 12, 3) := by decide +kernel
theorem dX9_lawAt_12 : decode cX9_lawAt 12 = .ok (.aload_n 0, 1) := by decide +kernel
theorem dX9_lawAt_13 : decode cX9_lawAt 13 = .ok (.getfield 13, 3) := by decide +kernel
theorem dX9_lawAt_16 : decode cX9_lawAt 16 = .ok (.iload_n 1, 1) := by decide +kernel
theorem dX9_lawAt_17 : decode cX9_lawAt 17 = .ok (.aaload, 1) := by decide +kernel
theorem dX9_lawAt_18 : decode cX9_lawAt 18 = .ok (.goto 4, 3) := by decide +kernel
theorem dX9_lawAt_21 : decode cX9_lawAt 21 = .ok (.aconst_null, 1) := by decide +kernel
theorem dX9_lawAt_22 : decode cX9_lawAt 22 = .ok (.areturn, 1) := by decide +kernel
theorem dX9_linesAt_0 : decode cX9_linesAt 0 = .ok (.iload_n 1, 1) := by decide +kernel
theorem dX9_linesAt_1 : decode cX9_linesAt 1 = .ok (.ifCond .lt 20, 3) := by decide +kernel
theorem dX9_linesAt_4 : decode cX9_linesAt 4 = .ok (.iload_n 1, 1) := by decide +kernel
theorem dX9_linesAt_5 : decode cX9_linesAt 5 = .ok (.aload_n 0, 1) := by decide +kernel
theorem dX9_linesAt_6 : decode cX9_linesAt 6 = .ok (.getfield 37, 3) := by decide +kernel
theorem dX9_linesAt_9 : decode cX9_linesAt 9 = .ok (.if_icmp .ge 12, 3) := by decide +kernel
theorem dX9_linesAt_12 : decode cX9_linesAt 12 = .ok (.aload_n 0, 1) := by decide +kernel
theorem dX9_linesAt_13 : decode cX9_linesAt 13 = .ok (.getfield 19, 3) := by decide +kernel
theorem dX9_linesAt_16 : decode cX9_linesAt 16 = .ok (.iload_n 1, 1) := by decide +kernel
theorem dX9_linesAt_17 : decode cX9_linesAt 17 = .ok (.aaload, 1) := by decide +kernel
theorem dX9_linesAt_18 : decode cX9_linesAt 18 = .ok (.goto 4, 3) := by decide +kernel
theorem dX9_linesAt_21 : decode cX9_linesAt 21 = .ok (.aconst_null, 1) := by decide +kernel
theorem dX9_linesAt_22 : decode cX9_linesAt 22 = .ok (.areturn, 1) := by decide +kernel
theorem dX9_lawDraft_0 : decode cX9_lawDraft 0 = .ok (.aload_n 0, 1) := by decide +kernel
theorem dX9_lawDraft_1 : decode cX9_lawDraft 1 = .ok (.getfield 24, 3) := by decide +kernel
theorem dX9_lawDraft_4 : decode cX9_lawDraft 4 = .ok (.areturn, 1) := by decide +kernel
theorem dX9_linesDraft_0 : decode cX9_linesDraft 0 = .ok (.aload_n 0, 1) := by decide +kernel
theorem dX9_linesDraft_1 : decode cX9_linesDraft 1 = .ok (.getfield 29, 3) := by decide +kernel
theorem dX9_linesDraft_4 : decode cX9_linesDraft 4 = .ok (.areturn, 1) := by decide +kernel
theorem dX9_keepLaw_0 : decode cX9_keepLaw 0 = .ok (.aload_n 0, 1) := by decide +kernel
theorem dX9_keepLaw_1 : decode cX9_keepLaw 1 = .ok (.getfield 33, 3) := by decide +kernel
theorem dX9_keepLaw_4 : decode cX9_keepLaw 4 = .ok (.iconst 4, 1) := by decide +kernel
theorem dX9_keepLaw_5 : decode cX9_keepLaw 5 = .ok (.if_icmp .ne 5, 3) := by decide +kernel
theorem dX9_keepLaw_8 : decode cX9_keepLaw 8 = .ok (.iconst (-1), 1) := by decide +kernel
theorem dX9_keepLaw_9 : decode cX9_keepLaw 9 = .ok (.ireturn, 1) := by decide +kernel
theorem dX9_keepLaw_10 : decode cX9_keepLaw 10 = .ok (.aload_n 0, 1) := by decide +kernel
theorem dX9_keepLaw_11 : decode cX9_keepLaw 11 = .ok (.getfield 13, 3) := by decide +kernel
theorem dX9_keepLaw_14 : decode cX9_keepLaw 14 = .ok (.aload_n 0, 1) := by decide +kernel
theorem dX9_keepLaw_15 : decode cX9_keepLaw 15 = .ok (.getfield 33, 3) := by decide +kernel
theorem dX9_keepLaw_18 : decode cX9_keepLaw 18 = .ok (.aload_n 0, 1) := by decide +kernel
theorem dX9_keepLaw_19 : decode cX9_keepLaw 19 = .ok (.getfield 24, 3) := by decide +kernel
theorem dX9_keepLaw_22 : decode cX9_keepLaw 22 = .ok (.aastore, 1) := by decide +kernel
theorem dX9_keepLaw_23 : decode cX9_keepLaw 23 = .ok (.aload_n 0, 1) := by decide +kernel
theorem dX9_keepLaw_24 : decode cX9_keepLaw 24 = .ok (.new 11, 3) := by decide +kernel
theorem dX9_keepLaw_27 : decode cX9_keepLaw 27 = .ok (.dup, 1) := by decide +kernel
theorem dX9_keepLaw_28 : decode cX9_keepLaw 28 = .ok (.invokespecial 23, 3) := by decide +kernel
theorem dX9_keepLaw_31 : decode cX9_keepLaw 31 = .ok (.putfield 24, 3) := by decide +kernel
theorem dX9_keepLaw_34 : decode cX9_keepLaw 34 = .ok (.aload_n 0, 1) := by decide +kernel
theorem dX9_keepLaw_35 : decode cX9_keepLaw 35 = .ok (.dup, 1) := by decide +kernel
theorem dX9_keepLaw_36 : decode cX9_keepLaw 36 = .ok (.getfield 33, 3) := by decide +kernel
theorem dX9_keepLaw_39 : decode cX9_keepLaw 39 = .ok (.iconst 1, 1) := by decide +kernel
theorem dX9_keepLaw_40 : decode cX9_keepLaw 40 = .ok (.iadd, 1) := by decide +kernel
theorem dX9_keepLaw_41 : decode cX9_keepLaw 41 = .ok (.putfield 33, 3) := by decide +kernel
theorem dX9_keepLaw_44 : decode cX9_keepLaw 44 = .ok (.aload_n 0, 1) := by decide +kernel
theorem dX9_keepLaw_45 : decode cX9_keepLaw 45 = .ok (.getfield 33, 3) := by decide +kernel
theorem dX9_keepLaw_48 : decode cX9_keepLaw 48 = .ok (.iconst 1, 1) := by decide +kernel
theorem dX9_keepLaw_49 : decode cX9_keepLaw 49 = .ok (.isub, 1) := by decide +kernel
theorem dX9_keepLaw_50 : decode cX9_keepLaw 50 = .ok (.ireturn, 1) := by decide +kernel
theorem dX9_keepLines_0 : decode cX9_keepLines 0 = .ok (.aload_n 0, 1) := by decide +kernel
theorem dX9_keepLines_1 : decode cX9_keepLines 1 = .ok (.getfield 37, 3) := by decide +kernel
theorem dX9_keepLines_4 : decode cX9_keepLines 4 = .ok (.iconst 4, 1) := by decide +kernel
theorem dX9_keepLines_5 : decode cX9_keepLines 5 = .ok (.if_icmp .ne 5, 3) := by decide +kernel
theorem dX9_keepLines_8 : decode cX9_keepLines 8 = .ok (.iconst (-1), 1) := by decide +kernel
theorem dX9_keepLines_9 : decode cX9_keepLines 9 = .ok (.ireturn, 1) := by decide +kernel
theorem dX9_keepLines_10 : decode cX9_keepLines 10 = .ok (.aload_n 0, 1) := by decide +kernel
theorem dX9_keepLines_11 : decode cX9_keepLines 11 = .ok (.getfield 19, 3) := by decide +kernel
theorem dX9_keepLines_14 : decode cX9_keepLines 14 = .ok (.aload_n 0, 1) := by decide +kernel
theorem dX9_keepLines_15 : decode cX9_keepLines 15 = .ok (.getfield 37, 3) := by decide +kernel
theorem dX9_keepLines_18 : decode cX9_keepLines 18 = .ok (.aload_n 0, 1) := by decide +kernel
theorem dX9_keepLines_19 : decode cX9_keepLines 19 = .ok (.getfield 29, 3) := by decide +kernel
theorem dX9_keepLines_22 : decode cX9_keepLines 22 = .ok (.aastore, 1) := by decide +kernel
theorem dX9_keepLines_23 : decode cX9_keepLines 23 = .ok (.aload_n 0, 1) := by decide +kernel
theorem dX9_keepLines_24 : decode cX9_keepLines 24 = .ok (.new 17, 3) := by decide +kernel
theorem dX9_keepLines_27 : decode cX9_keepLines 27 = .ok (.dup, 1) := by decide +kernel
theorem dX9_keepLines_28 : decode cX9_keepLines 28 = .ok (.invokespecial 28, 3) := by decide +kernel
theorem dX9_keepLines_31 : decode cX9_keepLines 31 = .ok (.putfield 29, 3) := by decide +kernel
theorem dX9_keepLines_34 : decode cX9_keepLines 34 = .ok (.aload_n 0, 1) := by decide +kernel
theorem dX9_keepLines_35 : decode cX9_keepLines 35 = .ok (.dup, 1) := by decide +kernel
theorem dX9_keepLines_36 : decode cX9_keepLines 36 = .ok (.getfield 37, 3) := by decide +kernel
theorem dX9_keepLines_39 : decode cX9_keepLines 39 = .ok (.iconst 1, 1) := by decide +kernel
theorem dX9_keepLines_40 : decode cX9_keepLines 40 = .ok (.iadd, 1) := by decide +kernel
theorem dX9_keepLines_41 : decode cX9_keepLines 41 = .ok (.putfield 37, 3) := by decide +kernel
theorem dX9_keepLines_44 : decode cX9_keepLines 44 = .ok (.aload_n 0, 1) := by decide +kernel
theorem dX9_keepLines_45 : decode cX9_keepLines 45 = .ok (.getfield 37, 3) := by decide +kernel
theorem dX9_keepLines_48 : decode cX9_keepLines 48 = .ok (.iconst 1, 1) := by decide +kernel
theorem dX9_keepLines_49 : decode cX9_keepLines 49 = .ok (.isub, 1) := by decide +kernel
theorem dX9_keepLines_50 : decode cX9_keepLines 50 = .ok (.ireturn, 1) := by decide +kernel
theorem dX10_init_0 : decode cX10_init 0 = .ok (.aload_n 0, 1) := by decide +kernel
theorem dX10_init_1 : decode cX10_init 1 = .ok (.invokespecial 3, 3) := by decide +kernel
theorem dX10_init_4 : decode cX10_init 4 = .ok (.aload_n 0, 1) := by decide +kernel
theorem dX10_init_5 : decode cX10_init 5 = .ok (.sipush 240, 3) := by decide +kernel
theorem dX10_init_8 : decode cX10_init 8 = .ok (.newarray .int, 2) := by decide +kernel
theorem dX10_init_10 : decode cX10_init 10 = .ok (.putfield 11, 3) := by decide +kernel
theorem dX10_init_13 : decode cX10_init 13 = .ok (.return_, 1) := by decide +kernel
theorem dX10_signsIn_0 : decode cX10_signsIn 0 = .ok (.iconst 0, 1) := by decide +kernel
theorem dX10_signsIn_1 : decode cX10_signsIn 1 = .ok (.istore_n 1, 1) := by decide +kernel
theorem dX10_signsIn_2 : decode cX10_signsIn 2 = .ok (.bipush 24, 2) := by decide +kernel
theorem dX10_signsIn_4 : decode cX10_signsIn 4 = .ok (.istore_n 2, 1) := by decide +kernel
theorem dX10_signsIn_5 : decode cX10_signsIn 5 = .ok (.iload_n 2, 1) := by decide +kernel
theorem dX10_signsIn_6 : decode cX10_signsIn 6 = .ok (.ifCond .lt 22, 3) := by decide +kernel
theorem dX10_signsIn_9 : decode cX10_signsIn 9 = .ok (.iload_n 0, 1) := by decide +kernel
theorem dX10_signsIn_10 : decode cX10_signsIn 10 = .ok (.iload_n 2, 1) := by decide +kernel
theorem dX10_signsIn_11 : decode cX10_signsIn 11 = .ok (.iushr, 1) := by decide +kernel
theorem dX10_signsIn_12 : decode cX10_signsIn 12 = .ok (.sipush 255, 3) := by decide +kernel
theorem dX10_signsIn_15 : decode cX10_signsIn 15 = .ok (.iand, 1) := by decide +kernel
theorem dX10_signsIn_16 : decode cX10_signsIn 16 = .ok (.ifCond .eq 6, 3) := by decide +kernel
theorem dX10_signsIn_19 : decode cX10_signsIn 19 = .ok (.iinc 1 1, 3) := by decide +kernel
theorem dX10_signsIn_22 : decode cX10_signsIn 22 = .ok (.iinc 2 (-8), 3) := by decide +kernel
theorem dX10_signsIn_25 : decode cX10_signsIn 25 = .ok (.goto (-20), 3) := by decide +kernel
theorem dX10_signsIn_28 : decode cX10_signsIn 28 = .ok (.iload_n 1, 1) := by decide +kernel
theorem dX10_signsIn_29 : decode cX10_signsIn 29 = .ok (.ireturn, 1) := by decide +kernel
theorem dX10_add_0 : decode cX10_add 0 = .ok (.bipush 24, 2) := by decide +kernel
theorem dX10_add_2 : decode cX10_add 2 = .ok (.istore_n 2, 1) := by decide +kernel
theorem dX10_add_3 : decode cX10_add 3 = .ok (.iload_n 2, 1) := by decide +kernel
theorem dX10_add_4 : decode cX10_add 4 = .ok (.ifCond .lt 51, 3) := by decide +kernel
theorem dX10_add_7 : decode cX10_add 7 = .ok (.iload_n 1, 1) := by decide +kernel
theorem dX10_add_8 : decode cX10_add 8 = .ok (.iload_n 2, 1) := by decide +kernel
theorem dX10_add_9 : decode cX10_add 9 = .ok (.iushr, 1) := by decide +kernel
theorem dX10_add_10 : decode cX10_add 10 = .ok (.sipush 255, 3) := by decide +kernel
theorem dX10_add_13 : decode cX10_add 13 = .ok (.iand, 1) := by decide +kernel
theorem dX10_add_14 : decode cX10_add 14 = .ok (.istore_n 3, 1) := by decide +kernel
theorem dX10_add_15 : decode cX10_add 15 = .ok (.iload_n 3, 1) := by decide +kernel
theorem dX10_add_16 : decode cX10_add 16 = .ok (.ifCond .eq 33, 3) := by decide +kernel
theorem dX10_add_19 : decode cX10_add 19 = .ok (.aload_n 0, 1) := by decide +kernel
theorem dX10_add_20 : decode cX10_add 20 = .ok (.getfield 15, 3) := by decide +kernel
theorem dX10_add_23 : decode cX10_add 23 = .ok (.sipush 240, 3) := by decide +kernel
theorem dX10_add_26 : decode cX10_add 26 = .ok (.if_icmp .ge 23, 3) := by decide +kernel
theorem dX10_add_29 : decode cX10_add 29 = .ok (.aload_n 0, 1) := by decide +kernel
theorem dX10_add_30 : decode cX10_add 30 = .ok (.getfield 11, 3) := by decide +kernel
theorem dX10_add_33 : decode cX10_add 33 = .ok (.aload_n 0, 1) := by decide +kernel
theorem dX10_add_34 : decode cX10_add 34 = .ok (.getfield 15, 3) := by decide +kernel
theorem dX10_add_37 : decode cX10_add 37 = .ok (.iload_n 3, 1) := by decide +kernel
theorem dX10_add_38 : decode cX10_add 38 = .ok (.iastore, 1) := by decide +kernel
theorem dX10_add_39 : decode cX10_add 39 = .ok (.aload_n 0, 1) := by decide +kernel
theorem dX10_add_40 : decode cX10_add 40 = .ok (.dup, 1) := by decide +kernel
theorem dX10_add_41 : decode cX10_add 41 = .ok (.getfield 15, 3) := by decide +kernel
theorem dX10_add_44 : decode cX10_add 44 = .ok (.iconst 1, 1) := by decide +kernel
theorem dX10_add_45 : decode cX10_add 45 = .ok (.iadd, 1) := by decide +kernel
theorem dX10_add_46 : decode cX10_add 46 = .ok (.putfield 15, 3) := by decide +kernel
theorem dX10_add_49 : decode cX10_add 49 = .ok (.iinc 2 (-8), 3) := by decide +kernel
theorem dX10_add_52 : decode cX10_add 52 = .ok (.goto (-49), 3) := by decide +kernel
theorem dX10_add_55 : decode cX10_add 55 = .ok (.return_, 1) := by decide +kernel
theorem dX10_size_0 : decode cX10_size 0 = .ok (.aload_n 0, 1) := by decide +kernel
theorem dX10_size_1 : decode cX10_size 1 = .ok (.getfield 15, 3) := by decide +kernel
theorem dX10_size_4 : decode cX10_size 4 = .ok (.ireturn, 1) := by decide +kernel
theorem dX10_cut_0 : decode cX10_cut 0 = .ok (.aload_n 0, 1) := by decide +kernel
theorem dX10_cut_1 : decode cX10_cut 1 = .ok (.iload_n 1, 1) := by decide +kernel
theorem dX10_cut_2 : decode cX10_cut 2 = .ok (.putfield 15, 3) := by decide +kernel
theorem dX10_cut_5 : decode cX10_cut 5 = .ok (.return_, 1) := by decide +kernel
theorem dX10_at_0 : decode cX10_at 0 = .ok (.aload_n 0, 1) := by decide +kernel
theorem dX10_at_1 : decode cX10_at 1 = .ok (.getfield 19, 3) := by decide +kernel
theorem dX10_at_4 : decode cX10_at 4 = .ok (.ireturn, 1) := by decide +kernel
theorem dX10_rewind_0 : decode cX10_rewind 0 = .ok (.aload_n 0, 1) := by decide +kernel
theorem dX10_rewind_1 : decode cX10_rewind 1 = .ok (.iconst 0, 1) := by decide +kernel
theorem dX10_rewind_2 : decode cX10_rewind 2 = .ok (.putfield 19, 3) := by decide +kernel
theorem dX10_rewind_5 : decode cX10_rewind 5 = .ok (.return_, 1) := by decide +kernel
theorem dX10_ahead_0 : decode cX10_ahead 0 = .ok (.aload_n 0, 1) := by decide +kernel
theorem dX10_ahead_1 : decode cX10_ahead 1 = .ok (.getfield 19, 3) := by decide +kernel
theorem dX10_ahead_4 : decode cX10_ahead 4 = .ok (.aload_n 0, 1) := by decide +kernel
theorem dX10_ahead_5 : decode cX10_ahead 5 = .ok (.getfield 15, 3) := by decide +kernel
theorem dX10_ahead_8 : decode cX10_ahead 8 = .ok (.if_icmp .ge 30, 3) := by decide +kernel
theorem dX10_ahead_11 : decode cX10_ahead 11 = .ok (.aload_n 0, 1) := by decide +kernel
theorem dX10_ahead_12 : decode cX10_ahead 12 = .ok (.getfield 11, 3) := by decide +kernel
theorem dX10_ahead_15 : decode cX10_ahead 15 = .ok (.aload_n 0, 1) := by decide +kernel
theorem dX10_ahead_16 : decode cX10_ahead 16 = .ok (.getfield 19, 3) := by decide +kernel
theorem dX10_ahead_19 : decode cX10_ahead 19 = .ok (.iaload, 1) := by decide +kernel
theorem dX10_ahead_20 : decode cX10_ahead 20 = .ok (.bipush 32, 2) := by decide +kernel
theorem dX10_ahead_22 : decode cX10_ahead 22 = .ok (.if_icmp .ne 16, 3) := by decide +kernel
theorem dX10_ahead_25 : decode cX10_ahead 25 = .ok (.aload_n 0, 1) := by decide +kernel
theorem dX10_ahead_26 : decode cX10_ahead 26 = .ok (.dup, 1) := by decide +kernel
theorem dX10_ahead_27 : decode cX10_ahead 27 = .ok (.getfield 19, 3) := by decide +kernel
theorem dX10_ahead_30 : decode cX10_ahead 30 = .ok (.iconst 1, 1) := by decide +kernel
theorem dX10_ahead_31 : decode cX10_ahead 31 = .ok (.iadd, 1) := by decide +kernel
theorem dX10_ahead_32 : decode cX10_ahead 32 = .ok (.putfield 19, 3) := by decide +kernel
theorem dX10_ahead_35 : decode cX10_ahead 35 = .ok (.goto (-35), 3) := by decide +kernel
theorem dX10_ahead_38 : decode cX10_ahead 38 = .ok (.aload_n 0, 1) := by decide +kernel
theorem dX10_ahead_39 : decode cX10_ahead 39 = .ok (.getfield 19, 3) := by decide +kernel
theorem dX10_ahead_42 : decode cX10_ahead 42 = .ok (.aload_n 0, 1) := by decide +kernel
theorem dX10_ahead_43 : decode cX10_ahead 43 = .ok (.getfield 15, 3) := by decide +kernel
theorem dX10_ahead_46 : decode cX10_ahead 46 = .ok (.if_icmp .ge 15, 3) := by decide +kernel
theorem dX10_ahead_49 : decode cX10_ahead 49 = .ok (.aload_n 0, 1) := by decide +kernel
theorem dX10_ahead_50 : decode cX10_ahead 50 = .ok (.getfield 11, 3) := by decide +kernel
theorem dX10_ahead_53 : decode cX10_ahead 53 = .ok (.aload_n 0, 1) := by decide +kernel
theorem dX10_ahead_54 : decode cX10_ahead 54 = .ok (.getfield 19, 3) := by decide +kernel
theorem dX10_ahead_57 : decode cX10_ahead 57 = .ok (.iaload, 1) := by decide +kernel
theorem dX10_ahead_58 : decode cX10_ahead 58 = .ok (.goto 4, 3) := by decide +kernel
theorem dX10_ahead_61 : decode cX10_ahead 61 = .ok (.iconst (-1), 1) := by decide +kernel
theorem dX10_ahead_62 : decode cX10_ahead 62 = .ok (.ireturn, 1) := by decide +kernel
theorem dX10_pass_0 : decode cX10_pass 0 = .ok (.aload_n 0, 1) := by decide +kernel
theorem dX10_pass_1 : decode cX10_pass 1 = .ok (.getfield 19, 3) := by decide +kernel
theorem dX10_pass_4 : decode cX10_pass 4 = .ok (.aload_n 0, 1) := by decide +kernel
theorem dX10_pass_5 : decode cX10_pass 5 = .ok (.getfield 15, 3) := by decide +kernel
theorem dX10_pass_8 : decode cX10_pass 8 = .ok (.if_icmp .ge 13, 3) := by decide +kernel
theorem dX10_pass_11 : decode cX10_pass 11 = .ok (.aload_n 0, 1) := by decide +kernel
theorem dX10_pass_12 : decode cX10_pass 12 = .ok (.dup, 1) := by decide +kernel
theorem dX10_pass_13 : decode cX10_pass 13 = .ok (.getfield 19, 3) := by decide +kernel
theorem dX10_pass_16 : decode cX10_pass 16 = .ok (.iconst 1, 1) := by decide +kernel
theorem dX10_pass_17 : decode cX10_pass 17 = .ok (.iadd, 1) := by decide +kernel
theorem dX10_pass_18 : decode cX10_pass 18 = .ok (.putfield 19, 3) := by decide +kernel
theorem dX10_pass_21 : decode cX10_pass 21 = .ok (.return_, 1) := by decide +kernel
theorem dX10_takes_0 : decode cX10_takes 0 = .ok (.aload_n 0, 1) := by decide +kernel
theorem dX10_takes_1 : decode cX10_takes 1 = .ok (.invokevirtual 22, 3) := by decide +kernel
theorem dX10_takes_4 : decode cX10_takes 4 = .ok (.iload_n 1, 1) := by decide +kernel
theorem dX10_takes_5 : decode cX10_takes 5 = .ok (.if_icmp .eq 5, 3) := by decide +kernel
theorem dX10_takes_8 : decode cX10_takes 8 = .ok (.iconst 0, 1) := by decide +kernel
theorem dX10_takes_9 : decode cX10_takes 9 = .ok (.ireturn, 1) := by decide +kernel
theorem dX10_takes_10 : decode cX10_takes 10 = .ok (.aload_n 0, 1) := by decide +kernel
theorem dX10_takes_11 : decode cX10_takes 11 = .ok (.invokevirtual 26, 3) := by decide +kernel
theorem dX10_takes_14 : decode cX10_takes 14 = .ok (.iconst 1, 1) := by decide +kernel
theorem dX10_takes_15 : decode cX10_takes 15 = .ok (.ireturn, 1) := by decide +kernel
theorem dX10_digit_0 : decode cX10_digit 0 = .ok (.aload_n 0, 1) := by decide +kernel
theorem dX10_digit_1 : decode cX10_digit 1 = .ok (.invokevirtual 22, 3) := by decide +kernel
theorem dX10_digit_4 : decode cX10_digit 4 = .ok (.pop, 1) := by decide +kernel
theorem dX10_digit_5 : decode cX10_digit 5 = .ok (.aload_n 0, 1) := by decide +kernel
theorem dX10_digit_6 : decode cX10_digit 6 = .ok (.invokevirtual 29, 3) := by decide +kernel
theorem dX10_digit_9 : decode cX10_digit 9 = .ok (.ifCond .ne 5, 3) := by decide +kernel
theorem dX10_digit_12 : decode cX10_digit 12 = .ok (.iconst (-1), 1) := by decide +kernel
theorem dX10_digit_13 : decode cX10_digit 13 = .ok (.ireturn, 1) := by decide +kernel
theorem dX10_digit_14 : decode cX10_digit 14 = .ok (.aload_n 0, 1) := by decide +kernel
theorem dX10_digit_15 : decode cX10_digit 15 = .ok (.getfield 11, 3) := by decide +kernel
theorem dX10_digit_18 : decode cX10_digit 18 = .ok (.aload_n 0, 1) := by decide +kernel
theorem dX10_digit_19 : decode cX10_digit 19 = .ok (.getfield 19, 3) := by decide +kernel
theorem dX10_digit_22 : decode cX10_digit 22 = .ok (.iaload, 1) := by decide +kernel
theorem dX10_digit_23 : decode cX10_digit 23 = .ok (.bipush 48, 2) := by decide +kernel
theorem dX10_digit_25 : decode cX10_digit 25 = .ok (.isub, 1) := by decide +kernel
theorem dX10_digit_26 : decode cX10_digit 26 = .ok (.istore_n 1, 1) := by decide +kernel
theorem dX10_digit_27 : decode cX10_digit 27 = .ok (.aload_n 0, 1) := by decide +kernel
theorem dX10_digit_28 : decode cX10_digit 28 = .ok (.dup, 1) := by decide +kernel
theorem dX10_digit_29 : decode cX10_digit 29 = .ok (.getfield 19, 3) := by decide +kernel
theorem dX10_digit_32 : decode cX10_digit 32 = .ok (.iconst 1, 1) := by decide +kernel
theorem dX10_digit_33 : decode cX10_digit 33 = .ok (.iadd, 1) := by decide +kernel
theorem dX10_digit_34 : decode cX10_digit 34 = .ok (.putfield 19, 3) := by decide +kernel
theorem dX10_digit_37 : decode cX10_digit 37 = .ok (.iload_n 1, 1) := by decide +kernel
theorem dX10_digit_38 : decode cX10_digit 38 = .ok (.ireturn, 1) := by decide +kernel
theorem dX10_number_0 : decode cX10_number 0 = .ok (.aload_n 0, 1) := by decide +kernel
theorem dX10_number_1 : decode cX10_number 1 = .ok (.invokevirtual 22, 3) := by decide +kernel
theorem dX10_number_4 : decode cX10_number 4 = .ok (.pop, 1) := by decide +kernel
theorem dX10_number_5 : decode cX10_number 5 = .ok (.aload_n 0, 1) := by decide +kernel
theorem dX10_number_6 : decode cX10_number 6 = .ok (.invokevirtual 29, 3) := by decide +kernel
theorem dX10_number_9 : decode cX10_number 9 = .ok (.ifCond .eq 7, 3) := by decide +kernel
theorem dX10_number_12 : decode cX10_number 12 = .ok (.iconst 0, 1) := by decide +kernel
theorem dX10_number_13 : decode cX10_number 13 = .ok (.goto 4, 3) := by decide +kernel
theorem dX10_number_16 : decode cX10_number 16 = .ok (.iconst (-1), 1) := by decide +kernel
theorem dX10_number_17 : decode cX10_number 17 = .ok (.istore_n 2, 1) := by decide +kernel
theorem dX10_number_18 : decode cX10_number 18 = .ok (.iconst 0, 1) := by decide +kernel
theorem dX10_number_19 : decode cX10_number 19 = .ok (.istore_n 3, 1) := by decide +kernel
theorem dX10_number_20 : decode cX10_number 20 = .ok (.iload_n 3, 1) := by decide +kernel
theorem dX10_number_21 : decode cX10_number 21 = .ok (.iload_n 1, 1) := by decide +kernel
theorem dX10_number_22 : decode cX10_number 22 = .ok (.if_icmp .ge 44, 3) := by decide +kernel
theorem dX10_number_25 : decode cX10_number 25 = .ok (.aload_n 0, 1) := by decide +kernel
theorem dX10_number_26 : decode cX10_number 26 = .ok (.invokevirtual 29, 3) := by decide +kernel
theorem dX10_number_29 : decode cX10_number 29 = .ok (.ifCond .eq 37, 3) := by decide +kernel
theorem dX10_number_32 : decode cX10_number 32 = .ok (.bipush 10, 2) := by decide +kernel
theorem dX10_number_34 : decode cX10_number 34 = .ok (.iload_n 2, 1) := by decide +kernel
theorem dX10_number_35 : decode cX10_number 35 = .ok (.imul, 1) := by decide +kernel
theorem dX10_number_36 : decode cX10_number 36 = .ok (.aload_n 0, 1) := by decide +kernel
theorem dX10_number_37 : decode cX10_number 37 = .ok (.getfield 11, 3) := by decide +kernel
theorem dX10_number_40 : decode cX10_number 40 = .ok (.aload_n 0, 1) := by decide +kernel
theorem dX10_number_41 : decode cX10_number 41 = .ok (.getfield 19, 3) := by decide +kernel
theorem dX10_number_44 : decode cX10_number 44 = .ok (.iaload, 1) := by decide +kernel
theorem dX10_number_45 : decode cX10_number 45 = .ok (.iadd, 1) := by decide +kernel
theorem dX10_number_46 : decode cX10_number 46 = .ok (.bipush 48, 2) := by decide +kernel
theorem dX10_number_48 : decode cX10_number 48 = .ok (.isub, 1) := by decide +kernel
theorem dX10_number_49 : decode cX10_number 49 = .ok (.istore_n 2, 1) := by decide +kernel
theorem dX10_number_50 : decode cX10_number 50 = .ok (.aload_n 0, 1) := by decide +kernel
theorem dX10_number_51 : decode cX10_number 51 = .ok (.dup, 1) := by decide +kernel
theorem dX10_number_52 : decode cX10_number 52 = .ok (.getfield 19, 3) := by decide +kernel
theorem dX10_number_55 : decode cX10_number 55 = .ok (.iconst 1, 1) := by decide +kernel
theorem dX10_number_56 : decode cX10_number 56 = .ok (.iadd, 1) := by decide +kernel
theorem dX10_number_57 : decode cX10_number 57 = .ok (.putfield 19, 3) := by decide +kernel
theorem dX10_number_60 : decode cX10_number 60 = .ok (.iinc 3 1, 3) := by decide +kernel
theorem dX10_number_63 : decode cX10_number 63 = .ok (.goto (-43), 3) := by decide +kernel
theorem dX10_number_66 : decode cX10_number 66 = .ok (.aload_n 0, 1) := by decide +kernel
theorem dX10_number_67 : decode cX10_number 67 = .ok (.invokevirtual 29, 3) := by decide +kernel
theorem dX10_number_70 : decode cX10_number 70 = .ok (.ifCond .eq 7, 3) := by decide +kernel
theorem dX10_number_73 : decode cX10_number 73 = .ok (.iconst (-1), 1) := by decide +kernel
theorem dX10_number_74 : decode cX10_number 74 = .ok (.goto 4, 3) := by decide +kernel
theorem dX10_number_77 : decode cX10_number 77 = .ok (.iload_n 2, 1) := by decide +kernel
theorem dX10_number_78 : decode cX10_number 78 = .ok (.ireturn, 1) := by decide +kernel
theorem dX10_stayAtLastDigit_0 : decode cX10_stayAtLastDigit 0 = .ok (.aload_n 0, 1) := by decide +kernel
theorem dX10_stayAtLastDigit_1 : decode cX10_stayAtLastDigit 1 = .ok (.getfield 19, 3) := by decide +kernel
theorem dX10_stayAtLastDigit_4 : decode cX10_stayAtLastDigit 4 = .ok (.ifCond .le 13, 3) := by decide +kernel
theorem dX10_stayAtLastDigit_7 : decode cX10_stayAtLastDigit 7 = .ok (.aload_n 0, 1) := by decide +kernel
theorem dX10_stayAtLastDigit_8 : decode cX10_stayAtLastDigit 8 = .ok (.dup, 1) := by decide +kernel
theorem dX10_stayAtLastDigit_9 : decode cX10_stayAtLastDigit 9 = .ok (.getfield 19, 3) := by decide +kernel
theorem dX10_stayAtLastDigit_12 : decode cX10_stayAtLastDigit 12 = .ok (.iconst 1, 1) := by decide +kernel
theorem dX10_stayAtLastDigit_13 : decode cX10_stayAtLastDigit 13 = .ok (.isub, 1) := by decide +kernel
theorem dX10_stayAtLastDigit_14 : decode cX10_stayAtLastDigit 14 = .ok (.putfield 19, 3) := by decide +kernel
theorem dX10_stayAtLastDigit_17 : decode cX10_stayAtLastDigit 17 = .ok (.return_, 1) := by decide +kernel
theorem dX10_atDigit_0 : decode cX10_atDigit 0 = .ok (.aload_n 0, 1) := by decide +kernel
theorem dX10_atDigit_1 : decode cX10_atDigit 1 = .ok (.getfield 19, 3) := by decide +kernel
theorem dX10_atDigit_4 : decode cX10_atDigit 4 = .ok (.aload_n 0, 1) := by decide +kernel
theorem dX10_atDigit_5 : decode cX10_atDigit 5 = .ok (.getfield 15, 3) := by decide +kernel
theorem dX10_atDigit_8 : decode cX10_atDigit 8 = .ok (.if_icmp .ge 35, 3) := by decide +kernel
theorem dX10_atDigit_11 : decode cX10_atDigit 11 = .ok (.aload_n 0, 1) := by decide +kernel
theorem dX10_atDigit_12 : decode cX10_atDigit 12 = .ok (.getfield 11, 3) := by decide +kernel
theorem dX10_atDigit_15 : decode cX10_atDigit 15 = .ok (.aload_n 0, 1) := by decide +kernel
theorem dX10_atDigit_16 : decode cX10_atDigit 16 = .ok (.getfield 19, 3) := by decide +kernel
theorem dX10_atDigit_19 : decode cX10_atDigit 19 = .ok (.iaload, 1) := by decide +kernel
theorem dX10_atDigit_20 : decode cX10_atDigit 20 = .ok (.bipush 48, 2) := by decide +kernel
theorem dX10_atDigit_22 : decode cX10_atDigit 22 = .ok (.if_icmp .lt 21, 3) := by decide +kernel
theorem dX10_atDigit_25 : decode cX10_atDigit 25 = .ok (.aload_n 0, 1) := by decide +kernel
theorem dX10_atDigit_26 : decode cX10_atDigit 26 = .ok (.getfield 11, 3) := by decide +kernel
theorem dX10_atDigit_29 : decode cX10_atDigit 29 = .ok (.aload_n 0, 1) := by decide +kernel
theorem dX10_atDigit_30 : decode cX10_atDigit 30 = .ok (.getfield 19, 3) := by decide +kernel
theorem dX10_atDigit_33 : decode cX10_atDigit 33 = .ok (.iaload, 1) := by decide +kernel
theorem dX10_atDigit_34 : decode cX10_atDigit 34 = .ok (.bipush 57, 2) := by decide +kernel
theorem dX10_atDigit_36 : decode cX10_atDigit 36 = .ok (.if_icmp .gt 7, 3) := by decide +kernel
theorem dX10_atDigit_39 : decode cX10_atDigit 39 = .ok (.iconst 1, 1) := by decide +kernel
theorem dX10_atDigit_40 : decode cX10_atDigit 40 = .ok (.goto 4, 3) := by decide +kernel
theorem dX10_atDigit_43 : decode cX10_atDigit 43 = .ok (.iconst 0, 1) := by decide +kernel
theorem dX10_atDigit_44 : decode cX10_atDigit 44 = .ok (.ireturn, 1) := by decide +kernel
