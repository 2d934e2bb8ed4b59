theorem dX12_say_33 : decode cX12_say 33 = .ok (.iadd, 1) := by decide +kernel
theorem dX12_say_34 : decode cX12_say 34 = .ok (.iaload, 1) := by decide +kernel
theorem dX12_say_35 : decode cX12_say 35 = .ok (.istore_n 3, 1) := by decide +kernel
theorem dX12_say_36 : decode cX12_say 36 = .ok (.aload_n 0, 1) := by decide +kernel
theorem dX12_say_37 : decode cX12_say 37 = .ok (.getfield 61, 3) := by decide +kernel
theorem dX12_say_40 : decode cX12_say 40 = .ok (.bipush 6, 2) := by decide +kernel
theorem dX12_say_42 : decode cX12_say 42 = .ok (.iload_n 1, 1) := by decide +kernel
theorem dX12_say_43 : decode cX12_say 43 = .ok (.imul, 1) := by decide +kernel
theorem dX12_say_44 : decode cX12_say 44 = .ok (.iconst 2, 1) := by decide +kernel
theorem dX12_say_45 : decode cX12_say 45 = .ok (.iadd, 1) := by decide +kernel
theorem dX12_say_46 : decode cX12_say 46 = .ok (.iload_n 2, 1) := by decide +kernel
theorem dX12_say_47 : decode cX12_say 47 = .ok (.iastore, 1) := by decide +kernel
theorem dX12_say_48 : decode cX12_say 48 = .ok (.iload_n 3, 1) := by decide +kernel
theorem dX12_say_49 : decode cX12_say 49 = .ok (.ireturn, 1) := by decide +kernel
theorem dX12_canWake_0 : decode cX12_canWake 0 = .ok (.aload_n 0, 1) := by decide +kernel
theorem dX12_canWake_1 : decode cX12_canWake 1 = .ok (.iload_n 2, 1) := by decide +kernel
theorem dX12_canWake_2 : decode cX12_canWake 2 = .ok (.invokevirtual 369, 3) := by decide +kernel
theorem dX12_canWake_5 : decode cX12_canWake 5 = .ok (.ifCond .eq 19, 3) := by decide +kernel
theorem dX12_canWake_8 : decode cX12_canWake 8 = .ok (.aload_n 1, 1) := by decide +kernel
theorem dX12_canWake_9 : decode cX12_canWake 9 = .ok (.bipush 6, 2) := by decide +kernel
theorem dX12_canWake_11 : decode cX12_canWake 11 = .ok (.iload_n 2, 1) := by decide +kernel
theorem dX12_canWake_12 : decode cX12_canWake 12 = .ok (.imul, 1) := by decide +kernel
theorem dX12_canWake_13 : decode cX12_canWake 13 = .ok (.iconst 3, 1) := by decide +kernel
theorem dX12_canWake_14 : decode cX12_canWake 14 = .ok (.iadd, 1) := by decide +kernel
theorem dX12_canWake_15 : decode cX12_canWake 15 = .ok (.iaload, 1) := by decide +kernel
theorem dX12_canWake_16 : decode cX12_canWake 16 = .ok (.iconst 1, 1) := by decide +kernel
theorem dX12_canWake_17 : decode cX12_canWake 17 = .ok (.if_icmp .ne 7, 3) := by decide +kernel
theorem dX12_canWake_20 : decode cX12_canWake 20 = .ok (.iconst 1, 1) := by decide +kernel
theorem dX12_canWake_21 : decode cX12_canWake 21 = .ok (.goto 4, 3) := by decide +kernel
theorem dX12_canWake_24 : decode cX12_canWake 24 = .ok (.iconst 0, 1) := by decide +kernel
theorem dX12_canWake_25 : decode cX12_canWake 25 = .ok (.ireturn, 1) := by decide +kernel
theorem dX12_wake_0 : decode cX12_wake 0 = .ok (.aload_n 0, 1) := by decide +kernel
theorem dX12_wake_1 : decode cX12_wake 1 = .ok (.iconst 0, 1) := by decide +kernel
theorem dX12_wake_2 : decode cX12_wake 2 = .ok (.putfield 99, 3) := by decide +kernel
theorem dX12_wake_5 : decode cX12_wake 5 = .ok (.aload_n 0, 1) := by decide +kernel
theorem dX12_wake_6 : decode cX12_wake 6 = .ok (.aload_n 0, 1) := by decide +kernel
theorem dX12_wake_7 : decode cX12_wake 7 = .ok (.getfield 61, 3) := by decide +kernel
theorem dX12_wake_10 : decode cX12_wake 10 = .ok (.iload_n 1, 1) := by decide +kernel
theorem dX12_wake_11 : decode cX12_wake 11 = .ok (.invokevirtual 396, 3) := by decide +kernel
theorem dX12_wake_14 : decode cX12_wake 14 = .ok (.ifCond .ne 5, 3) := by decide +kernel
theorem dX12_wake_17 : decode cX12_wake 17 = .ok (.iconst (-1), 1) := by decide +kernel
theorem dX12_wake_18 : decode cX12_wake 18 = .ok (.ireturn, 1) := by decide +kernel
theorem dX12_wake_19 : decode cX12_wake 19 = .ok (.aload_n 0, 1) := by decide +kernel
theorem dX12_wake_20 : decode cX12_wake 20 = .ok (.invokevirtual 386, 3) := by decide +kernel
theorem dX12_wake_23 : decode cX12_wake 23 = .ok (.aload_n 0, 1) := by decide +kernel
theorem dX12_wake_24 : decode cX12_wake 24 = .ok (.aload_n 0, 1) := by decide +kernel
theorem dX12_wake_25 : decode cX12_wake 25 = .ok (.getfield 61, 3) := by decide +kernel
theorem dX12_wake_28 : decode cX12_wake 28 = .ok (.iload_n 1, 1) := by decide +kernel
theorem dX12_wake_29 : decode cX12_wake 29 = .ok (.iconst 0, 1) := by decide +kernel
theorem dX12_wake_30 : decode cX12_wake 30 = .ok (.bipush 9, 2) := by decide +kernel
theorem dX12_wake_32 : decode cX12_wake 32 = .ok (.invokevirtual 352, 3) := by decide +kernel
theorem dX12_wake_35 : decode cX12_wake 35 = .ok (.ireturn, 1) := by decide +kernel
theorem dX12_canLie_0 : decode cX12_canLie 0 = .ok (.aload_n 0, 1) := by decide +kernel
theorem dX12_canLie_1 : decode cX12_canLie 1 = .ok (.iload_n 2, 1) := by decide +kernel
theorem dX12_canLie_2 : decode cX12_canLie 2 = .ok (.invokevirtual 369, 3) := by decide +kernel
theorem dX12_canLie_5 : decode cX12_canLie 5 = .ok (.ifCond .eq 18, 3) := by decide +kernel
theorem dX12_canLie_8 : decode cX12_canLie 8 = .ok (.aload_n 1, 1) := by decide +kernel
theorem dX12_canLie_9 : decode cX12_canLie 9 = .ok (.bipush 6, 2) := by decide +kernel
theorem dX12_canLie_11 : decode cX12_canLie 11 = .ok (.iload_n 2, 1) := by decide +kernel
theorem dX12_canLie_12 : decode cX12_canLie 12 = .ok (.imul, 1) := by decide +kernel
theorem dX12_canLie_13 : decode cX12_canLie 13 = .ok (.iconst 3, 1) := by decide +kernel
theorem dX12_canLie_14 : decode cX12_canLie 14 = .ok (.iadd, 1) := by decide +kernel
theorem dX12_canLie_15 : decode cX12_canLie 15 = .ok (.iaload, 1) := by decide +kernel
theorem dX12_canLie_16 : decode cX12_canLie 16 = .ok (.ifCond .ne 7, 3) := by decide +kernel
theorem dX12_canLie_19 : decode cX12_canLie 19 = .ok (.iconst 1, 1) := by decide +kernel
theorem dX12_canLie_20 : decode cX12_canLie 20 = .ok (.goto 4, 3) := by decide +kernel
theorem dX12_canLie_23 : decode cX12_canLie 23 = .ok (.iconst 0, 1) := by decide +kernel
theorem dX12_canLie_24 : decode cX12_canLie 24 = .ok (.ireturn, 1) := by decide +kernel
theorem dX12_asleepIn_0 : decode cX12_asleepIn 0 = .ok (.iconst 0, 1) := by decide +kernel
theorem dX12_asleepIn_1 : decode cX12_asleepIn 1 = .ok (.istore_n 2, 1) := by decide +kernel
theorem dX12_asleepIn_2 : decode cX12_asleepIn 2 = .ok (.iconst 0, 1) := by decide +kernel
theorem dX12_asleepIn_3 : decode cX12_asleepIn 3 = .ok (.istore_n 3, 1) := by decide +kernel
theorem dX12_asleepIn_4 : decode cX12_asleepIn 4 = .ok (.iload_n 3, 1) := by decide +kernel
theorem dX12_asleepIn_5 : decode cX12_asleepIn 5 = .ok (.aload_n 0, 1) := by decide +kernel
theorem dX12_asleepIn_6 : decode cX12_asleepIn 6 = .ok (.getfield 297, 3) := by decide +kernel
theorem dX12_asleepIn_9 : decode cX12_asleepIn 9 = .ok (.if_icmp .ge 20, 3) := by decide +kernel
theorem dX12_asleepIn_12 : decode cX12_asleepIn 12 = .ok (.iload_n 2, 1) := by decide +kernel
theorem dX12_asleepIn_13 : decode cX12_asleepIn 13 = .ok (.aload_n 1, 1) := by decide +kernel
theorem dX12_asleepIn_14 : decode cX12_asleepIn 14 = .ok (.bipush 6, 2) := by decide +kernel
theorem dX12_asleepIn_16 : decode cX12_asleepIn 16 = .ok (.iload_n 3, 1) := by decide +kernel
theorem dX12_asleepIn_17 : decode cX12_asleepIn 17 = .ok (.imul, 1) := by decide +kernel
theorem dX12_asleepIn_18 : decode cX12_asleepIn 18 = .ok (.iconst 3, 1) := by decide +kernel
theorem dX12_asleepIn_19 : decode cX12_asleepIn 19 = .ok (.iadd, 1) := by decide +kernel
theorem dX12_asleepIn_20 : decode cX12_asleepIn 20 = .ok (.iaload, 1) := by decide +kernel
theorem dX12_asleepIn_21 : decode cX12_asleepIn 21 = .ok (.iadd, 1) := by decide +kernel
theorem dX12_asleepIn_22 : decode cX12_asleepIn 22 = .ok (.istore_n 2, 1) := by decide +kernel
theorem dX12_asleepIn_23 : decode cX12_asleepIn 23 = .ok (.iinc 3 1, 3) := by decide +kernel
theorem dX12_asleepIn_26 : decode cX12_asleepIn 26 = .ok (.goto (-22), 3) := by decide +kernel
theorem dX12_asleepIn_29 : decode cX12_asleepIn 29 = .ok (.iload_n 2, 1) := by decide +kernel
theorem dX12_asleepIn_30 : decode cX12_asleepIn 30 = .ok (.ireturn, 1) := by decide +kernel
theorem dX12_lie_0 : decode cX12_lie 0 = .ok (.aload_n 0, 1) := by decide +kernel
theorem dX12_lie_1 : decode cX12_lie 1 = .ok (.iconst 0, 1) := by decide +kernel
theorem dX12_lie_2 : decode cX12_lie 2 = .ok (.putfield 99, 3) := by decide +kernel
theorem dX12_lie_5 : decode cX12_lie 5 = .ok (.aload_n 0, 1) := by decide +kernel
theorem dX12_lie_6 : decode cX12_lie 6 = .ok (.aload_n 0, 1) := by decide +kernel
theorem dX12_lie_7 : decode cX12_lie 7 = .ok (.getfield 61, 3) := by decide +kernel
theorem dX12_lie_10 : decode cX12_lie 10 = .ok (.iload_n 1, 1) := by decide +kernel
theorem dX12_lie_11 : decode cX12_lie 11 = .ok (.invokevirtual 400, 3) := by decide +kernel
theorem dX12_lie_14 : decode cX12_lie 14 = .ok (.ifCond .ne 5, 3) := by decide +kernel
theorem dX12_lie_17 : decode cX12_lie 17 = .ok (.iconst (-1), 1) := by decide +kernel
theorem dX12_lie_18 : decode cX12_lie 18 = .ok (.ireturn, 1) := by decide +kernel
theorem dX12_lie_19 : decode cX12_lie 19 = .ok (.aload_n 0, 1) := by decide +kernel
theorem dX12_lie_20 : decode cX12_lie 20 = .ok (.invokevirtual 386, 3) := by decide +kernel
theorem dX12_lie_23 : decode cX12_lie 23 = .ok (.aload_n 0, 1) := by decide +kernel
theorem dX12_lie_24 : decode cX12_lie 24 = .ok (.getfield 61, 3) := by decide +kernel
theorem dX12_lie_27 : decode cX12_lie 27 = .ok (.bipush 6, 2) := by decide +kernel
theorem dX12_lie_29 : decode cX12_lie 29 = .ok (.iload_n 1, 1) := by decide +kernel
theorem dX12_lie_30 : decode cX12_lie 30 = .ok (.imul, 1) := by decide +kernel
theorem dX12_lie_31 : decode cX12_lie 31 = .ok (.iconst 3, 1) := by decide +kernel
theorem dX12_lie_32 : decode cX12_lie 32 = .ok (.iadd, 1) := by decide +kernel
theorem dX12_lie_33 : decode cX12_lie 33 = .ok (.iconst 1, 1) := by decide +kernel
theorem dX12_lie_34 : decode cX12_lie 34 = .ok (.iastore, 1) := by decide +kernel
theorem dX12_lie_35 : decode cX12_lie 35 = .ok (.aload_n 0, 1) := by decide +kernel
theorem dX12_lie_36 : decode cX12_lie 36 = .ok (.aload_n 0, 1) := by decide +kernel
theorem dX12_lie_37 : decode cX12_lie 37 = .ok (.getfield 61, 3) := by decide +kernel
theorem dX12_lie_40 : decode cX12_lie 40 = .ok (.invokevirtual 403, 3) := by decide +kernel
theorem dX12_lie_43 : decode cX12_lie 43 = .ok (.ireturn, 1) := by decide +kernel
theorem dX12_canSwap_0 : decode cX12_canSwap 0 = .ok (.aload_n 0, 1) := by decide +kernel
theorem dX12_canSwap_1 : decode cX12_canSwap 1 = .ok (.iload_n 1, 1) := by decide +kernel
theorem dX12_canSwap_2 : decode cX12_canSwap 2 = .ok (.invokevirtual 369, 3) := by decide +kernel
theorem dX12_canSwap_5 : decode cX12_canSwap 5 = .ok (.ifCond .eq 20, 3) := by decide +kernel
theorem dX12_canSwap_8 : decode cX12_canSwap 8 = .ok (.aload_n 0, 1) := by decide +kernel
theorem dX12_canSwap_9 : decode cX12_canSwap 9 = .ok (.iload_n 2, 1) := by decide +kernel
theorem dX12_canSwap_10 : decode cX12_canSwap 10 = .ok (.invokevirtual 369, 3) := by decide +kernel
theorem dX12_canSwap_13 : decode cX12_canSwap 13 = .ok (.ifCond .eq 12, 3) := by decide +kernel
theorem dX12_canSwap_16 : decode cX12_canSwap 16 = .ok (.iload_n 1, 1) := by decide +kernel
theorem dX12_canSwap_17 : decode cX12_canSwap 17 = .ok (.iload_n 2, 1) := by decide +kernel
theorem dX12_canSwap_18 : decode cX12_canSwap 18 = .ok (.if_icmp .eq 7, 3) := by decide +kernel
theorem dX12_canSwap_21 : decode cX12_canSwap 21 = .ok (.iconst 1, 1) := by decide +kernel
theorem dX12_canSwap_22 : decode cX12_canSwap 22 = .ok (.goto 4, 3) := by decide +kernel
theorem dX12_canSwap_25 : decode cX12_canSwap 25 = .ok (.iconst 0, 1) := by decide +kernel
theorem dX12_canSwap_26 : decode cX12_canSwap 26 = .ok (.ireturn, 1) := by decide +kernel
theorem dX12_swaps_0 : decode cX12_swaps 0 = .ok (.aload_n 0, 1) := by decide +kernel
theorem dX12_swaps_1 : decode cX12_swaps 1 = .ok (.bipush 6, 2) := by decide +kernel
theorem dX12_swaps_3 : decode cX12_swaps 3 = .ok (.iload_n 1, 1) := by decide +kernel
theorem dX12_swaps_4 : decode cX12_swaps 4 = .ok (.imul, 1) := by decide +kernel
theorem dX12_swaps_5 : decode cX12_swaps 5 = .ok (.iconst 0, 1) := by decide +kernel
theorem dX12_swaps_6 : decode cX12_swaps 6 = .ok (.iadd, 1) := by decide +kernel
theorem dX12_swaps_7 : decode cX12_swaps 7 = .ok (.iaload, 1) := by decide +kernel
theorem dX12_swaps_8 : decode cX12_swaps 8 = .ok (.istore_n 3, 1) := by decide +kernel
theorem dX12_swaps_9 : decode cX12_swaps 9 = .ok (.aload_n 0, 1) := by decide +kernel
theorem dX12_swaps_10 : decode cX12_swaps 10 = .ok (.bipush 6, 2) := by decide +kernel
theorem dX12_swaps_12 : decode cX12_swaps 12 = .ok (.iload_n 1, 1) := by decide +kernel
theorem dX12_swaps_13 : decode cX12_swaps 13 = .ok (.imul, 1) := by decide +kernel
theorem dX12_swaps_14 : decode cX12_swaps 14 = .ok (.iconst 0, 1) := by decide +kernel
theorem dX12_swaps_15 : decode cX12_swaps 15 = .ok (.iadd, 1) := by decide +kernel
theorem dX12_swaps_16 : decode cX12_swaps 16 = .ok (.aload_n 0, 1) := by decide +kernel
theorem dX12_swaps_17 : decode cX12_swaps 17 = .ok (.bipush 6, 2) := by decide +kernel
theorem dX12_swaps_19 : decode cX12_swaps 19 = .ok (.iload_n 2, 1) := by decide +kernel
theorem dX12_swaps_20 : decode cX12_swaps 20 = .ok (.imul, 1) := by decide +kernel
theorem dX12_swaps_21 : decode cX12_swaps 21 = .ok (.iconst 0, 1) := by decide +kernel
theorem dX12_swaps_22 : decode cX12_swaps 22 = .ok (.iadd, 1) := by decide +kernel
theorem dX12_swaps_23 : decode cX12_swaps 23 = .ok (.iaload, 1) := by decide +kernel
theorem dX12_swaps_24 : decode cX12_swaps 24 = .ok (.iastore, 1) := by decide +kernel
theorem dX12_swaps_25 : decode cX12_swaps 25 = .ok (.aload_n 0, 1) := by decide +kernel
theorem dX12_swaps_26 : decode cX12_swaps 26 = .ok (.bipush 6, 2) := by decide +kernel
theorem dX12_swaps_28 : decode cX12_swaps 28 = .ok (.iload_n 2, 1) := by decide +kernel
theorem dX12_swaps_29 : decode cX12_swaps 29 = .ok (.imul, 1) := by decide +kernel
theorem dX12_swaps_30 : decode cX12_swaps 30 = .ok (.iconst 0, 1) := by decide +kernel
theorem dX12_swaps_31 : decode cX12_swaps 31 = .ok (.iadd, 1) := by decide +kernel
theorem dX12_swaps_32 : decode cX12_swaps 32 = .ok (.iload_n 3, 1) := by decide +kernel
theorem dX12_swaps_33 : decode cX12_swaps 33 = .ok (.iastore, 1) := by decide +kernel
theorem dX12_swaps_34 : decode cX12_swaps 34 = .ok (.return_, 1) := by decide +kernel
theorem dX12_swap_0 : decode cX12_swap 0 = .ok (.aload_n 0, 1) := by decide +kernel
theorem dX12_swap_1 : decode cX12_swap 1 = .ok (.iconst 0, 1) := by decide +kernel
theorem dX12_swap_2 : decode cX12_swap 2 = .ok (.putfield 99, 3) := by decide +kernel
theorem dX12_swap_5 : decode cX12_swap 5 = .ok (.aload_n 0, 1) := by decide +kernel
theorem dX12_swap_6 : decode cX12_swap 6 = .ok (.iload_n 1, 1) := by decide +kernel
theorem dX12_swap_7 : decode cX12_swap 7 = .ok (.iload_n 2, 1) := by decide +kernel
theorem dX12_swap_8 : decode cX12_swap 8 = .ok (.invokevirtual 407, 3) := by decide +kernel
theorem dX12_swap_11 : decode cX12_swap 11 = .ok (.ifCond .ne 5, 3) := by decide +kernel
theorem dX12_swap_14 : decode cX12_swap 14 = .ok (.iconst (-1), 1) := by decide +kernel
theorem dX12_swap_15 : decode cX12_swap 15 = .ok (.ireturn, 1) := by decide +kernel
theorem dX12_swap_16 : decode cX12_swap 16 = .ok (.aload_n 0, 1) := by decide +kernel
theorem dX12_swap_17 : decode cX12_swap 17 = .ok (.invokevirtual 386, 3) := by decide +kernel
theorem dX12_swap_20 : decode cX12_swap 20 = .ok (.aload_n 0, 1) := by decide +kernel
theorem dX12_swap_21 : decode cX12_swap 21 = .ok (.getfield 61, 3) := by decide +kernel
theorem dX12_swap_24 : decode cX12_swap 24 = .ok (.iload_n 1, 1) := by decide +kernel
theorem dX12_swap_25 : decode cX12_swap 25 = .ok (.iload_n 2, 1) := by decide +kernel
theorem dX12_swap_26 : decode cX12_swap 26 = .ok (.invokestatic 410, 3) := by decide +kernel
theorem dX12_swap_29 : decode cX12_swap 29 = .ok (.aload_n 0, 1) := by decide +kernel
theorem dX12_swap_30 : decode cX12_swap 30 = .ok (.getfield 312, 3) := by decide +kernel
theorem dX12_swap_33 : decode cX12_swap 33 = .ok (.ireturn, 1) := by decide +kernel
theorem dX12_goesBorder_0 : decode cX12_goesBorder 0 = .ok (.aload_n 0, 1) := by decide +kernel
theorem dX12_goesBorder_1 : decode cX12_goesBorder 1 = .ok (.aload_n 1, 1) := by decide +kernel
theorem dX12_goesBorder_2 : decode cX12_goesBorder 2 = .ok (.iload_n 2, 1) := by decide +kernel
theorem dX12_goesBorder_3 : decode cX12_goesBorder 3 = .ok (.invokevirtual 363, 3) := by decide +kernel
theorem dX12_goesBorder_6 : decode cX12_goesBorder 6 = .ok (.aload_n 1, 1) := by decide +kernel
theorem dX12_goesBorder_7 : decode cX12_goesBorder 7 = .ok (.bipush 55, 2) := by decide +kernel
theorem dX12_goesBorder_9 : decode cX12_goesBorder 9 = .ok (.iaload, 1) := by decide +kernel
theorem dX12_goesBorder_10 : decode cX12_goesBorder 10 = .ok (.bipush 60, 2) := by decide +kernel
theorem dX12_goesBorder_12 : decode cX12_goesBorder 12 = .ok (.if_icmp .ne 40, 3) := by decide +kernel
theorem dX12_goesBorder_15 : decode cX12_goesBorder 15 = .ok (.iconst 1, 1) := by decide +kernel
theorem dX12_goesBorder_16 : decode cX12_goesBorder 16 = .ok (.istore_n 3, 1) := by decide +kernel
theorem dX12_goesBorder_17 : decode cX12_goesBorder 17 = .ok (.iload_n 3, 1) := by decide +kernel
theorem dX12_goesBorder_18 : decode cX12_goesBorder 18 = .ok (.sipush 236, 3) := by decide +kernel
theorem dX12_goesBorder_21 : decode cX12_goesBorder 21 = .ok (.if_icmp .gt 23, 3) := by decide +kernel
theorem dX12_goesBorder_24 : decode cX12_goesBorder 24 = .ok (.aload_n 1, 1) := by decide +kernel
theorem dX12_goesBorder_25 : decode cX12_goesBorder 25 = .ok (.bipush 55, 2) := by decide +kernel
theorem dX12_goesBorder_27 : decode cX12_goesBorder 27 = .ok (.iload_n 3, 1) := by decide +kernel
theorem dX12_goesBorder_28 : decode cX12_goesBorder 28 = .ok (.iadd, 1) := by decide +kernel
theorem dX12_goesBorder_29 : decode cX12_goesBorder 29 = .ok (.aload_n 1, 1) := by decide +kernel
theorem dX12_goesBorder_30 : decode cX12_goesBorder 30 = .ok (.bipush 55, 2) := by decide +kernel
theorem dX12_goesBorder_32 : decode cX12_goesBorder 32 = .ok (.iload_n 3, 1) := by decide +kernel
theorem dX12_goesBorder_33 : decode cX12_goesBorder 33 = .ok (.iadd, 1) := by decide +kernel
theorem dX12_goesBorder_34 : decode cX12_goesBorder 34 = .ok (.iconst 4, 1) := by decide +kernel
theorem dX12_goesBorder_35 : decode cX12_goesBorder 35 = .ok (.iadd, 1) := by decide +kernel
theorem dX12_goesBorder_36 : decode cX12_goesBorder 36 = .ok (.iaload, 1) := by decide +kernel
theorem dX12_goesBorder_37 : decode cX12_goesBorder 37 = .ok (.iastore, 1) := by decide +kernel
theorem dX12_goesBorder_38 : decode cX12_goesBorder 38 = .ok (.iinc 3 1, 3) := by decide +kernel
theorem dX12_goesBorder_41 : decode cX12_goesBorder 41 = .ok (.goto (-24), 3) := by decide +kernel
theorem dX12_goesBorder_44 : decode cX12_goesBorder 44 = .ok (.aload_n 1, 1) := by decide +kernel
theorem dX12_goesBorder_45 : decode cX12_goesBorder 45 = .ok (.bipush 55, 2) := by decide +kernel
theorem dX12_goesBorder_47 : decode cX12_goesBorder 47 = .ok (.dup2, 1) := by decide +kernel
theorem dX12_goesBorder_48 : decode cX12_goesBorder 48 = .ok (.iaload, 1) := by decide +kernel
theorem dX12_goesBorder_49 : decode cX12_goesBorder 49 = .ok (.iconst 1, 1) := by decide +kernel
theorem dX12_goesBorder_50 : decode cX12_goesBorder 50 = .ok (.isub, 1) := by decide +kernel
theorem dX12_goesBorder_51 : decode cX12_goesBorder 51 = .ok (.iastore, 1) := by decide +kernel
theorem dX12_goesBorder_52 : decode cX12_goesBorder 52 = .ok (.bipush 56, 2) := by decide +kernel
theorem dX12_goesBorder_54 : decode cX12_goesBorder 54 = .ok (.iconst 4, 1) := by decide +kernel
theorem dX12_goesBorder_55 : decode cX12_goesBorder 55 = .ok (.aload_n 1, 1) := by decide +kernel
theorem dX12_goesBorder_56 : decode cX12_goesBorder 56 = .ok (.bipush 55, 2) := by decide +kernel
theorem dX12_goesBorder_58 : decode cX12_goesBorder 58 = .ok (.iaload, 1) := by decide +kernel
theorem dX12_goesBorder_59 : decode cX12_goesBorder 59 = .ok (.imul, 1) := by decide +kernel
theorem dX12_goesBorder_60 : decode cX12_goesBorder 60 = .ok (.iadd, 1) := by decide +kernel
theorem dX12_goesBorder_61 : decode cX12_goesBorder 61 = .ok (.istore_n 3, 1) := by decide +kernel
theorem dX12_goesBorder_62 : decode cX12_goesBorder 62 = .ok (.aload_n 1, 1) := by decide +kernel
theorem dX12_goesBorder_63 : decode cX12_goesBorder 63 = .ok (.iload_n 3, 1) := by decide +kernel
theorem dX12_goesBorder_64 : decode cX12_goesBorder 64 = .ok (.iload_n 2, 1) := by decide +kernel
theorem dX12_goesBorder_65 : decode cX12_goesBorder 65 = .ok (.iastore, 1) := by decide +kernel
theorem dX12_goesBorder_66 : decode cX12_goesBorder 66 = .ok (.aload_n 1, 1) := by decide +kernel
theorem dX12_goesBorder_67 : decode cX12_goesBorder 67 = .ok (.iload_n 3, 1) := by decide +kernel
theorem dX12_goesBorder_68 : decode cX12_goesBorder 68 = .ok (.iconst 1, 1) := by decide +kernel
theorem dX12_goesBorder_69 : decode cX12_goesBorder 69 = .ok (.iadd, 1) := by decide +kernel
theorem dX12_goesBorder_70 : decode cX12_goesBorder 70 = .ok (.aload_n 0, 1) := by decide +kernel
theorem dX12_goesBorder_71 : decode cX12_goesBorder 71 = .ok (.getfield 333, 3) := by decide +kernel
theorem dX12_goesBorder_74 : decode cX12_goesBorder 74 = .ok (.iastore, 1) := by decide +kernel
theorem dX12_goesBorder_75 : decode cX12_goesBorder 75 = .ok (.aload_n 1, 1) := by decide +kernel
theorem dX12_goesBorder_76 : decode cX12_goesBorder 76 = .ok (.iload_n 3, 1) := by decide +kernel
theorem dX12_goesBorder_77 : decode cX12_goesBorder 77 = .ok (.iconst 2, 1) := by decide +kernel
theorem dX12_goesBorder_78 : decode cX12_goesBorder 78 = .ok (.iadd, 1) := by decide +kernel
theorem dX12_goesBorder_79 : decode cX12_goesBorder 79 = .ok (.aload_n 0, 1) := by decide +kernel
theorem dX12_goesBorder_80 : decode cX12_goesBorder 80 = .ok (.aload_n 0, 1) := by decide +kernel
theorem dX12_goesBorder_81 : decode cX12_goesBorder 81 = .ok (.getfield 333, 3) := by decide +kernel
theorem dX12_goesBorder_84 : decode cX12_goesBorder 84 = .ok (.invokevirtual 413, 3) := by decide +kernel
theorem dX12_goesBorder_87 : decode cX12_goesBorder 87 = .ok (.ifCond .eq 7, 3) := by decide +kernel
theorem dX12_goesBorder_90 : decode cX12_goesBorder 90 = .ok (.iconst 1, 1) := by decide +kernel
theorem dX12_goesBorder_91 : decode cX12_goesBorder 91 = .ok (.goto 4, 3) := by decide +kernel
theorem dX12_goesBorder_94 : decode cX12_goesBorder 94 = .ok (.iconst 0, 1) := by decide +kernel
theorem dX12_goesBorder_95 : decode cX12_goesBorder 95 = .ok (.iastore, 1) := by decide +kernel
theorem dX12_goesBorder_96 : decode cX12_goesBorder 96 = .ok (.aload_n 1, 1) := by decide +kernel
theorem dX12_goesBorder_97 : decode cX12_goesBorder 97 = .ok (.iload_n 3, 1) := by decide +kernel
theorem dX12_goesBorder_98 : decode cX12_goesBorder 98 = .ok (.iconst 3, 1) := by decide +kernel
theorem dX12_goesBorder_99 : decode cX12_goesBorder 99 = .ok (.iadd, 1) := by decide +kernel
theorem dX12_goesBorder_100 : decode cX12_goesBorder 100 = .ok (.aload_n 0, 1) := by decide +kernel
theorem dX12_goesBorder_101 : decode cX12_goesBorder 101 = .ok (.getfield 336, 3) := by decide +kernel
theorem dX12_goesBorder_104 : decode cX12_goesBorder 104 = .ok (.iastore, 1) := by decide +kernel
theorem dX12_goesBorder_105 : decode cX12_goesBorder 105 = .ok (.aload_n 1, 1) := by decide +kernel
theorem dX12_goesBorder_106 : decode cX12_goesBorder 106 = .ok (.bipush 55, 2) := by decide +kernel
theorem dX12_goesBorder_108 : decode cX12_goesBorder 108 = .ok (.dup2, 1) := by decide +kernel
theorem dX12_goesBorder_109 : decode cX12_goesBorder 109 = .ok (.iaload, 1) := by decide +kernel
theorem dX12_goesBorder_110 : decode cX12_goesBorder 110 = .ok (.iconst 1, 1) := by decide +kernel
theorem dX12_goesBorder_111 : decode cX12_goesBorder 111 = .ok (.iadd, 1) := by decide +kernel
theorem dX12_goesBorder_112 : decode cX12_goesBorder 112 = .ok (.iastore, 1) := by decide +kernel
theorem dX12_goesBorder_113 : decode cX12_goesBorder 113 = .ok (.return_, 1) := by decide +kernel
theorem dX12_border_0 : decode cX12_border 0 = .ok (.aload_n 0, 1) := by decide +kernel
theorem dX12_border_1 : decode cX12_border 1 = .ok (.iconst 0, 1) := by decide +kernel
theorem dX12_border_2 : decode cX12_border 2 = .ok (.putfield 99, 3) := by decide +kernel
theorem dX12_border_5 : decode cX12_border 5 = .ok (.aload_n 0, 1) := by decide +kernel
theorem dX12_border_6 : decode cX12_border 6 = .ok (.iload_n 1, 1) := by decide +kernel
theorem dX12_border_7 : decode cX12_border 7 = .ok (.invokevirtual 374, 3) := by decide +kernel
theorem dX12_border_10 : decode cX12_border 10 = .ok (.ifCond .ne 5, 3) := by decide +kernel
theorem dX12_border_13 : decode cX12_border 13 = .ok (.iconst (-1), 1) := by decide +kernel
theorem dX12_border_14 : decode cX12_border 14 = .ok (.ireturn, 1) := by decide +kernel
theorem dX12_border_15 : decode cX12_border 15 = .ok (.aload_n 0, 1) := by decide +kernel
theorem dX12_border_16 : decode cX12_border 16 = .ok (.invokevirtual 386, 3) := by decide +kernel
theorem dX12_border_19 : decode cX12_border 19 = .ok (.aload_n 0, 1) := by decide +kernel
theorem dX12_border_20 : decode cX12_border 20 = .ok (.aload_n 0, 1) := by decide +kernel
theorem dX12_border_21 : decode cX12_border 21 = .ok (.getfield 61, 3) := by decide +kernel
theorem dX12_border_24 : decode cX12_border 24 = .ok (.iload_n 1, 1) := by decide +kernel
theorem dX12_border_25 : decode cX12_border 25 = .ok (.invokevirtual 416, 3) := by decide +kernel
theorem dX12_border_28 : decode cX12_border 28 = .ok (.aload_n 0, 1) := by decide +kernel
theorem dX12_border_29 : decode cX12_border 29 = .ok (.getfield 333, 3) := by decide +kernel
theorem dX12_border_32 : decode cX12_border 32 = .ok (.ireturn, 1) := by decide +kernel
theorem dX12_draw_0 : decode cX12_draw 0 = .ok (.aload_n 0, 1) := by decide +kernel
theorem dX12_draw_1 : decode cX12_draw 1 = .ok (.aload_n 0, 1) := by decide +kernel
theorem dX12_draw_2 : decode cX12_draw 2 = .ok (.getfield 419, 3) := by decide +kernel
theorem dX12_draw_5 : decode cX12_draw 5 = .ok (.ldc2_w 423, 3) := by decide +kernel
theorem dX12_draw_8 : decode cX12_draw 8 = .ok (.lmul, 1) := by decide +kernel
theorem dX12_draw_9 : decode cX12_draw 9 = .ok (.ldc2_w 425, 3) := by decide +kernel
theorem dX12_draw_12 : decode cX12_draw 12 = .ok (.ladd, 1) := by decide +kernel
theorem dX12_draw_13 : decode cX12_draw 13 = .ok (.putfield 419, 3) := by decide +kernel
theorem dX12_draw_16 : decode cX12_draw 16 = .ok (.aload_n 0, 1) := by decide +kernel
theorem dX12_draw_17 : decode cX12_draw 17 = .ok (.getfield 419, 3) := by decide +kernel
theorem dX12_draw_20 : decode cX12_draw 20 = .ok (.bipush 33, 2) := by decide +kernel
theorem dX12_draw_22 : decode cX12_draw 22 = .ok (.lushr, 1) := by decide +kernel
theorem dX12_draw_23 : decode cX12_draw 23 = .ok (.iload_n 1, 1) := by decide +kernel
theorem dX12_draw_24 : decode cX12_draw 24 = .ok (.i2l, 1) := by decide +kernel
theorem dX12_draw_25 : decode cX12_draw 25 = .ok (.lrem, 1) := by decide +kernel
theorem dX12_draw_26 : decode cX12_draw 26 = .ok (.l2i, 1) := by decide +kernel
theorem dX12_draw_27 : decode cX12_draw 27 = .ok (.ireturn, 1) := by decide +kernel
theorem dX12_weights_0 : decode cX12_weights 0 = .ok (.iconst 0, 1) := by decide +kernel
theorem dX12_weights_1 : decode cX12_weights 1 = .ok (.istore_n 1, 1) := by decide +kernel
theorem dX12_weights_2 : decode cX12_weights 2 = .ok (.iconst 0, 1) := by decide +kernel
theorem dX12_weights_3 : decode cX12_weights 3 = .ok (.istore_n 2, 1) := by decide +kernel
theorem dX12_weights_4 : decode cX12_weights 4 = .ok (.iload_n 2, 1) := by decide +kernel
theorem dX12_weights_5 : decode cX12_weights 5 = .ok (.aload_n 0, 1) := by decide +kernel
theorem dX12_weights_6 : decode cX12_weights 6 = .ok (.getfield 300, 3) := by decide +kernel
theorem dX12_weights_9 : decode cX12_weights 9 = .ok (.if_icmp .ge 20, 3) := by decide +kernel
theorem dX12_weights_12 : decode cX12_weights 12 = .ok (.iload_n 1, 1) := by decide +kernel
theorem dX12_weights_13 : decode cX12_weights 13 = .ok (.aload_n 0, 1) := by decide +kernel
theorem dX12_weights_14 : decode cX12_weights 14 = .ok (.getfield 49, 3) := by decide +kernel
theorem dX12_weights_17 : decode cX12_weights 17 = .ok (.iconst 4, 1) := by decide +kernel
theorem dX12_weights_18 : decode cX12_weights 18 = .ok (.iload_n 2, 1) := by decide +kernel
theorem dX12_weights_19 : decode cX12_weights 19 = .ok (.imul, 1) := by decide +kernel
theorem dX12_weights_20 : decode cX12_weights 20 = .ok (.iaload, 1) := by decide +kernel
theorem dX12_weights_21 : decode cX12_weights 21 = .ok (.iadd, 1) := by decide +kernel
theorem dX12_weights_22 : decode cX12_weights 22 = .ok (.istore_n 1, 1) := by decide +kernel
theorem dX12_weights_23 : decode cX12_weights 23 = .ok (.iinc 2 1, 3) := by decide +kernel
theorem dX12_weights_26 : decode cX12_weights 26 = .ok (.goto (-22), 3) := by decide +kernel
theorem dX12_weights_29 : decode cX12_weights 29 = .ok (.iload_n 1, 1) := by decide +kernel
theorem dX12_weights_30 : decode cX12_weights 30 = .ok (.ireturn, 1) := by decide +kernel
theorem dX12_drawnOfficer_0 : decode cX12_drawnOfficer 0 = .ok (.aload_n 0, 1) := by decide +kernel
theorem dX12_drawnOfficer_1 : decode cX12_drawnOfficer 1 = .ok (.invokevirtual 427, 3) := by decide +kernel
theorem dX12_drawnOfficer_4 : decode cX12_drawnOfficer 4 = .ok (.istore_n 1, 1) := by decide +kernel
theorem dX12_drawnOfficer_5 : decode cX12_drawnOfficer 5 = .ok (.iload_n 1, 1) := by decide +kernel
theorem dX12_drawnOfficer_6 : decode cX12_drawnOfficer 6 = .ok (.ifCond .ne 5, 3) := by decide +kernel
theorem dX12_drawnOfficer_9 : decode cX12_drawnOfficer 9 = .ok (.iconst 0, 1) := by decide +kernel
theorem dX12_drawnOfficer_10 : decode cX12_drawnOfficer 10 = .ok (.ireturn, 1) := by decide +kernel
theorem dX12_drawnOfficer_11 : decode cX12_drawnOfficer 11 = .ok (.aload_n 0, 1) := by decide +kernel
theorem dX12_drawnOfficer_12 : decode cX12_drawnOfficer 12 = .ok (.iload_n 1, 1) := by decide +kernel
theorem dX12_drawnOfficer_13 : decode cX12_drawnOfficer 13 = .ok (.invokevirtual 430, 3) := by decide +kernel
theorem dX12_drawnOfficer_16 : decode cX12_drawnOfficer 16 = .ok (.istore_n 2, 1) := by decide +kernel
theorem dX12_drawnOfficer_17 : decode cX12_drawnOfficer 17 = .ok (.iconst 0, 1) := by decide +kernel
theorem dX12_drawnOfficer_18 : decode cX12_drawnOfficer 18 = .ok (.istore_n 3, 1) := by decide +kernel
theorem dX12_drawnOfficer_19 : decode cX12_drawnOfficer 19 = .ok (.iload_n 2, 1) := by decide +kernel
theorem dX12_drawnOfficer_20 : decode cX12_drawnOfficer 20 = .ok (.aload_n 0, 1) := by decide +kernel
theorem dX12_drawnOfficer_21 : decode cX12_drawnOfficer 21 = .ok (.getfield 49, 3) := by decide +kernel
theorem dX12_drawnOfficer_24 : decode cX12_drawnOfficer 24 = .ok (.iconst 4, 1) := by decide +kernel
theorem dX12_drawnOfficer_25 : decode cX12_drawnOfficer 25 = .ok (.iload_n 3, 1) := by decide +kernel
theorem dX12_drawnOfficer_26 : decode cX12_drawnOfficer 26 = .ok (.imul, 1) := by decide +kernel
theorem dX12_drawnOfficer_27 : decode cX12_drawnOfficer 27 = .ok (.iaload, 1) := by decide +kernel
theorem dX12_drawnOfficer_28 : decode cX12_drawnOfficer 28 = .ok (.if_icmp .lt 20, 3) := by decide +kernel
theorem dX12_drawnOfficer_31 : decode cX12_drawnOfficer 31 = .ok (.iload_n 2, 1) := by decide +kernel
theorem dX12_drawnOfficer_32 : decode cX12_drawnOfficer 32 = .ok (.aload_n 0, 1) := by decide +kernel
theorem dX12_drawnOfficer_33 : decode cX12_drawnOfficer 33 = .ok (.getfield 49, 3) := by decide +kernel
theorem dX12_drawnOfficer_36 : decode cX12_drawnOfficer 36 = .ok (.iconst 4, 1) := by decide +kernel
theorem dX12_drawnOfficer_37 : decode cX12_drawnOfficer 37 = .ok (.iload_n 3, 1) := by decide +kernel
theorem dX12_drawnOfficer_38 : decode cX12_drawnOfficer 38 = .ok (.imul, 1) := by decide +kernel
theorem dX12_drawnOfficer_39 : decode cX12_drawnOfficer 39 = .ok (.iaload, 1) := by decide +kernel
theorem dX12_drawnOfficer_40 : decode cX12_drawnOfficer 40 = .ok (.isub, 1) := by decide +kernel
theorem dX12_drawnOfficer_41 : decode cX12_drawnOfficer 41 = .ok (.istore_n 2, 1) := by decide +kernel
theorem dX12_drawnOfficer_42 : decode cX12_drawnOfficer 42 = .ok (.iinc 3 1, 3) := by decide +kernel
theorem dX12_drawnOfficer_45 : decode cX12_drawnOfficer 45 = .ok (.goto (-26), 3) := by decide +kernel
theorem dX12_drawnOfficer_48 : decode cX12_drawnOfficer 48 = .ok (.iload_n 3, 1) := by decide +kernel
theorem dX12_drawnOfficer_49 : decode cX12_drawnOfficer 49 = .ok (.ireturn, 1) := by decide +kernel
theorem dX12_nights_0 : decode cX12_nights 0 = .ok (.aload_n 0, 1) := by decide +kernel
theorem dX12_nights_1 : decode cX12_nights 1 = .ok (.iconst 0, 1) := by decide +kernel
theorem dX12_nights_2 : decode cX12_nights 2 = .ok (.putfield 99, 3) := by decide +kernel
theorem dX12_nights_5 : decode cX12_nights 5 = .ok (.aload_n 0, 1) := by decide +kernel
theorem dX12_nights_6 : decode cX12_nights 6 = .ok (.getfield 297, 3) := by decide +kernel
theorem dX12_nights_9 : decode cX12_nights 9 = .ok (.ifCond .eq 15, 3) := by decide +kernel
theorem dX12_nights_12 : decode cX12_nights 12 = .ok (.iload_n 1, 1) := by decide +kernel
theorem dX12_nights_13 : decode cX12_nights 13 = .ok (.i2l, 1) := by decide +kernel
theorem dX12_nights_14 : decode cX12_nights 14 = .ok (.lconst 1, 1) := by decide +kernel
theorem dX12_nights_15 : decode cX12_nights 15 = .ok (.ldc2_w 433, 3) := by decide +kernel
theorem dX12_nights_18 : decode cX12_nights 18 = .ok (.invokestatic 220, 3) := by decide +kernel
theorem dX12_nights_21 : decode cX12_nights 21 = .ok (.ifCond .ne 5, 3) := by decide +kernel
theorem dX12_nights_24 : decode cX12_nights 24 = .ok (.iconst (-1), 1) := by decide +kernel
theorem dX12_nights_25 : decode cX12_nights 25 = .ok (.ireturn, 1) := by decide +kernel
theorem dX12_nights_26 : decode cX12_nights 26 = .ok (.aload_n 0, 1) := by decide +kernel
theorem dX12_nights_27 : decode cX12_nights 27 = .ok (.lload_n 2, 1) := by decide +kernel
theorem dX12_nights_28 : decode cX12_nights 28 = .ok (.putfield 419, 3) := by decide +kernel
theorem dX12_nights_31 : decode cX12_nights 31 = .ok (.iconst 0, 1) := by decide +kernel
theorem dX12_nights_32 : decode cX12_nights 32 = .ok (.istore 4, 2) := by decide +kernel
theorem dX12_nights_34 : decode cX12_nights 34 = .ok (.iload 4, 2) := by decide +kernel
theorem dX12_nights_36 : decode cX12_nights 36 = .ok (.iload_n 1, 1) := by decide +kernel
theorem dX12_nights_37 : decode cX12_nights 37 = .ok (.if_icmp .ge 84, 3) := by decide +kernel
theorem dX12_nights_40 : decode cX12_nights 40 = .ok (.aload_n 0, 1) := by decide +kernel
theorem dX12_nights_41 : decode cX12_nights 41 = .ok (.invokevirtual 386, 3) := by decide +kernel
theorem dX12_nights_44 : decode cX12_nights 44 = .ok (.aload_n 0, 1) := by decide +kernel
theorem dX12_nights_45 : decode cX12_nights 45 = .ok (.aload_n 0, 1) := by decide +kernel
theorem dX12_nights_46 : decode cX12_nights 46 = .ok (.getfield 61, 3) := by decide +kernel
theorem dX12_nights_49 : decode cX12_nights 49 = .ok (.aload_n 0, 1) := by decide +kernel
theorem dX12_nights_50 : decode cX12_nights 50 = .ok (.invokevirtual 435, 3) := by decide +kernel
theorem dX12_nights_53 : decode cX12_nights 53 = .ok (.invokevirtual 416, 3) := by decide +kernel
theorem dX12_nights_56 : decode cX12_nights 56 = .ok (.iconst 0, 1) := by decide +kernel
theorem dX12_nights_57 : decode cX12_nights 57 = .ok (.istore 5, 2) := by decide +kernel
theorem dX12_nights_59 : decode cX12_nights 59 = .ok (.iload 5, 2) := by decide +kernel
theorem dX12_nights_61 : decode cX12_nights 61 = .ok (.aload_n 0, 1) := by decide +kernel
theorem dX12_nights_62 : decode cX12_nights 62 = .ok (.getfield 297, 3) := by decide +kernel
theorem dX12_nights_65 : decode cX12_nights 65 = .ok (.if_icmp .ge 50, 3) := by decide +kernel
theorem dX12_nights_68 : decode cX12_nights 68 = .ok (.aload_n 0, 1) := by decide +kernel
theorem dX12_nights_69 : decode cX12_nights 69 = .ok (.getfield 61, 3) := by decide +kernel
theorem dX12_nights_72 : decode cX12_nights 72 = .ok (.bipush 6, 2) := by decide +kernel
theorem dX12_nights_74 : decode cX12_nights 74 = .ok (.iload 5, 2) := by decide +kernel
theorem dX12_nights_76 : decode cX12_nights 76 = .ok (.imul, 1) := by decide +kernel
theorem dX12_nights_77 : decode cX12_nights 77 = .ok (.iconst 3, 1) := by decide +kernel
theorem dX12_nights_78 : decode cX12_nights 78 = .ok (.iadd, 1) := by decide +kernel
theorem dX12_nights_79 : decode cX12_nights 79 = .ok (.iaload, 1) := by decide +kernel
theorem dX12_nights_80 : decode cX12_nights 80 = .ok (.ifCond .ne 29, 3) := by decide +kernel
theorem dX12_nights_83 : decode cX12_nights 83 = .ok (.aload_n 0, 1) := by decide +kernel
theorem dX12_nights_84 : decode cX12_nights 84 = .ok (.bipush 100, 2) := by decide +kernel
theorem dX12_nights_86 : decode cX12_nights 86 = .ok (.invokevirtual 430, 3) := by decide +kernel
theorem dX12_nights_89 : decode cX12_nights 89 = .ok (.aload_n 0, 1) := by decide +kernel
theorem dX12_nights_90 : decode cX12_nights 90 = .ok (.getfield 71, 3) := by decide +kernel
theorem dX12_nights_93 : decode cX12_nights 93 = .ok (.if_icmp .ge 16, 3) := by decide +kernel
theorem dX12_nights_96 : decode cX12_nights 96 = .ok (.aload_n 0, 1) := by decide +kernel
theorem dX12_nights_97 : decode cX12_nights 97 = .ok (.getfield 61, 3) := by decide +kernel
theorem dX12_nights_100 : decode cX12_nights 100 = .ok (.bipush 6, 2) := by decide +kernel
theorem dX12_nights_102 : decode cX12_nights 102 = .ok (.iload 5, 2) := by decide +kernel
theorem dX12_nights_104 : decode cX12_nights 104 = .ok (.imul, 1) := by decide +kernel
theorem dX12_nights_105 : decode cX12_nights 105 = .ok (.iconst 3, 1) := by decide +kernel
theorem dX12_nights_106 : decode cX12_nights 106 = .ok (.iadd, 1) := by decide +kernel
theorem dX12_nights_107 : decode cX12_nights 107 = .ok (.iconst 1, 1) := by decide +kernel
theorem dX12_nights_108 : decode cX12_nights 108 = .ok (.iastore, 1) := by decide +kernel
theorem dX12_nights_109 : decode cX12_nights 109 = .ok (.iinc 5 1, 3) := by decide +kernel
theorem dX12_nights_112 : decode cX12_nights 112 = .ok (.goto (-53), 3) := by decide +kernel
theorem dX12_nights_115 : decode cX12_nights 115 = .ok (.iinc 4 1, 3) := by decide +kernel
theorem dX12_nights_118 : decode cX12_nights 118 = .ok (.goto (-84), 3) := by decide +kernel
theorem dX12_nights_121 : decode cX12_nights 121 = .ok (.aload_n 0, 1) := by decide +kernel
theorem dX12_nights_122 : decode cX12_nights 122 = .ok (.getfield 61, 3) := by decide +kernel
theorem dX12_nights_125 : decode cX12_nights 125 = .ok (.bipush 55, 2) := by decide +kernel
theorem dX12_nights_127 : decode cX12_nights 127 = .ok (.iaload, 1) := by decide +kernel
theorem dX12_nights_128 : decode cX12_nights 128 = .ok (.ireturn, 1) := by decide +kernel
theorem dX12_undo_0 : decode cX12_undo 0 = .ok (.aload_n 0, 1) := by decide +kernel
theorem dX12_undo_1 : decode cX12_undo 1 = .ok (.iconst 0, 1) := by decide +kernel
theorem dX12_undo_2 : decode cX12_undo 2 = .ok (.putfield 99, 3) := by decide +kernel
theorem dX12_undo_5 : decode cX12_undo 5 = .ok (.aload_n 0, 1) := by decide +kernel
theorem dX12_undo_6 : decode cX12_undo 6 = .ok (.getfield 312, 3) := by decide +kernel
theorem dX12_undo_9 : decode cX12_undo 9 = .ok (.ifCond .ne 5, 3) := by decide +kernel
theorem dX12_undo_12 : decode cX12_undo 12 = .ok (.iconst (-1), 1) := by decide +kernel
theorem dX12_undo_13 : decode cX12_undo 13 = .ok (.ireturn, 1) := by decide +kernel
theorem dX12_undo_14 : decode cX12_undo 14 = .ok (.aload_n 0, 1) := by decide +kernel
theorem dX12_undo_15 : decode cX12_undo 15 = .ok (.dup, 1) := by decide +kernel
theorem dX12_undo_16 : decode cX12_undo 16 = .ok (.getfield 312, 3) := by decide +kernel
theorem dX12_undo_19 : decode cX12_undo 19 = .ok (.iconst 1, 1) := by decide +kernel
theorem dX12_undo_20 : decode cX12_undo 20 = .ok (.isub, 1) := by decide +kernel
theorem dX12_undo_21 : decode cX12_undo 21 = .ok (.putfield 312, 3) := by decide +kernel
theorem dX12_undo_24 : decode cX12_undo 24 = .ok (.iconst 0, 1) := by decide +kernel
theorem dX12_undo_25 : decode cX12_undo 25 = .ok (.istore_n 1, 1) := by decide +kernel
theorem dX12_undo_26 : decode cX12_undo 26 = .ok (.iload_n 1, 1) := by decide +kernel
theorem dX12_undo_27 : decode cX12_undo 27 = .ok (.sipush 296, 3) := by decide +kernel
theorem dX12_undo_30 : decode cX12_undo 30 = .ok (.if_icmp .ge 30, 3) := by decide +kernel
theorem dX12_undo_33 : decode cX12_undo 33 = .ok (.aload_n 0, 1) := by decide +kernel
theorem dX12_undo_34 : decode cX12_undo 34 = .ok (.getfield 61, 3) := by decide +kernel
theorem dX12_undo_37 : decode cX12_undo 37 = .ok (.iload_n 1, 1) := by decide +kernel
theorem dX12_undo_38 : decode cX12_undo 38 = .ok (.aload_n 0, 1) := by decide +kernel
theorem dX12_undo_39 : decode cX12_undo 39 = .ok (.getfield 74, 3) := by decide +kernel
theorem dX12_undo_42 : decode cX12_undo 42 = .ok (.sipush 296, 3) := by decide +kernel
theorem dX12_undo_45 : decode cX12_undo 45 = .ok (.aload_n 0, 1) := by decide +kernel
theorem dX12_undo_46 : decode cX12_undo 46 = .ok (.getfield 312, 3) := by decide +kernel
theorem dX12_undo_49 : decode cX12_undo 49 = .ok (.imul, 1) := by decide +kernel
theorem dX12_undo_50 : decode cX12_undo 50 = .ok (.iload_n 1, 1) := by decide +kernel
theorem dX12_undo_51 : decode cX12_undo 51 = .ok (.iadd, 1) := by decide +kernel
theorem dX12_undo_52 : decode cX12_undo 52 = .ok (.iaload, 1) := by decide +kernel
theorem dX12_undo_53 : decode cX12_undo 53 = .ok (.iastore, 1) := by decide +kernel
theorem dX12_undo_54 : decode cX12_undo 54 = .ok (.iinc 1 1, 3) := by decide +kernel
theorem dX12_undo_57 : decode cX12_undo 57 = .ok (.goto (-31), 3) := by decide +kernel
theorem dX12_undo_60 : decode cX12_undo 60 = .ok (.aload_n 0, 1) := by decide +kernel
theorem dX12_undo_61 : decode cX12_undo 61 = .ok (.getfield 312, 3) := by decide +kernel
theorem dX12_undo_64 : decode cX12_undo 64 = .ok (.ireturn, 1) := by decide +kernel
theorem dX12_log_0 : decode cX12_log 0 = .ok (.aload_n 0, 1) := by decide +kernel
theorem dX12_log_1 : decode cX12_log 1 = .ok (.iconst 0, 1) := by decide +kernel
theorem dX12_log_2 : decode cX12_log 2 = .ok (.putfield 99, 3) := by decide +kernel
theorem dX12_log_5 : decode cX12_log 5 = .ok (.iload_n 1, 1) := by decide +kernel
theorem dX12_log_6 : decode cX12_log 6 = .ok (.i2l, 1) := by decide +kernel
theorem dX12_log_7 : decode cX12_log 7 = .ok (.lconst 0, 1) := by decide +kernel
theorem dX12_log_8 : decode cX12_log 8 = .ok (.aload_n 0, 1) := by decide +kernel
theorem dX12_log_9 : decode cX12_log 9 = .ok (.getfield 61, 3) := by decide +kernel
theorem dX12_log_12 : decode cX12_log 12 = .ok (.bipush 55, 2) := by decide +kernel
theorem dX12_log_14 : decode cX12_log 14 = .ok (.iaload, 1) := by decide +kernel
theorem dX12_log_15 : decode cX12_log 15 = .ok (.iconst 1, 1) := by decide +kernel
theorem dX12_log_16 : decode cX12_log 16 = .ok (.isub, 1) := by decide +kernel
theorem dX12_log_17 : decode cX12_log 17 = .ok (.i2l, 1) := by decide +kernel
theorem dX12_log_18 : decode cX12_log 18 = .ok (.invokestatic 220, 3) := by decide +kernel
theorem dX12_log_21 : decode cX12_log 21 = .ok (.ifCond .eq 41, 3) := by decide +kernel
theorem dX12_log_24 : decode cX12_log 24 = .ok (.iload_n 2, 1) := by decide +kernel
theorem dX12_log_25 : decode cX12_log 25 = .ok (.i2l, 1) := by decide +kernel
theorem dX12_log_26 : decode cX12_log 26 = .ok (.lconst 0, 1) := by decide +kernel
theorem dX12_log_27 : decode cX12_log 27 = .ok (.ldc2_w 367, 3) := by decide +kernel
theorem dX12_log_30 : decode cX12_log 30 = .ok (.invokestatic 220, 3) := by decide +kernel
theorem dX12_log_33 : decode cX12_log 33 = .ok (.ifCond .eq 29, 3) := by decide +kernel
theorem dX12_log_36 : decode cX12_log 36 = .ok (.aload_n 0, 1) := by decide +kernel
theorem dX12_log_37 : decode cX12_log 37 = .ok (.getfield 61, 3) := by decide +kernel
theorem dX12_log_40 : decode cX12_log 40 = .ok (.bipush 56, 2) := by decide +kernel
theorem dX12_log_42 : decode cX12_log 42 = .ok (.iconst 4, 1) := by decide +kernel
theorem dX12_log_43 : decode cX12_log 43 = .ok (.aload_n 0, 1) := by decide +kernel
theorem dX12_log_44 : decode cX12_log 44 = .ok (.getfield 61, 3) := by decide +kernel
theorem dX12_log_47 : decode cX12_log 47 = .ok (.bipush 55, 2) := by decide +kernel
theorem dX12_log_49 : decode cX12_log 49 = .ok (.iaload, 1) := by decide +kernel
theorem dX12_log_50 : decode cX12_log 50 = .ok (.iconst 1, 1) := by decide +kernel
theorem dX12_log_51 : decode cX12_log 51 = .ok (.isub, 1) := by decide +kernel
theorem dX12_log_52 : decode cX12_log 52 = .ok (.iload_n 1, 1) := by decide +kernel
theorem dX12_log_53 : decode cX12_log 53 = .ok (.isub, 1) := by decide +kernel
theorem dX12_log_54 : decode cX12_log 54 = .ok (.imul, 1) := by decide +kernel
theorem dX12_log_55 : decode cX12_log 55 = .ok (.iadd, 1) := by decide +kernel
theorem dX12_log_56 : decode cX12_log 56 = .ok (.iload_n 2, 1) := by decide +kernel
theorem dX12_log_57 : decode cX12_log 57 = .ok (.iadd, 1) := by decide +kernel
theorem dX12_log_58 : decode cX12_log 58 = .ok (.iaload, 1) := by decide +kernel
theorem dX12_log_59 : decode cX12_log 59 = .ok (.goto 4, 3) := by decide +kernel
theorem dX12_log_62 : decode cX12_log 62 = .ok (.iconst (-1), 1) := by decide +kernel
theorem dX12_log_63 : decode cX12_log 63 = .ok (.ireturn, 1) := by decide +kernel
theorem dX12_isLine_0 : decode cX12_isLine 0 = .ok (.iload_n 1, 1) := by decide +kernel
theorem dX12_isLine_1 : decode cX12_isLine 1 = .ok (.ifCond .lt 15, 3) := by decide +kernel
theorem dX12_isLine_4 : decode cX12_isLine 4 = .ok (.iload_n 1, 1) := by decide +kernel
theorem dX12_isLine_5 : decode cX12_isLine 5 = .ok (.aload_n 0, 1) := by decide +kernel
theorem dX12_isLine_6 : decode cX12_isLine 6 = .ok (.getfield 292, 3) := by decide +kernel
theorem dX12_isLine_9 : decode cX12_isLine 9 = .ok (.if_icmp .ge 7, 3) := by decide +kernel
theorem dX12_isLine_12 : decode cX12_isLine 12 = .ok (.iconst 1, 1) := by decide +kernel
theorem dX12_isLine_13 : decode cX12_isLine 13 = .ok (.goto 4, 3) := by decide +kernel
theorem dX12_isLine_16 : decode cX12_isLine 16 = .ok (.iconst 0, 1) := by decide +kernel
theorem dX12_isLine_17 : decode cX12_isLine 17 = .ok (.ireturn, 1) := by decide +kernel
theorem dX12_step_0 : decode cX12_step 0 = .ok (.aload_n 0, 1) := by decide +kernel
theorem dX12_step_1 : decode cX12_step 1 = .ok (.iconst 0, 1) := by decide +kernel
theorem dX12_step_2 : decode cX12_step 2 = .ok (.putfield 99, 3) := by decide +kernel
theorem dX12_step_5 : decode cX12_step 5 = .ok (.aload_n 0, 1) := by decide +kernel
theorem dX12_step_6 : decode cX12_step 6 = .ok (.iload_n 1, 1) := by decide +kernel
theorem dX12_step_7 : decode cX12_step 7 = .ok (.invokevirtual 438, 3) := by decide +kernel
theorem dX12_step_10 : decode cX12_step 10 = .ok (.ifCond .eq 51, 3) := by decide +kernel
theorem dX12_step_13 : decode cX12_step 13 = .ok (.iload_n 2, 1) := by decide +kernel
theorem dX12_step_14 : decode cX12_step 14 = .ok (.i2l, 1) := by decide +kernel
theorem dX12_step_15 : decode cX12_step 15 = .ok (.lconst 0, 1) := by decide +kernel
theorem dX12_step_16 : decode cX12_step 16 = .ok (.aload_n 0, 1) := by decide +kernel
theorem dX12_step_17 : decode cX12_step 17 = .ok (.getfield 58, 3) := by decide +kernel
theorem dX12_step_20 : decode cX12_step 20 = .ok (.iload_n 1, 1) := by decide +kernel
theorem dX12_step_21 : decode cX12_step 21 = .ok (.iaload, 1) := by decide +kernel
theorem dX12_step_22 : decode cX12_step 22 = .ok (.iconst 1, 1) := by decide +kernel
theorem dX12_step_23 : decode cX12_step 23 = .ok (.isub, 1) := by decide +kernel
theorem dX12_step_24 : decode cX12_step 24 = .ok (.i2l, 1) := by decide +kernel
theorem dX12_step_25 : decode cX12_step 25 = .ok (.invokestatic 220, 3) := by decide +kernel
theorem dX12_step_28 : decode cX12_step 28 = .ok (.ifCond .eq 33, 3) := by decide +kernel
theorem dX12_step_31 : decode cX12_step 31 = .ok (.iload_n 3, 1) := by decide +kernel
theorem dX12_step_32 : decode cX12_step 32 = .ok (.i2l, 1) := by decide +kernel
theorem dX12_step_33 : decode cX12_step 33 = .ok (.lconst 0, 1) := by decide +kernel
theorem dX12_step_34 : decode cX12_step 34 = .ok (.ldc2_w 278, 3) := by decide +kernel
theorem dX12_step_37 : decode cX12_step 37 = .ok (.invokestatic 220, 3) := by decide +kernel
theorem dX12_step_40 : decode cX12_step 40 = .ok (.ifCond .eq 21, 3) := by decide +kernel
theorem dX12_step_43 : decode cX12_step 43 = .ok (.aload_n 0, 1) := by decide +kernel
theorem dX12_step_44 : decode cX12_step 44 = .ok (.getfield 55, 3) := by decide +kernel
theorem dX12_step_47 : decode cX12_step 47 = .ok (.iconst 3, 1) := by decide +kernel
theorem dX12_step_48 : decode cX12_step 48 = .ok (.bipush 16, 2) := by decide +kernel
theorem dX12_step_50 : decode cX12_step 50 = .ok (.iload_n 1, 1) := by decide +kernel
theorem dX12_step_51 : decode cX12_step 51 = .ok (.imul, 1) := by decide +kernel
theorem dX12_step_52 : decode cX12_step 52 = .ok (.iload_n 2, 1) := by decide +kernel
theorem dX12_step_53 : decode cX12_step 53 = .ok (.iadd, 1) := by decide +kernel
theorem dX12_step_54 : decode cX12_step 54 = .ok (.imul, 1) := by decide +kernel
theorem dX12_step_55 : decode cX12_step 55 = .ok (.iload_n 3, 1) := by decide +kernel
theorem dX12_step_56 : decode cX12_step 56 = .ok (.iadd, 1) := by decide +kernel
theorem dX12_step_57 : decode cX12_step 57 = .ok (.iaload, 1) := by decide +kernel
theorem dX12_step_58 : decode cX12_step 58 = .ok (.goto 6, 3) := by decide +kernel
theorem dX12_step_61 : decode cX12_step 61 = .ok (.ldc_w 441, 3) := by decide +kernel
theorem dX12_step_64 : decode cX12_step 64 = .ok (.ireturn, 1) := by decide +kernel
theorem dX12_canStep_0 : decode cX12_canStep 0 = .ok (.aload_n 0, 1) := by decide +kernel
theorem dX12_canStep_1 : decode cX12_canStep 1 = .ok (.getfield 55, 3) := by decide +kernel
theorem dX12_canStep_4 : decode cX12_canStep 4 = .ok (.iload_n 2, 1) := by decide +kernel
theorem dX12_canStep_5 : decode cX12_canStep 5 = .ok (.iconst 1, 1) := by decide +kernel
theorem dX12_canStep_6 : decode cX12_canStep 6 = .ok (.iadd, 1) := by decide +kernel
theorem dX12_canStep_7 : decode cX12_canStep 7 = .ok (.iaload, 1) := by decide +kernel
theorem dX12_canStep_8 : decode cX12_canStep 8 = .ok (.istore_n 3, 1) := by decide +kernel
theorem dX12_canStep_9 : decode cX12_canStep 9 = .ok (.aload_n 0, 1) := by decide +kernel
theorem dX12_canStep_10 : decode cX12_canStep 10 = .ok (.getfield 55, 3) := by decide +kernel
theorem dX12_canStep_13 : decode cX12_canStep 13 = .ok (.iload_n 2, 1) := by decide +kernel
theorem dX12_canStep_14 : decode cX12_canStep 14 = .ok (.iconst 2, 1) := by decide +kernel
theorem dX12_canStep_15 : decode cX12_canStep 15 = .ok (.iadd, 1) := by decide +kernel
theorem dX12_canStep_16 : decode cX12_canStep 16 = .ok (.iaload, 1) := by decide +kernel
theorem dX12_canStep_17 : decode cX12_canStep 17 = .ok (.istore 4, 2) := by decide +kernel
theorem dX12_canStep_19 : decode cX12_canStep 19 = .ok (.aload_n 0, 1) := by decide +kernel
theorem dX12_canStep_20 : decode cX12_canStep 20 = .ok (.getfield 55, 3) := by decide +kernel
theorem dX12_canStep_23 : decode cX12_canStep 23 = .ok (.iload_n 2, 1) := by decide +kernel
theorem dX12_canStep_24 : decode cX12_canStep 24 = .ok (.iaload, 1) := by decide +kernel
theorem dX12_canStep_25 : decode cX12_canStep 25 = .ok (.tableswitch 75 0 4 #[35, 44, 53, 60, 67], 35) := by decide +kernel
theorem dX12_canStep_60 : decode cX12_canStep 60 = .ok (.aload_n 0, 1) := by decide +kernel
theorem dX12_canStep_61 : decode cX12_canStep 61 = .ok (.aload_n 1, 1) := by decide +kernel
theorem dX12_canStep_62 : decode cX12_canStep 62 = .ok (.iload_n 3, 1) := by decide +kernel
theorem dX12_canStep_63 : decode cX12_canStep 63 = .ok (.iload 4, 2) := by decide +kernel
theorem dX12_canStep_65 : decode cX12_canStep 65 = .ok (.invokevirtual 382, 3) := by decide +kernel
theorem dX12_canStep_68 : decode cX12_canStep 68 = .ok (.ireturn, 1) := by decide +kernel
theorem dX12_canStep_69 : decode cX12_canStep 69 = .ok (.aload_n 0, 1) := by decide +kernel
theorem dX12_canStep_70 : decode cX12_canStep 70 = .ok (.aload_n 1, 1) := by decide +kernel
theorem dX12_canStep_71 : decode cX12_canStep 71 = .ok (.iload_n 3, 1) := by decide +kernel
theorem dX12_canStep_72 : decode cX12_canStep 72 = .ok (.iload 4, 2) := by decide +kernel
theorem dX12_canStep_74 : decode cX12_canStep 74 = .ok (.invokevirtual 393, 3) := by decide +kernel
theorem dX12_canStep_77 : decode cX12_canStep 77 = .ok (.ireturn, 1) := by decide +kernel
theorem dX12_canStep_78 : decode cX12_canStep 78 = .ok (.aload_n 0, 1) := by decide +kernel
theorem dX12_canStep_79 : decode cX12_canStep 79 = .ok (.aload_n 1, 1) := by decide +kernel
theorem dX12_canStep_80 : decode cX12_canStep 80 = .ok (.iload_n 3, 1) := by decide +kernel
theorem dX12_canStep_81 : decode cX12_canStep 81 = .ok (.invokevirtual 396, 3) := by decide +kernel
theorem dX12_canStep_84 : decode cX12_canStep 84 = .ok (.ireturn, 1) := by decide +kernel
theorem dX12_canStep_85 : decode cX12_canStep 85 = .ok (.aload_n 0, 1) := by decide +kernel
theorem dX12_canStep_86 : decode cX12_canStep 86 = .ok (.aload_n 1, 1) := by decide +kernel
theorem dX12_canStep_87 : decode cX12_canStep 87 = .ok (.iload_n 3, 1) := by decide +kernel
theorem dX12_canStep_88 : decode cX12_canStep 88 = .ok (.invokevirtual 400, 3) := by decide +kernel
theorem dX12_canStep_91 : decode cX12_canStep 91 = .ok (.ireturn, 1) := by decide +kernel
theorem dX12_canStep_92 : decode cX12_canStep 92 = .ok (.aload_n 0, 1) := by decide +kernel
theorem dX12_canStep_93 : decode cX12_canStep 93 = .ok (.iload_n 3, 1) := by decide +kernel
theorem dX12_canStep_94 : decode cX12_canStep 94 = .ok (.iload 4, 2) := by decide +kernel
theorem dX12_canStep_96 : decode cX12_canStep 96 = .ok (.invokevirtual 407, 3) := by decide +kernel
theorem dX12_canStep_99 : decode cX12_canStep 99 = .ok (.ireturn, 1) := by decide +kernel
theorem dX12_canStep_100 : decode cX12_canStep 100 = .ok (.aload_n 0, 1) := by decide +kernel
theorem dX12_canStep_101 : decode cX12_canStep 101 = .ok (.iload_n 3, 1) := by decide +kernel
theorem dX12_canStep_102 : decode cX12_canStep 102 = .ok (.invokevirtual 374, 3) := by decide +kernel
theorem dX12_canStep_105 : decode cX12_canStep 105 = .ok (.ireturn, 1) := by decide +kernel
theorem dX12_steps_0 : decode cX12_steps 0 = .ok (.aload_n 0, 1) := by decide +kernel
theorem dX12_steps_1 : decode cX12_steps 1 = .ok (.getfield 55, 3) := by decide +kernel
theorem dX12_steps_4 : decode cX12_steps 4 = .ok (.iload_n 2, 1) := by decide +kernel
theorem dX12_steps_5 : decode cX12_steps 5 = .ok (.iconst 1, 1) := by decide +kernel
theorem dX12_steps_6 : decode cX12_steps 6 = .ok (.iadd, 1) := by decide +kernel
theorem dX12_steps_7 : decode cX12_steps 7 = .ok (.iaload, 1) := by decide +kernel
theorem dX12_steps_8 : decode cX12_steps 8 = .ok (.istore_n 3, 1) := by decide +kernel
theorem dX12_steps_9 : decode cX12_steps 9 = .ok (.aload_n 0, 1) := by decide +kernel
theorem dX12_steps_10 : decode cX12_steps 10 = .ok (.getfield 55, 3) := by decide +kernel
theorem dX12_steps_13 : decode cX12_steps 13 = .ok (.iload_n 2, 1) := by decide +kernel
theorem dX12_steps_14 : decode cX12_steps 14 = .ok (.iconst 2, 1) := by decide +kernel
theorem dX12_steps_15 : decode cX12_steps 15 = .ok (.iadd, 1) := by decide +kernel
theorem dX12_steps_16 : decode cX12_steps 16 = .ok (.iaload, 1) := by decide +kernel
theorem dX12_steps_17 : decode cX12_steps 17 = .ok (.istore 4, 2) := by decide +kernel
theorem dX12_steps_19 : decode cX12_steps 19 = .ok (.aload_n 0, 1) := by decide +kernel
theorem dX12_steps_20 : decode cX12_steps 20 = .ok (.getfield 55, 3) := by decide +kernel
theorem dX12_steps_23 : decode cX12_steps 23 = .ok (.iload_n 2, 1) := by decide +kernel
theorem dX12_steps_24 : decode cX12_steps 24 = .ok (.iaload, 1) := by decide +kernel
theorem dX12_steps_25 : decode cX12_steps 25 = .ok (.tableswitch 95 0 4 #[35, 46, 59, 73, 85], 35) := by decide +kernel
theorem dX12_steps_60 : decode cX12_steps 60 = .ok (.aload_n 0, 1) := by decide +kernel
theorem dX12_steps_61 : decode cX12_steps 61 = .ok (.aload_n 1, 1) := by decide +kernel
theorem dX12_steps_62 : decode cX12_steps 62 = .ok (.iload_n 3, 1) := by decide +kernel
theorem dX12_steps_63 : decode cX12_steps 63 = .ok (.iload 4, 2) := by decide +kernel
theorem dX12_steps_65 : decode cX12_steps 65 = .ok (.invokevirtual 389, 3) := by decide +kernel
theorem dX12_steps_68 : decode cX12_steps 68 = .ok (.goto 58, 3) := by decide +kernel
theorem dX12_steps_71 : decode cX12_steps 71 = .ok (.aload_n 1, 1) := by decide +kernel
theorem dX12_steps_72 : decode cX12_steps 72 = .ok (.bipush 6, 2) := by decide +kernel
theorem dX12_steps_74 : decode cX12_steps 74 = .ok (.iload_n 3, 1) := by decide +kernel
theorem dX12_steps_75 : decode cX12_steps 75 = .ok (.imul, 1) := by decide +kernel
theorem dX12_steps_76 : decode cX12_steps 76 = .ok (.iconst 2, 1) := by decide +kernel
theorem dX12_steps_77 : decode cX12_steps 77 = .ok (.iadd, 1) := by decide +kernel
theorem dX12_steps_78 : decode cX12_steps 78 = .ok (.iload 4, 2) := by decide +kernel
theorem dX12_steps_80 : decode cX12_steps 80 = .ok (.iastore, 1) := by decide +kernel
theorem dX12_steps_81 : decode cX12_steps 81 = .ok (.goto 45, 3) := by decide +kernel
theorem dX12_steps_84 : decode cX12_steps 84 = .ok (.aload_n 0, 1) := by decide +kernel
theorem dX12_steps_85 : decode cX12_steps 85 = .ok (.aload_n 1, 1) := by decide +kernel
theorem dX12_steps_86 : decode cX12_steps 86 = .ok (.iload_n 3, 1) := by decide +kernel
theorem dX12_steps_87 : decode cX12_steps 87 = .ok (.iconst 0, 1) := by decide +kernel
theorem dX12_steps_88 : decode cX12_steps 88 = .ok (.bipush 9, 2) := by decide +kernel
theorem dX12_steps_90 : decode cX12_steps 90 = .ok (.invokevirtual 352, 3) := by decide +kernel
theorem dX12_steps_93 : decode cX12_steps 93 = .ok (.istore 5, 2) := by decide +kernel
theorem dX12_steps_95 : decode cX12_steps 95 = .ok (.goto 31, 3) := by decide +kernel
theorem dX12_steps_98 : decode cX12_steps 98 = .ok (.aload_n 1, 1) := by decide +kernel
theorem dX12_steps_99 : decode cX12_steps 99 = .ok (.bipush 6, 2) := by decide +kernel
theorem dX12_steps_101 : decode cX12_steps 101 = .ok (.iload_n 3, 1) := by decide +kernel
theorem dX12_steps_102 : decode cX12_steps 102 = .ok (.imul, 1) := by decide +kernel
theorem dX12_steps_103 : decode cX12_steps 103 = .ok (.iconst 3, 1) := by decide +kernel
theorem dX12_steps_104 : decode cX12_steps 104 = .ok (.iadd, 1) := by decide +kernel
theorem dX12_steps_105 : decode cX12_steps 105 = .ok (.iconst 1, 1) := by decide +kernel
theorem dX12_steps_106 : decode cX12_steps 106 = .ok (.iastore, 1) := by decide +kernel
theorem dX12_steps_107 : decode cX12_steps 107 = .ok (.goto 19, 3) := by decide +kernel
theorem dX12_steps_110 : decode cX12_steps 110 = .ok (.aload_n 1, 1) := by decide +kernel
theorem dX12_steps_111 : decode cX12_steps 111 = .ok (.iload_n 3, 1) := by decide +kernel
theorem dX12_steps_112 : decode cX12_steps 112 = .ok (.iload 4, 2) := by decide +kernel
theorem dX12_steps_114 : decode cX12_steps 114 = .ok (.invokestatic 410, 3) := by decide +kernel
theorem dX12_steps_117 : decode cX12_steps 117 = .ok (.goto 9, 3) := by decide +kernel
theorem dX12_steps_120 : decode cX12_steps 120 = .ok (.aload_n 0, 1) := by decide +kernel
theorem dX12_steps_121 : decode cX12_steps 121 = .ok (.aload_n 1, 1) := by decide +kernel
theorem dX12_steps_122 : decode cX12_steps 122 = .ok (.iload_n 3, 1) := by decide +kernel
theorem dX12_steps_123 : decode cX12_steps 123 = .ok (.invokevirtual 416, 3) := by decide +kernel
theorem dX12_steps_126 : decode cX12_steps 126 = .ok (.return_, 1) := by decide +kernel
theorem dX12_lostIn_0 : decode cX12_lostIn 0 = .ok (.iconst 0, 1) := by decide +kernel
theorem dX12_lostIn_1 : decode cX12_lostIn 1 = .ok (.istore_n 2, 1) := by decide +kernel
theorem dX12_lostIn_2 : decode cX12_lostIn 2 = .ok (.iconst 0, 1) := by decide +kernel
theorem dX12_lostIn_3 : decode cX12_lostIn 3 = .ok (.istore_n 3, 1) := by decide +kernel
theorem dX12_lostIn_4 : decode cX12_lostIn 4 = .ok (.iload_n 3, 1) := by decide +kernel
theorem dX12_lostIn_5 : decode cX12_lostIn 5 = .ok (.aload_n 0, 1) := by decide +kernel
theorem dX12_lostIn_6 : decode cX12_lostIn 6 = .ok (.getfield 297, 3) := by decide +kernel
theorem dX12_lostIn_9 : decode cX12_lostIn 9 = .ok (.if_icmp .ge 20, 3) := by decide +kernel
theorem dX12_lostIn_12 : decode cX12_lostIn 12 = .ok (.iload_n 2, 1) := by decide +kernel
theorem dX12_lostIn_13 : decode cX12_lostIn 13 = .ok (.aload_n 1, 1) := by decide +kernel
theorem dX12_lostIn_14 : decode cX12_lostIn 14 = .ok (.bipush 6, 2) := by decide +kernel
theorem dX12_lostIn_16 : decode cX12_lostIn 16 = .ok (.iload_n 3, 1) := by decide +kernel
theorem dX12_lostIn_17 : decode cX12_lostIn 17 = .ok (.imul, 1) := by decide +kernel
theorem dX12_lostIn_18 : decode cX12_lostIn 18 = .ok (.iconst 5, 1) := by decide +kernel
theorem dX12_lostIn_19 : decode cX12_lostIn 19 = .ok (.iadd, 1) := by decide +kernel
theorem dX12_lostIn_20 : decode cX12_lostIn 20 = .ok (.iaload, 1) := by decide +kernel
theorem dX12_lostIn_21 : decode cX12_lostIn 21 = .ok (.iadd, 1) := by decide +kernel
theorem dX12_lostIn_22 : decode cX12_lostIn 22 = .ok (.istore_n 2, 1) := by decide +kernel
theorem dX12_lostIn_23 : decode cX12_lostIn 23 = .ok (.iinc 3 1, 3) := by decide +kernel
theorem dX12_lostIn_26 : decode cX12_lostIn 26 = .ok (.goto (-22), 3) := by decide +kernel
theorem dX12_lostIn_29 : decode cX12_lostIn 29 = .ok (.iload_n 2, 1) := by decide +kernel
theorem dX12_lostIn_30 : decode cX12_lostIn 30 = .ok (.ireturn, 1) := by decide +kernel
theorem dX12_run_0 : decode cX12_run 0 = .ok (.aload_n 0, 1) := by decide +kernel
theorem dX12_run_1 : decode cX12_run 1 = .ok (.iconst 0, 1) := by decide +kernel
theorem dX12_run_2 : decode cX12_run 2 = .ok (.putfield 99, 3) := by decide +kernel
theorem dX12_run_5 : decode cX12_run 5 = .ok (.aload_n 0, 1) := by decide +kernel
theorem dX12_run_6 : decode cX12_run 6 = .ok (.iload_n 1, 1) := by decide +kernel
theorem dX12_run_7 : decode cX12_run 7 = .ok (.invokevirtual 438, 3) := by decide +kernel
theorem dX12_run_10 : decode cX12_run 10 = .ok (.ifCond .eq 20, 3) := by decide +kernel
theorem dX12_run_13 : decode cX12_run 13 = .ok (.aload_n 0, 1) := by decide +kernel
theorem dX12_run_14 : decode cX12_run 14 = .ok (.getfield 297, 3) := by decide +kernel
theorem dX12_run_17 : decode cX12_run 17 = .ok (.ifCond .eq 13, 3) := by decide +kernel
theorem dX12_run_20 : decode cX12_run 20 = .ok (.iload_n 2, 1) := by decide +kernel
theorem dX12_run_21 : decode cX12_run 21 = .ok (.i2l, 1) := by decide +kernel
theorem dX12_run_22 : decode cX12_run 22 = .ok (.lconst 0, 1) := by decide +kernel
theorem dX12_run_23 : decode cX12_run 23 = .ok (.lconst 1, 1) := by decide +kernel
theorem dX12_run_24 : decode cX12_run 24 = .ok (.invokestatic 220, 3) := by decide +kernel
theorem dX12_run_27 : decode cX12_run 27 = .ok (.ifCond .ne 7, 3) := by decide +kernel
theorem dX12_run_30 : decode cX12_run 30 = .ok (.ldc_w 441, 3) := by decide +kernel
theorem dX12_run_33 : decode cX12_run 33 = .ok (.ireturn, 1) := by decide +kernel
theorem dX12_run_34 : decode cX12_run 34 = .ok (.aload_n 0, 1) := by decide +kernel
theorem dX12_run_35 : decode cX12_run 35 = .ok (.getfield 61, 3) := by decide +kernel
theorem dX12_run_38 : decode cX12_run 38 = .ok (.aload_n 0, 1) := by decide +kernel
theorem dX12_run_39 : decode cX12_run 39 = .ok (.getfield 64, 3) := by decide +kernel
theorem dX12_run_42 : decode cX12_run 42 = .ok (.invokestatic 359, 3) := by decide +kernel
theorem dX12_run_45 : decode cX12_run 45 = .ok (.iconst 0, 1) := by decide +kernel
theorem dX12_run_46 : decode cX12_run 46 = .ok (.istore_n 3, 1) := by decide +kernel
theorem dX12_run_47 : decode cX12_run 47 = .ok (.iload_n 3, 1) := by decide +kernel
theorem dX12_run_48 : decode cX12_run 48 = .ok (.aload_n 0, 1) := by decide +kernel
theorem dX12_run_49 : decode cX12_run 49 = .ok (.getfield 58, 3) := by decide +kernel
theorem dX12_run_52 : decode cX12_run 52 = .ok (.iload_n 1, 1) := by decide +kernel
theorem dX12_run_53 : decode cX12_run 53 = .ok (.iaload, 1) := by decide +kernel
theorem dX12_run_54 : decode cX12_run 54 = .ok (.if_icmp .ge 44, 3) := by decide +kernel
theorem dX12_run_57 : decode cX12_run 57 = .ok (.aload_n 0, 1) := by decide +kernel
theorem dX12_run_58 : decode cX12_run 58 = .ok (.aload_n 0, 1) := by decide +kernel
theorem dX12_run_59 : decode cX12_run 59 = .ok (.getfield 64, 3) := by decide +kernel
theorem dX12_run_62 : decode cX12_run 62 = .ok (.iconst 3, 1) := by decide +kernel
theorem dX12_run_63 : decode cX12_run 63 = .ok (.bipush 16, 2) := by decide +kernel
theorem dX12_run_65 : decode cX12_run 65 = .ok (.iload_n 1, 1) := by decide +kernel
theorem dX12_run_66 : decode cX12_run 66 = .ok (.imul, 1) := by decide +kernel
theorem dX12_run_67 : decode cX12_run 67 = .ok (.iload_n 3, 1) := by decide +kernel
theorem dX12_run_68 : decode cX12_run 68 = .ok (.iadd, 1) := by decide +kernel
theorem dX12_run_69 : decode cX12_run 69 = .ok (.imul, 1) := by decide +kernel
theorem dX12_run_70 : decode cX12_run 70 = .ok (.invokevirtual 442, 3) := by decide +kernel
theorem dX12_run_73 : decode cX12_run 73 = .ok (.ifCond .eq 25, 3) := by decide +kernel
theorem dX12_run_76 : decode cX12_run 76 = .ok (.aload_n 0, 1) := by decide +kernel
theorem dX12_run_77 : decode cX12_run 77 = .ok (.aload_n 0, 1) := by decide +kernel
theorem dX12_run_78 : decode cX12_run 78 = .ok (.getfield 64, 3) := by decide +kernel
theorem dX12_run_81 : decode cX12_run 81 = .ok (.iconst 3, 1) := by decide +kernel
theorem dX12_run_82 : decode cX12_run 82 = .ok (.bipush 16, 2) := by decide +kernel
theorem dX12_run_84 : decode cX12_run 84 = .ok (.iload_n 1, 1) := by decide +kernel
theorem dX12_run_85 : decode cX12_run 85 = .ok (.imul, 1) := by decide +kernel
theorem dX12_run_86 : decode cX12_run 86 = .ok (.iload_n 3, 1) := by decide +kernel
theorem dX12_run_87 : decode cX12_run 87 = .ok (.iadd, 1) := by decide +kernel
theorem dX12_run_88 : decode cX12_run 88 = .ok (.imul, 1) := by decide +kernel
theorem dX12_run_89 : decode cX12_run 89 = .ok (.invokevirtual 445, 3) := by decide +kernel
theorem dX12_run_92 : decode cX12_run 92 = .ok (.iinc 3 1, 3) := by decide +kernel
theorem dX12_run_95 : decode cX12_run 95 = .ok (.goto (-48), 3) := by decide +kernel
theorem dX12_run_98 : decode cX12_run 98 = .ok (.iload_n 2, 1) := by decide +kernel
theorem dX12_run_99 : decode cX12_run 99 = .ok (.iconst 1, 1) := by decide +kernel
theorem dX12_run_100 : decode cX12_run 100 = .ok (.if_icmp .ne 21, 3) := by decide +kernel
theorem dX12_run_103 : decode cX12_run 103 = .ok (.aload_n 0, 1) := by decide +kernel
theorem dX12_run_104 : decode cX12_run 104 = .ok (.aload_n 0, 1) := by decide +kernel
theorem dX12_run_105 : decode cX12_run 105 = .ok (.getfield 64, 3) := by decide +kernel
theorem dX12_run_108 : decode cX12_run 108 = .ok (.invokevirtual 448, 3) := by decide +kernel
theorem dX12_run_111 : decode cX12_run 111 = .ok (.aload_n 0, 1) := by decide +kernel
theorem dX12_run_112 : decode cX12_run 112 = .ok (.aload_n 0, 1) := by decide +kernel
theorem dX12_run_113 : decode cX12_run 113 = .ok (.getfield 61, 3) := by decide +kernel
theorem dX12_run_116 : decode cX12_run 116 = .ok (.invokevirtual 448, 3) := by decide +kernel
theorem dX12_run_119 : decode cX12_run 119 = .ok (.isub, 1) := by decide +kernel
theorem dX12_run_120 : decode cX12_run 120 = .ok (.ireturn, 1) := by decide +kernel
theorem dX12_run_121 : decode cX12_run 121 = .ok (.iload_n 3, 1) := by decide +kernel
theorem dX12_run_122 : decode cX12_run 122 = .ok (.aload_n 0, 1) := by decide +kernel
theorem dX12_run_123 : decode cX12_run 123 = .ok (.getfield 58, 3) := by decide +kernel
theorem dX12_run_126 : decode cX12_run 126 = .ok (.iload_n 1, 1) := by decide +kernel
theorem dX12_run_127 : decode cX12_run 127 = .ok (.iaload, 1) := by decide +kernel
theorem dX12_run_128 : decode cX12_run 128 = .ok (.if_icmp .ne 7, 3) := by decide +kernel
theorem dX12_run_131 : decode cX12_run 131 = .ok (.iconst (-1), 1) := by decide +kernel
theorem dX12_run_132 : decode cX12_run 132 = .ok (.goto 4, 3) := by decide +kernel
theorem dX12_run_135 : decode cX12_run 135 = .ok (.iload_n 3, 1) := by decide +kernel
theorem dX12_run_136 : decode cX12_run 136 = .ok (.ireturn, 1) := by decide +kernel
theorem dX12_perform_0 : decode cX12_perform 0 = .ok (.aload_n 0, 1) := by decide +kernel
theorem dX12_perform_1 : decode cX12_perform 1 = .ok (.iconst 0, 1) := by decide +kernel
theorem dX12_perform_2 : decode cX12_perform 2 = .ok (.putfield 99, 3) := by decide +kernel
theorem dX12_perform_5 : decode cX12_perform 5 = .ok (.aload_n 0, 1) := by decide +kernel
theorem dX12_perform_6 : decode cX12_perform 6 = .ok (.iload_n 1, 1) := by decide +kernel
theorem dX12_perform_7 : decode cX12_perform 7 = .ok (.invokevirtual 438, 3) := by decide +kernel
theorem dX12_perform_10 : decode cX12_perform 10 = .ok (.ifCond .eq 10, 3) := by decide +kernel
theorem dX12_perform_13 : decode cX12_perform 13 = .ok (.aload_n 0, 1) := by decide +kernel
theorem dX12_perform_14 : decode cX12_perform 14 = .ok (.getfield 297, 3) := by decide +kernel
theorem dX12_perform_17 : decode cX12_perform 17 = .ok (.ifCond .ne 5, 3) := by decide +kernel
theorem dX12_perform_20 : decode cX12_perform 20 = .ok (.iconst (-1), 1) := by decide +kernel
theorem dX12_perform_21 : decode cX12_perform 21 = .ok (.ireturn, 1) := by decide +kernel
theorem dX12_perform_22 : decode cX12_perform 22 = .ok (.iconst 0, 1) := by decide +kernel
theorem dX12_perform_23 : decode cX12_perform 23 = .ok (.istore_n 2, 1) := by decide +kernel
theorem dX12_perform_24 : decode cX12_perform 24 = .ok (.iload_n 2, 1) := by decide +kernel
theorem dX12_perform_25 : decode cX12_perform 25 = .ok (.aload_n 0, 1) := by decide +kernel
theorem dX12_perform_26 : decode cX12_perform 26 = .ok (.getfield 58, 3) := by decide +kernel
theorem dX12_perform_29 : decode cX12_perform 29 = .ok (.iload_n 1, 1) := by decide +kernel
theorem dX12_perform_30 : decode cX12_perform 30 = .ok (.iaload, 1) := by decide +kernel
theorem dX12_perform_31 : decode cX12_perform 31 = .ok (.if_icmp .ge 48, 3) := by decide +kernel
theorem dX12_perform_34 : decode cX12_perform 34 = .ok (.aload_n 0, 1) := by decide +kernel
theorem dX12_perform_35 : decode cX12_perform 35 = .ok (.aload_n 0, 1) := by decide +kernel
theorem dX12_perform_36 : decode cX12_perform 36 = .ok (.getfield 61, 3) := by decide +kernel
theorem dX12_perform_39 : decode cX12_perform 39 = .ok (.iconst 3, 1) := by decide +kernel
theorem dX12_perform_40 : decode cX12_perform 40 = .ok (.bipush 16, 2) := by decide +kernel
theorem dX12_perform_42 : decode cX12_perform 42 = .ok (.iload_n 1, 1) := by decide +kernel
theorem dX12_perform_43 : decode cX12_perform 43 = .ok (.imul, 1) := by decide +kernel
theorem dX12_perform_44 : decode cX12_perform 44 = .ok (.iload_n 2, 1) := by decide +kernel
theorem dX12_perform_45 : decode cX12_perform 45 = .ok (.iadd, 1) := by decide +kernel
theorem dX12_perform_46 : decode cX12_perform 46 = .ok (.imul, 1) := by decide +kernel
theorem dX12_perform_47 : decode cX12_perform 47 = .ok (.invokevirtual 442, 3) := by decide +kernel
theorem dX12_perform_50 : decode cX12_perform 50 = .ok (.ifCond .eq 29, 3) := by decide +kernel
theorem dX12_perform_53 : decode cX12_perform 53 = .ok (.aload_n 0, 1) := by decide +kernel
theorem dX12_perform_54 : decode cX12_perform 54 = .ok (.invokevirtual 386, 3) := by decide +kernel
theorem dX12_perform_57 : decode cX12_perform 57 = .ok (.aload_n 0, 1) := by decide +kernel
theorem dX12_perform_58 : decode cX12_perform 58 = .ok (.aload_n 0, 1) := by decide +kernel
theorem dX12_perform_59 : decode cX12_perform 59 = .ok (.getfield 61, 3) := by decide +kernel
theorem dX12_perform_62 : decode cX12_perform 62 = .ok (.iconst 3, 1) := by decide +kernel
theorem dX12_perform_63 : decode cX12_perform 63 = .ok (.bipush 16, 2) := by decide +kernel
theorem dX12_perform_65 : decode cX12_perform 65 = .ok (.iload_n 1, 1) := by decide +kernel
theorem dX12_perform_66 : decode cX12_perform 66 = .ok (.imul, 1) := by decide +kernel
theorem dX12_perform_67 : decode cX12_perform 67 = .ok (.iload_n 2, 1) := by decide +kernel
theorem dX12_perform_68 : decode cX12_perform 68 = .ok (.iadd, 1) := by decide +kernel
theorem dX12_perform_69 : decode cX12_perform 69 = .ok (.imul, 1) := by decide +kernel
theorem dX12_perform_70 : decode cX12_perform 70 = .ok (.invokevirtual 445, 3) := by decide +kernel
theorem dX12_perform_73 : decode cX12_perform 73 = .ok (.iinc 2 1, 3) := by decide +kernel
theorem dX12_perform_76 : decode cX12_perform 76 = .ok (.goto (-52), 3) := by decide +kernel
theorem dX12_perform_79 : decode cX12_perform 79 = .ok (.iload_n 2, 1) := by decide +kernel
theorem dX12_perform_80 : decode cX12_perform 80 = .ok (.ireturn, 1) := by decide +kernel
theorem dX12_time_0 : decode cX12_time 0 = .ok (.aload_n 0, 1) := by decide +kernel
theorem dX12_time_1 : decode cX12_time 1 = .ok (.iconst 0, 1) := by decide +kernel
theorem dX12_time_2 : decode cX12_time 2 = .ok (.putfield 99, 3) := by decide +kernel
theorem dX12_time_5 : decode cX12_time 5 = .ok (.aload_n 0, 1) := by decide +kernel
theorem dX12_time_6 : decode cX12_time 6 = .ok (.iload_n 1, 1) := by decide +kernel
theorem dX12_time_7 : decode cX12_time 7 = .ok (.invokevirtual 374, 3) := by decide +kernel
theorem dX12_time_10 : decode cX12_time 10 = .ok (.ifCond .eq 13, 3) := by decide +kernel
theorem dX12_time_13 : decode cX12_time 13 = .ok (.iload_n 2, 1) := by decide +kernel
theorem dX12_time_14 : decode cX12_time 14 = .ok (.i2l, 1) := by decide +kernel
theorem dX12_time_15 : decode cX12_time 15 = .ok (.lconst 0, 1) := by decide +kernel
theorem dX12_time_16 : decode cX12_time 16 = .ok (.lconst 1, 1) := by decide +kernel
theorem dX12_time_17 : decode cX12_time 17 = .ok (.invokestatic 220, 3) := by decide +kernel
theorem dX12_time_20 : decode cX12_time 20 = .ok (.ifCond .ne 5, 3) := by decide +kernel
theorem dX12_time_23 : decode cX12_time 23 = .ok (.iconst (-1), 1) := by decide +kernel
theorem dX12_time_24 : decode cX12_time 24 = .ok (.ireturn, 1) := by decide +kernel
theorem dX12_time_25 : decode cX12_time 25 = .ok (.aload_n 0, 1) := by decide +kernel
theorem dX12_time_26 : decode cX12_time 26 = .ok (.iload_n 1, 1) := by decide +kernel
theorem dX12_time_27 : decode cX12_time 27 = .ok (.invokevirtual 451, 3) := by decide +kernel
theorem dX12_time_30 : decode cX12_time 30 = .ok (.iload_n 2, 1) := by decide +kernel
theorem dX12_time_31 : decode cX12_time 31 = .ok (.ifCond .ne 10, 3) := by decide +kernel
theorem dX12_time_34 : decode cX12_time 34 = .ok (.aload_n 0, 1) := by decide +kernel
theorem dX12_time_35 : decode cX12_time 35 = .ok (.getfield 333, 3) := by decide +kernel
theorem dX12_time_38 : decode cX12_time 38 = .ok (.goto 7, 3) := by decide +kernel
theorem dX12_time_41 : decode cX12_time 41 = .ok (.aload_n 0, 1) := by decide +kernel
theorem dX12_time_42 : decode cX12_time 42 = .ok (.getfield 336, 3) := by decide +kernel
theorem dX12_time_45 : decode cX12_time 45 = .ok (.ireturn, 1) := by decide +kernel
theorem dX12_tensOf_0 : decode cX12_tensOf 0 = .ok (.iconst 0, 1) := by decide +kernel
theorem dX12_tensOf_1 : decode cX12_tensOf 1 = .ok (.istore_n 3, 1) := by decide +kernel
theorem dX12_tensOf_2 : decode cX12_tensOf 2 = .ok (.iconst 0, 1) := by decide +kernel
theorem dX12_tensOf_3 : decode cX12_tensOf 3 = .ok (.istore 4, 2) := by decide +kernel
theorem dX12_tensOf_5 : decode cX12_tensOf 5 = .ok (.aload_n 0, 1) := by decide +kernel
theorem dX12_tensOf_6 : decode cX12_tensOf 6 = .ok (.getfield 61, 3) := by decide +kernel
theorem dX12_tensOf_9 : decode cX12_tensOf 9 = .ok (.bipush 54, 2) := by decide +kernel
theorem dX12_tensOf_11 : decode cX12_tensOf 11 = .ok (.iaload, 1) := by decide +kernel
theorem dX12_tensOf_12 : decode cX12_tensOf 12 = .ok (.istore 5, 2) := by decide +kernel
theorem dX12_tensOf_14 : decode cX12_tensOf 14 = .ok (.iconst 0, 1) := by decide +kernel
theorem dX12_tensOf_15 : decode cX12_tensOf 15 = .ok (.istore 6, 2) := by decide +kernel
theorem dX12_tensOf_17 : decode cX12_tensOf 17 = .ok (.iload 6, 2) := by decide +kernel
theorem dX12_tensOf_19 : decode cX12_tensOf 19 = .ok (.iload_n 2, 1) := by decide +kernel
theorem dX12_tensOf_20 : decode cX12_tensOf 20 = .ok (.if_icmp .ge 111, 3) := by decide +kernel
theorem dX12_tensOf_23 : decode cX12_tensOf 23 = .ok (.aload_n 0, 1) := by decide +kernel
theorem dX12_tensOf_24 : decode cX12_tensOf 24 = .ok (.getfield 77, 3) := by decide +kernel
theorem dX12_tensOf_27 : decode cX12_tensOf 27 = .ok (.iload 6, 2) := by decide +kernel
theorem dX12_tensOf_29 : decode cX12_tensOf 29 = .ok (.iaload, 1) := by decide +kernel
theorem dX12_tensOf_30 : decode cX12_tensOf 30 = .ok (.istore 7, 2) := by decide +kernel
theorem dX12_tensOf_32 : decode cX12_tensOf 32 = .ok (.iload_n 3, 1) := by decide +kernel
theorem dX12_tensOf_33 : decode cX12_tensOf 33 = .ok (.aload_n 0, 1) := by decide +kernel
theorem dX12_tensOf_34 : decode cX12_tensOf 34 = .ok (.aload_n 0, 1) := by decide +kernel
theorem dX12_tensOf_35 : decode cX12_tensOf 35 = .ok (.getfield 61, 3) := by decide +kernel
theorem dX12_tensOf_38 : decode cX12_tensOf 38 = .ok (.iload 7, 2) := by decide +kernel
theorem dX12_tensOf_40 : decode cX12_tensOf 40 = .ok (.iload_n 1, 1) := by decide +kernel
theorem dX12_tensOf_41 : decode cX12_tensOf 41 = .ok (.invokevirtual 348, 3) := by decide +kernel
theorem dX12_tensOf_44 : decode cX12_tensOf 44 = .ok (.iadd, 1) := by decide +kernel
theorem dX12_tensOf_45 : decode cX12_tensOf 45 = .ok (.istore_n 3, 1) := by decide +kernel
theorem dX12_tensOf_46 : decode cX12_tensOf 46 = .ok (.aload_n 0, 1) := by decide +kernel
theorem dX12_tensOf_47 : decode cX12_tensOf 47 = .ok (.getfield 43, 3) := by decide +kernel
theorem dX12_tensOf_50 : decode cX12_tensOf 50 = .ok (.bipush 6, 2) := by decide +kernel
theorem dX12_tensOf_52 : decode cX12_tensOf 52 = .ok (.iload 7, 2) := by decide +kernel
theorem dX12_tensOf_54 : decode cX12_tensOf 54 = .ok (.imul, 1) := by decide +kernel
theorem dX12_tensOf_55 : decode cX12_tensOf 55 = .ok (.iconst 1, 1) := by decide +kernel
theorem dX12_tensOf_56 : decode cX12_tensOf 56 = .ok (.iadd, 1) := by decide +kernel
theorem dX12_tensOf_57 : decode cX12_tensOf 57 = .ok (.iaload, 1) := by decide +kernel
theorem dX12_tensOf_58 : decode cX12_tensOf 58 = .ok (.ifCond .ne 6, 3) := by decide +kernel
theorem dX12_tensOf_61 : decode cX12_tensOf 61 = .ok (.goto 64, 3) := by decide +kernel
theorem dX12_tensOf_64 : decode cX12_tensOf 64 = .ok (.iload 4, 2) := by decide +kernel
theorem dX12_tensOf_66 : decode cX12_tensOf 66 = .ok (.iload_n 3, 1) := by decide +kernel
theorem dX12_tensOf_67 : decode cX12_tensOf 67 = .ok (.aload_n 0, 1) := by decide +kernel
theorem dX12_tensOf_68 : decode cX12_tensOf 68 = .ok (.aload_n 0, 1) := by decide +kernel
theorem dX12_tensOf_69 : decode cX12_tensOf 69 = .ok (.getfield 61, 3) := by decide +kernel
theorem dX12_tensOf_72 : decode cX12_tensOf 72 = .ok (.iload 7, 2) := by decide +kernel
theorem dX12_tensOf_74 : decode cX12_tensOf 74 = .ok (.iload_n 1, 1) := by decide +kernel
theorem dX12_tensOf_75 : decode cX12_tensOf 75 = .ok (.iload 5, 2) := by decide +kernel
theorem dX12_tensOf_77 : decode cX12_tensOf 77 = .ok (.ifCond .le 7, 3) := by decide +kernel
theorem dX12_tensOf_80 : decode cX12_tensOf 80 = .ok (.iconst 1, 1) := by decide +kernel
theorem dX12_tensOf_81 : decode cX12_tensOf 81 = .ok (.goto 4, 3) := by decide +kernel
theorem dX12_tensOf_84 : decode cX12_tensOf 84 = .ok (.iconst 0, 1) := by decide +kernel
theorem dX12_tensOf_85 : decode cX12_tensOf 85 = .ok (.invokevirtual 355, 3) := by decide +kernel
theorem dX12_tensOf_88 : decode cX12_tensOf 88 = .ok (.iadd, 1) := by decide +kernel
theorem dX12_tensOf_89 : decode cX12_tensOf 89 = .ok (.invokestatic 327, 3) := by decide +kernel
theorem dX12_tensOf_92 : decode cX12_tensOf 92 = .ok (.istore 4, 2) := by decide +kernel
theorem dX12_tensOf_94 : decode cX12_tensOf 94 = .ok (.iload 5, 2) := by decide +kernel
theorem dX12_tensOf_96 : decode cX12_tensOf 96 = .ok (.aload_n 0, 1) := by decide +kernel
theorem dX12_tensOf_97 : decode cX12_tensOf 97 = .ok (.getfield 61, 3) := by decide +kernel
theorem dX12_tensOf_100 : decode cX12_tensOf 100 = .ok (.bipush 6, 2) := by decide +kernel
theorem dX12_tensOf_102 : decode cX12_tensOf 102 = .ok (.iload 7, 2) := by decide +kernel
theorem dX12_tensOf_104 : decode cX12_tensOf 104 = .ok (.imul, 1) := by decide +kernel
theorem dX12_tensOf_105 : decode cX12_tensOf 105 = .ok (.iconst 2, 1) := by decide +kernel
theorem dX12_tensOf_106 : decode cX12_tensOf 106 = .ok (.iadd, 1) := by decide +kernel
theorem dX12_tensOf_107 : decode cX12_tensOf 107 = .ok (.iaload, 1) := by decide +kernel
theorem dX12_tensOf_108 : decode cX12_tensOf 108 = .ok (.iconst 2, 1) := by decide +kernel
theorem dX12_tensOf_109 : decode cX12_tensOf 109 = .ok (.if_icmp .ne 12, 3) := by decide +kernel
theorem dX12_tensOf_112 : decode cX12_tensOf 112 = .ok (.iload 5, 2) := by decide +kernel
theorem dX12_tensOf_114 : decode cX12_tensOf 114 = .ok (.ifCond .le 7, 3) := by decide +kernel
theorem dX12_tensOf_117 : decode cX12_tensOf 117 = .ok (.iconst 1, 1) := by decide +kernel
theorem dX12_tensOf_118 : decode cX12_tensOf 118 = .ok (.goto 4, 3) := by decide +kernel
theorem dX12_tensOf_121 : decode cX12_tensOf 121 = .ok (.iconst 0, 1) := by decide +kernel
theorem dX12_tensOf_122 : decode cX12_tensOf 122 = .ok (.isub, 1) := by decide +kernel
theorem dX12_tensOf_123 : decode cX12_tensOf 123 = .ok (.istore 5, 2) := by decide +kernel
theorem dX12_tensOf_125 : decode cX12_tensOf 125 = .ok (.iinc 6 1, 3) := by decide +kernel
theorem dX12_tensOf_128 : decode cX12_tensOf 128 = .ok (.goto (-111), 3) := by decide +kernel
theorem dX12_tensOf_131 : decode cX12_tensOf 131 = .ok (.iload 4, 2) := by decide +kernel
theorem dX12_tensOf_133 : decode cX12_tensOf 133 = .ok (.iload_n 3, 1) := by decide +kernel
theorem dX12_tensOf_134 : decode cX12_tensOf 134 = .ok (.invokestatic 327, 3) := by decide +kernel
theorem dX12_tensOf_137 : decode cX12_tensOf 137 = .ok (.ireturn, 1) := by decide +kernel
theorem dX12_goOrder_0 : decode cX12_goOrder 0 = .ok (.iload_n 3, 1) := by decide +kernel
theorem dX12_goOrder_1 : decode cX12_goOrder 1 = .ok (.aload_n 0, 1) := by decide +kernel
theorem dX12_goOrder_2 : decode cX12_goOrder 2 = .ok (.getfield 303, 3) := by decide +kernel
theorem dX12_goOrder_5 : decode cX12_goOrder 5 = .ok (.if_icmp .ne 42, 3) := by decide +kernel
theorem dX12_goOrder_8 : decode cX12_goOrder 8 = .ok (.aload_n 0, 1) := by decide +kernel
theorem dX12_goOrder_9 : decode cX12_goOrder 9 = .ok (.iload_n 1, 1) := by decide +kernel
theorem dX12_goOrder_10 : decode cX12_goOrder 10 = .ok (.iload_n 3, 1) := by decide +kernel
theorem dX12_goOrder_11 : decode cX12_goOrder 11 = .ok (.invokevirtual 454, 3) := by decide +kernel
theorem dX12_goOrder_14 : decode cX12_goOrder 14 = .ok (.istore 5, 2) := by decide +kernel
theorem dX12_goOrder_16 : decode cX12_goOrder 16 = .ok (.aload_n 0, 1) := by decide +kernel
theorem dX12_goOrder_17 : decode cX12_goOrder 17 = .ok (.getfield 457, 3) := by decide +kernel
theorem dX12_goOrder_20 : decode cX12_goOrder 20 = .ok (.iconst (-1), 1) := by decide +kernel
theorem dX12_goOrder_21 : decode cX12_goOrder 21 = .ok (.if_icmp .eq 13, 3) := by decide +kernel
theorem dX12_goOrder_24 : decode cX12_goOrder 24 = .ok (.iload 5, 2) := by decide +kernel
theorem dX12_goOrder_26 : decode cX12_goOrder 26 = .ok (.aload_n 0, 1) := by decide +kernel
theorem dX12_goOrder_27 : decode cX12_goOrder 27 = .ok (.getfield 457, 3) := by decide +kernel
theorem dX12_goOrder_30 : decode cX12_goOrder 30 = .ok (.if_icmp .lt 4, 3) := by decide +kernel
theorem dX12_goOrder_33 : decode cX12_goOrder 33 = .ok (.return_, 1) := by decide +kernel
theorem dX12_goOrder_34 : decode cX12_goOrder 34 = .ok (.aload_n 0, 1) := by decide +kernel
theorem dX12_goOrder_35 : decode cX12_goOrder 35 = .ok (.iload 5, 2) := by decide +kernel
theorem dX12_goOrder_37 : decode cX12_goOrder 37 = .ok (.putfield 457, 3) := by decide +kernel
theorem dX12_goOrder_40 : decode cX12_goOrder 40 = .ok (.aload_n 0, 1) := by decide +kernel
theorem dX12_goOrder_41 : decode cX12_goOrder 41 = .ok (.iload 4, 2) := by decide +kernel
theorem dX12_goOrder_43 : decode cX12_goOrder 43 = .ok (.putfield 460, 3) := by decide +kernel
theorem dX12_goOrder_46 : decode cX12_goOrder 46 = .ok (.return_, 1) := by decide +kernel
theorem dX12_goOrder_47 : decode cX12_goOrder 47 = .ok (.iconst 0, 1) := by decide +kernel
theorem dX12_goOrder_48 : decode cX12_goOrder 48 = .ok (.istore 5, 2) := by decide +kernel
theorem dX12_goOrder_50 : decode cX12_goOrder 50 = .ok (.iload 5, 2) := by decide +kernel
theorem dX12_goOrder_52 : decode cX12_goOrder 52 = .ok (.aload_n 0, 1) := by decide +kernel
theorem dX12_goOrder_53 : decode cX12_goOrder 53 = .ok (.getfield 297, 3) := by decide +kernel
theorem dX12_goOrder_56 : decode cX12_goOrder 56 = .ok (.if_icmp .ge 60, 3) := by decide +kernel
theorem dX12_goOrder_59 : decode cX12_goOrder 59 = .ok (.aload_n 0, 1) := by decide +kernel
theorem dX12_goOrder_60 : decode cX12_goOrder 60 = .ok (.iload 5, 2) := by decide +kernel
theorem dX12_goOrder_62 : decode cX12_goOrder 62 = .ok (.invokevirtual 379, 3) := by decide +kernel
theorem dX12_goOrder_65 : decode cX12_goOrder 65 = .ok (.ifCond .ne 45, 3) := by decide +kernel
theorem dX12_goOrder_68 : decode cX12_goOrder 68 = .ok (.iload_n 2, 1) := by decide +kernel
theorem dX12_goOrder_69 : decode cX12_goOrder 69 = .ok (.iload 5, 2) := by decide +kernel
theorem dX12_goOrder_71 : decode cX12_goOrder 71 = .ok (.invokestatic 232, 3) := by decide +kernel
theorem dX12_goOrder_74 : decode cX12_goOrder 74 = .ok (.ifCond .eq 6, 3) := by decide +kernel
theorem dX12_goOrder_77 : decode cX12_goOrder 77 = .ok (.goto 33, 3) := by decide +kernel
theorem dX12_goOrder_80 : decode cX12_goOrder 80 = .ok (.aload_n 0, 1) := by decide +kernel
theorem dX12_goOrder_81 : decode cX12_goOrder 81 = .ok (.getfield 77, 3) := by decide +kernel
theorem dX12_goOrder_84 : decode cX12_goOrder 84 = .ok (.iload_n 3, 1) := by decide +kernel
theorem dX12_goOrder_85 : decode cX12_goOrder 85 = .ok (.iload 5, 2) := by decide +kernel
theorem dX12_goOrder_87 : decode cX12_goOrder 87 = .ok (.iastore, 1) := by decide +kernel
theorem dX12_goOrder_88 : decode cX12_goOrder 88 = .ok (.aload_n 0, 1) := by decide +kernel
theorem dX12_goOrder_89 : decode cX12_goOrder 89 = .ok (.iload_n 1, 1) := by decide +kernel
theorem dX12_goOrder_90 : decode cX12_goOrder 90 = .ok (.iload_n 2, 1) := by decide +kernel
theorem dX12_goOrder_91 : decode cX12_goOrder 91 = .ok (.iconst 1, 1) := by decide +kernel
theorem dX12_goOrder_92 : decode cX12_goOrder 92 = .ok (.iload 5, 2) := by decide +kernel
theorem dX12_goOrder_94 : decode cX12_goOrder 94 = .ok (.ishl, 1) := by decide +kernel
theorem dX12_goOrder_95 : decode cX12_goOrder 95 = .ok (.ior, 1) := by decide +kernel
theorem dX12_goOrder_96 : decode cX12_goOrder 96 = .ok (.iload_n 3, 1) := by decide +kernel
theorem dX12_goOrder_97 : decode cX12_goOrder 97 = .ok (.iconst 1, 1) := by decide +kernel
theorem dX12_goOrder_98 : decode cX12_goOrder 98 = .ok (.iadd, 1) := by decide +kernel
theorem dX12_goOrder_99 : decode cX12_goOrder 99 = .ok (.bipush 10, 2) := by decide +kernel
theorem dX12_goOrder_101 : decode cX12_goOrder 101 = .ok (.iload 4, 2) := by decide +kernel
theorem dX12_goOrder_103 : decode cX12_goOrder 103 = .ok (.imul, 1) := by decide +kernel
theorem dX12_goOrder_104 : decode cX12_goOrder 104 = .ok (.iload 5, 2) := by decide +kernel
theorem dX12_goOrder_106 : decode cX12_goOrder 106 = .ok (.iadd, 1) := by decide +kernel
theorem dX12_goOrder_107 : decode cX12_goOrder 107 = .ok (.invokevirtual 463, 3) := by decide +kernel
theorem dX12_goOrder_110 : decode cX12_goOrder 110 = .ok (.iinc 5 1, 3) := by decide +kernel
theorem dX12_goOrder_113 : decode cX12_goOrder 113 = .ok (.goto (-63), 3) := by decide +kernel
theorem dX12_goOrder_116 : decode cX12_goOrder 116 = .ok (.return_, 1) := by decide +kernel
theorem dX12_order_0 : decode cX12_order 0 = .ok (.aload_n 0, 1) := by decide +kernel
theorem dX12_order_1 : decode cX12_order 1 = .ok (.iconst 0, 1) := by decide +kernel
theorem dX12_order_2 : decode cX12_order 2 = .ok (.putfield 99, 3) := by decide +kernel
theorem dX12_order_5 : decode cX12_order 5 = .ok (.aload_n 0, 1) := by decide +kernel
theorem dX12_order_6 : decode cX12_order 6 = .ok (.iload_n 1, 1) := by decide +kernel
theorem dX12_order_7 : decode cX12_order 7 = .ok (.invokevirtual 374, 3) := by decide +kernel
theorem dX12_order_10 : decode cX12_order 10 = .ok (.ifCond .eq 13, 3) := by decide +kernel
theorem dX12_order_13 : decode cX12_order 13 = .ok (.iload_n 2, 1) := by decide +kernel
theorem dX12_order_14 : decode cX12_order 14 = .ok (.i2l, 1) := by decide +kernel
theorem dX12_order_15 : decode cX12_order 15 = .ok (.lconst 0, 1) := by decide +kernel
theorem dX12_order_16 : decode cX12_order 16 = .ok (.lconst 1, 1) := by decide +kernel
theorem dX12_order_17 : decode cX12_order 17 = .ok (.invokestatic 220, 3) := by decide +kernel
theorem dX12_order_20 : decode cX12_order 20 = .ok (.ifCond .ne 5, 3) := by decide +kernel
theorem dX12_order_23 : decode cX12_order 23 = .ok (.iconst (-1), 1) := by decide +kernel
theorem dX12_order_24 : decode cX12_order 24 = .ok (.ireturn, 1) := by decide +kernel
theorem dX12_order_25 : decode cX12_order 25 = .ok (.aload_n 0, 1) := by decide +kernel
theorem dX12_order_26 : decode cX12_order 26 = .ok (.getfield 303, 3) := by decide +kernel
theorem dX12_order_29 : decode cX12_order 29 = .ok (.bipush 7, 2) := by decide +kernel
theorem dX12_order_31 : decode cX12_order 31 = .ok (.if_icmp .le 7, 3) := by decide +kernel
theorem dX12_order_34 : decode cX12_order 34 = .ok (.ldc_w 441, 3) := by decide +kernel
theorem dX12_order_37 : decode cX12_order 37 = .ok (.ireturn, 1) := by decide +kernel
theorem dX12_order_38 : decode cX12_order 38 = .ok (.aload_n 0, 1) := by decide +kernel
theorem dX12_order_39 : decode cX12_order 39 = .ok (.iconst (-1), 1) := by decide +kernel
theorem dX12_order_40 : decode cX12_order 40 = .ok (.putfield 457, 3) := by decide +kernel
theorem dX12_order_43 : decode cX12_order 43 = .ok (.aload_n 0, 1) := by decide +kernel
theorem dX12_order_44 : decode cX12_order 44 = .ok (.iload_n 1, 1) := by decide +kernel
theorem dX12_order_45 : decode cX12_order 45 = .ok (.iconst 0, 1) := by decide +kernel
theorem dX12_order_46 : decode cX12_order 46 = .ok (.iconst 0, 1) := by decide +kernel
theorem dX12_order_47 : decode cX12_order 47 = .ok (.iconst 0, 1) := by decide +kernel
theorem dX12_order_48 : decode cX12_order 48 = .ok (.invokevirtual 463, 3) := by decide +kernel
theorem dX12_order_51 : decode cX12_order 51 = .ok (.iload_n 2, 1) := by decide +kernel
theorem dX12_order_52 : decode cX12_order 52 = .ok (.ifCond .ne 10, 3) := by decide +kernel
theorem dX12_order_55 : decode cX12_order 55 = .ok (.aload_n 0, 1) := by decide +kernel
theorem dX12_order_56 : decode cX12_order 56 = .ok (.getfield 460, 3) := by decide +kernel
theorem dX12_order_59 : decode cX12_order 59 = .ok (.goto 7, 3) := by decide +kernel
theorem dX12_order_62 : decode cX12_order 62 = .ok (.aload_n 0, 1) := by decide +kernel
theorem dX12_order_63 : decode cX12_order 63 = .ok (.getfield 457, 3) := by decide +kernel
theorem dX12_order_66 : decode cX12_order 66 = .ok (.ireturn, 1) := by decide +kernel
theorem dX12_bound_0 : decode cX12_bound 0 = .ok (.aload_n 0, 1) := by decide +kernel
theorem dX12_bound_1 : decode cX12_bound 1 = .ok (.iconst 0, 1) := by decide +kernel
theorem dX12_bound_2 : decode cX12_bound 2 = .ok (.putfield 99, 3) := by decide +kernel
theorem dX12_bound_5 : decode cX12_bound 5 = .ok (.aload_n 0, 1) := by decide +kernel
theorem dX12_bound_6 : decode cX12_bound 6 = .ok (.iload_n 1, 1) := by decide +kernel
theorem dX12_bound_7 : decode cX12_bound 7 = .ok (.invokevirtual 374, 3) := by decide +kernel
theorem dX12_bound_10 : decode cX12_bound 10 = .ok (.ifCond .ne 5, 3) := by decide +kernel
theorem dX12_bound_13 : decode cX12_bound 13 = .ok (.iconst (-1), 1) := by decide +kernel
theorem dX12_bound_14 : decode cX12_bound 14 = .ok (.ireturn, 1) := by decide +kernel
theorem dX12_bound_15 : decode cX12_bound 15 = .ok (.iconst 0, 1) := by decide +kernel
theorem dX12_bound_16 : decode cX12_bound 16 = .ok (.istore_n 2, 1) := by decide +kernel
theorem dX12_bound_17 : decode cX12_bound 17 = .ok (.iconst 0, 1) := by decide +kernel
theorem dX12_bound_18 : decode cX12_bound 18 = .ok (.istore_n 3, 1) := by decide +kernel
theorem dX12_bound_19 : decode cX12_bound 19 = .ok (.iconst 0, 1) := by decide +kernel
theorem dX12_bound_20 : decode cX12_bound 20 = .ok (.istore 4, 2) := by decide +kernel
theorem dX12_bound_22 : decode cX12_bound 22 = .ok (.iload 4, 2) := by decide +kernel
theorem dX12_bound_24 : decode cX12_bound 24 = .ok (.aload_n 0, 1) := by decide +kernel
theorem dX12_bound_25 : decode cX12_bound 25 = .ok (.getfield 297, 3) := by decide +kernel
theorem dX12_bound_28 : decode cX12_bound 28 = .ok (.if_icmp .ge 83, 3) := by decide +kernel
theorem dX12_bound_31 : decode cX12_bound 31 = .ok (.aload_n 0, 1) := by decide +kernel
theorem dX12_bound_32 : decode cX12_bound 32 = .ok (.iload 4, 2) := by decide +kernel
theorem dX12_bound_34 : decode cX12_bound 34 = .ok (.invokevirtual 379, 3) := by decide +kernel
theorem dX12_bound_37 : decode cX12_bound 37 = .ok (.ifCond .eq 6, 3) := by decide +kernel
theorem dX12_bound_40 : decode cX12_bound 40 = .ok (.goto 65, 3) := by decide +kernel
theorem dX12_bound_43 : decode cX12_bound 43 = .ok (.iload_n 2, 1) := by decide +kernel
theorem dX12_bound_44 : decode cX12_bound 44 = .ok (.aload_n 0, 1) := by decide +kernel
theorem dX12_bound_45 : decode cX12_bound 45 = .ok (.aload_n 0, 1) := by decide +kernel
theorem dX12_bound_46 : decode cX12_bound 46 = .ok (.getfield 61, 3) := by decide +kernel
theorem dX12_bound_49 : decode cX12_bound 49 = .ok (.iload 4, 2) := by decide +kernel
theorem dX12_bound_51 : decode cX12_bound 51 = .ok (.iload_n 1, 1) := by decide +kernel
theorem dX12_bound_52 : decode cX12_bound 52 = .ok (.invokevirtual 348, 3) := by decide +kernel
theorem dX12_bound_55 : decode cX12_bound 55 = .ok (.iadd, 1) := by decide +kernel
theorem dX12_bound_56 : decode cX12_bound 56 = .ok (.istore_n 2, 1) := by decide +kernel
theorem dX12_bound_57 : decode cX12_bound 57 = .ok (.iload_n 3, 1) := by decide +kernel
theorem dX12_bound_58 : decode cX12_bound 58 = .ok (.aload_n 0, 1) := by decide +kernel
theorem dX12_bound_59 : decode cX12_bound 59 = .ok (.aload_n 0, 1) := by decide +kernel
theorem dX12_bound_60 : decode cX12_bound 60 = .ok (.getfield 61, 3) := by decide +kernel
theorem dX12_bound_63 : decode cX12_bound 63 = .ok (.iload 4, 2) := by decide +kernel
theorem dX12_bound_65 : decode cX12_bound 65 = .ok (.iload_n 1, 1) := by decide +kernel
theorem dX12_bound_66 : decode cX12_bound 66 = .ok (.invokevirtual 348, 3) := by decide +kernel
theorem dX12_bound_69 : decode cX12_bound 69 = .ok (.aload_n 0, 1) := by decide +kernel
theorem dX12_bound_70 : decode cX12_bound 70 = .ok (.getfield 43, 3) := by decide +kernel
theorem dX12_bound_73 : decode cX12_bound 73 = .ok (.bipush 6, 2) := by decide +kernel
theorem dX12_bound_75 : decode cX12_bound 75 = .ok (.iload 4, 2) := by decide +kernel
theorem dX12_bound_77 : decode cX12_bound 77 = .ok (.imul, 1) := by decide +kernel
theorem dX12_bound_78 : decode cX12_bound 78 = .ok (.iconst 1, 1) := by decide +kernel
theorem dX12_bound_79 : decode cX12_bound 79 = .ok (.iadd, 1) := by decide +kernel
theorem dX12_bound_80 : decode cX12_bound 80 = .ok (.iaload, 1) := by decide +kernel
theorem dX12_bound_81 : decode cX12_bound 81 = .ok (.ifCond .ne 7, 3) := by decide +kernel
theorem dX12_bound_84 : decode cX12_bound 84 = .ok (.iconst 0, 1) := by decide +kernel
theorem dX12_bound_85 : decode cX12_bound 85 = .ok (.goto 15, 3) := by decide +kernel
theorem dX12_bound_88 : decode cX12_bound 88 = .ok (.aload_n 0, 1) := by decide +kernel
theorem dX12_bound_89 : decode cX12_bound 89 = .ok (.aload_n 0, 1) := by decide +kernel
theorem dX12_bound_90 : decode cX12_bound 90 = .ok (.getfield 61, 3) := by decide +kernel
theorem dX12_bound_93 : decode cX12_bound 93 = .ok (.iload 4, 2) := by decide +kernel
theorem dX12_bound_95 : decode cX12_bound 95 = .ok (.iload_n 1, 1) := by decide +kernel
theorem dX12_bound_96 : decode cX12_bound 96 = .ok (.iconst 1, 1) := by decide +kernel
theorem dX12_bound_97 : decode cX12_bound 97 = .ok (.invokevirtual 355, 3) := by decide +kernel
theorem dX12_bound_100 : decode cX12_bound 100 = .ok (.iadd, 1) := by decide +kernel
theorem dX12_bound_101 : decode cX12_bound 101 = .ok (.invokestatic 327, 3) := by decide +kernel
theorem dX12_bound_104 : decode cX12_bound 104 = .ok (.istore_n 3, 1) := by decide +kernel
theorem dX12_bound_105 : decode cX12_bound 105 = .ok (.iinc 4 1, 3) := by decide +kernel
theorem dX12_bound_108 : decode cX12_bound 108 = .ok (.goto (-86), 3) := by decide +kernel
theorem dX12_bound_111 : decode cX12_bound 111 = .ok (.iload_n 2, 1) := by decide +kernel
theorem dX12_bound_112 : decode cX12_bound 112 = .ok (.iload_n 3, 1) := by decide +kernel
theorem dX12_bound_113 : decode cX12_bound 113 = .ok (.invokestatic 327, 3) := by decide +kernel
theorem dX12_bound_116 : decode cX12_bound 116 = .ok (.ireturn, 1) := by decide +kernel
theorem dX12_costOf_0 : decode cX12_costOf 0 = .ok (.iconst 0, 1) := by decide +kernel
theorem dX12_costOf_1 : decode cX12_costOf 1 = .ok (.istore_n 2, 1) := by decide +kernel
theorem dX12_costOf_2 : decode cX12_costOf 2 = .ok (.iconst 0, 1) := by decide +kernel
theorem dX12_costOf_3 : decode cX12_costOf 3 = .ok (.istore_n 3, 1) := by decide +kernel
theorem dX12_costOf_4 : decode cX12_costOf 4 = .ok (.iload_n 3, 1) := by decide +kernel
theorem dX12_costOf_5 : decode cX12_costOf 5 = .ok (.aload_n 0, 1) := by decide +kernel
theorem dX12_costOf_6 : decode cX12_costOf 6 = .ok (.getfield 297, 3) := by decide +kernel
theorem dX12_costOf_9 : decode cX12_costOf 9 = .ok (.if_icmp .ge 41, 3) := by decide +kernel
theorem dX12_costOf_12 : decode cX12_costOf 12 = .ok (.iload_n 2, 1) := by decide +kernel
theorem dX12_costOf_13 : decode cX12_costOf 13 = .ok (.iload_n 1, 1) := by decide +kernel
theorem dX12_costOf_14 : decode cX12_costOf 14 = .ok (.iload_n 3, 1) := by decide +kernel
theorem dX12_costOf_15 : decode cX12_costOf 15 = .ok (.invokestatic 232, 3) := by decide +kernel
theorem dX12_costOf_18 : decode cX12_costOf 18 = .ok (.ifCond .eq 23, 3) := by decide +kernel
theorem dX12_costOf_21 : decode cX12_costOf 21 = .ok (.aload_n 0, 1) := by decide +kernel
theorem dX12_costOf_22 : decode cX12_costOf 22 = .ok (.invokevirtual 427, 3) := by decide +kernel
theorem dX12_costOf_25 : decode cX12_costOf 25 = .ok (.aload_n 0, 1) := by decide +kernel
theorem dX12_costOf_26 : decode cX12_costOf 26 = .ok (.aload_n 0, 1) := by decide +kernel
theorem dX12_costOf_27 : decode cX12_costOf 27 = .ok (.getfield 61, 3) := by decide +kernel
theorem dX12_costOf_30 : decode cX12_costOf 30 = .ok (.iload_n 3, 1) := by decide +kernel
theorem dX12_costOf_31 : decode cX12_costOf 31 = .ok (.iconst 0, 1) := by decide +kernel
theorem dX12_costOf_32 : decode cX12_costOf 32 = .ok (.bipush 9, 2) := by decide +kernel
theorem dX12_costOf_34 : decode cX12_costOf 34 = .ok (.invokevirtual 329, 3) := by decide +kernel
theorem dX12_costOf_37 : decode cX12_costOf 37 = .ok (.imul, 1) := by decide +kernel
theorem dX12_costOf_38 : decode cX12_costOf 38 = .ok (.goto 4, 3) := by decide +kernel
theorem dX12_costOf_41 : decode cX12_costOf 41 = .ok (.iconst 0, 1) := by decide +kernel
theorem dX12_costOf_42 : decode cX12_costOf 42 = .ok (.iadd, 1) := by decide +kernel
theorem dX12_costOf_43 : decode cX12_costOf 43 = .ok (.istore_n 2, 1) := by decide +kernel
theorem dX12_costOf_44 : decode cX12_costOf 44 = .ok (.iinc 3 1, 3) := by decide +kernel
theorem dX12_costOf_47 : decode cX12_costOf 47 = .ok (.goto (-43), 3) := by decide +kernel
theorem dX12_costOf_50 : decode cX12_costOf 50 = .ok (.iconst 0, 1) := by decide +kernel
theorem dX12_costOf_51 : decode cX12_costOf 51 = .ok (.istore_n 3, 1) := by decide +kernel
theorem dX12_costOf_52 : decode cX12_costOf 52 = .ok (.iload_n 3, 1) := by decide +kernel
theorem dX12_costOf_53 : decode cX12_costOf 53 = .ok (.aload_n 0, 1) := by decide +kernel
theorem dX12_costOf_54 : decode cX12_costOf 54 = .ok (.getfield 300, 3) := by decide +kernel
theorem dX12_costOf_57 : decode cX12_costOf 57 = .ok (.if_icmp .ge 112, 3) := by decide +kernel
theorem dX12_costOf_60 : decode cX12_costOf 60 = .ok (.aload_n 0, 1) := by decide +kernel
theorem dX12_costOf_61 : decode cX12_costOf 61 = .ok (.getfield 49, 3) := by decide +kernel
theorem dX12_costOf_64 : decode cX12_costOf 64 = .ok (.iconst 4, 1) := by decide +kernel
theorem dX12_costOf_65 : decode cX12_costOf 65 = .ok (.iload_n 3, 1) := by decide +kernel
theorem dX12_costOf_66 : decode cX12_costOf 66 = .ok (.imul, 1) := by decide +kernel
theorem dX12_costOf_67 : decode cX12_costOf 67 = .ok (.iaload, 1) := by decide +kernel
theorem dX12_costOf_68 : decode cX12_costOf 68 = .ok (.ifCond .ne 6, 3) := by decide +kernel
theorem dX12_costOf_71 : decode cX12_costOf 71 = .ok (.goto 92, 3) := by decide +kernel
theorem dX12_costOf_74 : decode cX12_costOf 74 = .ok (.aload_n 0, 1) := by decide +kernel
theorem dX12_costOf_75 : decode cX12_costOf 75 = .ok (.getfield 61, 3) := by decide +kernel
theorem dX12_costOf_78 : decode cX12_costOf 78 = .ok (.aload_n 0, 1) := by decide +kernel
theorem dX12_costOf_79 : decode cX12_costOf 79 = .ok (.getfield 64, 3) := by decide +kernel
theorem dX12_costOf_82 : decode cX12_costOf 82 = .ok (.invokestatic 359, 3) := by decide +kernel
theorem dX12_costOf_85 : decode cX12_costOf 85 = .ok (.iconst 0, 1) := by decide +kernel
theorem dX12_costOf_86 : decode cX12_costOf 86 = .ok (.istore 4, 2) := by decide +kernel
theorem dX12_costOf_88 : decode cX12_costOf 88 = .ok (.iload 4, 2) := by decide +kernel
theorem dX12_costOf_90 : decode cX12_costOf 90 = .ok (.aload_n 0, 1) := by decide +kernel
theorem dX12_costOf_91 : decode cX12_costOf 91 = .ok (.getfield 297, 3) := by decide +kernel
theorem dX12_costOf_94 : decode cX12_costOf 94 = .ok (.if_icmp .ge 31, 3) := by decide +kernel
theorem dX12_costOf_97 : decode cX12_costOf 97 = .ok (.iload_n 1, 1) := by decide +kernel
theorem dX12_costOf_98 : decode cX12_costOf 98 = .ok (.iload 4, 2) := by decide +kernel
theorem dX12_costOf_100 : decode cX12_costOf 100 = .ok (.invokestatic 232, 3) := by decide +kernel
theorem dX12_costOf_103 : decode cX12_costOf 103 = .ok (.ifCond .eq 16, 3) := by decide +kernel
theorem dX12_costOf_106 : decode cX12_costOf 106 = .ok (.aload_n 0, 1) := by decide +kernel
theorem dX12_costOf_107 : decode cX12_costOf 107 = .ok (.getfield 64, 3) := by decide +kernel
theorem dX12_costOf_110 : decode cX12_costOf 110 = .ok (.bipush 6, 2) := by decide +kernel
theorem dX12_costOf_112 : decode cX12_costOf 112 = .ok (.iload 4, 2) := by decide +kernel
theorem dX12_costOf_114 : decode cX12_costOf 114 = .ok (.imul, 1) := by decide +kernel
theorem dX12_costOf_115 : decode cX12_costOf 115 = .ok (.iconst 3, 1) := by decide +kernel
theorem dX12_costOf_116 : decode cX12_costOf 116 = .ok (.iadd, 1) := by decide +kernel
theorem dX12_costOf_117 : decode cX12_costOf 117 = .ok (.iconst 0, 1) := by decide +kernel
theorem dX12_costOf_118 : decode cX12_costOf 118 = .ok (.iastore, 1) := by decide +kernel
theorem dX12_costOf_119 : decode cX12_costOf 119 = .ok (.iinc 4 1, 3) := by decide +kernel
theorem dX12_costOf_122 : decode cX12_costOf 122 = .ok (.goto (-34), 3) := by decide +kernel
theorem dX12_costOf_125 : decode cX12_costOf 125 = .ok (.aload_n 0, 1) := by decide +kernel
theorem dX12_costOf_126 : decode cX12_costOf 126 = .ok (.aload_n 0, 1) := by decide +kernel
theorem dX12_costOf_127 : decode cX12_costOf 127 = .ok (.getfield 64, 3) := by decide +kernel
theorem dX12_costOf_130 : decode cX12_costOf 130 = .ok (.iload_n 3, 1) := by decide +kernel
theorem dX12_costOf_131 : decode cX12_costOf 131 = .ok (.invokevirtual 363, 3) := by decide +kernel
theorem dX12_costOf_134 : decode cX12_costOf 134 = .ok (.aload_n 0, 1) := by decide +kernel
theorem dX12_costOf_135 : decode cX12_costOf 135 = .ok (.aload_n 0, 1) := by decide +kernel
theorem dX12_costOf_136 : decode cX12_costOf 136 = .ok (.getfield 333, 3) := by decide +kernel
theorem dX12_costOf_139 : decode cX12_costOf 139 = .ok (.invokevirtual 413, 3) := by decide +kernel
theorem dX12_costOf_142 : decode cX12_costOf 142 = .ok (.ifCond .eq 5, 3) := by decide +kernel
theorem dX12_costOf_145 : decode cX12_costOf 145 = .ok (.iconst (-1), 1) := by decide +kernel
theorem dX12_costOf_146 : decode cX12_costOf 146 = .ok (.ireturn, 1) := by decide +kernel
theorem dX12_costOf_147 : decode cX12_costOf 147 = .ok (.iload_n 2, 1) := by decide +kernel
theorem dX12_costOf_148 : decode cX12_costOf 148 = .ok (.aload_n 0, 1) := by decide +kernel
theorem dX12_costOf_149 : decode cX12_costOf 149 = .ok (.getfield 49, 3) := by decide +kernel
theorem dX12_costOf_152 : decode cX12_costOf 152 = .ok (.iconst 4, 1) := by decide +kernel
theorem dX12_costOf_153 : decode cX12_costOf 153 = .ok (.iload_n 3, 1) := by decide +kernel
theorem dX12_costOf_154 : decode cX12_costOf 154 = .ok (.imul, 1) := by decide +kernel
theorem dX12_costOf_155 : decode cX12_costOf 155 = .ok (.iaload, 1) := by decide +kernel
theorem dX12_costOf_156 : decode cX12_costOf 156 = .ok (.aload_n 0, 1) := by decide +kernel
theorem dX12_costOf_157 : decode cX12_costOf 157 = .ok (.getfield 336, 3) := by decide +kernel
theorem dX12_costOf_160 : decode cX12_costOf 160 = .ok (.imul, 1) := by decide +kernel
theorem dX12_costOf_161 : decode cX12_costOf 161 = .ok (.iadd, 1) := by decide +kernel
theorem dX12_costOf_162 : decode cX12_costOf 162 = .ok (.istore_n 2, 1) := by decide +kernel
theorem dX12_costOf_163 : decode cX12_costOf 163 = .ok (.iinc 3 1, 3) := by decide +kernel
theorem dX12_costOf_166 : decode cX12_costOf 166 = .ok (.goto (-114), 3) := by decide +kernel
theorem dX12_costOf_169 : decode cX12_costOf 169 = .ok (.iload_n 2, 1) := by decide +kernel
theorem dX12_costOf_170 : decode cX12_costOf 170 = .ok (.ireturn, 1) := by decide +kernel
theorem dX12_before_0 : decode cX12_before 0 = .ok (.aload_n 0, 1) := by decide +kernel
theorem dX12_before_1 : decode cX12_before 1 = .ok (.iconst 0, 1) := by decide +kernel
theorem dX12_before_2 : decode cX12_before 2 = .ok (.putfield 99, 3) := by decide +kernel
theorem dX12_before_5 : decode cX12_before 5 = .ok (.aload_n 0, 1) := by decide +kernel
theorem dX12_before_6 : decode cX12_before 6 = .ok (.getfield 297, 3) := by decide +kernel
theorem dX12_before_9 : decode cX12_before 9 = .ok (.ifCond .eq 13, 3) := by decide +kernel
theorem dX12_before_12 : decode cX12_before 12 = .ok (.iload_n 1, 1) := by decide +kernel
theorem dX12_before_13 : decode cX12_before 13 = .ok (.i2l, 1) := by decide +kernel
theorem dX12_before_14 : decode cX12_before 14 = .ok (.lconst 0, 1) := by decide +kernel
theorem dX12_before_15 : decode cX12_before 15 = .ok (.lconst 1, 1) := by decide +kernel
theorem dX12_before_16 : decode cX12_before 16 = .ok (.invokestatic 220, 3) := by decide +kernel
theorem dX12_before_19 : decode cX12_before 19 = .ok (.ifCond .ne 5, 3) := by decide +kernel
theorem dX12_before_22 : decode cX12_before 22 = .ok (.iconst (-1), 1) := by decide +kernel
theorem dX12_before_23 : decode cX12_before 23 = .ok (.ireturn, 1) := by decide +kernel
theorem dX12_before_24 : decode cX12_before 24 = .ok (.iconst 0, 1) := by decide +kernel
theorem dX12_before_25 : decode cX12_before 25 = .ok (.istore_n 2, 1) := by decide +kernel
theorem dX12_before_26 : decode cX12_before 26 = .ok (.iconst 0, 1) := by decide +kernel
theorem dX12_before_27 : decode cX12_before 27 = .ok (.istore_n 3, 1) := by decide +kernel
theorem dX12_before_28 : decode cX12_before 28 = .ok (.iload_n 3, 1) := by decide +kernel
theorem dX12_before_29 : decode cX12_before 29 = .ok (.aload_n 0, 1) := by decide +kernel
theorem dX12_before_30 : decode cX12_before 30 = .ok (.getfield 297, 3) := by decide +kernel
theorem dX12_before_33 : decode cX12_before 33 = .ok (.if_icmp .ge 42, 3) := by decide +kernel
theorem dX12_before_36 : decode cX12_before 36 = .ok (.iload_n 2, 1) := by decide +kernel
theorem dX12_before_37 : decode cX12_before 37 = .ok (.aload_n 0, 1) := by decide +kernel
theorem dX12_before_38 : decode cX12_before 38 = .ok (.iload_n 3, 1) := by decide +kernel
theorem dX12_before_39 : decode cX12_before 39 = .ok (.invokevirtual 379, 3) := by decide +kernel
theorem dX12_before_42 : decode cX12_before 42 = .ok (.ifCond .ne 24, 3) := by decide +kernel
theorem dX12_before_45 : decode cX12_before 45 = .ok (.aload_n 0, 1) := by decide +kernel
theorem dX12_before_46 : decode cX12_before 46 = .ok (.getfield 61, 3) := by decide +kernel
theorem dX12_before_49 : decode cX12_before 49 = .ok (.bipush 6, 2) := by decide +kernel
theorem dX12_before_51 : decode cX12_before 51 = .ok (.iload_n 3, 1) := by decide +kernel
theorem dX12_before_52 : decode cX12_before 52 = .ok (.imul, 1) := by decide +kernel
theorem dX12_before_53 : decode cX12_before 53 = .ok (.iconst 3, 1) := by decide +kernel
theorem dX12_before_54 : decode cX12_before 54 = .ok (.iadd, 1) := by decide +kernel
theorem dX12_before_55 : decode cX12_before 55 = .ok (.iaload, 1) := by decide +kernel
theorem dX12_before_56 : decode cX12_before 56 = .ok (.iconst 1, 1) := by decide +kernel
theorem dX12_before_57 : decode cX12_before 57 = .ok (.if_icmp .ne 9, 3) := by decide +kernel
theorem dX12_before_60 : decode cX12_before 60 = .ok (.iconst 1, 1) := by decide +kernel
theorem dX12_before_61 : decode cX12_before 61 = .ok (.iload_n 3, 1) := by decide +kernel
theorem dX12_before_62 : decode cX12_before 62 = .ok (.ishl, 1) := by decide +kernel
theorem dX12_before_63 : decode cX12_before 63 = .ok (.goto 4, 3) := by decide +kernel
theorem dX12_before_66 : decode cX12_before 66 = .ok (.iconst 0, 1) := by decide +kernel
theorem dX12_before_67 : decode cX12_before 67 = .ok (.ior, 1) := by decide +kernel
theorem dX12_before_68 : decode cX12_before 68 = .ok (.istore_n 2, 1) := by decide +kernel
theorem dX12_before_69 : decode cX12_before 69 = .ok (.iinc 3 1, 3) := by decide +kernel
theorem dX12_before_72 : decode cX12_before 72 = .ok (.goto (-44), 3) := by decide +kernel
theorem dX12_before_75 : decode cX12_before 75 = .ok (.iconst (-1), 1) := by decide +kernel
theorem dX12_before_76 : decode cX12_before 76 = .ok (.istore_n 3, 1) := by decide +kernel
theorem dX12_before_77 : decode cX12_before 77 = .ok (.iconst 0, 1) := by decide +kernel
theorem dX12_before_78 : decode cX12_before 78 = .ok (.istore 4, 2) := by decide +kernel
theorem dX12_before_80 : decode cX12_before 80 = .ok (.iconst 0, 1) := by decide +kernel
theorem dX12_before_81 : decode cX12_before 81 = .ok (.istore 5, 2) := by decide +kernel
theorem dX12_before_83 : decode cX12_before 83 = .ok (.iload 5, 2) := by decide +kernel
theorem dX12_before_85 : decode cX12_before 85 = .ok (.iload_n 2, 1) := by decide +kernel
theorem dX12_before_86 : decode cX12_before 86 = .ok (.if_icmp .gt 57, 3) := by decide +kernel
theorem dX12_before_89 : decode cX12_before 89 = .ok (.iload 5, 2) := by decide +kernel
theorem dX12_before_91 : decode cX12_before 91 = .ok (.iload_n 2, 1) := by decide +kernel
theorem dX12_before_92 : decode cX12_before 92 = .ok (.iconst (-1), 1) := by decide +kernel
theorem dX12_before_93 : decode cX12_before 93 = .ok (.ixor, 1) := by decide +kernel
theorem dX12_before_94 : decode cX12_before 94 = .ok (.iand, 1) := by decide +kernel
theorem dX12_before_95 : decode cX12_before 95 = .ok (.ifCond .eq 6, 3) := by decide +kernel
theorem dX12_before_98 : decode cX12_before 98 = .ok (.goto 39, 3) := by decide +kernel
theorem dX12_before_101 : decode cX12_before 101 = .ok (.aload_n 0, 1) := by decide +kernel
theorem dX12_before_102 : decode cX12_before 102 = .ok (.iload 5, 2) := by decide +kernel
theorem dX12_before_104 : decode cX12_before 104 = .ok (.invokevirtual 467, 3) := by decide +kernel
theorem dX12_before_107 : decode cX12_before 107 = .ok (.istore 6, 2) := by decide +kernel
theorem dX12_before_109 : decode cX12_before 109 = .ok (.iload 6, 2) := by decide +kernel
theorem dX12_before_111 : decode cX12_before 111 = .ok (.iconst (-1), 1) := by decide +kernel
theorem dX12_before_112 : decode cX12_before 112 = .ok (.if_icmp .eq 25, 3) := by decide +kernel
theorem dX12_before_115 : decode cX12_before 115 = .ok (.iload_n 3, 1) := by decide +kernel
theorem dX12_before_116 : decode cX12_before 116 = .ok (.iconst (-1), 1) := by decide +kernel
theorem dX12_before_117 : decode cX12_before 117 = .ok (.if_icmp .eq 13, 3) := by decide +kernel
theorem dX12_before_120 : decode cX12_before 120 = .ok (.iload 6, 2) := by decide +kernel
theorem dX12_before_122 : decode cX12_before 122 = .ok (.iload 4, 2) := by decide +kernel
theorem dX12_before_124 : decode cX12_before 124 = .ok (.if_icmp .lt 6, 3) := by decide +kernel
theorem dX12_before_127 : decode cX12_before 127 = .ok (.goto 10, 3) := by decide +kernel
theorem dX12_before_130 : decode cX12_before 130 = .ok (.iload 5, 2) := by decide +kernel
theorem dX12_before_132 : decode cX12_before 132 = .ok (.istore_n 3, 1) := by decide +kernel
theorem dX12_before_133 : decode cX12_before 133 = .ok (.iload 6, 2) := by decide +kernel
theorem dX12_before_135 : decode cX12_before 135 = .ok (.istore 4, 2) := by decide +kernel
theorem dX12_before_137 : decode cX12_before 137 = .ok (.iinc 5 1, 3) := by decide +kernel
theorem dX12_before_140 : decode cX12_before 140 = .ok (.goto (-57), 3) := by decide +kernel
theorem dX12_before_143 : decode cX12_before 143 = .ok (.iload_n 1, 1) := by decide +kernel
theorem dX12_before_144 : decode cX12_before 144 = .ok (.ifCond .eq 8, 3) := by decide +kernel
theorem dX12_before_147 : decode cX12_before 147 = .ok (.iload_n 3, 1) := by decide +kernel
theorem dX12_before_148 : decode cX12_before 148 = .ok (.iconst (-1), 1) := by decide +kernel
theorem dX12_before_149 : decode cX12_before 149 = .ok (.if_icmp .ne 7, 3) := by decide +kernel
theorem dX12_before_152 : decode cX12_before 152 = .ok (.iload_n 3, 1) := by decide +kernel
theorem dX12_before_153 : decode cX12_before 153 = .ok (.goto 5, 3) := by decide +kernel
theorem dX12_before_156 : decode cX12_before 156 = .ok (.iload 4, 2) := by decide +kernel
theorem dX12_before_158 : decode cX12_before 158 = .ok (.ireturn, 1) := by decide +kernel
theorem dX12_words_0 : decode cX12_words 0 = .ok (.aload_n 0, 1) := by decide +kernel
theorem dX12_words_1 : decode cX12_words 1 = .ok (.iconst 0, 1) := by decide +kernel
theorem dX12_words_2 : decode cX12_words 2 = .ok (.putfield 99, 3) := by decide +kernel
theorem dX12_words_5 : decode cX12_words 5 = .ok (.aload_n 0, 1) := by decide +kernel
theorem dX12_words_6 : decode cX12_words 6 = .ok (.getfield 297, 3) := by decide +kernel
theorem dX12_words_9 : decode cX12_words 9 = .ok (.ifCond .eq 13, 3) := by decide +kernel
theorem dX12_words_12 : decode cX12_words 12 = .ok (.iload_n 1, 1) := by decide +kernel
theorem dX12_words_13 : decode cX12_words 13 = .ok (.i2l, 1) := by decide +kernel
theorem dX12_words_14 : decode cX12_words 14 = .ok (.lconst 0, 1) := by decide +kernel
theorem dX12_words_15 : decode cX12_words 15 = .ok (.lconst 1, 1) := by decide +kernel
theorem dX12_words_16 : decode cX12_words 16 = .ok (.invokestatic 220, 3) := by decide +kernel
theorem dX12_words_19 : decode cX12_words 19 = .ok (.ifCond .ne 5, 3) := by decide +kernel
theorem dX12_words_22 : decode cX12_words 22 = .ok (.iconst (-1), 1) := by decide +kernel
theorem dX12_words_23 : decode cX12_words 23 = .ok (.ireturn, 1) := by decide +kernel
theorem dX12_words_24 : decode cX12_words 24 = .ok (.iconst 0, 1) := by decide +kernel
theorem dX12_words_25 : decode cX12_words 25 = .ok (.istore_n 2, 1) := by decide +kernel
theorem dX12_words_26 : decode cX12_words 26 = .ok (.iconst 1, 1) := by decide +kernel
theorem dX12_words_27 : decode cX12_words 27 = .ok (.istore_n 3, 1) := by decide +kernel
theorem dX12_words_28 : decode cX12_words 28 = .ok (.iconst 0, 1) := by decide +kernel
theorem dX12_words_29 : decode cX12_words 29 = .ok (.istore 4, 2) := by decide +kernel
theorem dX12_words_31 : decode cX12_words 31 = .ok (.iload 4, 2) := by decide +kernel
theorem dX12_words_33 : decode cX12_words 33 = .ok (.aload_n 0, 1) := by decide +kernel
theorem dX12_words_34 : decode cX12_words 34 = .ok (.getfield 297, 3) := by decide +kernel
theorem dX12_words_37 : decode cX12_words 37 = .ok (.if_icmp .ge 43, 3) := by decide +kernel
theorem dX12_words_40 : decode cX12_words 40 = .ok (.aload_n 0, 1) := by decide +kernel
theorem dX12_words_41 : decode cX12_words 41 = .ok (.iload 4, 2) := by decide +kernel
theorem dX12_words_43 : decode cX12_words 43 = .ok (.invokevirtual 379, 3) := by decide +kernel
theorem dX12_words_46 : decode cX12_words 46 = .ok (.ifCond .ne 28, 3) := by decide +kernel
theorem dX12_words_49 : decode cX12_words 49 = .ok (.aload_n 0, 1) := by decide +kernel
theorem dX12_words_50 : decode cX12_words 50 = .ok (.getfield 43, 3) := by decide +kernel
theorem dX12_words_53 : decode cX12_words 53 = .ok (.bipush 6, 2) := by decide +kernel
theorem dX12_words_55 : decode cX12_words 55 = .ok (.iload 4, 2) := by decide +kernel
theorem dX12_words_57 : decode cX12_words 57 = .ok (.imul, 1) := by decide +kernel
theorem dX12_words_58 : decode cX12_words 58 = .ok (.iconst 1, 1) := by decide +kernel
theorem dX12_words_59 : decode cX12_words 59 = .ok (.iadd, 1) := by decide +kernel
theorem dX12_words_60 : decode cX12_words 60 = .ok (.iaload, 1) := by decide +kernel
theorem dX12_words_61 : decode cX12_words 61 = .ok (.ifCond .ne 6, 3) := by decide +kernel
theorem dX12_words_64 : decode cX12_words 64 = .ok (.goto 10, 3) := by decide +kernel
theorem dX12_words_67 : decode cX12_words 67 = .ok (.iinc 2 1, 3) := by decide +kernel
theorem dX12_words_70 : decode cX12_words 70 = .ok (.iload_n 3, 1) := by decide +kernel
theorem dX12_words_71 : decode cX12_words 71 = .ok (.iconst 3, 1) := by decide +kernel
theorem dX12_words_72 : decode cX12_words 72 = .ok (.imul, 1) := by decide +kernel
theorem dX12_words_73 : decode cX12_words 73 = .ok (.istore_n 3, 1) := by decide +kernel
theorem dX12_words_74 : decode cX12_words 74 = .ok (.iinc 4 1, 3) := by decide +kernel
theorem dX12_words_77 : decode cX12_words 77 = .ok (.goto (-46), 3) := by decide +kernel
theorem dX12_words_80 : decode cX12_words 80 = .ok (.iload_n 2, 1) := by decide +kernel
theorem dX12_words_81 : decode cX12_words 81 = .ok (.ifCond .ne 5, 3) := by decide +kernel
theorem dX12_words_84 : decode cX12_words 84 = .ok (.iconst (-1), 1) := by decide +kernel
theorem dX12_words_85 : decode cX12_words 85 = .ok (.ireturn, 1) := by decide +kernel
theorem dX12_words_86 : decode cX12_words 86 = .ok (.iconst (-1), 1) := by decide +kernel
theorem dX12_words_87 : decode cX12_words 87 = .ok (.istore 4, 2) := by decide +kernel
theorem dX12_words_89 : decode cX12_words 89 = .ok (.iconst 0, 1) := by decide +kernel
theorem dX12_words_90 : decode cX12_words 90 = .ok (.istore 5, 2) := by decide +kernel
theorem dX12_words_92 : decode cX12_words 92 = .ok (.iconst 0, 1) := by decide +kernel
theorem dX12_words_93 : decode cX12_words 93 = .ok (.istore 6, 2) := by decide +kernel
theorem dX12_words_95 : decode cX12_words 95 = .ok (.iload 6, 2) := by decide +kernel
theorem dX12_words_97 : decode cX12_words 97 = .ok (.iload_n 3, 1) := by decide +kernel
theorem dX12_words_98 : decode cX12_words 98 = .ok (.if_icmp .ge 279, 3) := by decide +kernel
theorem dX12_words_101 : decode cX12_words 101 = .ok (.iconst 0, 1) := by decide +kernel
theorem dX12_words_102 : decode cX12_words 102 = .ok (.istore 7, 2) := by decide +kernel
theorem dX12_words_104 : decode cX12_words 104 = .ok (.iload_n 3, 1) := by decide +kernel
theorem dX12_words_105 : decode cX12_words 105 = .ok (.istore 8, 2) := by decide +kernel
theorem dX12_words_107 : decode cX12_words 107 = .ok (.aload_n 0, 1) := by decide +kernel
theorem dX12_words_108 : decode cX12_words 108 = .ok (.getfield 61, 3) := by decide +kernel
theorem dX12_words_111 : decode cX12_words 111 = .ok (.aload_n 0, 1) := by decide +kernel
theorem dX12_words_112 : decode cX12_words 112 = .ok (.getfield 64, 3) := by decide +kernel
theorem dX12_words_115 : decode cX12_words 115 = .ok (.invokestatic 359, 3) := by decide +kernel
theorem dX12_words_118 : decode cX12_words 118 = .ok (.iconst 0, 1) := by decide +kernel
theorem dX12_words_119 : decode cX12_words 119 = .ok (.istore 9, 2) := by decide +kernel
theorem dX12_words_121 : decode cX12_words 121 = .ok (.iload 9, 2) := by decide +kernel
theorem dX12_words_123 : decode cX12_words 123 = .ok (.aload_n 0, 1) := by decide +kernel
theorem dX12_words_124 : decode cX12_words 124 = .ok (.getfield 297, 3) := by decide +kernel
theorem dX12_words_127 : decode cX12_words 127 = .ok (.if_icmp .ge 81, 3) := by decide +kernel
theorem dX12_words_130 : decode cX12_words 130 = .ok (.aload_n 0, 1) := by decide +kernel
theorem dX12_words_131 : decode cX12_words 131 = .ok (.iload 9, 2) := by decide +kernel
theorem dX12_words_133 : decode cX12_words 133 = .ok (.invokevirtual 379, 3) := by decide +kernel
theorem dX12_words_136 : decode cX12_words 136 = .ok (.ifCond .ne 66, 3) := by decide +kernel
theorem dX12_words_139 : decode cX12_words 139 = .ok (.aload_n 0, 1) := by decide +kernel
theorem dX12_words_140 : decode cX12_words 140 = .ok (.getfield 43, 3) := by decide +kernel
theorem dX12_words_143 : decode cX12_words 143 = .ok (.bipush 6, 2) := by decide +kernel
theorem dX12_words_145 : decode cX12_words 145 = .ok (.iload 9, 2) := by decide +kernel
theorem dX12_words_147 : decode cX12_words 147 = .ok (.imul, 1) := by decide +kernel
theorem dX12_words_148 : decode cX12_words 148 = .ok (.iconst 1, 1) := by decide +kernel
theorem dX12_words_149 : decode cX12_words 149 = .ok (.iadd, 1) := by decide +kernel
theorem dX12_words_150 : decode cX12_words 150 = .ok (.iaload, 1) := by decide +kernel
theorem dX12_words_151 : decode cX12_words 151 = .ok (.ifCond .ne 6, 3) := by decide +kernel
theorem dX12_words_154 : decode cX12_words 154 = .ok (.goto 48, 3) := by decide +kernel
theorem dX12_words_157 : decode cX12_words 157 = .ok (.iload 8, 2) := by decide +kernel
theorem dX12_words_159 : decode cX12_words 159 = .ok (.iconst 3, 1) := by decide +kernel
theorem dX12_words_160 : decode cX12_words 160 = .ok (.idiv, 1) := by decide +kernel
theorem dX12_words_161 : decode cX12_words 161 = .ok (.istore 8, 2) := by decide +kernel
theorem dX12_words_163 : decode cX12_words 163 = .ok (.aload_n 0, 1) := by decide +kernel
theorem dX12_words_164 : decode cX12_words 164 = .ok (.getfield 61, 3) := by decide +kernel
theorem dX12_words_167 : decode cX12_words 167 = .ok (.bipush 6, 2) := by decide +kernel
theorem dX12_words_169 : decode cX12_words 169 = .ok (.iload 9, 2) := by decide +kernel
theorem dX12_words_171 : decode cX12_words 171 = .ok (.imul, 1) := by decide +kernel
theorem dX12_words_172 : decode cX12_words 172 = .ok (.iconst 2, 1) := by decide +kernel
theorem dX12_words_173 : decode cX12_words 173 = .ok (.iadd, 1) := by decide +kernel
theorem dX12_words_174 : decode cX12_words 174 = .ok (.iload 6, 2) := by decide +kernel
theorem dX12_words_176 : decode cX12_words 176 = .ok (.iload 8, 2) := by decide +kernel
theorem dX12_words_178 : decode cX12_words 178 = .ok (.idiv, 1) := by decide +kernel
theorem dX12_words_179 : decode cX12_words 179 = .ok (.iconst 3, 1) := by decide +kernel
theorem dX12_words_180 : decode cX12_words 180 = .ok (.irem, 1) := by decide +kernel
theorem dX12_words_181 : decode cX12_words 181 = .ok (.iastore, 1) := by decide +kernel
theorem dX12_words_182 : decode cX12_words 182 = .ok (.bipush 10, 2) := by decide +kernel
theorem dX12_words_184 : decode cX12_words 184 = .ok (.iload 7, 2) := by decide +kernel
theorem dX12_words_186 : decode cX12_words 186 = .ok (.imul, 1) := by decide +kernel
theorem dX12_words_187 : decode cX12_words 187 = .ok (.aload_n 0, 1) := by decide +kernel
theorem dX12_words_188 : decode cX12_words 188 = .ok (.getfield 61, 3) := by decide +kernel
theorem dX12_words_191 : decode cX12_words 191 = .ok (.bipush 6, 2) := by decide +kernel
theorem dX12_words_193 : decode cX12_words 193 = .ok (.iload 9, 2) := by decide +kernel
theorem dX12_words_195 : decode cX12_words 195 = .ok (.imul, 1) := by decide +kernel
theorem dX12_words_196 : decode cX12_words 196 = .ok (.iconst 2, 1) := by decide +kernel
theorem dX12_words_197 : decode cX12_words 197 = .ok (.iadd, 1) := by decide +kernel
theorem dX12_words_198 : decode cX12_words 198 = .ok (.iaload, 1) := by decide +kernel
theorem dX12_words_199 : decode cX12_words 199 = .ok (.iadd, 1) := by decide +kernel
theorem dX12_words_200 : decode cX12_words 200 = .ok (.istore 7, 2) := by decide +kernel
theorem dX12_words_202 : decode cX12_words 202 = .ok (.iinc 9 1, 3) := by decide +kernel
theorem dX12_words_205 : decode cX12_words 205 = .ok (.goto (-84), 3) := by decide +kernel
theorem dX12_words_208 : decode cX12_words 208 = .ok (.iconst 0, 1) := by decide +kernel
theorem dX12_words_209 : decode cX12_words 209 = .ok (.istore 9, 2) := by decide +kernel
theorem dX12_words_211 : decode cX12_words 211 = .ok (.iconst 0, 1) := by decide +kernel
theorem dX12_words_212 : decode cX12_words 212 = .ok (.istore 10, 2) := by decide +kernel
theorem dX12_words_214 : decode cX12_words 214 = .ok (.iload 10, 2) := by decide +kernel
theorem dX12_words_216 : decode cX12_words 216 = .ok (.aload_n 0, 1) := by decide +kernel
