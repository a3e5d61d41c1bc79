theorem dX8_in_0 : decode cX8_in 0 = .ok (.iload_n 0, 1) := by decide +kernel
theorem dX8_in_1 : decode cX8_in 1 = .ok (.iload_n 1, 1) := by decide +kernel
theorem dX8_in_2 : decode cX8_in 2 = .ok (.if_icmp .lt 12, 3) := by decide +kernel
theorem dX8_in_5 : decode cX8_in 5 = .ok (.iload_n 0, 1) := by decide +kernel
theorem dX8_in_6 : decode cX8_in 6 = .ok (.iload_n 2, 1) := by decide +kernel
theorem dX8_in_7 : decode cX8_in 7 = .ok (.if_icmp .gt 7, 3) := by decide +kernel
theorem dX8_in_10 : decode cX8_in 10 = .ok (.iconst 1, 1) := by decide +kernel
theorem dX8_in_11 : decode cX8_in 11 = .ok (.goto 4, 3) := by decide +kernel
theorem dX8_in_14 : decode cX8_in 14 = .ok (.iconst 0, 1) := by decide +kernel
theorem dX8_in_15 : decode cX8_in 15 = .ok (.ireturn, 1) := by decide +kernel
theorem dX8_has_0 : decode cX8_has 0 = .ok (.iload_n 0, 1) := by decide +kernel
theorem dX8_has_1 : decode cX8_has 1 = .ok (.iload_n 1, 1) := by decide +kernel
theorem dX8_has_2 : decode cX8_has 2 = .ok (.ishr, 1) := by decide +kernel
theorem dX8_has_3 : decode cX8_has 3 = .ok (.iconst 1, 1) := by decide +kernel
theorem dX8_has_4 : decode cX8_has 4 = .ok (.iand, 1) := by decide +kernel
theorem dX8_has_5 : decode cX8_has 5 = .ok (.iconst 1, 1) := by decide +kernel
theorem dX8_has_6 : decode cX8_has 6 = .ok (.if_icmp .ne 7, 3) := by decide +kernel
theorem dX8_has_9 : decode cX8_has 9 = .ok (.iconst 1, 1) := by decide +kernel
theorem dX8_has_10 : decode cX8_has 10 = .ok (.goto 4, 3) := by decide +kernel
theorem dX8_has_13 : decode cX8_has 13 = .ok (.iconst 0, 1) := by decide +kernel
theorem dX8_has_14 : decode cX8_has 14 = .ok (.ireturn, 1) := by decide +kernel
theorem dX8_lowest_0 : decode cX8_lowest 0 = .ok (.iconst 0, 1) := by decide +kernel
theorem dX8_lowest_1 : decode cX8_lowest 1 = .ok (.istore_n 1, 1) := by decide +kernel
theorem dX8_lowest_2 : decode cX8_lowest 2 = .ok (.iload_n 0, 1) := by decide +kernel
theorem dX8_lowest_3 : decode cX8_lowest 3 = .ok (.iload_n 1, 1) := by decide +kernel
theorem dX8_lowest_4 : decode cX8_lowest 4 = .ok (.invokestatic 133, 3) := by decide +kernel
theorem dX8_lowest_7 : decode cX8_lowest 7 = .ok (.ifCond .ne 9, 3) := by decide +kernel
theorem dX8_lowest_10 : decode cX8_lowest 10 = .ok (.iinc 1 1, 3) := by decide +kernel
theorem dX8_lowest_13 : decode cX8_lowest 13 = .ok (.goto (-11), 3) := by decide +kernel
theorem dX8_lowest_16 : decode cX8_lowest 16 = .ok (.iload_n 1, 1) := by decide +kernel
theorem dX8_lowest_17 : decode cX8_lowest 17 = .ok (.ireturn, 1) := by decide +kernel
theorem dX8_size_0 : decode cX8_size 0 = .ok (.iconst 0, 1) := by decide +kernel
theorem dX8_size_1 : decode cX8_size 1 = .ok (.istore_n 1, 1) := by decide +kernel
theorem dX8_size_2 : decode cX8_size 2 = .ok (.iconst 0, 1) := by decide +kernel
theorem dX8_size_3 : decode cX8_size 3 = .ok (.istore_n 2, 1) := by decide +kernel
theorem dX8_size_4 : decode cX8_size 4 = .ok (.iload_n 2, 1) := by decide +kernel
theorem dX8_size_5 : decode cX8_size 5 = .ok (.bipush 8, 2) := by decide +kernel
theorem dX8_size_7 : decode cX8_size 7 = .ok (.if_icmp .ge 25, 3) := by decide +kernel
theorem dX8_size_10 : decode cX8_size 10 = .ok (.iload_n 1, 1) := by decide +kernel
theorem dX8_size_11 : decode cX8_size 11 = .ok (.iload_n 0, 1) := by decide +kernel
theorem dX8_size_12 : decode cX8_size 12 = .ok (.iload_n 2, 1) := by decide +kernel
theorem dX8_size_13 : decode cX8_size 13 = .ok (.invokestatic 133, 3) := by decide +kernel
theorem dX8_size_16 : decode cX8_size 16 = .ok (.ifCond .eq 7, 3) := by decide +kernel
theorem dX8_size_19 : decode cX8_size 19 = .ok (.iconst 1, 1) := by decide +kernel
theorem dX8_size_20 : decode cX8_size 20 = .ok (.goto 4, 3) := by decide +kernel
theorem dX8_size_23 : decode cX8_size 23 = .ok (.iconst 0, 1) := by decide +kernel
theorem dX8_size_24 : decode cX8_size 24 = .ok (.iadd, 1) := by decide +kernel
theorem dX8_size_25 : decode cX8_size 25 = .ok (.istore_n 1, 1) := by decide +kernel
theorem dX8_size_26 : decode cX8_size 26 = .ok (.iinc 2 1, 3) := by decide +kernel
theorem dX8_size_29 : decode cX8_size 29 = .ok (.goto (-25), 3) := by decide +kernel
theorem dX8_size_32 : decode cX8_size 32 = .ok (.iload_n 1, 1) := by decide +kernel
theorem dX8_size_33 : decode cX8_size 33 = .ok (.ireturn, 1) := by decide +kernel
theorem dX8_turned_0 : decode cX8_turned 0 = .ok (.iconst 0, 1) := by decide +kernel
theorem dX8_turned_1 : decode cX8_turned 1 = .ok (.istore_n 1, 1) := by decide +kernel
theorem dX8_turned_2 : decode cX8_turned 2 = .ok (.iconst 0, 1) := by decide +kernel
theorem dX8_turned_3 : decode cX8_turned 3 = .ok (.istore_n 2, 1) := by decide +kernel
theorem dX8_turned_4 : decode cX8_turned 4 = .ok (.iload_n 2, 1) := by decide +kernel
theorem dX8_turned_5 : decode cX8_turned 5 = .ok (.bipush 8, 2) := by decide +kernel
theorem dX8_turned_7 : decode cX8_turned 7 = .ok (.if_icmp .ge 29, 3) := by decide +kernel
theorem dX8_turned_10 : decode cX8_turned 10 = .ok (.iload_n 1, 1) := by decide +kernel
theorem dX8_turned_11 : decode cX8_turned 11 = .ok (.iload_n 0, 1) := by decide +kernel
theorem dX8_turned_12 : decode cX8_turned 12 = .ok (.iload_n 2, 1) := by decide +kernel
theorem dX8_turned_13 : decode cX8_turned 13 = .ok (.invokestatic 133, 3) := by decide +kernel
theorem dX8_turned_16 : decode cX8_turned 16 = .ok (.ifCond .eq 11, 3) := by decide +kernel
theorem dX8_turned_19 : decode cX8_turned 19 = .ok (.sipush 128, 3) := by decide +kernel
theorem dX8_turned_22 : decode cX8_turned 22 = .ok (.iload_n 2, 1) := by decide +kernel
theorem dX8_turned_23 : decode cX8_turned 23 = .ok (.ishr, 1) := by decide +kernel
theorem dX8_turned_24 : decode cX8_turned 24 = .ok (.goto 4, 3) := by decide +kernel
theorem dX8_turned_27 : decode cX8_turned 27 = .ok (.iconst 0, 1) := by decide +kernel
theorem dX8_turned_28 : decode cX8_turned 28 = .ok (.ior, 1) := by decide +kernel
theorem dX8_turned_29 : decode cX8_turned 29 = .ok (.istore_n 1, 1) := by decide +kernel
theorem dX8_turned_30 : decode cX8_turned 30 = .ok (.iinc 2 1, 3) := by decide +kernel
theorem dX8_turned_33 : decode cX8_turned 33 = .ok (.goto (-29), 3) := by decide +kernel
theorem dX8_turned_36 : decode cX8_turned 36 = .ok (.iload_n 1, 1) := by decide +kernel
theorem dX8_turned_37 : decode cX8_turned 37 = .ok (.ireturn, 1) := by decide +kernel
theorem dX8_refuses_0 : decode cX8_refuses 0 = .ok (.aload_n 0, 1) := by decide +kernel
theorem dX8_refuses_1 : decode cX8_refuses 1 = .ok (.getfield 19, 3) := by decide +kernel
theorem dX8_refuses_4 : decode cX8_refuses 4 = .ok (.bipush (-2), 2) := by decide +kernel
theorem dX8_refuses_6 : decode cX8_refuses 6 = .ok (.iload_n 1, 1) := by decide +kernel
theorem dX8_refuses_7 : decode cX8_refuses 7 = .ok (.isub, 1) := by decide +kernel
theorem dX8_refuses_8 : decode cX8_refuses 8 = .ok (.dup2, 1) := by decide +kernel
theorem dX8_refuses_9 : decode cX8_refuses 9 = .ok (.iaload, 1) := by decide +kernel
theorem dX8_refuses_10 : decode cX8_refuses 10 = .ok (.iconst 1, 1) := by decide +kernel
theorem dX8_refuses_11 : decode cX8_refuses 11 = .ok (.iadd, 1) := by decide +kernel
theorem dX8_refuses_12 : decode cX8_refuses 12 = .ok (.iastore, 1) := by decide +kernel
theorem dX8_refuses_13 : decode cX8_refuses 13 = .ok (.iload_n 1, 1) := by decide +kernel
theorem dX8_refuses_14 : decode cX8_refuses 14 = .ok (.ireturn, 1) := by decide +kernel
theorem dX8_hold_0 : decode cX8_hold 0 = .ok (.iconst 0, 1) := by decide +kernel
theorem dX8_hold_1 : decode cX8_hold 1 = .ok (.istore_n 1, 1) := by decide +kernel
theorem dX8_hold_2 : decode cX8_hold 2 = .ok (.iload_n 1, 1) := by decide +kernel
theorem dX8_hold_3 : decode cX8_hold 3 = .ok (.iconst 5, 1) := by decide +kernel
theorem dX8_hold_4 : decode cX8_hold 4 = .ok (.if_icmp .ge 21, 3) := by decide +kernel
theorem dX8_hold_7 : decode cX8_hold 7 = .ok (.aload_n 0, 1) := by decide +kernel
theorem dX8_hold_8 : decode cX8_hold 8 = .ok (.getfield 13, 3) := by decide +kernel
theorem dX8_hold_11 : decode cX8_hold 11 = .ok (.iload_n 1, 1) := by decide +kernel
theorem dX8_hold_12 : decode cX8_hold 12 = .ok (.aload_n 0, 1) := by decide +kernel
theorem dX8_hold_13 : decode cX8_hold 13 = .ok (.getfield 7, 3) := by decide +kernel
theorem dX8_hold_16 : decode cX8_hold 16 = .ok (.iload_n 1, 1) := by decide +kernel
theorem dX8_hold_17 : decode cX8_hold 17 = .ok (.iaload, 1) := by decide +kernel
theorem dX8_hold_18 : decode cX8_hold 18 = .ok (.iastore, 1) := by decide +kernel
theorem dX8_hold_19 : decode cX8_hold 19 = .ok (.iinc 1 1, 3) := by decide +kernel
theorem dX8_hold_22 : decode cX8_hold 22 = .ok (.goto (-20), 3) := by decide +kernel
theorem dX8_hold_25 : decode cX8_hold 25 = .ok (.return_, 1) := by decide +kernel
theorem dX8_push_0 : decode cX8_push 0 = .ok (.aload_n 0, 1) := by decide +kernel
theorem dX8_push_1 : decode cX8_push 1 = .ok (.getfield 66, 3) := by decide +kernel
theorem dX8_push_4 : decode cX8_push 4 = .ok (.iconst 5, 1) := by decide +kernel
theorem dX8_push_5 : decode cX8_push 5 = .ok (.if_icmp .ne 41, 3) := by decide +kernel
theorem dX8_push_8 : decode cX8_push 8 = .ok (.iconst 0, 1) := by decide +kernel
theorem dX8_push_9 : decode cX8_push 9 = .ok (.istore_n 1, 1) := by decide +kernel
theorem dX8_push_10 : decode cX8_push 10 = .ok (.iload_n 1, 1) := by decide +kernel
theorem dX8_push_11 : decode cX8_push 11 = .ok (.bipush 20, 2) := by decide +kernel
theorem dX8_push_13 : decode cX8_push 13 = .ok (.if_icmp .ge 23, 3) := by decide +kernel
theorem dX8_push_16 : decode cX8_push 16 = .ok (.aload_n 0, 1) := by decide +kernel
theorem dX8_push_17 : decode cX8_push 17 = .ok (.getfield 16, 3) := by decide +kernel
theorem dX8_push_20 : decode cX8_push 20 = .ok (.iload_n 1, 1) := by decide +kernel
theorem dX8_push_21 : decode cX8_push 21 = .ok (.aload_n 0, 1) := by decide +kernel
theorem dX8_push_22 : decode cX8_push 22 = .ok (.getfield 16, 3) := by decide +kernel
theorem dX8_push_25 : decode cX8_push 25 = .ok (.iload_n 1, 1) := by decide +kernel
theorem dX8_push_26 : decode cX8_push 26 = .ok (.iconst 5, 1) := by decide +kernel
theorem dX8_push_27 : decode cX8_push 27 = .ok (.iadd, 1) := by decide +kernel
theorem dX8_push_28 : decode cX8_push 28 = .ok (.iaload, 1) := by decide +kernel
theorem dX8_push_29 : decode cX8_push 29 = .ok (.iastore, 1) := by decide +kernel
theorem dX8_push_30 : decode cX8_push 30 = .ok (.iinc 1 1, 3) := by decide +kernel
theorem dX8_push_33 : decode cX8_push 33 = .ok (.goto (-23), 3) := by decide +kernel
theorem dX8_push_36 : decode cX8_push 36 = .ok (.aload_n 0, 1) := by decide +kernel
theorem dX8_push_37 : decode cX8_push 37 = .ok (.dup, 1) := by decide +kernel
theorem dX8_push_38 : decode cX8_push 38 = .ok (.getfield 66, 3) := by decide +kernel
theorem dX8_push_41 : decode cX8_push 41 = .ok (.iconst 1, 1) := by decide +kernel
theorem dX8_push_42 : decode cX8_push 42 = .ok (.isub, 1) := by decide +kernel
theorem dX8_push_43 : decode cX8_push 43 = .ok (.putfield 66, 3) := by decide +kernel
theorem dX8_push_46 : decode cX8_push 46 = .ok (.iconst 0, 1) := by decide +kernel
theorem dX8_push_47 : decode cX8_push 47 = .ok (.istore_n 1, 1) := by decide +kernel
theorem dX8_push_48 : decode cX8_push 48 = .ok (.iload_n 1, 1) := by decide +kernel
theorem dX8_push_49 : decode cX8_push 49 = .ok (.iconst 5, 1) := by decide +kernel
theorem dX8_push_50 : decode cX8_push 50 = .ok (.if_icmp .ge 28, 3) := by decide +kernel
theorem dX8_push_53 : decode cX8_push 53 = .ok (.aload_n 0, 1) := by decide +kernel
theorem dX8_push_54 : decode cX8_push 54 = .ok (.getfield 16, 3) := by decide +kernel
theorem dX8_push_57 : decode cX8_push 57 = .ok (.iconst 5, 1) := by decide +kernel
theorem dX8_push_58 : decode cX8_push 58 = .ok (.aload_n 0, 1) := by decide +kernel
theorem dX8_push_59 : decode cX8_push 59 = .ok (.getfield 66, 3) := by decide +kernel
theorem dX8_push_62 : decode cX8_push 62 = .ok (.imul, 1) := by decide +kernel
theorem dX8_push_63 : decode cX8_push 63 = .ok (.iload_n 1, 1) := by decide +kernel
theorem dX8_push_64 : decode cX8_push 64 = .ok (.iadd, 1) := by decide +kernel
theorem dX8_push_65 : decode cX8_push 65 = .ok (.aload_n 0, 1) := by decide +kernel
theorem dX8_push_66 : decode cX8_push 66 = .ok (.getfield 13, 3) := by decide +kernel
theorem dX8_push_69 : decode cX8_push 69 = .ok (.iload_n 1, 1) := by decide +kernel
theorem dX8_push_70 : decode cX8_push 70 = .ok (.iaload, 1) := by decide +kernel
theorem dX8_push_71 : decode cX8_push 71 = .ok (.iastore, 1) := by decide +kernel
theorem dX8_push_72 : decode cX8_push 72 = .ok (.iinc 1 1, 3) := by decide +kernel
theorem dX8_push_75 : decode cX8_push 75 = .ok (.goto (-27), 3) := by decide +kernel
theorem dX8_push_78 : decode cX8_push 78 = .ok (.aload_n 0, 1) := by decide +kernel
theorem dX8_push_79 : decode cX8_push 79 = .ok (.dup, 1) := by decide +kernel
theorem dX8_push_80 : decode cX8_push 80 = .ok (.getfield 66, 3) := by decide +kernel
theorem dX8_push_83 : decode cX8_push 83 = .ok (.iconst 1, 1) := by decide +kernel
theorem dX8_push_84 : decode cX8_push 84 = .ok (.iadd, 1) := by decide +kernel
theorem dX8_push_85 : decode cX8_push 85 = .ok (.putfield 66, 3) := by decide +kernel
theorem dX8_push_88 : decode cX8_push 88 = .ok (.return_, 1) := by decide +kernel
theorem dX8_ends_0 : decode cX8_ends 0 = .ok (.iload_n 1, 1) := by decide +kernel
theorem dX8_ends_1 : decode cX8_ends 1 = .ok (.ifCond .ge 9, 3) := by decide +kernel
theorem dX8_ends_4 : decode cX8_ends 4 = .ok (.aload_n 0, 1) := by decide +kernel
theorem dX8_ends_5 : decode cX8_ends 5 = .ok (.iload_n 1, 1) := by decide +kernel
theorem dX8_ends_6 : decode cX8_ends 6 = .ok (.invokevirtual 70, 3) := by decide +kernel
theorem dX8_ends_9 : decode cX8_ends 9 = .ok (.ireturn, 1) := by decide +kernel
theorem dX8_ends_10 : decode cX8_ends 10 = .ok (.aload_n 0, 1) := by decide +kernel
theorem dX8_ends_11 : decode cX8_ends 11 = .ok (.invokevirtual 74, 3) := by decide +kernel
theorem dX8_ends_14 : decode cX8_ends 14 = .ok (.iload_n 1, 1) := by decide +kernel
theorem dX8_ends_15 : decode cX8_ends 15 = .ok (.ireturn, 1) := by decide +kernel
theorem dX8_back_0 : decode cX8_back 0 = .ok (.aload_n 0, 1) := by decide +kernel
theorem dX8_back_1 : decode cX8_back 1 = .ok (.getfield 66, 3) := by decide +kernel
theorem dX8_back_4 : decode cX8_back 4 = .ok (.ifCond .ne 10, 3) := by decide +kernel
theorem dX8_back_7 : decode cX8_back 7 = .ok (.aload_n 0, 1) := by decide +kernel
theorem dX8_back_8 : decode cX8_back 8 = .ok (.bipush (-3), 2) := by decide +kernel
theorem dX8_back_10 : decode cX8_back 10 = .ok (.invokevirtual 70, 3) := by decide +kernel
theorem dX8_back_13 : decode cX8_back 13 = .ok (.ireturn, 1) := by decide +kernel
theorem dX8_back_14 : decode cX8_back 14 = .ok (.aload_n 0, 1) := by decide +kernel
theorem dX8_back_15 : decode cX8_back 15 = .ok (.dup, 1) := by decide +kernel
theorem dX8_back_16 : decode cX8_back 16 = .ok (.getfield 66, 3) := by decide +kernel
theorem dX8_back_19 : decode cX8_back 19 = .ok (.iconst 1, 1) := by decide +kernel
theorem dX8_back_20 : decode cX8_back 20 = .ok (.isub, 1) := by decide +kernel
theorem dX8_back_21 : decode cX8_back 21 = .ok (.putfield 66, 3) := by decide +kernel
theorem dX8_back_24 : decode cX8_back 24 = .ok (.iconst 0, 1) := by decide +kernel
theorem dX8_back_25 : decode cX8_back 25 = .ok (.istore_n 1, 1) := by decide +kernel
theorem dX8_back_26 : decode cX8_back 26 = .ok (.iload_n 1, 1) := by decide +kernel
theorem dX8_back_27 : decode cX8_back 27 = .ok (.iconst 5, 1) := by decide +kernel
theorem dX8_back_28 : decode cX8_back 28 = .ok (.if_icmp .ge 28, 3) := by decide +kernel
theorem dX8_back_31 : decode cX8_back 31 = .ok (.aload_n 0, 1) := by decide +kernel
theorem dX8_back_32 : decode cX8_back 32 = .ok (.getfield 7, 3) := by decide +kernel
theorem dX8_back_35 : decode cX8_back 35 = .ok (.iload_n 1, 1) := by decide +kernel
theorem dX8_back_36 : decode cX8_back 36 = .ok (.aload_n 0, 1) := by decide +kernel
theorem dX8_back_37 : decode cX8_back 37 = .ok (.getfield 16, 3) := by decide +kernel
theorem dX8_back_40 : decode cX8_back 40 = .ok (.iconst 5, 1) := by decide +kernel
theorem dX8_back_41 : decode cX8_back 41 = .ok (.aload_n 0, 1) := by decide +kernel
theorem dX8_back_42 : decode cX8_back 42 = .ok (.getfield 66, 3) := by decide +kernel
theorem dX8_back_45 : decode cX8_back 45 = .ok (.imul, 1) := by decide +kernel
theorem dX8_back_46 : decode cX8_back 46 = .ok (.iload_n 1, 1) := by decide +kernel
theorem dX8_back_47 : decode cX8_back 47 = .ok (.iadd, 1) := by decide +kernel
theorem dX8_back_48 : decode cX8_back 48 = .ok (.iaload, 1) := by decide +kernel
theorem dX8_back_49 : decode cX8_back 49 = .ok (.iastore, 1) := by decide +kernel
theorem dX8_back_50 : decode cX8_back 50 = .ok (.iinc 1 1, 3) := by decide +kernel
theorem dX8_back_53 : decode cX8_back 53 = .ok (.goto (-27), 3) := by decide +kernel
theorem dX8_back_56 : decode cX8_back 56 = .ok (.aload_n 0, 1) := by decide +kernel
theorem dX8_back_57 : decode cX8_back 57 = .ok (.iconst 0, 1) := by decide +kernel
theorem dX8_back_58 : decode cX8_back 58 = .ok (.putfield 77, 3) := by decide +kernel
theorem dX8_back_61 : decode cX8_back 61 = .ok (.aload_n 0, 1) := by decide +kernel
theorem dX8_back_62 : decode cX8_back 62 = .ok (.iconst 0, 1) := by decide +kernel
theorem dX8_back_63 : decode cX8_back 63 = .ok (.putfield 81, 3) := by decide +kernel
theorem dX8_back_66 : decode cX8_back 66 = .ok (.aload_n 0, 1) := by decide +kernel
theorem dX8_back_67 : decode cX8_back 67 = .ok (.getfield 66, 3) := by decide +kernel
theorem dX8_back_70 : decode cX8_back 70 = .ok (.ireturn, 1) := by decide +kernel
theorem dX8_open_0 : decode cX8_open 0 = .ok (.iload_n 1, 1) := by decide +kernel
theorem dX8_open_1 : decode cX8_open 1 = .ok (.istore_n 2, 1) := by decide +kernel
theorem dX8_open_2 : decode cX8_open 2 = .ok (.aload_n 0, 1) := by decide +kernel
theorem dX8_open_3 : decode cX8_open 3 = .ok (.getfield 7, 3) := by decide +kernel
theorem dX8_open_6 : decode cX8_open 6 = .ok (.iconst 0, 1) := by decide +kernel
theorem dX8_open_7 : decode cX8_open 7 = .ok (.iaload, 1) := by decide +kernel
theorem dX8_open_8 : decode cX8_open 8 = .ok (.iconst 1, 1) := by decide +kernel
theorem dX8_open_9 : decode cX8_open 9 = .ok (.isub, 1) := by decide +kernel
theorem dX8_open_10 : decode cX8_open 10 = .ok (.istore_n 3, 1) := by decide +kernel
theorem dX8_open_11 : decode cX8_open 11 = .ok (.iload_n 3, 1) := by decide +kernel
theorem dX8_open_12 : decode cX8_open 12 = .ok (.ifCond .lt 24, 3) := by decide +kernel
theorem dX8_open_15 : decode cX8_open 15 = .ok (.aload_n 0, 1) := by decide +kernel
theorem dX8_open_16 : decode cX8_open 16 = .ok (.getfield 22, 3) := by decide +kernel
theorem dX8_open_19 : decode cX8_open 19 = .ok (.iload_n 3, 1) := by decide +kernel
theorem dX8_open_20 : decode cX8_open 20 = .ok (.iload_n 2, 1) := by decide +kernel
theorem dX8_open_21 : decode cX8_open 21 = .ok (.bipush 10, 2) := by decide +kernel
theorem dX8_open_23 : decode cX8_open 23 = .ok (.irem, 1) := by decide +kernel
theorem dX8_open_24 : decode cX8_open 24 = .ok (.iastore, 1) := by decide +kernel
theorem dX8_open_25 : decode cX8_open 25 = .ok (.iload_n 2, 1) := by decide +kernel
theorem dX8_open_26 : decode cX8_open 26 = .ok (.bipush 10, 2) := by decide +kernel
theorem dX8_open_28 : decode cX8_open 28 = .ok (.idiv, 1) := by decide +kernel
theorem dX8_open_29 : decode cX8_open 29 = .ok (.istore_n 2, 1) := by decide +kernel
theorem dX8_open_30 : decode cX8_open 30 = .ok (.iinc 3 (-1), 3) := by decide +kernel
theorem dX8_open_33 : decode cX8_open 33 = .ok (.goto (-22), 3) := by decide +kernel
theorem dX8_open_36 : decode cX8_open 36 = .ok (.return_, 1) := by decide +kernel
theorem dX8_isMove_0 : decode cX8_isMove 0 = .ok (.iconst 1, 1) := by decide +kernel
theorem dX8_isMove_1 : decode cX8_isMove 1 = .ok (.istore_n 2, 1) := by decide +kernel
theorem dX8_isMove_2 : decode cX8_isMove 2 = .ok (.iconst 0, 1) := by decide +kernel
theorem dX8_isMove_3 : decode cX8_isMove 3 = .ok (.istore_n 3, 1) := by decide +kernel
theorem dX8_isMove_4 : decode cX8_isMove 4 = .ok (.iload_n 3, 1) := by decide +kernel
theorem dX8_isMove_5 : decode cX8_isMove 5 = .ok (.aload_n 0, 1) := by decide +kernel
theorem dX8_isMove_6 : decode cX8_isMove 6 = .ok (.getfield 7, 3) := by decide +kernel
theorem dX8_isMove_9 : decode cX8_isMove 9 = .ok (.iconst 0, 1) := by decide +kernel
theorem dX8_isMove_10 : decode cX8_isMove 10 = .ok (.iaload, 1) := by decide +kernel
theorem dX8_isMove_11 : decode cX8_isMove 11 = .ok (.if_icmp .ge 14, 3) := by decide +kernel
theorem dX8_isMove_14 : decode cX8_isMove 14 = .ok (.iload_n 2, 1) := by decide +kernel
theorem dX8_isMove_15 : decode cX8_isMove 15 = .ok (.bipush 10, 2) := by decide +kernel
theorem dX8_isMove_17 : decode cX8_isMove 17 = .ok (.imul, 1) := by decide +kernel
theorem dX8_isMove_18 : decode cX8_isMove 18 = .ok (.istore_n 2, 1) := by decide +kernel
theorem dX8_isMove_19 : decode cX8_isMove 19 = .ok (.iinc 3 1, 3) := by decide +kernel
theorem dX8_isMove_22 : decode cX8_isMove 22 = .ok (.goto (-18), 3) := by decide +kernel
theorem dX8_isMove_25 : decode cX8_isMove 25 = .ok (.iload_n 1, 1) := by decide +kernel
theorem dX8_isMove_26 : decode cX8_isMove 26 = .ok (.iconst 0, 1) := by decide +kernel
theorem dX8_isMove_27 : decode cX8_isMove 27 = .ok (.iload_n 2, 1) := by decide +kernel
theorem dX8_isMove_28 : decode cX8_isMove 28 = .ok (.iconst 1, 1) := by decide +kernel
theorem dX8_isMove_29 : decode cX8_isMove 29 = .ok (.isub, 1) := by decide +kernel
theorem dX8_isMove_30 : decode cX8_isMove 30 = .ok (.invokestatic 84, 3) := by decide +kernel
theorem dX8_isMove_33 : decode cX8_isMove 33 = .ok (.ifCond .ne 5, 3) := by decide +kernel
theorem dX8_isMove_36 : decode cX8_isMove 36 = .ok (.iconst 0, 1) := by decide +kernel
theorem dX8_isMove_37 : decode cX8_isMove 37 = .ok (.ireturn, 1) := by decide +kernel
theorem dX8_isMove_38 : decode cX8_isMove 38 = .ok (.iconst 0, 1) := by decide +kernel
theorem dX8_isMove_39 : decode cX8_isMove 39 = .ok (.istore_n 3, 1) := by decide +kernel
theorem dX8_isMove_40 : decode cX8_isMove 40 = .ok (.aload_n 0, 1) := by decide +kernel
theorem dX8_isMove_41 : decode cX8_isMove 41 = .ok (.iload_n 1, 1) := by decide +kernel
theorem dX8_isMove_42 : decode cX8_isMove 42 = .ok (.invokevirtual 88, 3) := by decide +kernel
theorem dX8_isMove_45 : decode cX8_isMove 45 = .ok (.iconst 0, 1) := by decide +kernel
theorem dX8_isMove_46 : decode cX8_isMove 46 = .ok (.istore 4, 2) := by decide +kernel
theorem dX8_isMove_48 : decode cX8_isMove 48 = .ok (.iload 4, 2) := by decide +kernel
theorem dX8_isMove_50 : decode cX8_isMove 50 = .ok (.aload_n 0, 1) := by decide +kernel
theorem dX8_isMove_51 : decode cX8_isMove 51 = .ok (.getfield 7, 3) := by decide +kernel
theorem dX8_isMove_54 : decode cX8_isMove 54 = .ok (.iconst 0, 1) := by decide +kernel
theorem dX8_isMove_55 : decode cX8_isMove 55 = .ok (.iaload, 1) := by decide +kernel
theorem dX8_isMove_56 : decode cX8_isMove 56 = .ok (.if_icmp .ge 21, 3) := by decide +kernel
theorem dX8_isMove_59 : decode cX8_isMove 59 = .ok (.iload_n 3, 1) := by decide +kernel
theorem dX8_isMove_60 : decode cX8_isMove 60 = .ok (.iconst 1, 1) := by decide +kernel
theorem dX8_isMove_61 : decode cX8_isMove 61 = .ok (.aload_n 0, 1) := by decide +kernel
theorem dX8_isMove_62 : decode cX8_isMove 62 = .ok (.getfield 22, 3) := by decide +kernel
theorem dX8_isMove_65 : decode cX8_isMove 65 = .ok (.iload 4, 2) := by decide +kernel
theorem dX8_isMove_67 : decode cX8_isMove 67 = .ok (.iaload, 1) := by decide +kernel
theorem dX8_isMove_68 : decode cX8_isMove 68 = .ok (.ishl, 1) := by decide +kernel
theorem dX8_isMove_69 : decode cX8_isMove 69 = .ok (.ior, 1) := by decide +kernel
theorem dX8_isMove_70 : decode cX8_isMove 70 = .ok (.istore_n 3, 1) := by decide +kernel
theorem dX8_isMove_71 : decode cX8_isMove 71 = .ok (.iinc 4 1, 3) := by decide +kernel
theorem dX8_isMove_74 : decode cX8_isMove 74 = .ok (.goto (-26), 3) := by decide +kernel
theorem dX8_isMove_77 : decode cX8_isMove 77 = .ok (.iload_n 3, 1) := by decide +kernel
theorem dX8_isMove_78 : decode cX8_isMove 78 = .ok (.iconst 1, 1) := by decide +kernel
theorem dX8_isMove_79 : decode cX8_isMove 79 = .ok (.aload_n 0, 1) := by decide +kernel
theorem dX8_isMove_80 : decode cX8_isMove 80 = .ok (.getfield 7, 3) := by decide +kernel
theorem dX8_isMove_83 : decode cX8_isMove 83 = .ok (.iconst 0, 1) := by decide +kernel
theorem dX8_isMove_84 : decode cX8_isMove 84 = .ok (.iaload, 1) := by decide +kernel
theorem dX8_isMove_85 : decode cX8_isMove 85 = .ok (.ishl, 1) := by decide +kernel
theorem dX8_isMove_86 : decode cX8_isMove 86 = .ok (.iconst 1, 1) := by decide +kernel
theorem dX8_isMove_87 : decode cX8_isMove 87 = .ok (.isub, 1) := by decide +kernel
theorem dX8_isMove_88 : decode cX8_isMove 88 = .ok (.if_icmp .ne 7, 3) := by decide +kernel
theorem dX8_isMove_91 : decode cX8_isMove 91 = .ok (.iconst 1, 1) := by decide +kernel
theorem dX8_isMove_92 : decode cX8_isMove 92 = .ok (.goto 4, 3) := by decide +kernel
theorem dX8_isMove_95 : decode cX8_isMove 95 = .ok (.iconst 0, 1) := by decide +kernel
theorem dX8_isMove_96 : decode cX8_isMove 96 = .ok (.ireturn, 1) := by decide +kernel
theorem dX8_placeOf_0 : decode cX8_placeOf 0 = .ok (.iconst 0, 1) := by decide +kernel
theorem dX8_placeOf_1 : decode cX8_placeOf 1 = .ok (.istore_n 1, 1) := by decide +kernel
theorem dX8_placeOf_2 : decode cX8_placeOf 2 = .ok (.iconst 0, 1) := by decide +kernel
theorem dX8_placeOf_3 : decode cX8_placeOf 3 = .ok (.istore_n 2, 1) := by decide +kernel
theorem dX8_placeOf_4 : decode cX8_placeOf 4 = .ok (.iload_n 2, 1) := by decide +kernel
theorem dX8_placeOf_5 : decode cX8_placeOf 5 = .ok (.aload_n 0, 1) := by decide +kernel
theorem dX8_placeOf_6 : decode cX8_placeOf 6 = .ok (.getfield 7, 3) := by decide +kernel
theorem dX8_placeOf_9 : decode cX8_placeOf 9 = .ok (.iconst 0, 1) := by decide +kernel
theorem dX8_placeOf_10 : decode cX8_placeOf 10 = .ok (.iaload, 1) := by decide +kernel
theorem dX8_placeOf_11 : decode cX8_placeOf 11 = .ok (.if_icmp .ge 70, 3) := by decide +kernel
theorem dX8_placeOf_14 : decode cX8_placeOf 14 = .ok (.iconst 0, 1) := by decide +kernel
theorem dX8_placeOf_15 : decode cX8_placeOf 15 = .ok (.istore_n 3, 1) := by decide +kernel
theorem dX8_placeOf_16 : decode cX8_placeOf 16 = .ok (.iload_n 2, 1) := by decide +kernel
theorem dX8_placeOf_17 : decode cX8_placeOf 17 = .ok (.iconst 1, 1) := by decide +kernel
theorem dX8_placeOf_18 : decode cX8_placeOf 18 = .ok (.iadd, 1) := by decide +kernel
theorem dX8_placeOf_19 : decode cX8_placeOf 19 = .ok (.istore 4, 2) := by decide +kernel
theorem dX8_placeOf_21 : decode cX8_placeOf 21 = .ok (.iload 4, 2) := by decide +kernel
theorem dX8_placeOf_23 : decode cX8_placeOf 23 = .ok (.aload_n 0, 1) := by decide +kernel
theorem dX8_placeOf_24 : decode cX8_placeOf 24 = .ok (.getfield 7, 3) := by decide +kernel
theorem dX8_placeOf_27 : decode cX8_placeOf 27 = .ok (.iconst 0, 1) := by decide +kernel
theorem dX8_placeOf_28 : decode cX8_placeOf 28 = .ok (.iaload, 1) := by decide +kernel
theorem dX8_placeOf_29 : decode cX8_placeOf 29 = .ok (.if_icmp .ge 33, 3) := by decide +kernel
theorem dX8_placeOf_32 : decode cX8_placeOf 32 = .ok (.iload_n 3, 1) := by decide +kernel
theorem dX8_placeOf_33 : decode cX8_placeOf 33 = .ok (.aload_n 0, 1) := by decide +kernel
theorem dX8_placeOf_34 : decode cX8_placeOf 34 = .ok (.getfield 22, 3) := by decide +kernel
theorem dX8_placeOf_37 : decode cX8_placeOf 37 = .ok (.iload 4, 2) := by decide +kernel
theorem dX8_placeOf_39 : decode cX8_placeOf 39 = .ok (.iaload, 1) := by decide +kernel
theorem dX8_placeOf_40 : decode cX8_placeOf 40 = .ok (.aload_n 0, 1) := by decide +kernel
theorem dX8_placeOf_41 : decode cX8_placeOf 41 = .ok (.getfield 22, 3) := by decide +kernel
theorem dX8_placeOf_44 : decode cX8_placeOf 44 = .ok (.iload_n 2, 1) := by decide +kernel
theorem dX8_placeOf_45 : decode cX8_placeOf 45 = .ok (.iaload, 1) := by decide +kernel
theorem dX8_placeOf_46 : decode cX8_placeOf 46 = .ok (.if_icmp .ge 7, 3) := by decide +kernel
theorem dX8_placeOf_49 : decode cX8_placeOf 49 = .ok (.iconst 1, 1) := by decide +kernel
theorem dX8_placeOf_50 : decode cX8_placeOf 50 = .ok (.goto 4, 3) := by decide +kernel
theorem dX8_placeOf_53 : decode cX8_placeOf 53 = .ok (.iconst 0, 1) := by decide +kernel
theorem dX8_placeOf_54 : decode cX8_placeOf 54 = .ok (.iadd, 1) := by decide +kernel
theorem dX8_placeOf_55 : decode cX8_placeOf 55 = .ok (.istore_n 3, 1) := by decide +kernel
theorem dX8_placeOf_56 : decode cX8_placeOf 56 = .ok (.iinc 4 1, 3) := by decide +kernel
theorem dX8_placeOf_59 : decode cX8_placeOf 59 = .ok (.goto (-38), 3) := by decide +kernel
theorem dX8_placeOf_62 : decode cX8_placeOf 62 = .ok (.iload_n 1, 1) := by decide +kernel
theorem dX8_placeOf_63 : decode cX8_placeOf 63 = .ok (.aload_n 0, 1) := by decide +kernel
theorem dX8_placeOf_64 : decode cX8_placeOf 64 = .ok (.getfield 7, 3) := by decide +kernel
theorem dX8_placeOf_67 : decode cX8_placeOf 67 = .ok (.iconst 0, 1) := by decide +kernel
theorem dX8_placeOf_68 : decode cX8_placeOf 68 = .ok (.iaload, 1) := by decide +kernel
theorem dX8_placeOf_69 : decode cX8_placeOf 69 = .ok (.iload_n 2, 1) := by decide +kernel
theorem dX8_placeOf_70 : decode cX8_placeOf 70 = .ok (.isub, 1) := by decide +kernel
theorem dX8_placeOf_71 : decode cX8_placeOf 71 = .ok (.imul, 1) := by decide +kernel
theorem dX8_placeOf_72 : decode cX8_placeOf 72 = .ok (.iload_n 3, 1) := by decide +kernel
theorem dX8_placeOf_73 : decode cX8_placeOf 73 = .ok (.iadd, 1) := by decide +kernel
theorem dX8_placeOf_74 : decode cX8_placeOf 74 = .ok (.istore_n 1, 1) := by decide +kernel
theorem dX8_placeOf_75 : decode cX8_placeOf 75 = .ok (.iinc 2 1, 3) := by decide +kernel
theorem dX8_placeOf_78 : decode cX8_placeOf 78 = .ok (.goto (-74), 3) := by decide +kernel
theorem dX8_placeOf_81 : decode cX8_placeOf 81 = .ok (.iload_n 1, 1) := by decide +kernel
theorem dX8_placeOf_82 : decode cX8_placeOf 82 = .ok (.ireturn, 1) := by decide +kernel
theorem dX8_codeAt_0 : decode cX8_codeAt 0 = .ok (.iload_n 1, 1) := by decide +kernel
theorem dX8_codeAt_1 : decode cX8_codeAt 1 = .ok (.istore_n 2, 1) := by decide +kernel
theorem dX8_codeAt_2 : decode cX8_codeAt 2 = .ok (.aload_n 0, 1) := by decide +kernel
theorem dX8_codeAt_3 : decode cX8_codeAt 3 = .ok (.getfield 7, 3) := by decide +kernel
theorem dX8_codeAt_6 : decode cX8_codeAt 6 = .ok (.iconst 0, 1) := by decide +kernel
theorem dX8_codeAt_7 : decode cX8_codeAt 7 = .ok (.iaload, 1) := by decide +kernel
theorem dX8_codeAt_8 : decode cX8_codeAt 8 = .ok (.iconst 1, 1) := by decide +kernel
theorem dX8_codeAt_9 : decode cX8_codeAt 9 = .ok (.isub, 1) := by decide +kernel
theorem dX8_codeAt_10 : decode cX8_codeAt 10 = .ok (.istore_n 3, 1) := by decide +kernel
theorem dX8_codeAt_11 : decode cX8_codeAt 11 = .ok (.iload_n 3, 1) := by decide +kernel
theorem dX8_codeAt_12 : decode cX8_codeAt 12 = .ok (.ifCond .lt 36, 3) := by decide +kernel
theorem dX8_codeAt_15 : decode cX8_codeAt 15 = .ok (.aload_n 0, 1) := by decide +kernel
theorem dX8_codeAt_16 : decode cX8_codeAt 16 = .ok (.getfield 22, 3) := by decide +kernel
theorem dX8_codeAt_19 : decode cX8_codeAt 19 = .ok (.iload_n 3, 1) := by decide +kernel
theorem dX8_codeAt_20 : decode cX8_codeAt 20 = .ok (.iload_n 2, 1) := by decide +kernel
theorem dX8_codeAt_21 : decode cX8_codeAt 21 = .ok (.aload_n 0, 1) := by decide +kernel
theorem dX8_codeAt_22 : decode cX8_codeAt 22 = .ok (.getfield 7, 3) := by decide +kernel
theorem dX8_codeAt_25 : decode cX8_codeAt 25 = .ok (.iconst 0, 1) := by decide +kernel
theorem dX8_codeAt_26 : decode cX8_codeAt 26 = .ok (.iaload, 1) := by decide +kernel
theorem dX8_codeAt_27 : decode cX8_codeAt 27 = .ok (.iload_n 3, 1) := by decide +kernel
theorem dX8_codeAt_28 : decode cX8_codeAt 28 = .ok (.isub, 1) := by decide +kernel
theorem dX8_codeAt_29 : decode cX8_codeAt 29 = .ok (.irem, 1) := by decide +kernel
theorem dX8_codeAt_30 : decode cX8_codeAt 30 = .ok (.iastore, 1) := by decide +kernel
theorem dX8_codeAt_31 : decode cX8_codeAt 31 = .ok (.iload_n 2, 1) := by decide +kernel
theorem dX8_codeAt_32 : decode cX8_codeAt 32 = .ok (.aload_n 0, 1) := by decide +kernel
theorem dX8_codeAt_33 : decode cX8_codeAt 33 = .ok (.getfield 7, 3) := by decide +kernel
theorem dX8_codeAt_36 : decode cX8_codeAt 36 = .ok (.iconst 0, 1) := by decide +kernel
theorem dX8_codeAt_37 : decode cX8_codeAt 37 = .ok (.iaload, 1) := by decide +kernel
theorem dX8_codeAt_38 : decode cX8_codeAt 38 = .ok (.iload_n 3, 1) := by decide +kernel
theorem dX8_codeAt_39 : decode cX8_codeAt 39 = .ok (.isub, 1) := by decide +kernel
theorem dX8_codeAt_40 : decode cX8_codeAt 40 = .ok (.idiv, 1) := by decide +kernel
theorem dX8_codeAt_41 : decode cX8_codeAt 41 = .ok (.istore_n 2, 1) := by decide +kernel
theorem dX8_codeAt_42 : decode cX8_codeAt 42 = .ok (.iinc 3 (-1), 3) := by decide +kernel
theorem dX8_codeAt_45 : decode cX8_codeAt 45 = .ok (.goto (-34), 3) := by decide +kernel
theorem dX8_codeAt_48 : decode cX8_codeAt 48 = .ok (.aload_n 0, 1) := by decide +kernel
theorem dX8_codeAt_49 : decode cX8_codeAt 49 = .ok (.getfield 7, 3) := by decide +kernel
theorem dX8_codeAt_52 : decode cX8_codeAt 52 = .ok (.iconst 0, 1) := by decide +kernel
theorem dX8_codeAt_53 : decode cX8_codeAt 53 = .ok (.iaload, 1) := by decide +kernel
theorem dX8_codeAt_54 : decode cX8_codeAt 54 = .ok (.iconst 2, 1) := by decide +kernel
theorem dX8_codeAt_55 : decode cX8_codeAt 55 = .ok (.isub, 1) := by decide +kernel
theorem dX8_codeAt_56 : decode cX8_codeAt 56 = .ok (.istore_n 3, 1) := by decide +kernel
theorem dX8_codeAt_57 : decode cX8_codeAt 57 = .ok (.iload_n 3, 1) := by decide +kernel
theorem dX8_codeAt_58 : decode cX8_codeAt 58 = .ok (.ifCond .lt 62, 3) := by decide +kernel
theorem dX8_codeAt_61 : decode cX8_codeAt 61 = .ok (.iload_n 3, 1) := by decide +kernel
theorem dX8_codeAt_62 : decode cX8_codeAt 62 = .ok (.iconst 1, 1) := by decide +kernel
theorem dX8_codeAt_63 : decode cX8_codeAt 63 = .ok (.iadd, 1) := by decide +kernel
theorem dX8_codeAt_64 : decode cX8_codeAt 64 = .ok (.istore 4, 2) := by decide +kernel
theorem dX8_codeAt_66 : decode cX8_codeAt 66 = .ok (.iload 4, 2) := by decide +kernel
theorem dX8_codeAt_68 : decode cX8_codeAt 68 = .ok (.aload_n 0, 1) := by decide +kernel
theorem dX8_codeAt_69 : decode cX8_codeAt 69 = .ok (.getfield 7, 3) := by decide +kernel
theorem dX8_codeAt_72 : decode cX8_codeAt 72 = .ok (.iconst 0, 1) := by decide +kernel
theorem dX8_codeAt_73 : decode cX8_codeAt 73 = .ok (.iaload, 1) := by decide +kernel
theorem dX8_codeAt_74 : decode cX8_codeAt 74 = .ok (.if_icmp .ge 40, 3) := by decide +kernel
theorem dX8_codeAt_77 : decode cX8_codeAt 77 = .ok (.aload_n 0, 1) := by decide +kernel
theorem dX8_codeAt_78 : decode cX8_codeAt 78 = .ok (.getfield 22, 3) := by decide +kernel
theorem dX8_codeAt_81 : decode cX8_codeAt 81 = .ok (.iload 4, 2) := by decide +kernel
theorem dX8_codeAt_83 : decode cX8_codeAt 83 = .ok (.dup2, 1) := by decide +kernel
theorem dX8_codeAt_84 : decode cX8_codeAt 84 = .ok (.iaload, 1) := by decide +kernel
theorem dX8_codeAt_85 : decode cX8_codeAt 85 = .ok (.aload_n 0, 1) := by decide +kernel
theorem dX8_codeAt_86 : decode cX8_codeAt 86 = .ok (.getfield 22, 3) := by decide +kernel
theorem dX8_codeAt_89 : decode cX8_codeAt 89 = .ok (.iload 4, 2) := by decide +kernel
theorem dX8_codeAt_91 : decode cX8_codeAt 91 = .ok (.iaload, 1) := by decide +kernel
theorem dX8_codeAt_92 : decode cX8_codeAt 92 = .ok (.aload_n 0, 1) := by decide +kernel
theorem dX8_codeAt_93 : decode cX8_codeAt 93 = .ok (.getfield 22, 3) := by decide +kernel
theorem dX8_codeAt_96 : decode cX8_codeAt 96 = .ok (.iload_n 3, 1) := by decide +kernel
theorem dX8_codeAt_97 : decode cX8_codeAt 97 = .ok (.iaload, 1) := by decide +kernel
theorem dX8_codeAt_98 : decode cX8_codeAt 98 = .ok (.if_icmp .lt 7, 3) := by decide +kernel
theorem dX8_codeAt_101 : decode cX8_codeAt 101 = .ok (.iconst 1, 1) := by decide +kernel
theorem dX8_codeAt_102 : decode cX8_codeAt 102 = .ok (.goto 4, 3) := by decide +kernel
theorem dX8_codeAt_105 : decode cX8_codeAt 105 = .ok (.iconst 0, 1) := by decide +kernel
theorem dX8_codeAt_106 : decode cX8_codeAt 106 = .ok (.iadd, 1) := by decide +kernel
theorem dX8_codeAt_107 : decode cX8_codeAt 107 = .ok (.iastore, 1) := by decide +kernel
theorem dX8_codeAt_108 : decode cX8_codeAt 108 = .ok (.iinc 4 1, 3) := by decide +kernel
theorem dX8_codeAt_111 : decode cX8_codeAt 111 = .ok (.goto (-45), 3) := by decide +kernel
theorem dX8_codeAt_114 : decode cX8_codeAt 114 = .ok (.iinc 3 (-1), 3) := by decide +kernel
theorem dX8_codeAt_117 : decode cX8_codeAt 117 = .ok (.goto (-60), 3) := by decide +kernel
theorem dX8_codeAt_120 : decode cX8_codeAt 120 = .ok (.iconst 0, 1) := by decide +kernel
theorem dX8_codeAt_121 : decode cX8_codeAt 121 = .ok (.istore_n 3, 1) := by decide +kernel
theorem dX8_codeAt_122 : decode cX8_codeAt 122 = .ok (.iconst 0, 1) := by decide +kernel
theorem dX8_codeAt_123 : decode cX8_codeAt 123 = .ok (.istore 4, 2) := by decide +kernel
theorem dX8_codeAt_125 : decode cX8_codeAt 125 = .ok (.iload 4, 2) := by decide +kernel
theorem dX8_codeAt_127 : decode cX8_codeAt 127 = .ok (.aload_n 0, 1) := by decide +kernel
theorem dX8_codeAt_128 : decode cX8_codeAt 128 = .ok (.getfield 7, 3) := by decide +kernel
theorem dX8_codeAt_131 : decode cX8_codeAt 131 = .ok (.iconst 0, 1) := by decide +kernel
theorem dX8_codeAt_132 : decode cX8_codeAt 132 = .ok (.iaload, 1) := by decide +kernel
theorem dX8_codeAt_133 : decode cX8_codeAt 133 = .ok (.if_icmp .ge 22, 3) := by decide +kernel
theorem dX8_codeAt_136 : decode cX8_codeAt 136 = .ok (.bipush 10, 2) := by decide +kernel
theorem dX8_codeAt_138 : decode cX8_codeAt 138 = .ok (.iload_n 3, 1) := by decide +kernel
theorem dX8_codeAt_139 : decode cX8_codeAt 139 = .ok (.imul, 1) := by decide +kernel
theorem dX8_codeAt_140 : decode cX8_codeAt 140 = .ok (.aload_n 0, 1) := by decide +kernel
theorem dX8_codeAt_141 : decode cX8_codeAt 141 = .ok (.getfield 22, 3) := by decide +kernel
theorem dX8_codeAt_144 : decode cX8_codeAt 144 = .ok (.iload 4, 2) := by decide +kernel
theorem dX8_codeAt_146 : decode cX8_codeAt 146 = .ok (.iaload, 1) := by decide +kernel
theorem dX8_codeAt_147 : decode cX8_codeAt 147 = .ok (.iadd, 1) := by decide +kernel
theorem dX8_codeAt_148 : decode cX8_codeAt 148 = .ok (.istore_n 3, 1) := by decide +kernel
theorem dX8_codeAt_149 : decode cX8_codeAt 149 = .ok (.iinc 4 1, 3) := by decide +kernel
theorem dX8_codeAt_152 : decode cX8_codeAt 152 = .ok (.goto (-27), 3) := by decide +kernel
theorem dX8_codeAt_155 : decode cX8_codeAt 155 = .ok (.iload_n 3, 1) := by decide +kernel
theorem dX8_codeAt_156 : decode cX8_codeAt 156 = .ok (.ireturn, 1) := by decide +kernel
theorem dX8_doPoints_0 : decode cX8_doPoints 0 = .ok (.iload_n 1, 1) := by decide +kernel
theorem dX8_doPoints_1 : decode cX8_doPoints 1 = .ok (.iconst 1, 1) := by decide +kernel
theorem dX8_doPoints_2 : decode cX8_doPoints 2 = .ok (.bipush 8, 2) := by decide +kernel
theorem dX8_doPoints_4 : decode cX8_doPoints 4 = .ok (.invokestatic 84, 3) := by decide +kernel
theorem dX8_doPoints_7 : decode cX8_doPoints 7 = .ok (.ifCond .ne 6, 3) := by decide +kernel
theorem dX8_doPoints_10 : decode cX8_doPoints 10 = .ok (.bipush (-2), 2) := by decide +kernel
theorem dX8_doPoints_12 : decode cX8_doPoints 12 = .ok (.ireturn, 1) := by decide +kernel
theorem dX8_doPoints_13 : decode cX8_doPoints 13 = .ok (.aload_n 0, 1) := by decide +kernel
theorem dX8_doPoints_14 : decode cX8_doPoints 14 = .ok (.getfield 7, 3) := by decide +kernel
theorem dX8_doPoints_17 : decode cX8_doPoints 17 = .ok (.iconst 0, 1) := by decide +kernel
theorem dX8_doPoints_18 : decode cX8_doPoints 18 = .ok (.iaload, 1) := by decide +kernel
theorem dX8_doPoints_19 : decode cX8_doPoints 19 = .ok (.istore_n 2, 1) := by decide +kernel
theorem dX8_doPoints_20 : decode cX8_doPoints 20 = .ok (.aload_n 0, 1) := by decide +kernel
theorem dX8_doPoints_21 : decode cX8_doPoints 21 = .ok (.getfield 7, 3) := by decide +kernel
theorem dX8_doPoints_24 : decode cX8_doPoints 24 = .ok (.iconst 0, 1) := by decide +kernel
theorem dX8_doPoints_25 : decode cX8_doPoints 25 = .ok (.iload_n 1, 1) := by decide +kernel
theorem dX8_doPoints_26 : decode cX8_doPoints 26 = .ok (.iastore, 1) := by decide +kernel
theorem dX8_doPoints_27 : decode cX8_doPoints 27 = .ok (.aload_n 0, 1) := by decide +kernel
theorem dX8_doPoints_28 : decode cX8_doPoints 28 = .ok (.getfield 7, 3) := by decide +kernel
theorem dX8_doPoints_31 : decode cX8_doPoints 31 = .ok (.iconst 1, 1) := by decide +kernel
theorem dX8_doPoints_32 : decode cX8_doPoints 32 = .ok (.iconst 0, 1) := by decide +kernel
theorem dX8_doPoints_33 : decode cX8_doPoints 33 = .ok (.iastore, 1) := by decide +kernel
theorem dX8_doPoints_34 : decode cX8_doPoints 34 = .ok (.aload_n 0, 1) := by decide +kernel
theorem dX8_doPoints_35 : decode cX8_doPoints 35 = .ok (.iconst 0, 1) := by decide +kernel
theorem dX8_doPoints_36 : decode cX8_doPoints 36 = .ok (.putfield 77, 3) := by decide +kernel
theorem dX8_doPoints_39 : decode cX8_doPoints 39 = .ok (.aload_n 0, 1) := by decide +kernel
theorem dX8_doPoints_40 : decode cX8_doPoints 40 = .ok (.iconst 0, 1) := by decide +kernel
theorem dX8_doPoints_41 : decode cX8_doPoints 41 = .ok (.putfield 81, 3) := by decide +kernel
theorem dX8_doPoints_44 : decode cX8_doPoints 44 = .ok (.iload_n 2, 1) := by decide +kernel
theorem dX8_doPoints_45 : decode cX8_doPoints 45 = .ok (.ireturn, 1) := by decide +kernel
theorem dX8_doMoves_0 : decode cX8_doMoves 0 = .ok (.aload_n 0, 1) := by decide +kernel
theorem dX8_doMoves_1 : decode cX8_doMoves 1 = .ok (.iload_n 1, 1) := by decide +kernel
theorem dX8_doMoves_2 : decode cX8_doMoves 2 = .ok (.invokevirtual 92, 3) := by decide +kernel
theorem dX8_doMoves_5 : decode cX8_doMoves 5 = .ok (.ifCond .ne 6, 3) := by decide +kernel
theorem dX8_doMoves_8 : decode cX8_doMoves 8 = .ok (.bipush (-2), 2) := by decide +kernel
theorem dX8_doMoves_10 : decode cX8_doMoves 10 = .ok (.ireturn, 1) := by decide +kernel
theorem dX8_doMoves_11 : decode cX8_doMoves 11 = .ok (.aload_n 0, 1) := by decide +kernel
theorem dX8_doMoves_12 : decode cX8_doMoves 12 = .ok (.getfield 7, 3) := by decide +kernel
theorem dX8_doMoves_15 : decode cX8_doMoves 15 = .ok (.iconst 1, 1) := by decide +kernel
theorem dX8_doMoves_16 : decode cX8_doMoves 16 = .ok (.iaload, 1) := by decide +kernel
theorem dX8_doMoves_17 : decode cX8_doMoves 17 = .ok (.iconst 3, 1) := by decide +kernel
theorem dX8_doMoves_18 : decode cX8_doMoves 18 = .ok (.if_icmp .ne 6, 3) := by decide +kernel
theorem dX8_doMoves_21 : decode cX8_doMoves 21 = .ok (.bipush (-4), 2) := by decide +kernel
theorem dX8_doMoves_23 : decode cX8_doMoves 23 = .ok (.ireturn, 1) := by decide +kernel
theorem dX8_doMoves_24 : decode cX8_doMoves 24 = .ok (.aload_n 0, 1) := by decide +kernel
theorem dX8_doMoves_25 : decode cX8_doMoves 25 = .ok (.getfield 7, 3) := by decide +kernel
theorem dX8_doMoves_28 : decode cX8_doMoves 28 = .ok (.iconst 2, 1) := by decide +kernel
theorem dX8_doMoves_29 : decode cX8_doMoves 29 = .ok (.aload_n 0, 1) := by decide +kernel
theorem dX8_doMoves_30 : decode cX8_doMoves 30 = .ok (.getfield 7, 3) := by decide +kernel
theorem dX8_doMoves_33 : decode cX8_doMoves 33 = .ok (.iconst 1, 1) := by decide +kernel
theorem dX8_doMoves_34 : decode cX8_doMoves 34 = .ok (.iaload, 1) := by decide +kernel
theorem dX8_doMoves_35 : decode cX8_doMoves 35 = .ok (.iadd, 1) := by decide +kernel
theorem dX8_doMoves_36 : decode cX8_doMoves 36 = .ok (.iload_n 1, 1) := by decide +kernel
theorem dX8_doMoves_37 : decode cX8_doMoves 37 = .ok (.iastore, 1) := by decide +kernel
theorem dX8_doMoves_38 : decode cX8_doMoves 38 = .ok (.aload_n 0, 1) := by decide +kernel
theorem dX8_doMoves_39 : decode cX8_doMoves 39 = .ok (.getfield 7, 3) := by decide +kernel
theorem dX8_doMoves_42 : decode cX8_doMoves 42 = .ok (.iconst 1, 1) := by decide +kernel
theorem dX8_doMoves_43 : decode cX8_doMoves 43 = .ok (.dup2, 1) := by decide +kernel
theorem dX8_doMoves_44 : decode cX8_doMoves 44 = .ok (.iaload, 1) := by decide +kernel
theorem dX8_doMoves_45 : decode cX8_doMoves 45 = .ok (.iconst 1, 1) := by decide +kernel
theorem dX8_doMoves_46 : decode cX8_doMoves 46 = .ok (.iadd, 1) := by decide +kernel
theorem dX8_doMoves_47 : decode cX8_doMoves 47 = .ok (.iastore, 1) := by decide +kernel
theorem dX8_doMoves_48 : decode cX8_doMoves 48 = .ok (.aload_n 0, 1) := by decide +kernel
theorem dX8_doMoves_49 : decode cX8_doMoves 49 = .ok (.iconst 0, 1) := by decide +kernel
theorem dX8_doMoves_50 : decode cX8_doMoves 50 = .ok (.putfield 77, 3) := by decide +kernel
theorem dX8_doMoves_53 : decode cX8_doMoves 53 = .ok (.aload_n 0, 1) := by decide +kernel
theorem dX8_doMoves_54 : decode cX8_doMoves 54 = .ok (.iconst 0, 1) := by decide +kernel
theorem dX8_doMoves_55 : decode cX8_doMoves 55 = .ok (.putfield 81, 3) := by decide +kernel
theorem dX8_doMoves_58 : decode cX8_doMoves 58 = .ok (.aload_n 0, 1) := by decide +kernel
theorem dX8_doMoves_59 : decode cX8_doMoves 59 = .ok (.getfield 7, 3) := by decide +kernel
theorem dX8_doMoves_62 : decode cX8_doMoves 62 = .ok (.iconst 1, 1) := by decide +kernel
theorem dX8_doMoves_63 : decode cX8_doMoves 63 = .ok (.iaload, 1) := by decide +kernel
theorem dX8_doMoves_64 : decode cX8_doMoves 64 = .ok (.iconst 1, 1) := by decide +kernel
theorem dX8_doMoves_65 : decode cX8_doMoves 65 = .ok (.isub, 1) := by decide +kernel
theorem dX8_doMoves_66 : decode cX8_doMoves 66 = .ok (.ireturn, 1) := by decide +kernel
theorem dX8_doDrops_0 : decode cX8_doDrops 0 = .ok (.iload_n 1, 1) := by decide +kernel
theorem dX8_doDrops_1 : decode cX8_doDrops 1 = .ok (.iconst 0, 1) := by decide +kernel
theorem dX8_doDrops_2 : decode cX8_doDrops 2 = .ok (.aload_n 0, 1) := by decide +kernel
theorem dX8_doDrops_3 : decode cX8_doDrops 3 = .ok (.getfield 7, 3) := by decide +kernel
theorem dX8_doDrops_6 : decode cX8_doDrops 6 = .ok (.iconst 1, 1) := by decide +kernel
theorem dX8_doDrops_7 : decode cX8_doDrops 7 = .ok (.iaload, 1) := by decide +kernel
theorem dX8_doDrops_8 : decode cX8_doDrops 8 = .ok (.iconst 1, 1) := by decide +kernel
theorem dX8_doDrops_9 : decode cX8_doDrops 9 = .ok (.isub, 1) := by decide +kernel
theorem dX8_doDrops_10 : decode cX8_doDrops 10 = .ok (.invokestatic 84, 3) := by decide +kernel
theorem dX8_doDrops_13 : decode cX8_doDrops 13 = .ok (.ifCond .ne 6, 3) := by decide +kernel
theorem dX8_doDrops_16 : decode cX8_doDrops 16 = .ok (.bipush (-2), 2) := by decide +kernel
theorem dX8_doDrops_18 : decode cX8_doDrops 18 = .ok (.ireturn, 1) := by decide +kernel
theorem dX8_doDrops_19 : decode cX8_doDrops 19 = .ok (.aload_n 0, 1) := by decide +kernel
theorem dX8_doDrops_20 : decode cX8_doDrops 20 = .ok (.getfield 7, 3) := by decide +kernel
theorem dX8_doDrops_23 : decode cX8_doDrops 23 = .ok (.iconst 1, 1) := by decide +kernel
theorem dX8_doDrops_24 : decode cX8_doDrops 24 = .ok (.dup2, 1) := by decide +kernel
theorem dX8_doDrops_25 : decode cX8_doDrops 25 = .ok (.iaload, 1) := by decide +kernel
theorem dX8_doDrops_26 : decode cX8_doDrops 26 = .ok (.iconst 1, 1) := by decide +kernel
theorem dX8_doDrops_27 : decode cX8_doDrops 27 = .ok (.isub, 1) := by decide +kernel
theorem dX8_doDrops_28 : decode cX8_doDrops 28 = .ok (.iastore, 1) := by decide +kernel
theorem dX8_doDrops_29 : decode cX8_doDrops 29 = .ok (.iload_n 1, 1) := by decide +kernel
theorem dX8_doDrops_30 : decode cX8_doDrops 30 = .ok (.istore_n 2, 1) := by decide +kernel
theorem dX8_doDrops_31 : decode cX8_doDrops 31 = .ok (.iload_n 2, 1) := by decide +kernel
theorem dX8_doDrops_32 : decode cX8_doDrops 32 = .ok (.aload_n 0, 1) := by decide +kernel
theorem dX8_doDrops_33 : decode cX8_doDrops 33 = .ok (.getfield 7, 3) := by decide +kernel
theorem dX8_doDrops_36 : decode cX8_doDrops 36 = .ok (.iconst 1, 1) := by decide +kernel
theorem dX8_doDrops_37 : decode cX8_doDrops 37 = .ok (.iaload, 1) := by decide +kernel
theorem dX8_doDrops_38 : decode cX8_doDrops 38 = .ok (.if_icmp .ge 25, 3) := by decide +kernel
theorem dX8_doDrops_41 : decode cX8_doDrops 41 = .ok (.aload_n 0, 1) := by decide +kernel
theorem dX8_doDrops_42 : decode cX8_doDrops 42 = .ok (.getfield 7, 3) := by decide +kernel
theorem dX8_doDrops_45 : decode cX8_doDrops 45 = .ok (.iconst 2, 1) := by decide +kernel
theorem dX8_doDrops_46 : decode cX8_doDrops 46 = .ok (.iload_n 2, 1) := by decide +kernel
theorem dX8_doDrops_47 : decode cX8_doDrops 47 = .ok (.iadd, 1) := by decide +kernel
theorem dX8_doDrops_48 : decode cX8_doDrops 48 = .ok (.aload_n 0, 1) := by decide +kernel
theorem dX8_doDrops_49 : decode cX8_doDrops 49 = .ok (.getfield 7, 3) := by decide +kernel
theorem dX8_doDrops_52 : decode cX8_doDrops 52 = .ok (.iconst 3, 1) := by decide +kernel
theorem dX8_doDrops_53 : decode cX8_doDrops 53 = .ok (.iload_n 2, 1) := by decide +kernel
theorem dX8_doDrops_54 : decode cX8_doDrops 54 = .ok (.iadd, 1) := by decide +kernel
theorem dX8_doDrops_55 : decode cX8_doDrops 55 = .ok (.iaload, 1) := by decide +kernel
theorem dX8_doDrops_56 : decode cX8_doDrops 56 = .ok (.iastore, 1) := by decide +kernel
theorem dX8_doDrops_57 : decode cX8_doDrops 57 = .ok (.iinc 2 1, 3) := by decide +kernel
theorem dX8_doDrops_60 : decode cX8_doDrops 60 = .ok (.goto (-29), 3) := by decide +kernel
theorem dX8_doDrops_63 : decode cX8_doDrops 63 = .ok (.aload_n 0, 1) := by decide +kernel
theorem dX8_doDrops_64 : decode cX8_doDrops 64 = .ok (.iconst 0, 1) := by decide +kernel
theorem dX8_doDrops_65 : decode cX8_doDrops 65 = .ok (.putfield 77, 3) := by decide +kernel
theorem dX8_doDrops_68 : decode cX8_doDrops 68 = .ok (.aload_n 0, 1) := by decide +kernel
theorem dX8_doDrops_69 : decode cX8_doDrops 69 = .ok (.iconst 0, 1) := by decide +kernel
theorem dX8_doDrops_70 : decode cX8_doDrops 70 = .ok (.putfield 81, 3) := by decide +kernel
theorem dX8_doDrops_73 : decode cX8_doDrops 73 = .ok (.aload_n 0, 1) := by decide +kernel
theorem dX8_doDrops_74 : decode cX8_doDrops 74 = .ok (.getfield 7, 3) := by decide +kernel
theorem dX8_doDrops_77 : decode cX8_doDrops 77 = .ok (.iconst 1, 1) := by decide +kernel
theorem dX8_doDrops_78 : decode cX8_doDrops 78 = .ok (.iaload, 1) := by decide +kernel
theorem dX8_doDrops_79 : decode cX8_doDrops 79 = .ok (.ireturn, 1) := by decide +kernel
theorem dX8_points_0 : decode cX8_points 0 = .ok (.aload_n 0, 1) := by decide +kernel
theorem dX8_points_1 : decode cX8_points 1 = .ok (.invokevirtual 96, 3) := by decide +kernel
theorem dX8_points_4 : decode cX8_points 4 = .ok (.aload_n 0, 1) := by decide +kernel
theorem dX8_points_5 : decode cX8_points 5 = .ok (.aload_n 0, 1) := by decide +kernel
theorem dX8_points_6 : decode cX8_points 6 = .ok (.iload_n 1, 1) := by decide +kernel
theorem dX8_points_7 : decode cX8_points 7 = .ok (.invokevirtual 99, 3) := by decide +kernel
theorem dX8_points_10 : decode cX8_points 10 = .ok (.invokevirtual 102, 3) := by decide +kernel
theorem dX8_points_13 : decode cX8_points 13 = .ok (.ireturn, 1) := by decide +kernel
theorem dX8_moves_0 : decode cX8_moves 0 = .ok (.aload_n 0, 1) := by decide +kernel
theorem dX8_moves_1 : decode cX8_moves 1 = .ok (.invokevirtual 96, 3) := by decide +kernel
theorem dX8_moves_4 : decode cX8_moves 4 = .ok (.aload_n 0, 1) := by decide +kernel
theorem dX8_moves_5 : decode cX8_moves 5 = .ok (.aload_n 0, 1) := by decide +kernel
theorem dX8_moves_6 : decode cX8_moves 6 = .ok (.iload_n 1, 1) := by decide +kernel
theorem dX8_moves_7 : decode cX8_moves 7 = .ok (.invokevirtual 105, 3) := by decide +kernel
theorem dX8_moves_10 : decode cX8_moves 10 = .ok (.invokevirtual 102, 3) := by decide +kernel
theorem dX8_moves_13 : decode cX8_moves 13 = .ok (.ireturn, 1) := by decide +kernel
theorem dX8_drops_0 : decode cX8_drops 0 = .ok (.aload_n 0, 1) := by decide +kernel
theorem dX8_drops_1 : decode cX8_drops 1 = .ok (.invokevirtual 96, 3) := by decide +kernel
theorem dX8_drops_4 : decode cX8_drops 4 = .ok (.aload_n 0, 1) := by decide +kernel
theorem dX8_drops_5 : decode cX8_drops 5 = .ok (.aload_n 0, 1) := by decide +kernel
theorem dX8_drops_6 : decode cX8_drops 6 = .ok (.iload_n 1, 1) := by decide +kernel
theorem dX8_drops_7 : decode cX8_drops 7 = .ok (.invokevirtual 108, 3) := by decide +kernel
theorem dX8_drops_10 : decode cX8_drops 10 = .ok (.invokevirtual 102, 3) := by decide +kernel
theorem dX8_drops_13 : decode cX8_drops 13 = .ok (.ireturn, 1) := by decide +kernel
theorem dX8_mark_0 : decode cX8_mark 0 = .ok (.aload_n 0, 1) := by decide +kernel
theorem dX8_mark_1 : decode cX8_mark 1 = .ok (.getfield 26, 3) := by decide +kernel
theorem dX8_mark_4 : decode cX8_mark 4 = .ok (.iload_n 1, 1) := by decide +kernel
theorem dX8_mark_5 : decode cX8_mark 5 = .ok (.baload, 1) := by decide +kernel
theorem dX8_mark_6 : decode cX8_mark 6 = .ok (.ifCond .ne 30, 3) := by decide +kernel
theorem dX8_mark_9 : decode cX8_mark 9 = .ok (.aload_n 0, 1) := by decide +kernel
theorem dX8_mark_10 : decode cX8_mark 10 = .ok (.getfield 26, 3) := by decide +kernel
theorem dX8_mark_13 : decode cX8_mark 13 = .ok (.iload_n 1, 1) := by decide +kernel
theorem dX8_mark_14 : decode cX8_mark 14 = .ok (.iconst 1, 1) := by decide +kernel
theorem dX8_mark_15 : decode cX8_mark 15 = .ok (.bastore, 1) := by decide +kernel
theorem dX8_mark_16 : decode cX8_mark 16 = .ok (.aload_n 0, 1) := by decide +kernel
theorem dX8_mark_17 : decode cX8_mark 17 = .ok (.getfield 30, 3) := by decide +kernel
theorem dX8_mark_20 : decode cX8_mark 20 = .ok (.aload_n 0, 1) := by decide +kernel
theorem dX8_mark_21 : decode cX8_mark 21 = .ok (.getfield 111, 3) := by decide +kernel
theorem dX8_mark_24 : decode cX8_mark 24 = .ok (.iload_n 1, 1) := by decide +kernel
theorem dX8_mark_25 : decode cX8_mark 25 = .ok (.iastore, 1) := by decide +kernel
theorem dX8_mark_26 : decode cX8_mark 26 = .ok (.aload_n 0, 1) := by decide +kernel
theorem dX8_mark_27 : decode cX8_mark 27 = .ok (.dup, 1) := by decide +kernel
theorem dX8_mark_28 : decode cX8_mark 28 = .ok (.getfield 111, 3) := by decide +kernel
theorem dX8_mark_31 : decode cX8_mark 31 = .ok (.iconst 1, 1) := by decide +kernel
theorem dX8_mark_32 : decode cX8_mark 32 = .ok (.iadd, 1) := by decide +kernel
theorem dX8_mark_33 : decode cX8_mark 33 = .ok (.putfield 111, 3) := by decide +kernel
theorem dX8_mark_36 : decode cX8_mark 36 = .ok (.return_, 1) := by decide +kernel
theorem dX8_sortMade_0 : decode cX8_sortMade 0 = .ok (.iconst 0, 1) := by decide +kernel
theorem dX8_sortMade_1 : decode cX8_sortMade 1 = .ok (.istore_n 1, 1) := by decide +kernel
theorem dX8_sortMade_2 : decode cX8_sortMade 2 = .ok (.iconst 0, 1) := by decide +kernel
theorem dX8_sortMade_3 : decode cX8_sortMade 3 = .ok (.istore_n 2, 1) := by decide +kernel
theorem dX8_sortMade_4 : decode cX8_sortMade 4 = .ok (.iload_n 2, 1) := by decide +kernel
theorem dX8_sortMade_5 : decode cX8_sortMade 5 = .ok (.ldc 25, 2) := by decide +kernel
theorem dX8_sortMade_7 : decode cX8_sortMade 7 = .ok (.if_icmp .ge 28, 3) := by decide +kernel
theorem dX8_sortMade_10 : decode cX8_sortMade 10 = .ok (.aload_n 0, 1) := by decide +kernel
theorem dX8_sortMade_11 : decode cX8_sortMade 11 = .ok (.getfield 26, 3) := by decide +kernel
theorem dX8_sortMade_14 : decode cX8_sortMade 14 = .ok (.iload_n 2, 1) := by decide +kernel
theorem dX8_sortMade_15 : decode cX8_sortMade 15 = .ok (.baload, 1) := by decide +kernel
theorem dX8_sortMade_16 : decode cX8_sortMade 16 = .ok (.ifCond .eq 13, 3) := by decide +kernel
theorem dX8_sortMade_19 : decode cX8_sortMade 19 = .ok (.aload_n 0, 1) := by decide +kernel
theorem dX8_sortMade_20 : decode cX8_sortMade 20 = .ok (.getfield 30, 3) := by decide +kernel
theorem dX8_sortMade_23 : decode cX8_sortMade 23 = .ok (.iload_n 1, 1) := by decide +kernel
theorem dX8_sortMade_24 : decode cX8_sortMade 24 = .ok (.iload_n 2, 1) := by decide +kernel
theorem dX8_sortMade_25 : decode cX8_sortMade 25 = .ok (.iastore, 1) := by decide +kernel
theorem dX8_sortMade_26 : decode cX8_sortMade 26 = .ok (.iinc 1 1, 3) := by decide +kernel
theorem dX8_sortMade_29 : decode cX8_sortMade 29 = .ok (.iinc 2 1, 3) := by decide +kernel
theorem dX8_sortMade_32 : decode cX8_sortMade 32 = .ok (.goto (-28), 3) := by decide +kernel
theorem dX8_sortMade_35 : decode cX8_sortMade 35 = .ok (.return_, 1) := by decide +kernel
theorem dX8_findChains_0 : decode cX8_findChains 0 = .ok (.iconst 0, 1) := by decide +kernel
theorem dX8_findChains_1 : decode cX8_findChains 1 = .ok (.istore_n 1, 1) := by decide +kernel
theorem dX8_findChains_2 : decode cX8_findChains 2 = .ok (.iload_n 1, 1) := by decide +kernel
theorem dX8_findChains_3 : decode cX8_findChains 3 = .ok (.bipush 8, 2) := by decide +kernel
theorem dX8_findChains_5 : decode cX8_findChains 5 = .ok (.if_icmp .ge 23, 3) := by decide +kernel
theorem dX8_findChains_8 : decode cX8_findChains 8 = .ok (.aload_n 0, 1) := by decide +kernel
theorem dX8_findChains_9 : decode cX8_findChains 9 = .ok (.getfield 36, 3) := by decide +kernel
theorem dX8_findChains_12 : decode cX8_findChains 12 = .ok (.iload_n 1, 1) := by decide +kernel
theorem dX8_findChains_13 : decode cX8_findChains 13 = .ok (.iconst 0, 1) := by decide +kernel
theorem dX8_findChains_14 : decode cX8_findChains 14 = .ok (.iastore, 1) := by decide +kernel
theorem dX8_findChains_15 : decode cX8_findChains 15 = .ok (.aload_n 0, 1) := by decide +kernel
theorem dX8_findChains_16 : decode cX8_findChains 16 = .ok (.getfield 39, 3) := by decide +kernel
theorem dX8_findChains_19 : decode cX8_findChains 19 = .ok (.iload_n 1, 1) := by decide +kernel
theorem dX8_findChains_20 : decode cX8_findChains 20 = .ok (.iconst 0, 1) := by decide +kernel
theorem dX8_findChains_21 : decode cX8_findChains 21 = .ok (.iastore, 1) := by decide +kernel
theorem dX8_findChains_22 : decode cX8_findChains 22 = .ok (.iinc 1 1, 3) := by decide +kernel
theorem dX8_findChains_25 : decode cX8_findChains 25 = .ok (.goto (-23), 3) := by decide +kernel
theorem dX8_findChains_28 : decode cX8_findChains 28 = .ok (.iconst 0, 1) := by decide +kernel
theorem dX8_findChains_29 : decode cX8_findChains 29 = .ok (.istore_n 1, 1) := by decide +kernel
theorem dX8_findChains_30 : decode cX8_findChains 30 = .ok (.iload_n 1, 1) := by decide +kernel
theorem dX8_findChains_31 : decode cX8_findChains 31 = .ok (.aload_n 0, 1) := by decide +kernel
theorem dX8_findChains_32 : decode cX8_findChains 32 = .ok (.getfield 111, 3) := by decide +kernel
theorem dX8_findChains_35 : decode cX8_findChains 35 = .ok (.if_icmp .ge 102, 3) := by decide +kernel
theorem dX8_findChains_38 : decode cX8_findChains 38 = .ok (.aload_n 0, 1) := by decide +kernel
theorem dX8_findChains_39 : decode cX8_findChains 39 = .ok (.aload_n 0, 1) := by decide +kernel
theorem dX8_findChains_40 : decode cX8_findChains 40 = .ok (.getfield 30, 3) := by decide +kernel
theorem dX8_findChains_43 : decode cX8_findChains 43 = .ok (.iload_n 1, 1) := by decide +kernel
theorem dX8_findChains_44 : decode cX8_findChains 44 = .ok (.iaload, 1) := by decide +kernel
theorem dX8_findChains_45 : decode cX8_findChains 45 = .ok (.invokevirtual 117, 3) := by decide +kernel
theorem dX8_findChains_48 : decode cX8_findChains 48 = .ok (.pop, 1) := by decide +kernel
theorem dX8_findChains_49 : decode cX8_findChains 49 = .ok (.iconst 1, 1) := by decide +kernel
theorem dX8_findChains_50 : decode cX8_findChains 50 = .ok (.istore_n 2, 1) := by decide +kernel
theorem dX8_findChains_51 : decode cX8_findChains 51 = .ok (.iconst 0, 1) := by decide +kernel
theorem dX8_findChains_52 : decode cX8_findChains 52 = .ok (.istore_n 3, 1) := by decide +kernel
theorem dX8_findChains_53 : decode cX8_findChains 53 = .ok (.iload_n 3, 1) := by decide +kernel
theorem dX8_findChains_54 : decode cX8_findChains 54 = .ok (.aload_n 0, 1) := by decide +kernel
theorem dX8_findChains_55 : decode cX8_findChains 55 = .ok (.getfield 7, 3) := by decide +kernel
theorem dX8_findChains_58 : decode cX8_findChains 58 = .ok (.iconst 0, 1) := by decide +kernel
theorem dX8_findChains_59 : decode cX8_findChains 59 = .ok (.iaload, 1) := by decide +kernel
theorem dX8_findChains_60 : decode cX8_findChains 60 = .ok (.if_icmp .ge 71, 3) := by decide +kernel
theorem dX8_findChains_63 : decode cX8_findChains 63 = .ok (.aload_n 0, 1) := by decide +kernel
theorem dX8_findChains_64 : decode cX8_findChains 64 = .ok (.getfield 36, 3) := by decide +kernel
theorem dX8_findChains_67 : decode cX8_findChains 67 = .ok (.iload_n 3, 1) := by decide +kernel
theorem dX8_findChains_68 : decode cX8_findChains 68 = .ok (.dup2, 1) := by decide +kernel
theorem dX8_findChains_69 : decode cX8_findChains 69 = .ok (.iaload, 1) := by decide +kernel
theorem dX8_findChains_70 : decode cX8_findChains 70 = .ok (.iconst 1, 1) := by decide +kernel
theorem dX8_findChains_71 : decode cX8_findChains 71 = .ok (.aload_n 0, 1) := by decide +kernel
theorem dX8_findChains_72 : decode cX8_findChains 72 = .ok (.getfield 22, 3) := by decide +kernel
theorem dX8_findChains_75 : decode cX8_findChains 75 = .ok (.iload_n 3, 1) := by decide +kernel
theorem dX8_findChains_76 : decode cX8_findChains 76 = .ok (.iaload, 1) := by decide +kernel
theorem dX8_findChains_77 : decode cX8_findChains 77 = .ok (.ishl, 1) := by decide +kernel
theorem dX8_findChains_78 : decode cX8_findChains 78 = .ok (.ior, 1) := by decide +kernel
theorem dX8_findChains_79 : decode cX8_findChains 79 = .ok (.iastore, 1) := by decide +kernel
theorem dX8_findChains_80 : decode cX8_findChains 80 = .ok (.aload_n 0, 1) := by decide +kernel
theorem dX8_findChains_81 : decode cX8_findChains 81 = .ok (.getfield 39, 3) := by decide +kernel
theorem dX8_findChains_84 : decode cX8_findChains 84 = .ok (.iload_n 3, 1) := by decide +kernel
theorem dX8_findChains_85 : decode cX8_findChains 85 = .ok (.dup2, 1) := by decide +kernel
theorem dX8_findChains_86 : decode cX8_findChains 86 = .ok (.iaload, 1) := by decide +kernel
theorem dX8_findChains_87 : decode cX8_findChains 87 = .ok (.iload_n 2, 1) := by decide +kernel
theorem dX8_findChains_88 : decode cX8_findChains 88 = .ok (.ifCond .eq 14, 3) := by decide +kernel
theorem dX8_findChains_91 : decode cX8_findChains 91 = .ok (.iconst 1, 1) := by decide +kernel
theorem dX8_findChains_92 : decode cX8_findChains 92 = .ok (.aload_n 0, 1) := by decide +kernel
theorem dX8_findChains_93 : decode cX8_findChains 93 = .ok (.getfield 22, 3) := by decide +kernel
theorem dX8_findChains_96 : decode cX8_findChains 96 = .ok (.iload_n 3, 1) := by decide +kernel
theorem dX8_findChains_97 : decode cX8_findChains 97 = .ok (.iaload, 1) := by decide +kernel
theorem dX8_findChains_98 : decode cX8_findChains 98 = .ok (.ishl, 1) := by decide +kernel
theorem dX8_findChains_99 : decode cX8_findChains 99 = .ok (.goto 4, 3) := by decide +kernel
theorem dX8_findChains_102 : decode cX8_findChains 102 = .ok (.iconst 0, 1) := by decide +kernel
theorem dX8_findChains_103 : decode cX8_findChains 103 = .ok (.ior, 1) := by decide +kernel
theorem dX8_findChains_104 : decode cX8_findChains 104 = .ok (.iastore, 1) := by decide +kernel
theorem dX8_findChains_105 : decode cX8_findChains 105 = .ok (.iload_n 2, 1) := by decide +kernel
theorem dX8_findChains_106 : decode cX8_findChains 106 = .ok (.ifCond .eq 17, 3) := by decide +kernel
theorem dX8_findChains_109 : decode cX8_findChains 109 = .ok (.aload_n 0, 1) := by decide +kernel
theorem dX8_findChains_110 : decode cX8_findChains 110 = .ok (.getfield 22, 3) := by decide +kernel
theorem dX8_findChains_113 : decode cX8_findChains 113 = .ok (.iload_n 3, 1) := by decide +kernel
theorem dX8_findChains_114 : decode cX8_findChains 114 = .ok (.iaload, 1) := by decide +kernel
theorem dX8_findChains_115 : decode cX8_findChains 115 = .ok (.iload_n 3, 1) := by decide +kernel
theorem dX8_findChains_116 : decode cX8_findChains 116 = .ok (.if_icmp .ne 7, 3) := by decide +kernel
theorem dX8_findChains_119 : decode cX8_findChains 119 = .ok (.iconst 1, 1) := by decide +kernel
theorem dX8_findChains_120 : decode cX8_findChains 120 = .ok (.goto 4, 3) := by decide +kernel
theorem dX8_findChains_123 : decode cX8_findChains 123 = .ok (.iconst 0, 1) := by decide +kernel
theorem dX8_findChains_124 : decode cX8_findChains 124 = .ok (.istore_n 2, 1) := by decide +kernel
theorem dX8_findChains_125 : decode cX8_findChains 125 = .ok (.iinc 3 1, 3) := by decide +kernel
theorem dX8_findChains_128 : decode cX8_findChains 128 = .ok (.goto (-75), 3) := by decide +kernel
theorem dX8_findChains_131 : decode cX8_findChains 131 = .ok (.iinc 1 1, 3) := by decide +kernel
theorem dX8_findChains_134 : decode cX8_findChains 134 = .ok (.goto (-104), 3) := by decide +kernel
theorem dX8_findChains_137 : decode cX8_findChains 137 = .ok (.return_, 1) := by decide +kernel
theorem gc_X8_133 : GoodIn xtb (va_wsS RX8 133 yX8_has (xW yX8_has cX8_has 2 (some .boolean))) := x_goodS lkM_X8_133 wT_X8_has wN_X8 wC_X8_has
theorem gc_X8_70 : GoodIn xtb (wsV RX8 70 yX8_refuses.cls yX8_refuses (xW yX8_refuses cX8_refuses 2 (some .int))) := x_good lkM_X8_70 wI_X8_refuses wS_X8_refuses wN_X8 wC_X8_refuses
theorem gc_X8_74 : GoodIn xtb (wsV RX8 74 yX8_push.cls yX8_push (xW yX8_push cX8_push 2 none)) := x_good lkM_X8_74 wI_X8_push wS_X8_push wN_X8 wC_X8_push
theorem gc_X8_84 : GoodIn xtb (va_wsS RX8 84 yX8_in (xW yX8_in cX8_in 3 (some .boolean))) := x_goodS lkM_X8_84 wT_X8_in wN_X8 wC_X8_in
theorem gc_X8_88 : GoodIn xtb (wsV RX8 88 yX8_open.cls yX8_open (xW yX8_open cX8_open 4 none)) := x_good lkM_X8_88 wI_X8_open wS_X8_open wN_X8 wC_X8_open
theorem gc_X8_92 : GoodIn xtb (wsV RX8 92 yX8_isMove.cls yX8_isMove (xW yX8_isMove cX8_isMove 5 (some .boolean))) := x_good lkM_X8_92 wI_X8_isMove wS_X8_isMove wN_X8 wC_X8_isMove
theorem gc_X8_96 : GoodIn xtb (wsV RX8 96 yX8_hold.cls yX8_hold (xW yX8_hold cX8_hold 2 none)) := x_good lkM_X8_96 wI_X8_hold wS_X8_hold wN_X8 wC_X8_hold
theorem gc_X8_99 : GoodIn xtb (wsV RX8 99 yX8_doPoints.cls yX8_doPoints (xW yX8_doPoints cX8_doPoints 3 (some .int))) := x_good lkM_X8_99 wI_X8_doPoints wS_X8_doPoints wN_X8 wC_X8_doPoints
theorem gc_X8_102 : GoodIn xtb (wsV RX8 102 yX8_ends.cls yX8_ends (xW yX8_ends cX8_ends 2 (some .int))) := x_good lkM_X8_102 wI_X8_ends wS_X8_ends wN_X8 wC_X8_ends
theorem gc_X8_105 : GoodIn xtb (wsV RX8 105 yX8_doMoves.cls yX8_doMoves (xW yX8_doMoves cX8_doMoves 2 (some .int))) := x_good lkM_X8_105 wI_X8_doMoves wS_X8_doMoves wN_X8 wC_X8_doMoves
theorem gc_X8_108 : GoodIn xtb (wsV RX8 108 yX8_doDrops.cls yX8_doDrops (xW yX8_doDrops cX8_doDrops 3 (some .int))) := x_good lkM_X8_108 wI_X8_doDrops wS_X8_doDrops wN_X8 wC_X8_doDrops
theorem gc_X8_117 : GoodIn xtb (wsV RX8 117 yX8_codeAt.cls yX8_codeAt (xW yX8_codeAt cX8_codeAt 5 (some .int))) := x_good lkM_X8_117 wI_X8_codeAt wS_X8_codeAt wN_X8 wC_X8_codeAt
theorem ds_X8_in : xDs yX8_in 3 := by decide +kernel
theorem ds_X8_has : xDs yX8_has 2 := by decide +kernel
theorem ds_X8_lowest : xDs yX8_lowest 1 := by decide +kernel
theorem ds_X8_size : xDs yX8_size 1 := by decide +kernel
theorem ds_X8_turned : xDs yX8_turned 1 := by decide +kernel
theorem ds_X8_refuses : xDs yX8_refuses 1 := by decide +kernel
theorem ds_X8_hold : xDs yX8_hold 0 := by decide +kernel
theorem ds_X8_push : xDs yX8_push 0 := by decide +kernel
theorem ds_X8_ends : xDs yX8_ends 1 := by decide +kernel
theorem ds_X8_back : xDs yX8_back 0 := by decide +kernel
theorem ds_X8_open : xDs yX8_open 1 := by decide +kernel
theorem ds_X8_isMove : xDs yX8_isMove 1 := by decide +kernel
theorem ds_X8_placeOf : xDs yX8_placeOf 0 := by decide +kernel
theorem ds_X8_codeAt : xDs yX8_codeAt 1 := by decide +kernel
theorem ds_X8_doPoints : xDs yX8_doPoints 1 := by decide +kernel
theorem ds_X8_doMoves : xDs yX8_doMoves 1 := by decide +kernel
theorem ds_X8_doDrops : xDs yX8_doDrops 1 := by decide +kernel
theorem ds_X8_points : xDs yX8_points 1 := by decide +kernel
theorem ds_X8_moves : xDs yX8_moves 1 := by decide +kernel
theorem ds_X8_drops : xDs yX8_drops 1 := by decide +kernel
theorem ds_X8_mark : xDs yX8_mark 1 := by decide +kernel
theorem ds_X8_sortMade : xDs yX8_sortMade 0 := by decide +kernel
theorem ds_X8_findChains : xDs yX8_findChains 0 := by decide +kernel
noncomputable def f_X8_in (v0 : Int32) (v1 : Int32) (v2 : Int32) : Option (Int32) := xb (v0 < v1) (some (0 : Int32)) (xb (v2 < v0) (some (0 : Int32)) (some (1 : Int32)))
set_option maxHeartbeats 4000000 in
set_option maxRecDepth 100000 in
theorem c_X8_in (l : Launch) (dC : Nat → ClassId) (dI : Nat → Nat → Nat) (cI cZ cB cO : ClassId) (v0 : Int32) (v1 : Int32) (v2 : Int32) (o : Int32) (h : f_X8_in v0 v1 v2 = some o) (sz : Nat) : Met l yX8_in (xW yX8_in cX8_in 3 (some .boolean)) { frames := 0, cells := 0, slots := 0, locals := 0 } (xPre dC dI (xT cI cZ cB cO) [.int v0, .int v1, .int v2] [] sz) (xQi dC dI (xT cI cZ cB cO) o [] [] sz) 0 0 (va_A [] sz) := by
  refine x_met (by decide) (Nat.le_of_ble_eq_true rfl) ?_
  intro p e s m args below meth c R Q A hR hsz hA hQ hin C hw ls hl
  have hx := C.1
  have hb := C.2.1
  have hown := C.2.2.2.1
  have htb := C.2.2.2.2.1
  have hl : lv_has ls 3 [(0, .int v0), (1, .int v1), (2, .int v2)] := hl
  refine lv_iload_n hx hb dX8_in_0 rfl (lv_at hl 0 rfl) ?_
  refine lv_iload_n hx hb dX8_in_1 rfl (lv_at hl 1 rfl) ?_
  refine lv_icmp_lt (tgt := 14) hx hb dX8_in_2 (by decide) (fun b1 => ?_) (fun b1 => ?_)
  · replace h := xb_tt b1 h
    refine lv_iconst (v := (0 : Int32)) hx hb dX8_in_14 (by decide) ?_
    obtain rfl := Option.some.inj h
    exact x_retz C hQ hA hw (by decide) dX8_in_15
  · replace h := xb_ff b1 h
    refine lv_iload_n hx hb dX8_in_5 rfl (lv_at hl 0 rfl) ?_
    refine lv_iload_n hx hb dX8_in_6 rfl (lv_at hl 2 rfl) ?_
    refine lv_icmp_gt (tgt := 14) hx hb dX8_in_7 (by decide) (fun b2 => ?_) (fun b2 => ?_)
    · replace h := xb_tt b2 h
      refine lv_iconst (v := (0 : Int32)) hx hb dX8_in_14 (by decide) ?_
      obtain rfl := Option.some.inj h
      exact x_retz C hQ hA hw (by decide) dX8_in_15
    · replace h := xb_ff b2 h
      refine lv_iconst (v := (1 : Int32)) hx hb dX8_in_10 (by decide) ?_
      refine lv_goto (tgt := 15) hx hb dX8_in_11 (by decide) ?_
      obtain rfl := Option.some.inj h
      exact x_retz C hQ hA hw (by decide) dX8_in_15
noncomputable def f_X8_has (v0 : Int32) (v1 : Int32) : Option (Int32) := xb (((v0 >>> (v1 &&& 31)) &&& (1 : Int32)) = (1 : Int32)) (some (1 : Int32)) (some (0 : Int32))
set_option maxHeartbeats 4000000 in
set_option maxRecDepth 100000 in
theorem c_X8_has (l : Launch) (dC : Nat → ClassId) (dI : Nat → Nat → Nat) (cI cZ cB cO : ClassId) (v0 : Int32) (v1 : Int32) (o : Int32) (h : f_X8_has v0 v1 = some o) (sz : Nat) : Met l yX8_has (xW yX8_has cX8_has 2 (some .boolean)) { frames := 0, cells := 0, slots := 0, locals := 0 } (xPre dC dI (xT cI cZ cB cO) [.int v0, .int v1] [] sz) (xQi dC dI (xT cI cZ cB cO) o [] [] sz) 0 0 (va_A [] sz) := by
  refine x_met (by decide) (Nat.le_of_ble_eq_true rfl) ?_
  intro p e s m args below meth c R Q A hR hsz hA hQ hin C hw ls hl
  have hx := C.1
  have hb := C.2.1
  have hown := C.2.2.2.1
  have htb := C.2.2.2.2.1
  have hl : lv_has ls 2 [(0, .int v0), (1, .int v1)] := hl
  refine lv_iload_n hx hb dX8_has_0 rfl (lv_at hl 0 rfl) ?_
  refine lv_iload_n hx hb dX8_has_1 rfl (lv_at hl 1 rfl) ?_
  refine lv_ishr hx hb dX8_has_2 ?_
  refine lv_iconst (v := (1 : Int32)) hx hb dX8_has_3 (by decide) ?_
  refine lv_iand hx hb dX8_has_4 ?_
  refine lv_iconst (v := (1 : Int32)) hx hb dX8_has_5 (by decide) ?_
  refine lv_icmp_ne (tgt := 13) hx hb dX8_has_6 (by decide) (fun b1 => ?_) (fun b1 => ?_)
  · replace h := xb_ff b1 h
    refine lv_iconst (v := (0 : Int32)) hx hb dX8_has_13 (by decide) ?_
    obtain rfl := Option.some.inj h
    exact x_retz C hQ hA hw (by decide) dX8_has_14
  · replace h := xb_tt b1 h
    refine lv_iconst (v := (1 : Int32)) hx hb dX8_has_9 (by decide) ?_
    refine lv_goto (tgt := 14) hx hb dX8_has_10 (by decide) ?_
    obtain rfl := Option.some.inj h
    exact x_retz C hQ hA hw (by decide) dX8_has_14
noncomputable def f_X8_lowest_L1 (v0 : Int32) (v1_1 : Int32) : Option ((Int32) ⊕ (Int32)) := xn (f_X8_has v0 v1_1) (fun (r_3 : Int32) => xb (r_3 = 0) (some (.inl (v1_1 + (1 : Int32)))) (some (.inr v1_1)))
noncomputable def f_X8_lowest (v0 : Int32) : Option (Int32) := xn (xL (f_X8_lowest_L1 v0) (0 : Int32)) (fun (v1_2 : Int32) => some v1_2)
set_option maxHeartbeats 4000000 in
set_option maxRecDepth 100000 in
theorem c_X8_lowest (l : Launch) (dC : Nat → ClassId) (dI : Nat → Nat → Nat) (cI cZ cB cO : ClassId) (v0 : Int32) (o : Int32) (h : f_X8_lowest v0 = some o) (sz : Nat) : Met l yX8_lowest (xW yX8_lowest cX8_lowest 2 (some .int)) { frames := 1, cells := 0, slots := 0, locals := 21 } (xPre dC dI (xT cI cZ cB cO) [.int v0] [] sz) (xQi dC dI (xT cI cZ cB cO) o [] [] sz) 0 0 (va_A [] sz) := by
  refine x_met (by decide) (Nat.le_of_ble_eq_true rfl) ?_
  intro p e s m args below meth c R Q A hR hsz hA hQ hin C hw ls hl
  have hx := C.1
  have hb := C.2.1
  have hown := C.2.2.2.1
  have htb := C.2.2.2.2.1
  have hl : lv_has ls 2 [(0, .int v0)] := hl
  refine lv_iconst (v := (0 : Int32)) hx hb dX8_lowest_0 (by decide) ?_
  refine lv_istore_n (lv' := [(1, .int (0 : Int32)), (0, .int v0)]) hx hb dX8_lowest_1 rfl hl (by decide) rfl (fun ls hl => ?_)
  obtain ⟨z, hr, h⟩ := xn_i h
  refine xL_w (fun (z : Int32) => ∀ (H : Heap) (locs : List Loc) (ls : Array Slot), xWd (dC, dI) A s.heap H locs [] → lv_has ls 2 [(0, .int v0), (1, .int z)] → W p l e R s m args below meth c H locs 0 0 Q (F0 m 2 ls [])) (fun (z : Int32) => ∀ (H : Heap) (locs : List Loc) (ls : Array Slot), xWd (dC, dI) A s.heap H locs [] → lv_has ls 2 [(1, .int z)] → W p l e R s m args below meth c H locs 0 0 Q (F0 m 16 ls [])) ?_ hr ?_ _ _ _ hw (lv_sub hl [1, 0] rfl)
  · intro v1_1 o h k H locs ls hw hl
    have hw : xWd (dC, dI) A s.heap H locs [] := hw
    have hl : lv_has ls 2 [(0, .int v0), (1, .int v1_1)] := hl
    refine lv_iload_n hx hb dX8_lowest_2 rfl (lv_at hl 0 rfl) ?_
    refine lv_iload_n hx hb dX8_lowest_3 rfl (lv_at hl 1 rfl) ?_
    obtain ⟨r_3, q1, h⟩ := xn_i h
    refine x_callSi (As := [.int v0, .int v1_1]) (rest := []) C hw gc_X8_133 ds_X8_has (by rw [hR]; exact Nat.le_of_ble_eq_true rfl) (by rw [hR]; exact Nat.le_of_ble_eq_true rfl) rfl rfl (Nat.zero_le _) (Nat.zero_le _) (c_X8_has l dC dI cI cZ cB cO v0 v1_1 _ q1 _) [] [] (by decide) rfl rfl (by decide) (by decide) rfl hl.1 rfl (Nat.le_of_ble_eq_true rfl) dX8_lowest_4 (fun H locs hw => ?_)
    have hw : xWd (dC, dI) A s.heap H locs [] := hw.sub [] (by decide) rfl
    refine lv_if_ne (tgt := 16) hx hb dX8_lowest_7 (by decide) (fun b2 => ?_) (fun b2 => ?_)
    · replace h := xb_ff b2 h
      obtain rfl := Option.some.inj h
      exact k _ _ _ hw (lv_sub hl [1] rfl)
    · replace h := xb_tt b2 h
      refine lv_iinc (v := (v1_1 + (1 : Int32))) (lv' := [(1, .int (v1_1 + (1 : Int32))), (0, .int v0)]) hx hb dX8_lowest_10 hl (k := 1) rfl (congrArg (fun q => v1_1 + q) (by decide)) (by decide) rfl (fun ls hl => ?_)
      refine lv_goto (tgt := 2) hx hb dX8_lowest_13 (by decide) ?_
      obtain rfl := Option.some.inj h
      exact k _ _ _ hw (lv_sub hl [1, 0] rfl)
  · obtain ⟨v1_2, hz⟩ : ∃ q, q = z := ⟨z, rfl⟩
    subst hz
    intro H locs ls hw hl
    have hw : xWd (dC, dI) A s.heap H locs [] := hw
    have hl : lv_has ls 2 [(1, .int v1_2)] := hl
    refine lv_iload_n hx hb dX8_lowest_16 rfl (lv_at hl 0 rfl) ?_
    obtain rfl := Option.some.inj h
    exact x_reti C hQ hA hw dX8_lowest_17
noncomputable def f_X8_size_L1 (v0 : Int32) (z : Int32 × Int32) : Option ((Int32 × Int32) ⊕ (Int32)) := match z with
  | (v1_1, v2_2) => xb ((8 : Int32) ≤ v2_2) (some (.inr v1_1)) (xn (f_X8_has v0 v2_2) (fun (r_4 : Int32) => xb (r_4 = 0) (some (.inl ((v1_1 + (0 : Int32)), (v2_2 + (1 : Int32))))) (some (.inl ((v1_1 + (1 : Int32)), (v2_2 + (1 : Int32)))))))
noncomputable def f_X8_size (v0 : Int32) : Option (Int32) := xn (xL (f_X8_size_L1 v0) ((0 : Int32), (0 : Int32))) (fun (v1_3 : Int32) => some v1_3)
set_option maxHeartbeats 4000000 in
set_option maxRecDepth 100000 in
theorem c_X8_size (l : Launch) (dC : Nat → ClassId) (dI : Nat → Nat → Nat) (cI cZ cB cO : ClassId) (v0 : Int32) (o : Int32) (h : f_X8_size v0 = some o) (sz : Nat) : Met l yX8_size (xW yX8_size cX8_size 3 (some .int)) { frames := 1, cells := 0, slots := 0, locals := 21 } (xPre dC dI (xT cI cZ cB cO) [.int v0] [] sz) (xQi dC dI (xT cI cZ cB cO) o [] [] sz) 0 0 (va_A [] sz) := by
  refine x_met (by decide) (Nat.le_of_ble_eq_true rfl) ?_
  intro p e s m args below meth c R Q A hR hsz hA hQ hin C hw ls hl
  have hx := C.1
  have hb := C.2.1
  have hown := C.2.2.2.1
  have htb := C.2.2.2.2.1
  have hl : lv_has ls 3 [(0, .int v0)] := hl
  refine lv_iconst (v := (0 : Int32)) hx hb dX8_size_0 (by decide) ?_
  refine lv_istore_n (lv' := [(1, .int (0 : Int32)), (0, .int v0)]) hx hb dX8_size_1 rfl hl (by decide) rfl (fun ls hl => ?_)
  refine lv_iconst (v := (0 : Int32)) hx hb dX8_size_2 (by decide) ?_
  refine lv_istore_n (lv' := [(2, .int (0 : Int32)), (1, .int (0 : Int32)), (0, .int v0)]) hx hb dX8_size_3 rfl hl (by decide) rfl (fun ls hl => ?_)
  obtain ⟨z, hr, h⟩ := xn_i h
  refine xL_w (fun (z : Int32 × Int32) => ∀ (H : Heap) (locs : List Loc) (ls : Array Slot), xWd (dC, dI) A s.heap H locs [] → lv_has ls 3 [(0, .int v0), (1, .int z.1), (2, .int z.2)] → W p l e R s m args below meth c H locs 0 0 Q (F0 m 4 ls [])) (fun (z : Int32) => ∀ (H : Heap) (locs : List Loc) (ls : Array Slot), xWd (dC, dI) A s.heap H locs [] → lv_has ls 3 [(1, .int z)] → W p l e R s m args below meth c H locs 0 0 Q (F0 m 32 ls [])) ?_ hr ?_ _ _ _ hw (lv_sub hl [2, 1, 0] rfl)
  · rintro ⟨v1_1, v2_2⟩ o h k H locs ls hw hl
    have hw : xWd (dC, dI) A s.heap H locs [] := hw
    have hl : lv_has ls 3 [(0, .int v0), (1, .int v1_1), (2, .int v2_2)] := hl
    refine lv_iload_n hx hb dX8_size_4 rfl (lv_at hl 2 rfl) ?_
    refine lv_bipush (v := (8 : Int32)) hx hb dX8_size_5 (by decide) ?_
    refine lv_icmp_ge (tgt := 32) hx hb dX8_size_7 (by decide) (fun b1 => ?_) (fun b1 => ?_)
    · replace h := xb_tt b1 h
      obtain rfl := Option.some.inj h
      exact k _ _ _ hw (lv_sub hl [1] rfl)
    · replace h := xb_ff b1 h
      refine lv_iload_n hx hb dX8_size_10 rfl (lv_at hl 1 rfl) ?_
      refine lv_iload_n hx hb dX8_size_11 rfl (lv_at hl 0 rfl) ?_
      refine lv_iload_n hx hb dX8_size_12 rfl (lv_at hl 2 rfl) ?_
      obtain ⟨r_4, q2, h⟩ := xn_i h
      refine x_callSi (As := [.int v0, .int v2_2]) (rest := [.int v1_1]) C hw gc_X8_133 ds_X8_has (by rw [hR]; exact Nat.le_of_ble_eq_true rfl) (by rw [hR]; exact Nat.le_of_ble_eq_true rfl) rfl rfl (Nat.zero_le _) (Nat.zero_le _) (c_X8_has l dC dI cI cZ cB cO v0 v2_2 _ q2 _) [] [] (by decide) rfl rfl (by decide) (by decide) rfl hl.1 rfl (Nat.le_of_ble_eq_true rfl) dX8_size_13 (fun H locs hw => ?_)
      have hw : xWd (dC, dI) A s.heap H locs [] := hw.sub [] (by decide) rfl
      refine lv_if_eq (tgt := 23) hx hb dX8_size_16 (by decide) (fun b3 => ?_) (fun b3 => ?_)
      · replace h := xb_tt b3 h
        refine lv_iconst (v := (0 : Int32)) hx hb dX8_size_23 (by decide) ?_
        refine lv_iadd hx hb dX8_size_24 ?_
        refine lv_istore_n (lv' := [(1, .int (v1_1 + (0 : Int32))), (0, .int v0), (2, .int v2_2)]) hx hb dX8_size_25 rfl hl (by decide) rfl (fun ls hl => ?_)
        refine lv_iinc (v := (v2_2 + (1 : Int32))) (lv' := [(2, .int (v2_2 + (1 : Int32))), (1, .int (v1_1 + (0 : Int32))), (0, .int v0)]) hx hb dX8_size_26 hl (k := 2) rfl (congrArg (fun q => v2_2 + q) (by decide)) (by decide) rfl (fun ls hl => ?_)
        refine lv_goto (tgt := 4) hx hb dX8_size_29 (by decide) ?_
        obtain rfl := Option.some.inj h
        exact k _ _ _ hw (lv_sub hl [2, 1, 0] rfl)
      · replace h := xb_ff b3 h
        refine lv_iconst (v := (1 : Int32)) hx hb dX8_size_19 (by decide) ?_
        refine lv_goto (tgt := 24) hx hb dX8_size_20 (by decide) ?_
        refine lv_iadd hx hb dX8_size_24 ?_
        refine lv_istore_n (lv' := [(1, .int (v1_1 + (1 : Int32))), (0, .int v0), (2, .int v2_2)]) hx hb dX8_size_25 rfl hl (by decide) rfl (fun ls hl => ?_)
        refine lv_iinc (v := (v2_2 + (1 : Int32))) (lv' := [(2, .int (v2_2 + (1 : Int32))), (1, .int (v1_1 + (1 : Int32))), (0, .int v0)]) hx hb dX8_size_26 hl (k := 2) rfl (congrArg (fun q => v2_2 + q) (by decide)) (by decide) rfl (fun ls hl => ?_)
        refine lv_goto (tgt := 4) hx hb dX8_size_29 (by decide) ?_
        obtain rfl := Option.some.inj h
        exact k _ _ _ hw (lv_sub hl [2, 1, 0] rfl)
  · obtain ⟨v1_3, hz⟩ : ∃ q, q = z := ⟨z, rfl⟩
    subst hz
    intro H locs ls hw hl
    have hw : xWd (dC, dI) A s.heap H locs [] := hw
    have hl : lv_has ls 3 [(1, .int v1_3)] := hl
    refine lv_iload_n hx hb dX8_size_32 rfl (lv_at hl 0 rfl) ?_
    obtain rfl := Option.some.inj h
    exact x_reti C hQ hA hw dX8_size_33
noncomputable def f_X8_turned_L1 (v0 : Int32) (z : Int32 × Int32) : Option ((Int32 × Int32) ⊕ (Int32)) := match z with
  | (v1_1, v2_2) => xb ((8 : Int32) ≤ v2_2) (some (.inr v1_1)) (xn (f_X8_has v0 v2_2) (fun (r_4 : Int32) => xb (r_4 = 0) (some (.inl ((v1_1 ||| (0 : Int32)), (v2_2 + (1 : Int32))))) (some (.inl ((v1_1 ||| ((128 : Int32) >>> (v2_2 &&& 31))), (v2_2 + (1 : Int32)))))))
noncomputable def f_X8_turned (v0 : Int32) : Option (Int32) := xn (xL (f_X8_turned_L1 v0) ((0 : Int32), (0 : Int32))) (fun (v1_3 : Int32) => some v1_3)
set_option maxHeartbeats 4000000 in
set_option maxRecDepth 100000 in
theorem c_X8_turned (l : Launch) (dC : Nat → ClassId) (dI : Nat → Nat → Nat) (cI cZ cB cO : ClassId) (v0 : Int32) (o : Int32) (h : f_X8_turned v0 = some o) (sz : Nat) : Met l yX8_turned (xW yX8_turned cX8_turned 3 (some .int)) { frames := 1, cells := 0, slots := 0, locals := 21 } (xPre dC dI (xT cI cZ cB cO) [.int v0] [] sz) (xQi dC dI (xT cI cZ cB cO) o [] [] sz) 0 0 (va_A [] sz) := by
  refine x_met (by decide) (Nat.le_of_ble_eq_true rfl) ?_
  intro p e s m args below meth c R Q A hR hsz hA hQ hin C hw ls hl
  have hx := C.1
  have hb := C.2.1
  have hown := C.2.2.2.1
  have htb := C.2.2.2.2.1
  have hl : lv_has ls 3 [(0, .int v0)] := hl
  refine lv_iconst (v := (0 : Int32)) hx hb dX8_turned_0 (by decide) ?_
  refine lv_istore_n (lv' := [(1, .int (0 : Int32)), (0, .int v0)]) hx hb dX8_turned_1 rfl hl (by decide) rfl (fun ls hl => ?_)
  refine lv_iconst (v := (0 : Int32)) hx hb dX8_turned_2 (by decide) ?_
  refine lv_istore_n (lv' := [(2, .int (0 : Int32)), (1, .int (0 : Int32)), (0, .int v0)]) hx hb dX8_turned_3 rfl hl (by decide) rfl (fun ls hl => ?_)
  obtain ⟨z, hr, h⟩ := xn_i h
  refine xL_w (fun (z : Int32 × Int32) => ∀ (H : Heap) (locs : List Loc) (ls : Array Slot), xWd (dC, dI) A s.heap H locs [] → lv_has ls 3 [(0, .int v0), (1, .int z.1), (2, .int z.2)] → W p l e R s m args below meth c H locs 0 0 Q (F0 m 4 ls [])) (fun (z : Int32) => ∀ (H : Heap) (locs : List Loc) (ls : Array Slot), xWd (dC, dI) A s.heap H locs [] → lv_has ls 3 [(1, .int z)] → W p l e R s m args below meth c H locs 0 0 Q (F0 m 36 ls [])) ?_ hr ?_ _ _ _ hw (lv_sub hl [2, 1, 0] rfl)
  · rintro ⟨v1_1, v2_2⟩ o h k H locs ls hw hl
    have hw : xWd (dC, dI) A s.heap H locs [] := hw
    have hl : lv_has ls 3 [(0, .int v0), (1, .int v1_1), (2, .int v2_2)] := hl
    refine lv_iload_n hx hb dX8_turned_4 rfl (lv_at hl 2 rfl) ?_
    refine lv_bipush (v := (8 : Int32)) hx hb dX8_turned_5 (by decide) ?_
    refine lv_icmp_ge (tgt := 36) hx hb dX8_turned_7 (by decide) (fun b1 => ?_) (fun b1 => ?_)
    · replace h := xb_tt b1 h
      obtain rfl := Option.some.inj h
      exact k _ _ _ hw (lv_sub hl [1] rfl)
    · replace h := xb_ff b1 h
      refine lv_iload_n hx hb dX8_turned_10 rfl (lv_at hl 1 rfl) ?_
      refine lv_iload_n hx hb dX8_turned_11 rfl (lv_at hl 0 rfl) ?_
      refine lv_iload_n hx hb dX8_turned_12 rfl (lv_at hl 2 rfl) ?_
      obtain ⟨r_4, q2, h⟩ := xn_i h
      refine x_callSi (As := [.int v0, .int v2_2]) (rest := [.int v1_1]) C hw gc_X8_133 ds_X8_has (by rw [hR]; exact Nat.le_of_ble_eq_true rfl) (by rw [hR]; exact Nat.le_of_ble_eq_true rfl) rfl rfl (Nat.zero_le _) (Nat.zero_le _) (c_X8_has l dC dI cI cZ cB cO v0 v2_2 _ q2 _) [] [] (by decide) rfl rfl (by decide) (by decide) rfl hl.1 rfl (Nat.le_of_ble_eq_true rfl) dX8_turned_13 (fun H locs hw => ?_)
      have hw : xWd (dC, dI) A s.heap H locs [] := hw.sub [] (by decide) rfl
      refine lv_if_eq (tgt := 27) hx hb dX8_turned_16 (by decide) (fun b3 => ?_) (fun b3 => ?_)
      · replace h := xb_tt b3 h
        refine lv_iconst (v := (0 : Int32)) hx hb dX8_turned_27 (by decide) ?_
        refine lv_ior hx hb dX8_turned_28 ?_
        refine lv_istore_n (lv' := [(1, .int (v1_1 ||| (0 : Int32))), (0, .int v0), (2, .int v2_2)]) hx hb dX8_turned_29 rfl hl (by decide) rfl (fun ls hl => ?_)
        refine lv_iinc (v := (v2_2 + (1 : Int32))) (lv' := [(2, .int (v2_2 + (1 : Int32))), (1, .int (v1_1 ||| (0 : Int32))), (0, .int v0)]) hx hb dX8_turned_30 hl (k := 2) rfl (congrArg (fun q => v2_2 + q) (by decide)) (by decide) rfl (fun ls hl => ?_)
        refine lv_goto (tgt := 4) hx hb dX8_turned_33 (by decide) ?_
        obtain rfl := Option.some.inj h
        exact k _ _ _ hw (lv_sub hl [2, 1, 0] rfl)
      · replace h := xb_ff b3 h
        refine lv_sipush (v := (128 : Int32)) hx hb dX8_turned_19 (by decide) ?_
        refine lv_iload_n hx hb dX8_turned_22 rfl (lv_at hl 2 rfl) ?_
        refine lv_ishr hx hb dX8_turned_23 ?_
        refine lv_goto (tgt := 28) hx hb dX8_turned_24 (by decide) ?_
        refine lv_ior hx hb dX8_turned_28 ?_
        refine lv_istore_n (lv' := [(1, .int (v1_1 ||| ((128 : Int32) >>> (v2_2 &&& 31)))), (0, .int v0), (2, .int v2_2)]) hx hb dX8_turned_29 rfl hl (by decide) rfl (fun ls hl => ?_)
        refine lv_iinc (v := (v2_2 + (1 : Int32))) (lv' := [(2, .int (v2_2 + (1 : Int32))), (1, .int (v1_1 ||| ((128 : Int32) >>> (v2_2 &&& 31)))), (0, .int v0)]) hx hb dX8_turned_30 hl (k := 2) rfl (congrArg (fun q => v2_2 + q) (by decide)) (by decide) rfl (fun ls hl => ?_)
        refine lv_goto (tgt := 4) hx hb dX8_turned_33 (by decide) ?_
        obtain rfl := Option.some.inj h
        exact k _ _ _ hw (lv_sub hl [2, 1, 0] rfl)
  · obtain ⟨v1_3, hz⟩ : ∃ q, q = z := ⟨z, rfl⟩
    subst hz
    intro H locs ls hw hl
    have hw : xWd (dC, dI) A s.heap H locs [] := hw
    have hl : lv_has ls 3 [(1, .int v1_3)] := hl
    refine lv_iload_n hx hb dX8_turned_36 rfl (lv_at hl 0 rfl) ?_
    obtain rfl := Option.some.inj h
    exact x_reti C hQ hA hw dX8_turned_37
noncomputable def f_X8_refuses (m_refused : (Nat → Int32)) (v1 : Int32) : Option ((Nat → Int32) × Int32) := xk (vp_in ((-2 : Int32) - v1) 3) (some ((upd m_refused ((-2 : Int32) - v1).toNatClampNeg ((m_refused ((-2 : Int32) - v1).toNatClampNeg) + (1 : Int32))), v1))
set_option maxHeartbeats 4000000 in
set_option maxRecDepth 100000 in
theorem c_X8_refuses (l : Launch) (dC : Nat → ClassId) (dI : Nat → Nat → Nat) (cI cZ cB cO : ClassId) (m_ad : Nat) (m_p : Nat → Nat) (m_now : (Nat → Int32)) (m_held : (Nat → Int32)) (m_past : (Nat → Int32)) (m_pasts : Int32) (m_refused : (Nat → Int32)) (m_figures : (Nat → Int32)) (m_isLaid : Int32) (m_many : Int32) (m_isMade : (Nat → Int32)) (m_made : (Nat → Int32)) (m_images : (Nat → Int32)) (m_orbits : (Nat → Int32)) (m_chains : (Nat → Int32)) (m_isCarried : (Nat → Int32)) (m_carried : (Nat → Int32)) (m_carriedMany : Int32) (m_isSorted : Int32) (m_leasts : (Nat → Int32)) (m_heads : (Nat → Int32)) (m_headFrom : (Nat → Int32)) (m_text : (Nat → Int32)) (m_typed : Int32) (m_at : Int32) (m_fault : Int32) (m_orders : Int32) (m_pointsThen : Int32) (m_letters : (Nat → Int32)) (m_numbers : (Nat → Int32)) (m_h : Int64) (v1 : Int32) (o : (Nat → Int32) × Int32) (h : f_X8_refuses m_refused v1 = some o) (sz : Nat) : Met l yX8_refuses (xW yX8_refuses cX8_refuses 2 (some .int)) { frames := 0, cells := 0, slots := 0, locals := 0 } (xPre dC dI (xT cI cZ cB cO) [.ref m_ad, .int v1] (wM cI cZ cB cO m_ad m_p m_now m_held m_past m_pasts m_refused m_figures m_isLaid m_many m_isMade m_made m_images m_orbits m_chains m_isCarried m_carried m_carriedMany m_isSorted m_leasts m_heads m_headFrom m_text m_typed m_at m_fault m_orders m_pointsThen m_letters m_numbers m_h) sz) (xQi dC dI (xT cI cZ cB cO) o.2 (wM cI cZ cB cO m_ad m_p m_now m_held m_past m_pasts m_refused m_figures m_isLaid m_many m_isMade m_made m_images m_orbits m_chains m_isCarried m_carried m_carriedMany m_isSorted m_leasts m_heads m_headFrom m_text m_typed m_at m_fault m_orders m_pointsThen m_letters m_numbers m_h) (wM cI cZ cB cO m_ad m_p m_now m_held m_past m_pasts o.1 m_figures m_isLaid m_many m_isMade m_made m_images m_orbits m_chains m_isCarried m_carried m_carriedMany m_isSorted m_leasts m_heads m_headFrom m_text m_typed m_at m_fault m_orders m_pointsThen m_letters m_numbers m_h) sz) 0 0 (va_A (wM cI cZ cB cO m_ad m_p m_now m_held m_past m_pasts m_refused m_figures m_isLaid m_many m_isMade m_made m_images m_orbits m_chains m_isCarried m_carried m_carriedMany m_isSorted m_leasts m_heads m_headFrom m_text m_typed m_at m_fault m_orders m_pointsThen m_letters m_numbers m_h) sz) := by
  refine x_met (by decide) (Nat.le_of_ble_eq_true rfl) ?_
  intro p e s m args below meth c R Q A hR hsz hA hQ hin C hw ls hl
  have hx := C.1
  have hb := C.2.1
  have hown := C.2.2.2.1
  have htb := C.2.2.2.2.1
  have hl : lv_has ls 2 [(0, .ref m_ad), (1, .int v1)] := hl
  refine lv_aload_n hx hb dX8_refuses_0 rfl (lv_at hl 0 rfl) ?_
  refine x_get (ci := 7) C hw inX8 rfl 4 (by decide) lkF_X8_19 rfl 0 rfl rfl dX8_refuses_1 ?_
  refine lv_bipush (v := (-2 : Int32)) hx hb dX8_refuses_4 (by decide) ?_
  refine lv_iload_n hx hb dX8_refuses_6 rfl (lv_at hl 1 rfl) ?_
  refine lv_isub hx hb dX8_refuses_7 ?_
  refine lv_dup2_11 hx hb dX8_refuses_8 rfl rfl ?_
  obtain ⟨b1, h⟩ := xk_i h
  refine x_iald C hw 4 0 rfl rfl b1 dX8_refuses_9 ?_
  refine lv_iconst (v := (1 : Int32)) hx hb dX8_refuses_10 (by decide) ?_
  refine lv_iadd hx hb dX8_refuses_11 ?_
  refine x_iast C hw 4 0 rfl rfl b1 dX8_refuses_12 (fun H locs hw => ?_)
  have hw : xWd (dC, dI) A s.heap H locs (wM cI cZ cB cO m_ad m_p m_now m_held m_past m_pasts (upd m_refused ((-2 : Int32) - v1).toNatClampNeg ((m_refused ((-2 : Int32) - v1).toNatClampNeg) + (1 : Int32))) m_figures m_isLaid m_many m_isMade m_made m_images m_orbits m_chains m_isCarried m_carried m_carriedMany m_isSorted m_leasts m_heads m_headFrom m_text m_typed m_at m_fault m_orders m_pointsThen m_letters m_numbers m_h) := hw
  refine lv_iload_n hx hb dX8_refuses_13 rfl (lv_at hl 1 rfl) ?_
  obtain rfl := Option.some.inj h
  exact x_reti C hQ hA hw dX8_refuses_14
noncomputable def f_X8_hold_L1 (m_now : (Nat → Int32)) (z : (Nat → Int32) × Int32) : Option (((Nat → Int32) × Int32) ⊕ ((Nat → Int32))) := match z with
  | (m_held_1, v1_2) => xb ((5 : Int32) ≤ v1_2) (some (.inr m_held_1)) (xk (vp_in v1_2 5) (some (.inl ((upd m_held_1 v1_2.toNatClampNeg (m_now v1_2.toNatClampNeg)), (v1_2 + (1 : Int32))))))
noncomputable def f_X8_hold (m_now : (Nat → Int32)) (m_held : (Nat → Int32)) : Option ((Nat → Int32)) := xn (xL (f_X8_hold_L1 m_now) (m_held, (0 : Int32))) (fun (m_held_3 : (Nat → Int32)) => some m_held_3)
set_option maxHeartbeats 4000000 in
set_option maxRecDepth 100000 in
theorem c_X8_hold (l : Launch) (dC : Nat → ClassId) (dI : Nat → Nat → Nat) (cI cZ cB cO : ClassId) (m_ad : Nat) (m_p : Nat → Nat) (m_now : (Nat → Int32)) (m_held : (Nat → Int32)) (m_past : (Nat → Int32)) (m_pasts : Int32) (m_refused : (Nat → Int32)) (m_figures : (Nat → Int32)) (m_isLaid : Int32) (m_many : Int32) (m_isMade : (Nat → Int32)) (m_made : (Nat → Int32)) (m_images : (Nat → Int32)) (m_orbits : (Nat → Int32)) (m_chains : (Nat → Int32)) (m_isCarried : (Nat → Int32)) (m_carried : (Nat → Int32)) (m_carriedMany : Int32) (m_isSorted : Int32) (m_leasts : (Nat → Int32)) (m_heads : (Nat → Int32)) (m_headFrom : (Nat → Int32)) (m_text : (Nat → Int32)) (m_typed : Int32) (m_at : Int32) (m_fault : Int32) (m_orders : Int32) (m_pointsThen : Int32) (m_letters : (Nat → Int32)) (m_numbers : (Nat → Int32)) (m_h : Int64) (o : (Nat → Int32)) (h : f_X8_hold m_now m_held = some o) (sz : Nat) : Met l yX8_hold (xW yX8_hold cX8_hold 2 none) { frames := 0, cells := 0, slots := 0, locals := 0 } (xPre dC dI (xT cI cZ cB cO) [.ref m_ad] (wM cI cZ cB cO m_ad m_p m_now m_held m_past m_pasts m_refused m_figures m_isLaid m_many m_isMade m_made m_images m_orbits m_chains m_isCarried m_carried m_carriedMany m_isSorted m_leasts m_heads m_headFrom m_text m_typed m_at m_fault m_orders m_pointsThen m_letters m_numbers m_h) sz) (xQv dC dI (xT cI cZ cB cO) (wM cI cZ cB cO m_ad m_p m_now m_held m_past m_pasts m_refused m_figures m_isLaid m_many m_isMade m_made m_images m_orbits m_chains m_isCarried m_carried m_carriedMany m_isSorted m_leasts m_heads m_headFrom m_text m_typed m_at m_fault m_orders m_pointsThen m_letters m_numbers m_h) (wM cI cZ cB cO m_ad m_p m_now o m_past m_pasts m_refused m_figures m_isLaid m_many m_isMade m_made m_images m_orbits m_chains m_isCarried m_carried m_carriedMany m_isSorted m_leasts m_heads m_headFrom m_text m_typed m_at m_fault m_orders m_pointsThen m_letters m_numbers m_h) sz) 0 0 (va_A (wM cI cZ cB cO m_ad m_p m_now m_held m_past m_pasts m_refused m_figures m_isLaid m_many m_isMade m_made m_images m_orbits m_chains m_isCarried m_carried m_carriedMany m_isSorted m_leasts m_heads m_headFrom m_text m_typed m_at m_fault m_orders m_pointsThen m_letters m_numbers m_h) sz) := by
  refine x_met (by decide) (Nat.le_of_ble_eq_true rfl) ?_
  intro p e s m args below meth c R Q A hR hsz hA hQ hin C hw ls hl
  have hx := C.1
  have hb := C.2.1
  have hown := C.2.2.2.1
  have htb := C.2.2.2.2.1
  have hl : lv_has ls 2 [(0, .ref m_ad)] := hl
  refine lv_iconst (v := (0 : Int32)) hx hb dX8_hold_0 (by decide) ?_
  refine lv_istore_n (lv' := [(1, .int (0 : Int32)), (0, .ref m_ad)]) hx hb dX8_hold_1 rfl hl (by decide) rfl (fun ls hl => ?_)
  obtain ⟨z, hr, h⟩ := xn_i h
  refine xL_w (fun (z : (Nat → Int32) × Int32) => ∀ (H : Heap) (locs : List Loc) (ls : Array Slot), xWd (dC, dI) A s.heap H locs (wM cI cZ cB cO m_ad m_p m_now z.1 m_past m_pasts m_refused m_figures m_isLaid m_many m_isMade m_made m_images m_orbits m_chains m_isCarried m_carried m_carriedMany m_isSorted m_leasts m_heads m_headFrom m_text m_typed m_at m_fault m_orders m_pointsThen m_letters m_numbers m_h) → lv_has ls 2 [(0, .ref m_ad), (1, .int z.2)] → W p l e R s m args below meth c H locs 0 0 Q (F0 m 2 ls [])) (fun (z : (Nat → Int32)) => ∀ (H : Heap) (locs : List Loc) (ls : Array Slot), xWd (dC, dI) A s.heap H locs (wM cI cZ cB cO m_ad m_p m_now z m_past m_pasts m_refused m_figures m_isLaid m_many m_isMade m_made m_images m_orbits m_chains m_isCarried m_carried m_carriedMany m_isSorted m_leasts m_heads m_headFrom m_text m_typed m_at m_fault m_orders m_pointsThen m_letters m_numbers m_h) → lv_has ls 2 [] → W p l e R s m args below meth c H locs 0 0 Q (F0 m 25 ls [])) ?_ hr ?_ _ _ _ hw (lv_sub hl [1, 0] rfl)
  · rintro ⟨m_held_1, v1_2⟩ o h k H locs ls hw hl
    have hw : xWd (dC, dI) A s.heap H locs (wM cI cZ cB cO m_ad m_p m_now m_held_1 m_past m_pasts m_refused m_figures m_isLaid m_many m_isMade m_made m_images m_orbits m_chains m_isCarried m_carried m_carriedMany m_isSorted m_leasts m_heads m_headFrom m_text m_typed m_at m_fault m_orders m_pointsThen m_letters m_numbers m_h) := hw
    have hl : lv_has ls 2 [(0, .ref m_ad), (1, .int v1_2)] := hl
    refine lv_iload_n hx hb dX8_hold_2 rfl (lv_at hl 1 rfl) ?_
    refine lv_iconst (v := (5 : Int32)) hx hb dX8_hold_3 (by decide) ?_
    refine lv_icmp_ge (tgt := 25) hx hb dX8_hold_4 (by decide) (fun b1 => ?_) (fun b1 => ?_)
    · replace h := xb_tt b1 h
      obtain rfl := Option.some.inj h
      exact k _ _ _ hw (lv_sub hl [] rfl)
    · replace h := xb_ff b1 h
      refine lv_aload_n hx hb dX8_hold_7 rfl (lv_at hl 0 rfl) ?_
      refine x_get (ci := 7) C hw inX8 rfl 1 (by decide) lkF_X8_13 rfl 0 rfl rfl dX8_hold_8 ?_
      refine lv_iload_n hx hb dX8_hold_11 rfl (lv_at hl 1 rfl) ?_
      refine lv_aload_n hx hb dX8_hold_12 rfl (lv_at hl 0 rfl) ?_
      refine x_get (ci := 7) C hw inX8 rfl 0 (by decide) lkF_X8_7 rfl 0 rfl rfl dX8_hold_13 ?_
      refine lv_iload_n hx hb dX8_hold_16 rfl (lv_at hl 1 rfl) ?_
      obtain ⟨b2, h⟩ := xk_i h
      refine x_iald C hw 1 0 rfl rfl b2 dX8_hold_17 ?_
      refine x_iast C hw 2 0 rfl rfl b2 dX8_hold_18 (fun H locs hw => ?_)
      have hw : xWd (dC, dI) A s.heap H locs (wM cI cZ cB cO m_ad m_p m_now (upd m_held_1 v1_2.toNatClampNeg (m_now v1_2.toNatClampNeg)) m_past m_pasts m_refused m_figures m_isLaid m_many m_isMade m_made m_images m_orbits m_chains m_isCarried m_carried m_carriedMany m_isSorted m_leasts m_heads m_headFrom m_text m_typed m_at m_fault m_orders m_pointsThen m_letters m_numbers m_h) := hw
      refine lv_iinc (v := (v1_2 + (1 : Int32))) (lv' := [(1, .int (v1_2 + (1 : Int32))), (0, .ref m_ad)]) hx hb dX8_hold_19 hl (k := 1) rfl (congrArg (fun q => v1_2 + q) (by decide)) (by decide) rfl (fun ls hl => ?_)
      refine lv_goto (tgt := 2) hx hb dX8_hold_22 (by decide) ?_
      obtain rfl := Option.some.inj h
      exact k _ _ _ hw (lv_sub hl [1, 0] rfl)
  · obtain ⟨m_held_3, hz⟩ : ∃ q, q = z := ⟨z, rfl⟩
    subst hz
    intro H locs ls hw hl
    have hw : xWd (dC, dI) A s.heap H locs (wM cI cZ cB cO m_ad m_p m_now m_held_3 m_past m_pasts m_refused m_figures m_isLaid m_many m_isMade m_made m_images m_orbits m_chains m_isCarried m_carried m_carriedMany m_isSorted m_leasts m_heads m_headFrom m_text m_typed m_at m_fault m_orders m_pointsThen m_letters m_numbers m_h) := hw
    have hl : lv_has ls 2 [] := hl
    obtain rfl := Option.some.inj h
    exact x_retv C hQ hA hw dX8_hold_25
noncomputable def f_X8_push_L1  (z : (Nat → Int32) × Int32) : Option (((Nat → Int32) × Int32) ⊕ ((Nat → Int32))) := match z with
  | (m_past_3, v1_4) => xb ((20 : Int32) ≤ v1_4) (some (.inr m_past_3)) (xk (vp_in (v1_4 + (5 : Int32)) 25) (xk (vp_in v1_4 25) (some (.inl ((upd m_past_3 v1_4.toNatClampNeg (m_past_3 (v1_4 + (5 : Int32)).toNatClampNeg)), (v1_4 + (1 : Int32)))))))
noncomputable def f_X8_push_L2 (m_pasts_2 : Int32) (m_held : (Nat → Int32)) (z : (Nat → Int32) × Int32) : Option (((Nat → Int32) × Int32) ⊕ ((Nat → Int32))) := match z with
  | (m_past_6, v1_7) => xb ((5 : Int32) ≤ v1_7) (some (.inr m_past_6)) (xk (vp_in v1_7 5) (xk (vp_in (((5 : Int32) * m_pasts_2) + v1_7) 25) (some (.inl ((upd m_past_6 (((5 : Int32) * m_pasts_2) + v1_7).toNatClampNeg (m_held v1_7.toNatClampNeg)), (v1_7 + (1 : Int32)))))))
noncomputable def f_X8_push (m_held : (Nat → Int32)) (m_past : (Nat → Int32)) (m_pasts : Int32) : Option ((Nat → Int32) × Int32) := xn (xb (m_pasts = (5 : Int32)) (xn (xL f_X8_push_L1 (m_past, (0 : Int32))) (fun (m_past_5 : (Nat → Int32)) => some (m_past_5, (m_pasts - (1 : Int32))))) (some (m_past, m_pasts))) (fun (z : (Nat → Int32) × Int32) => match z with | (m_past_1, m_pasts_2) => xn (xL (f_X8_push_L2 m_pasts_2 m_held) (m_past_1, (0 : Int32))) (fun (m_past_8 : (Nat → Int32)) => some (m_past_8, (m_pasts_2 + (1 : Int32)))))
set_option maxHeartbeats 4000000 in
set_option maxRecDepth 100000 in
theorem c_X8_push (l : Launch) (dC : Nat → ClassId) (dI : Nat → Nat → Nat) (cI cZ cB cO : ClassId) (m_ad : Nat) (m_p : Nat → Nat) (m_now : (Nat → Int32)) (m_held : (Nat → Int32)) (m_past : (Nat → Int32)) (m_pasts : Int32) (m_refused : (Nat → Int32)) (m_figures : (Nat → Int32)) (m_isLaid : Int32) (m_many : Int32) (m_isMade : (Nat → Int32)) (m_made : (Nat → Int32)) (m_images : (Nat → Int32)) (m_orbits : (Nat → Int32)) (m_chains : (Nat → Int32)) (m_isCarried : (Nat → Int32)) (m_carried : (Nat → Int32)) (m_carriedMany : Int32) (m_isSorted : Int32) (m_leasts : (Nat → Int32)) (m_heads : (Nat → Int32)) (m_headFrom : (Nat → Int32)) (m_text : (Nat → Int32)) (m_typed : Int32) (m_at : Int32) (m_fault : Int32) (m_orders : Int32) (m_pointsThen : Int32) (m_letters : (Nat → Int32)) (m_numbers : (Nat → Int32)) (m_h : Int64) (o : (Nat → Int32) × Int32) (h : f_X8_push m_held m_past m_pasts = some o) (sz : Nat) : Met l yX8_push (xW yX8_push cX8_push 2 none) { frames := 0, cells := 0, slots := 0, locals := 0 } (xPre dC dI (xT cI cZ cB cO) [.ref m_ad] (wM cI cZ cB cO m_ad m_p m_now m_held m_past m_pasts m_refused m_figures m_isLaid m_many m_isMade m_made m_images m_orbits m_chains m_isCarried m_carried m_carriedMany m_isSorted m_leasts m_heads m_headFrom m_text m_typed m_at m_fault m_orders m_pointsThen m_letters m_numbers m_h) sz) (xQv dC dI (xT cI cZ cB cO) (wM cI cZ cB cO m_ad m_p m_now m_held m_past m_pasts m_refused m_figures m_isLaid m_many m_isMade m_made m_images m_orbits m_chains m_isCarried m_carried m_carriedMany m_isSorted m_leasts m_heads m_headFrom m_text m_typed m_at m_fault m_orders m_pointsThen m_letters m_numbers m_h) (wM cI cZ cB cO m_ad m_p m_now m_held o.1 o.2 m_refused m_figures m_isLaid m_many m_isMade m_made m_images m_orbits m_chains m_isCarried m_carried m_carriedMany m_isSorted m_leasts m_heads m_headFrom m_text m_typed m_at m_fault m_orders m_pointsThen m_letters m_numbers m_h) sz) 0 0 (va_A (wM cI cZ cB cO m_ad m_p m_now m_held m_past m_pasts m_refused m_figures m_isLaid m_many m_isMade m_made m_images m_orbits m_chains m_isCarried m_carried m_carriedMany m_isSorted m_leasts m_heads m_headFrom m_text m_typed m_at m_fault m_orders m_pointsThen m_letters m_numbers m_h) sz) := by
  refine x_met (by decide) (Nat.le_of_ble_eq_true rfl) ?_
  intro p e s m args below meth c R Q A hR hsz hA hQ hin C hw ls hl
  have hx := C.1
  have hb := C.2.1
  have hown := C.2.2.2.1
  have htb := C.2.2.2.2.1
  have hl : lv_has ls 2 [(0, .ref m_ad)] := hl
  refine lv_aload_n hx hb dX8_push_0 rfl (lv_at hl 0 rfl) ?_
  refine x_get (ci := 7) C hw inX8 rfl 3 (by decide) lkF_X8_66 rfl 0 rfl rfl dX8_push_1 ?_
  refine lv_iconst (v := (5 : Int32)) hx hb dX8_push_4 (by decide) ?_
  obtain ⟨z, hj, h⟩ := xn_i h
  have k : ∀ (H : Heap) (locs : List Loc) (ls : Array Slot), xWd (dC, dI) A s.heap H locs (wM cI cZ cB cO m_ad m_p m_now m_held z.1 z.2 m_refused m_figures m_isLaid m_many m_isMade m_made m_images m_orbits m_chains m_isCarried m_carried m_carriedMany m_isSorted m_leasts m_heads m_headFrom m_text m_typed m_at m_fault m_orders m_pointsThen m_letters m_numbers m_h) → lv_has ls 2 [(0, .ref m_ad)] → W p l e R s m args below meth c H locs 0 0 Q (F0 m 46 ls []) := by
    obtain ⟨m_past_1, m_pasts_2⟩ := z
    intro H locs ls hw hl
    have hw : xWd (dC, dI) A s.heap H locs (wM cI cZ cB cO m_ad m_p m_now m_held m_past_1 m_pasts_2 m_refused m_figures m_isLaid m_many m_isMade m_made m_images m_orbits m_chains m_isCarried m_carried m_carriedMany m_isSorted m_leasts m_heads m_headFrom m_text m_typed m_at m_fault m_orders m_pointsThen m_letters m_numbers m_h) := hw
    have hl : lv_has ls 2 [(0, .ref m_ad)] := hl
    show W p l e R s m args below meth c H locs 0 0 Q (F0 m 46 ls [])
    refine lv_iconst (v := (0 : Int32)) hx hb dX8_push_46 (by decide) ?_
    refine lv_istore_n (lv' := [(1, .int (0 : Int32)), (0, .ref m_ad)]) hx hb dX8_push_47 rfl hl (by decide) rfl (fun ls hl => ?_)
    obtain ⟨z, hr, h⟩ := xn_i h
    refine xL_w (fun (z : (Nat → Int32) × Int32) => ∀ (H : Heap) (locs : List Loc) (ls : Array Slot), xWd (dC, dI) A s.heap H locs (wM cI cZ cB cO m_ad m_p m_now m_held z.1 m_pasts_2 m_refused m_figures m_isLaid m_many m_isMade m_made m_images m_orbits m_chains m_isCarried m_carried m_carriedMany m_isSorted m_leasts m_heads m_headFrom m_text m_typed m_at m_fault m_orders m_pointsThen m_letters m_numbers m_h) → lv_has ls 2 [(0, .ref m_ad), (1, .int z.2)] → W p l e R s m args below meth c H locs 0 0 Q (F0 m 48 ls [])) (fun (z : (Nat → Int32)) => ∀ (H : Heap) (locs : List Loc) (ls : Array Slot), xWd (dC, dI) A s.heap H locs (wM cI cZ cB cO m_ad m_p m_now m_held z m_pasts_2 m_refused m_figures m_isLaid m_many m_isMade m_made m_images m_orbits m_chains m_isCarried m_carried m_carriedMany m_isSorted m_leasts m_heads m_headFrom m_text m_typed m_at m_fault m_orders m_pointsThen m_letters m_numbers m_h) → lv_has ls 2 [(0, .ref m_ad)] → W p l e R s m args below meth c H locs 0 0 Q (F0 m 78 ls [])) ?_ hr ?_ _ _ _ hw (lv_sub hl [1, 0] rfl)
    · rintro ⟨m_past_6, v1_7⟩ o h k H locs ls hw hl
      have hw : xWd (dC, dI) A s.heap H locs (wM cI cZ cB cO m_ad m_p m_now m_held m_past_6 m_pasts_2 m_refused m_figures m_isLaid m_many m_isMade m_made m_images m_orbits m_chains m_isCarried m_carried m_carriedMany m_isSorted m_leasts m_heads m_headFrom m_text m_typed m_at m_fault m_orders m_pointsThen m_letters m_numbers m_h) := hw
      have hl : lv_has ls 2 [(0, .ref m_ad), (1, .int v1_7)] := hl
      refine lv_iload_n hx hb dX8_push_48 rfl (lv_at hl 1 rfl) ?_
      refine lv_iconst (v := (5 : Int32)) hx hb dX8_push_49 (by decide) ?_
      refine lv_icmp_ge (tgt := 78) hx hb dX8_push_50 (by decide) (fun b5 => ?_) (fun b5 => ?_)
      · replace h := xb_tt b5 h
        obtain rfl := Option.some.inj h
        exact k _ _ _ hw (lv_sub hl [0] rfl)
      · replace h := xb_ff b5 h
        refine lv_aload_n hx hb dX8_push_53 rfl (lv_at hl 0 rfl) ?_
        refine x_get (ci := 7) C hw inX8 rfl 2 (by decide) lkF_X8_16 rfl 0 rfl rfl dX8_push_54 ?_
        refine lv_iconst (v := (5 : Int32)) hx hb dX8_push_57 (by decide) ?_
        refine lv_aload_n hx hb dX8_push_58 rfl (lv_at hl 0 rfl) ?_
        refine x_get (ci := 7) C hw inX8 rfl 3 (by decide) lkF_X8_66 rfl 0 rfl rfl dX8_push_59 ?_
        refine lv_imul hx hb dX8_push_62 ?_
        refine lv_iload_n hx hb dX8_push_63 rfl (lv_at hl 1 rfl) ?_
        refine lv_iadd hx hb dX8_push_64 ?_
        refine lv_aload_n hx hb dX8_push_65 rfl (lv_at hl 0 rfl) ?_
        refine x_get (ci := 7) C hw inX8 rfl 1 (by decide) lkF_X8_13 rfl 0 rfl rfl dX8_push_66 ?_
        refine lv_iload_n hx hb dX8_push_69 rfl (lv_at hl 1 rfl) ?_
        obtain ⟨b6, h⟩ := xk_i h
        refine x_iald C hw 2 0 rfl rfl b6 dX8_push_70 ?_
        obtain ⟨b7, h⟩ := xk_i h
        refine x_iast C hw 3 0 rfl rfl b7 dX8_push_71 (fun H locs hw => ?_)
        have hw : xWd (dC, dI) A s.heap H locs (wM cI cZ cB cO m_ad m_p m_now m_held (upd m_past_6 (((5 : Int32) * m_pasts_2) + v1_7).toNatClampNeg (m_held v1_7.toNatClampNeg)) m_pasts_2 m_refused m_figures m_isLaid m_many m_isMade m_made m_images m_orbits m_chains m_isCarried m_carried m_carriedMany m_isSorted m_leasts m_heads m_headFrom m_text m_typed m_at m_fault m_orders m_pointsThen m_letters m_numbers m_h) := hw
        refine lv_iinc (v := (v1_7 + (1 : Int32))) (lv' := [(1, .int (v1_7 + (1 : Int32))), (0, .ref m_ad)]) hx hb dX8_push_72 hl (k := 1) rfl (congrArg (fun q => v1_7 + q) (by decide)) (by decide) rfl (fun ls hl => ?_)
        refine lv_goto (tgt := 48) hx hb dX8_push_75 (by decide) ?_
        obtain rfl := Option.some.inj h
        exact k _ _ _ hw (lv_sub hl [1, 0] rfl)
    · obtain ⟨m_past_8, hz⟩ : ∃ q, q = z := ⟨z, rfl⟩
      subst hz
      intro H locs ls hw hl
      have hw : xWd (dC, dI) A s.heap H locs (wM cI cZ cB cO m_ad m_p m_now m_held m_past_8 m_pasts_2 m_refused m_figures m_isLaid m_many m_isMade m_made m_images m_orbits m_chains m_isCarried m_carried m_carriedMany m_isSorted m_leasts m_heads m_headFrom m_text m_typed m_at m_fault m_orders m_pointsThen m_letters m_numbers m_h) := hw
      have hl : lv_has ls 2 [(0, .ref m_ad)] := hl
      refine lv_aload_n hx hb dX8_push_78 rfl (lv_at hl 0 rfl) ?_
      refine lv_dup hx hb dX8_push_79 rfl ?_
      refine x_get (ci := 7) C hw inX8 rfl 3 (by decide) lkF_X8_66 rfl 0 rfl rfl dX8_push_80 ?_
      refine lv_iconst (v := (1 : Int32)) hx hb dX8_push_83 (by decide) ?_
      refine lv_iadd hx hb dX8_push_84 ?_
      refine x_put (ci := 7) C hw inX8 tyX8 tyX8_ok nmX8 rfl 3 (by decide) lkF_X8_66 rfl rfl 0 rfl rfl rfl (Nat.le_of_ble_eq_true rfl) dX8_push_85 (fun H locs hw => ?_)
      have hw : xWd (dC, dI) A s.heap H locs (wM cI cZ cB cO m_ad m_p m_now m_held m_past_8 (m_pasts_2 + (1 : Int32)) m_refused m_figures m_isLaid m_many m_isMade m_made m_images m_orbits m_chains m_isCarried m_carried m_carriedMany m_isSorted m_leasts m_heads m_headFrom m_text m_typed m_at m_fault m_orders m_pointsThen m_letters m_numbers m_h) := hw
      obtain rfl := Option.some.inj h
      exact x_retv C hQ hA hw dX8_push_88
  clear h
  have h := hj
  clear hj
  refine lv_icmp_ne (tgt := 46) hx hb dX8_push_5 (by decide) (fun b1 => ?_) (fun b1 => ?_)
  · replace h := xb_ff b1 h
    obtain rfl := Option.some.inj h
    exact k _ _ _ hw (lv_sub hl [0] rfl)
  · replace h := xb_tt b1 h
    refine lv_iconst (v := (0 : Int32)) hx hb dX8_push_8 (by decide) ?_
    refine lv_istore_n (lv' := [(1, .int (0 : Int32)), (0, .ref m_ad)]) hx hb dX8_push_9 rfl hl (by decide) rfl (fun ls hl => ?_)
    obtain ⟨z, hr, h⟩ := xn_i h
    refine xL_w (fun (z : (Nat → Int32) × Int32) => ∀ (H : Heap) (locs : List Loc) (ls : Array Slot), xWd (dC, dI) A s.heap H locs (wM cI cZ cB cO m_ad m_p m_now m_held z.1 m_pasts m_refused m_figures m_isLaid m_many m_isMade m_made m_images m_orbits m_chains m_isCarried m_carried m_carriedMany m_isSorted m_leasts m_heads m_headFrom m_text m_typed m_at m_fault m_orders m_pointsThen m_letters m_numbers m_h) → lv_has ls 2 [(0, .ref m_ad), (1, .int z.2)] → W p l e R s m args below meth c H locs 0 0 Q (F0 m 10 ls [])) (fun (z : (Nat → Int32)) => ∀ (H : Heap) (locs : List Loc) (ls : Array Slot), xWd (dC, dI) A s.heap H locs (wM cI cZ cB cO m_ad m_p m_now m_held z m_pasts m_refused m_figures m_isLaid m_many m_isMade m_made m_images m_orbits m_chains m_isCarried m_carried m_carriedMany m_isSorted m_leasts m_heads m_headFrom m_text m_typed m_at m_fault m_orders m_pointsThen m_letters m_numbers m_h) → lv_has ls 2 [(0, .ref m_ad)] → W p l e R s m args below meth c H locs 0 0 Q (F0 m 36 ls [])) ?_ hr ?_ _ _ _ hw (lv_sub hl [1, 0] rfl)
    · rintro ⟨m_past_3, v1_4⟩ o h k H locs ls hw hl
      have hw : xWd (dC, dI) A s.heap H locs (wM cI cZ cB cO m_ad m_p m_now m_held m_past_3 m_pasts m_refused m_figures m_isLaid m_many m_isMade m_made m_images m_orbits m_chains m_isCarried m_carried m_carriedMany m_isSorted m_leasts m_heads m_headFrom m_text m_typed m_at m_fault m_orders m_pointsThen m_letters m_numbers m_h) := hw
      have hl : lv_has ls 2 [(0, .ref m_ad), (1, .int v1_4)] := hl
      refine lv_iload_n hx hb dX8_push_10 rfl (lv_at hl 1 rfl) ?_
      refine lv_bipush (v := (20 : Int32)) hx hb dX8_push_11 (by decide) ?_
      refine lv_icmp_ge (tgt := 36) hx hb dX8_push_13 (by decide) (fun b2 => ?_) (fun b2 => ?_)
      · replace h := xb_tt b2 h
        obtain rfl := Option.some.inj h
        exact k _ _ _ hw (lv_sub hl [0] rfl)
      · replace h := xb_ff b2 h
        refine lv_aload_n hx hb dX8_push_16 rfl (lv_at hl 0 rfl) ?_
        refine x_get (ci := 7) C hw inX8 rfl 2 (by decide) lkF_X8_16 rfl 0 rfl rfl dX8_push_17 ?_
        refine lv_iload_n hx hb dX8_push_20 rfl (lv_at hl 1 rfl) ?_
        refine lv_aload_n hx hb dX8_push_21 rfl (lv_at hl 0 rfl) ?_
        refine x_get (ci := 7) C hw inX8 rfl 2 (by decide) lkF_X8_16 rfl 0 rfl rfl dX8_push_22 ?_
        refine lv_iload_n hx hb dX8_push_25 rfl (lv_at hl 1 rfl) ?_
        refine lv_iconst (v := (5 : Int32)) hx hb dX8_push_26 (by decide) ?_
        refine lv_iadd hx hb dX8_push_27 ?_
        obtain ⟨b3, h⟩ := xk_i h
        refine x_iald C hw 3 0 rfl rfl b3 dX8_push_28 ?_
        obtain ⟨b4, h⟩ := xk_i h
        refine x_iast C hw 3 0 rfl rfl b4 dX8_push_29 (fun H locs hw => ?_)
        have hw : xWd (dC, dI) A s.heap H locs (wM cI cZ cB cO m_ad m_p m_now m_held (upd m_past_3 v1_4.toNatClampNeg (m_past_3 (v1_4 + (5 : Int32)).toNatClampNeg)) m_pasts m_refused m_figures m_isLaid m_many m_isMade m_made m_images m_orbits m_chains m_isCarried m_carried m_carriedMany m_isSorted m_leasts m_heads m_headFrom m_text m_typed m_at m_fault m_orders m_pointsThen m_letters m_numbers m_h) := hw
        refine lv_iinc (v := (v1_4 + (1 : Int32))) (lv' := [(1, .int (v1_4 + (1 : Int32))), (0, .ref m_ad)]) hx hb dX8_push_30 hl (k := 1) rfl (congrArg (fun q => v1_4 + q) (by decide)) (by decide) rfl (fun ls hl => ?_)
        refine lv_goto (tgt := 10) hx hb dX8_push_33 (by decide) ?_
        obtain rfl := Option.some.inj h
        exact k _ _ _ hw (lv_sub hl [1, 0] rfl)
    · obtain ⟨m_past_5, hz⟩ : ∃ q, q = z := ⟨z, rfl⟩
      subst hz
      intro H locs ls hw hl
      have hw : xWd (dC, dI) A s.heap H locs (wM cI cZ cB cO m_ad m_p m_now m_held m_past_5 m_pasts m_refused m_figures m_isLaid m_many m_isMade m_made m_images m_orbits m_chains m_isCarried m_carried m_carriedMany m_isSorted m_leasts m_heads m_headFrom m_text m_typed m_at m_fault m_orders m_pointsThen m_letters m_numbers m_h) := hw
      have hl : lv_has ls 2 [(0, .ref m_ad)] := hl
      refine lv_aload_n hx hb dX8_push_36 rfl (lv_at hl 0 rfl) ?_
      refine lv_dup hx hb dX8_push_37 rfl ?_
      refine x_get (ci := 7) C hw inX8 rfl 3 (by decide) lkF_X8_66 rfl 0 rfl rfl dX8_push_38 ?_
      refine lv_iconst (v := (1 : Int32)) hx hb dX8_push_41 (by decide) ?_
      refine lv_isub hx hb dX8_push_42 ?_
      refine x_put (ci := 7) C hw inX8 tyX8 tyX8_ok nmX8 rfl 3 (by decide) lkF_X8_66 rfl rfl 0 rfl rfl rfl (Nat.le_of_ble_eq_true rfl) dX8_push_43 (fun H locs hw => ?_)
      have hw : xWd (dC, dI) A s.heap H locs (wM cI cZ cB cO m_ad m_p m_now m_held m_past_5 (m_pasts - (1 : Int32)) m_refused m_figures m_isLaid m_many m_isMade m_made m_images m_orbits m_chains m_isCarried m_carried m_carriedMany m_isSorted m_leasts m_heads m_headFrom m_text m_typed m_at m_fault m_orders m_pointsThen m_letters m_numbers m_h) := hw
      obtain rfl := Option.some.inj h
      exact k _ _ _ hw (lv_sub hl [0] rfl)
noncomputable def f_X8_ends (m_held : (Nat → Int32)) (m_past : (Nat → Int32)) (m_pasts : Int32) (m_refused : (Nat → Int32)) (v1 : Int32) : Option ((Nat → Int32) × Int32 × (Nat → Int32) × Int32) := xb (0 ≤ v1) (xn (f_X8_push m_held m_past m_pasts) (fun (z : (Nat → Int32) × Int32) => match z with | (m_past_1, m_pasts_2) => some (m_past_1, m_pasts_2, m_refused, v1))) (xn (f_X8_refuses m_refused v1) (fun (z : (Nat → Int32) × Int32) => match z with | (m_refused_3, r_4) => some (m_past, m_pasts, m_refused_3, r_4)))
set_option maxHeartbeats 4000000 in
set_option maxRecDepth 100000 in
theorem c_X8_ends (l : Launch) (dC : Nat → ClassId) (dI : Nat → Nat → Nat) (cI cZ cB cO : ClassId) (m_ad : Nat) (m_p : Nat → Nat) (m_now : (Nat → Int32)) (m_held : (Nat → Int32)) (m_past : (Nat → Int32)) (m_pasts : Int32) (m_refused : (Nat → Int32)) (m_figures : (Nat → Int32)) (m_isLaid : Int32) (m_many : Int32) (m_isMade : (Nat → Int32)) (m_made : (Nat → Int32)) (m_images : (Nat → Int32)) (m_orbits : (Nat → Int32)) (m_chains : (Nat → Int32)) (m_isCarried : (Nat → Int32)) (m_carried : (Nat → Int32)) (m_carriedMany : Int32) (m_isSorted : Int32) (m_leasts : (Nat → Int32)) (m_heads : (Nat → Int32)) (m_headFrom : (Nat → Int32)) (m_text : (Nat → Int32)) (m_typed : Int32) (m_at : Int32) (m_fault : Int32) (m_orders : Int32) (m_pointsThen : Int32) (m_letters : (Nat → Int32)) (m_numbers : (Nat → Int32)) (m_h : Int64) (v1 : Int32) (o : (Nat → Int32) × Int32 × (Nat → Int32) × Int32) (h : f_X8_ends m_held m_past m_pasts m_refused v1 = some o) (sz : Nat) : Met l yX8_ends (xW yX8_ends cX8_ends 2 (some .int)) { frames := 1, cells := 0, slots := 0, locals := 21 } (xPre dC dI (xT cI cZ cB cO) [.ref m_ad, .int v1] (wM cI cZ cB cO m_ad m_p m_now m_held m_past m_pasts m_refused m_figures m_isLaid m_many m_isMade m_made m_images m_orbits m_chains m_isCarried m_carried m_carriedMany m_isSorted m_leasts m_heads m_headFrom m_text m_typed m_at m_fault m_orders m_pointsThen m_letters m_numbers m_h) sz) (xQi dC dI (xT cI cZ cB cO) o.2.2.2 (wM cI cZ cB cO m_ad m_p m_now m_held m_past m_pasts m_refused m_figures m_isLaid m_many m_isMade m_made m_images m_orbits m_chains m_isCarried m_carried m_carriedMany m_isSorted m_leasts m_heads m_headFrom m_text m_typed m_at m_fault m_orders m_pointsThen m_letters m_numbers m_h) (wM cI cZ cB cO m_ad m_p m_now m_held o.1 o.2.1 o.2.2.1 m_figures m_isLaid m_many m_isMade m_made m_images m_orbits m_chains m_isCarried m_carried m_carriedMany m_isSorted m_leasts m_heads m_headFrom m_text m_typed m_at m_fault m_orders m_pointsThen m_letters m_numbers m_h) sz) 0 0 (va_A (wM cI cZ cB cO m_ad m_p m_now m_held m_past m_pasts m_refused m_figures m_isLaid m_many m_isMade m_made m_images m_orbits m_chains m_isCarried m_carried m_carriedMany m_isSorted m_leasts m_heads m_headFrom m_text m_typed m_at m_fault m_orders m_pointsThen m_letters m_numbers m_h) sz) := by
  refine x_met (by decide) (Nat.le_of_ble_eq_true rfl) ?_
  intro p e s m args below meth c R Q A hR hsz hA hQ hin C hw ls hl
  have hx := C.1
  have hb := C.2.1
  have hown := C.2.2.2.1
  have htb := C.2.2.2.2.1
  have hl : lv_has ls 2 [(0, .ref m_ad), (1, .int v1)] := hl
  refine lv_iload_n hx hb dX8_ends_0 rfl (lv_at hl 1 rfl) ?_
  refine lv_if_ge (tgt := 10) hx hb dX8_ends_1 (by decide) (fun b1 => ?_) (fun b1 => ?_)
  · replace h := xb_tt b1 h
    refine lv_aload_n hx hb dX8_ends_10 rfl (lv_at hl 0 rfl) ?_
    obtain ⟨⟨m_past_1, m_pasts_2⟩, q2, h⟩ := xn_i h
    refine x_callVv (As := []) (rest := []) C hw gc_X8_74 ⟨rfl, rfl, ds_X8_push, (by rw [hR]; exact Nat.le_of_ble_eq_true rfl), (by rw [hR]; exact Nat.le_of_ble_eq_true rfl), Nat.zero_le _, Nat.zero_le _⟩ (c_X8_push l dC dI cI cZ cB cO m_ad m_p m_now m_held m_past m_pasts m_refused m_figures m_isLaid m_many m_isMade m_made m_images m_orbits m_chains m_isCarried m_carried m_carriedMany m_isSorted m_leasts m_heads m_headFrom m_text m_typed m_at m_fault m_orders m_pointsThen m_letters m_numbers m_h _ q2 _) [0, 1, 2, 3, 4, 5, 6, 7, 8, 9, 10, 11, 12, 13, 14, 15, 16, 17, 18] [] (by decide) rfl rfl (by decide) (by decide) rfl rfl rfl hl.1 rfl (Nat.le_of_ble_eq_true rfl) dX8_ends_11 (fun H locs hw => ?_)
    have hw : xWd (dC, dI) A s.heap H locs (wM cI cZ cB cO m_ad m_p m_now m_held m_past_1 m_pasts_2 m_refused m_figures m_isLaid m_many m_isMade m_made m_images m_orbits m_chains m_isCarried m_carried m_carriedMany m_isSorted m_leasts m_heads m_headFrom m_text m_typed m_at m_fault m_orders m_pointsThen m_letters m_numbers m_h) := hw
    refine lv_iload_n hx hb dX8_ends_14 rfl (lv_at hl 1 rfl) ?_
    obtain rfl := Option.some.inj h
    exact x_reti C hQ hA hw dX8_ends_15
  · replace h := xb_ff b1 h
    refine lv_aload_n hx hb dX8_ends_4 rfl (lv_at hl 0 rfl) ?_
    refine lv_iload_n hx hb dX8_ends_5 rfl (lv_at hl 1 rfl) ?_
    obtain ⟨⟨m_refused_3, r_4⟩, q3, h⟩ := xn_i h
    refine x_callVi (As := [.int v1]) (rest := []) C hw gc_X8_70 ⟨rfl, rfl, ds_X8_refuses, (by rw [hR]; exact Nat.le_of_ble_eq_true rfl), (by rw [hR]; exact Nat.le_of_ble_eq_true rfl), Nat.zero_le _, Nat.zero_le _⟩ (c_X8_refuses l dC dI cI cZ cB cO m_ad m_p m_now m_held m_past m_pasts m_refused m_figures m_isLaid m_many m_isMade m_made m_images m_orbits m_chains m_isCarried m_carried m_carriedMany m_isSorted m_leasts m_heads m_headFrom m_text m_typed m_at m_fault m_orders m_pointsThen m_letters m_numbers m_h v1 _ q3 _) [0, 1, 2, 3, 4, 5, 6, 7, 8, 9, 10, 11, 12, 13, 14, 15, 16, 17, 18] [] (by decide) rfl rfl (by decide) (by decide) rfl rfl rfl hl.1 rfl (Nat.le_of_ble_eq_true rfl) dX8_ends_6 (fun H locs hw => ?_)
    have hw : xWd (dC, dI) A s.heap H locs (wM cI cZ cB cO m_ad m_p m_now m_held m_past m_pasts m_refused_3 m_figures m_isLaid m_many m_isMade m_made m_images m_orbits m_chains m_isCarried m_carried m_carriedMany m_isSorted m_leasts m_heads m_headFrom m_text m_typed m_at m_fault m_orders m_pointsThen m_letters m_numbers m_h) := hw
    obtain rfl := Option.some.inj h
    exact x_reti C hQ hA hw dX8_ends_9
noncomputable def f_X8_back_L1 (m_pasts : Int32) (m_past : (Nat → Int32)) (z : (Nat → Int32) × Int32) : Option (((Nat → Int32) × Int32) ⊕ ((Nat → Int32))) := match z with
  | (m_now_1, v1_2) => xb ((5 : Int32) ≤ v1_2) (some (.inr m_now_1)) (xk (vp_in (((5 : Int32) * (m_pasts - (1 : Int32))) + v1_2) 25) (xk (vp_in v1_2 5) (some (.inl ((upd m_now_1 v1_2.toNatClampNeg (m_past (((5 : Int32) * (m_pasts - (1 : Int32))) + v1_2).toNatClampNeg)), (v1_2 + (1 : Int32)))))))
noncomputable def f_X8_back (m_now : (Nat → Int32)) (m_past : (Nat → Int32)) (m_pasts : Int32) (m_refused : (Nat → Int32)) (m_isLaid : Int32) (m_isSorted : Int32) : Option ((Nat → Int32) × Int32 × (Nat → Int32) × Int32 × Int32 × Int32) := xb (m_pasts = 0) (xn (f_X8_refuses m_refused (-3 : Int32)) (fun (z : (Nat → Int32) × Int32) => match z with | (m_refused_4, r_5) => some (m_now, m_pasts, m_refused_4, m_isLaid, m_isSorted, r_5))) (xn (xL (f_X8_back_L1 m_pasts m_past) (m_now, (0 : Int32))) (fun (m_now_3 : (Nat → Int32)) => some (m_now_3, (m_pasts - (1 : Int32)), m_refused, (0 : Int32), (0 : Int32), (m_pasts - (1 : Int32)))))
set_option maxHeartbeats 4000000 in
set_option maxRecDepth 100000 in
theorem c_X8_back (l : Launch) (dC : Nat → ClassId) (dI : Nat → Nat → Nat) (cI cZ cB cO : ClassId) (m_ad : Nat) (m_p : Nat → Nat) (m_now : (Nat → Int32)) (m_held : (Nat → Int32)) (m_past : (Nat → Int32)) (m_pasts : Int32) (m_refused : (Nat → Int32)) (m_figures : (Nat → Int32)) (m_isLaid : Int32) (m_many : Int32) (m_isMade : (Nat → Int32)) (m_made : (Nat → Int32)) (m_images : (Nat → Int32)) (m_orbits : (Nat → Int32)) (m_chains : (Nat → Int32)) (m_isCarried : (Nat → Int32)) (m_carried : (Nat → Int32)) (m_carriedMany : Int32) (m_isSorted : Int32) (m_leasts : (Nat → Int32)) (m_heads : (Nat → Int32)) (m_headFrom : (Nat → Int32)) (m_text : (Nat → Int32)) (m_typed : Int32) (m_at : Int32) (m_fault : Int32) (m_orders : Int32) (m_pointsThen : Int32) (m_letters : (Nat → Int32)) (m_numbers : (Nat → Int32)) (m_h : Int64) (o : (Nat → Int32) × Int32 × (Nat → Int32) × Int32 × Int32 × Int32) (h : f_X8_back m_now m_past m_pasts m_refused m_isLaid m_isSorted = some o) (sz : Nat) : Met l yX8_back (xW yX8_back cX8_back 2 (some .int)) { frames := 1, cells := 0, slots := 0, locals := 21 } (xPre dC dI (xT cI cZ cB cO) [.ref m_ad] (wM cI cZ cB cO m_ad m_p m_now m_held m_past m_pasts m_refused m_figures m_isLaid m_many m_isMade m_made m_images m_orbits m_chains m_isCarried m_carried m_carriedMany m_isSorted m_leasts m_heads m_headFrom m_text m_typed m_at m_fault m_orders m_pointsThen m_letters m_numbers m_h) sz) (xQi dC dI (xT cI cZ cB cO) o.2.2.2.2.2 (wM cI cZ cB cO m_ad m_p m_now m_held m_past m_pasts m_refused m_figures m_isLaid m_many m_isMade m_made m_images m_orbits m_chains m_isCarried m_carried m_carriedMany m_isSorted m_leasts m_heads m_headFrom m_text m_typed m_at m_fault m_orders m_pointsThen m_letters m_numbers m_h) (wM cI cZ cB cO m_ad m_p o.1 m_held m_past o.2.1 o.2.2.1 m_figures o.2.2.2.1 m_many m_isMade m_made m_images m_orbits m_chains m_isCarried m_carried m_carriedMany o.2.2.2.2.1 m_leasts m_heads m_headFrom m_text m_typed m_at m_fault m_orders m_pointsThen m_letters m_numbers m_h) sz) 0 0 (va_A (wM cI cZ cB cO m_ad m_p m_now m_held m_past m_pasts m_refused m_figures m_isLaid m_many m_isMade m_made m_images m_orbits m_chains m_isCarried m_carried m_carriedMany m_isSorted m_leasts m_heads m_headFrom m_text m_typed m_at m_fault m_orders m_pointsThen m_letters m_numbers m_h) sz) := by
  refine x_met (by decide) (Nat.le_of_ble_eq_true rfl) ?_
  intro p e s m args below meth c R Q A hR hsz hA hQ hin C hw ls hl
  have hx := C.1
  have hb := C.2.1
  have hown := C.2.2.2.1
  have htb := C.2.2.2.2.1
  have hl : lv_has ls 2 [(0, .ref m_ad)] := hl
  refine lv_aload_n hx hb dX8_back_0 rfl (lv_at hl 0 rfl) ?_
  refine x_get (ci := 7) C hw inX8 rfl 3 (by decide) lkF_X8_66 rfl 0 rfl rfl dX8_back_1 ?_
  refine lv_if_ne (tgt := 14) hx hb dX8_back_4 (by decide) (fun b1 => ?_) (fun b1 => ?_)
  · replace h := xb_ff b1 h
    refine lv_aload_n hx hb dX8_back_14 rfl (lv_at hl 0 rfl) ?_
    refine lv_dup hx hb dX8_back_15 rfl ?_
    refine x_get (ci := 7) C hw inX8 rfl 3 (by decide) lkF_X8_66 rfl 0 rfl rfl dX8_back_16 ?_
    refine lv_iconst (v := (1 : Int32)) hx hb dX8_back_19 (by decide) ?_
    refine lv_isub hx hb dX8_back_20 ?_
    refine x_put (ci := 7) C hw inX8 tyX8 tyX8_ok nmX8 rfl 3 (by decide) lkF_X8_66 rfl rfl 0 rfl rfl rfl (Nat.le_of_ble_eq_true rfl) dX8_back_21 (fun H locs hw => ?_)
    have hw : xWd (dC, dI) A s.heap H locs (wM cI cZ cB cO m_ad m_p m_now m_held m_past (m_pasts - (1 : Int32)) m_refused m_figures m_isLaid m_many m_isMade m_made m_images m_orbits m_chains m_isCarried m_carried m_carriedMany m_isSorted m_leasts m_heads m_headFrom m_text m_typed m_at m_fault m_orders m_pointsThen m_letters m_numbers m_h) := hw
    refine lv_iconst (v := (0 : Int32)) hx hb dX8_back_24 (by decide) ?_
    refine lv_istore_n (lv' := [(1, .int (0 : Int32)), (0, .ref m_ad)]) hx hb dX8_back_25 rfl hl (by decide) rfl (fun ls hl => ?_)
    obtain ⟨z, hr, h⟩ := xn_i h
    refine xL_w (fun (z : (Nat → Int32) × Int32) => ∀ (H : Heap) (locs : List Loc) (ls : Array Slot), xWd (dC, dI) A s.heap H locs (wM cI cZ cB cO m_ad m_p z.1 m_held m_past (m_pasts - (1 : Int32)) m_refused m_figures m_isLaid m_many m_isMade m_made m_images m_orbits m_chains m_isCarried m_carried m_carriedMany m_isSorted m_leasts m_heads m_headFrom m_text m_typed m_at m_fault m_orders m_pointsThen m_letters m_numbers m_h) → lv_has ls 2 [(0, .ref m_ad), (1, .int z.2)] → W p l e R s m args below meth c H locs 0 0 Q (F0 m 26 ls [])) (fun (z : (Nat → Int32)) => ∀ (H : Heap) (locs : List Loc) (ls : Array Slot), xWd (dC, dI) A s.heap H locs (wM cI cZ cB cO m_ad m_p z m_held m_past (m_pasts - (1 : Int32)) m_refused m_figures m_isLaid m_many m_isMade m_made m_images m_orbits m_chains m_isCarried m_carried m_carriedMany m_isSorted m_leasts m_heads m_headFrom m_text m_typed m_at m_fault m_orders m_pointsThen m_letters m_numbers m_h) → lv_has ls 2 [(0, .ref m_ad)] → W p l e R s m args below meth c H locs 0 0 Q (F0 m 56 ls [])) ?_ hr ?_ _ _ _ hw (lv_sub hl [1, 0] rfl)
    · rintro ⟨m_now_1, v1_2⟩ o h k H locs ls hw hl
      have hw : xWd (dC, dI) A s.heap H locs (wM cI cZ cB cO m_ad m_p m_now_1 m_held m_past (m_pasts - (1 : Int32)) m_refused m_figures m_isLaid m_many m_isMade m_made m_images m_orbits m_chains m_isCarried m_carried m_carriedMany m_isSorted m_leasts m_heads m_headFrom m_text m_typed m_at m_fault m_orders m_pointsThen m_letters m_numbers m_h) := hw
      have hl : lv_has ls 2 [(0, .ref m_ad), (1, .int v1_2)] := hl
      refine lv_iload_n hx hb dX8_back_26 rfl (lv_at hl 1 rfl) ?_
      refine lv_iconst (v := (5 : Int32)) hx hb dX8_back_27 (by decide) ?_
      refine lv_icmp_ge (tgt := 56) hx hb dX8_back_28 (by decide) (fun b2 => ?_) (fun b2 => ?_)
      · replace h := xb_tt b2 h
        obtain rfl := Option.some.inj h
        exact k _ _ _ hw (lv_sub hl [0] rfl)
      · replace h := xb_ff b2 h
        refine lv_aload_n hx hb dX8_back_31 rfl (lv_at hl 0 rfl) ?_
        refine x_get (ci := 7) C hw inX8 rfl 0 (by decide) lkF_X8_7 rfl 0 rfl rfl dX8_back_32 ?_
        refine lv_iload_n hx hb dX8_back_35 rfl (lv_at hl 1 rfl) ?_
        refine lv_aload_n hx hb dX8_back_36 rfl (lv_at hl 0 rfl) ?_
        refine x_get (ci := 7) C hw inX8 rfl 2 (by decide) lkF_X8_16 rfl 0 rfl rfl dX8_back_37 ?_
        refine lv_iconst (v := (5 : Int32)) hx hb dX8_back_40 (by decide) ?_
        refine lv_aload_n hx hb dX8_back_41 rfl (lv_at hl 0 rfl) ?_
        refine x_get (ci := 7) C hw inX8 rfl 3 (by decide) lkF_X8_66 rfl 0 rfl rfl dX8_back_42 ?_
        refine lv_imul hx hb dX8_back_45 ?_
        refine lv_iload_n hx hb dX8_back_46 rfl (lv_at hl 1 rfl) ?_
        refine lv_iadd hx hb dX8_back_47 ?_
        obtain ⟨b3, h⟩ := xk_i h
        refine x_iald C hw 3 0 rfl rfl b3 dX8_back_48 ?_
        obtain ⟨b4, h⟩ := xk_i h
        refine x_iast C hw 1 0 rfl rfl b4 dX8_back_49 (fun H locs hw => ?_)
        have hw : xWd (dC, dI) A s.heap H locs (wM cI cZ cB cO m_ad m_p (upd m_now_1 v1_2.toNatClampNeg (m_past (((5 : Int32) * (m_pasts - (1 : Int32))) + v1_2).toNatClampNeg)) m_held m_past (m_pasts - (1 : Int32)) m_refused m_figures m_isLaid m_many m_isMade m_made m_images m_orbits m_chains m_isCarried m_carried m_carriedMany m_isSorted m_leasts m_heads m_headFrom m_text m_typed m_at m_fault m_orders m_pointsThen m_letters m_numbers m_h) := hw
        refine lv_iinc (v := (v1_2 + (1 : Int32))) (lv' := [(1, .int (v1_2 + (1 : Int32))), (0, .ref m_ad)]) hx hb dX8_back_50 hl (k := 1) rfl (congrArg (fun q => v1_2 + q) (by decide)) (by decide) rfl (fun ls hl => ?_)
        refine lv_goto (tgt := 26) hx hb dX8_back_53 (by decide) ?_
        obtain rfl := Option.some.inj h
        exact k _ _ _ hw (lv_sub hl [1, 0] rfl)
    · obtain ⟨m_now_3, hz⟩ : ∃ q, q = z := ⟨z, rfl⟩
      subst hz
      intro H locs ls hw hl
      have hw : xWd (dC, dI) A s.heap H locs (wM cI cZ cB cO m_ad m_p m_now_3 m_held m_past (m_pasts - (1 : Int32)) m_refused m_figures m_isLaid m_many m_isMade m_made m_images m_orbits m_chains m_isCarried m_carried m_carriedMany m_isSorted m_leasts m_heads m_headFrom m_text m_typed m_at m_fault m_orders m_pointsThen m_letters m_numbers m_h) := hw
      have hl : lv_has ls 2 [(0, .ref m_ad)] := hl
      refine lv_aload_n hx hb dX8_back_56 rfl (lv_at hl 0 rfl) ?_
      refine lv_iconst (v := (0 : Int32)) hx hb dX8_back_57 (by decide) ?_
      refine x_put (ci := 7) C hw inX8 tyX8 tyX8_ok nmX8 rfl 6 (by decide) lkF_X8_77 rfl rfl 0 rfl rfl rfl (Nat.le_of_ble_eq_true rfl) dX8_back_58 (fun H locs hw => ?_)
      have hw : xWd (dC, dI) A s.heap H locs (wM cI cZ cB cO m_ad m_p m_now_3 m_held m_past (m_pasts - (1 : Int32)) m_refused m_figures (0 : Int32) m_many m_isMade m_made m_images m_orbits m_chains m_isCarried m_carried m_carriedMany m_isSorted m_leasts m_heads m_headFrom m_text m_typed m_at m_fault m_orders m_pointsThen m_letters m_numbers m_h) := hw
      refine lv_aload_n hx hb dX8_back_61 rfl (lv_at hl 0 rfl) ?_
      refine lv_iconst (v := (0 : Int32)) hx hb dX8_back_62 (by decide) ?_
      refine x_put (ci := 7) C hw inX8 tyX8 tyX8_ok nmX8 rfl 16 (by decide) lkF_X8_81 rfl rfl 0 rfl rfl rfl (Nat.le_of_ble_eq_true rfl) dX8_back_63 (fun H locs hw => ?_)
      have hw : xWd (dC, dI) A s.heap H locs (wM cI cZ cB cO m_ad m_p m_now_3 m_held m_past (m_pasts - (1 : Int32)) m_refused m_figures (0 : Int32) m_many m_isMade m_made m_images m_orbits m_chains m_isCarried m_carried m_carriedMany (0 : Int32) m_leasts m_heads m_headFrom m_text m_typed m_at m_fault m_orders m_pointsThen m_letters m_numbers m_h) := hw
      refine lv_aload_n hx hb dX8_back_66 rfl (lv_at hl 0 rfl) ?_
      refine x_get (ci := 7) C hw inX8 rfl 3 (by decide) lkF_X8_66 rfl 0 rfl rfl dX8_back_67 ?_
      obtain rfl := Option.some.inj h
      exact x_reti C hQ hA hw dX8_back_70
  · replace h := xb_tt b1 h
    refine lv_aload_n hx hb dX8_back_7 rfl (lv_at hl 0 rfl) ?_
    refine lv_bipush (v := (-3 : Int32)) hx hb dX8_back_8 (by decide) ?_
    obtain ⟨⟨m_refused_4, r_5⟩, q5, h⟩ := xn_i h
    refine x_callVi (As := [.int (-3 : Int32)]) (rest := []) C hw gc_X8_70 ⟨rfl, rfl, ds_X8_refuses, (by rw [hR]; exact Nat.le_of_ble_eq_true rfl), (by rw [hR]; exact Nat.le_of_ble_eq_true rfl), Nat.zero_le _, Nat.zero_le _⟩ (c_X8_refuses l dC dI cI cZ cB cO m_ad m_p m_now m_held m_past m_pasts m_refused m_figures m_isLaid m_many m_isMade m_made m_images m_orbits m_chains m_isCarried m_carried m_carriedMany m_isSorted m_leasts m_heads m_headFrom m_text m_typed m_at m_fault m_orders m_pointsThen m_letters m_numbers m_h (-3 : Int32) _ q5 _) [0, 1, 2, 3, 4, 5, 6, 7, 8, 9, 10, 11, 12, 13, 14, 15, 16, 17, 18] [] (by decide) rfl rfl (by decide) (by decide) rfl rfl rfl hl.1 rfl (Nat.le_of_ble_eq_true rfl) dX8_back_10 (fun H locs hw => ?_)
    have hw : xWd (dC, dI) A s.heap H locs (wM cI cZ cB cO m_ad m_p m_now m_held m_past m_pasts m_refused_4 m_figures m_isLaid m_many m_isMade m_made m_images m_orbits m_chains m_isCarried m_carried m_carriedMany m_isSorted m_leasts m_heads m_headFrom m_text m_typed m_at m_fault m_orders m_pointsThen m_letters m_numbers m_h) := hw
    obtain rfl := Option.some.inj h
    exact x_reti C hQ hA hw dX8_back_13
noncomputable def f_X8_open_L1  (z : (Nat → Int32) × Int32 × Int32) : Option (((Nat → Int32) × Int32 × Int32) ⊕ ((Nat → Int32))) := match z with
  | (m_figures_1, v2_2, v3_3) => xb (v3_3 < 0) (some (.inr m_figures_1)) (xk (vp_in v3_3 8) (some (.inl ((upd m_figures_1 v3_3.toNatClampNeg (v2_2 - v2_2 / (10 : Int32) * (10 : Int32))), (v2_2 / (10 : Int32)), (v3_3 + (-1 : Int32))))))
noncomputable def f_X8_open (m_now : (Nat → Int32)) (m_figures : (Nat → Int32)) (v1 : Int32) : Option ((Nat → Int32)) := xn (xL f_X8_open_L1 (m_figures, v1, ((m_now 0) - (1 : Int32)))) (fun (m_figures_4 : (Nat → Int32)) => some m_figures_4)
set_option maxHeartbeats 4000000 in
set_option maxRecDepth 100000 in
theorem c_X8_open (l : Launch) (dC : Nat → ClassId) (dI : Nat → Nat → Nat) (cI cZ cB cO : ClassId) (m_ad : Nat) (m_p : Nat → Nat) (m_now : (Nat → Int32)) (m_held : (Nat → Int32)) (m_past : (Nat → Int32)) (m_pasts : Int32) (m_refused : (Nat → Int32)) (m_figures : (Nat → Int32)) (m_isLaid : Int32) (m_many : Int32) (m_isMade : (Nat → Int32)) (m_made : (Nat → Int32)) (m_images : (Nat → Int32)) (m_orbits : (Nat → Int32)) (m_chains : (Nat → Int32)) (m_isCarried : (Nat → Int32)) (m_carried : (Nat → Int32)) (m_carriedMany : Int32) (m_isSorted : Int32) (m_leasts : (Nat → Int32)) (m_heads : (Nat → Int32)) (m_headFrom : (Nat → Int32)) (m_text : (Nat → Int32)) (m_typed : Int32) (m_at : Int32) (m_fault : Int32) (m_orders : Int32) (m_pointsThen : Int32) (m_letters : (Nat → Int32)) (m_numbers : (Nat → Int32)) (m_h : Int64) (v1 : Int32) (o : (Nat → Int32)) (h : f_X8_open m_now m_figures v1 = some o) (sz : Nat) : Met l yX8_open (xW yX8_open cX8_open 4 none) { frames := 0, cells := 0, slots := 0, locals := 0 } (xPre dC dI (xT cI cZ cB cO) [.ref m_ad, .int v1] (wM cI cZ cB cO m_ad m_p m_now m_held m_past m_pasts m_refused m_figures m_isLaid m_many m_isMade m_made m_images m_orbits m_chains m_isCarried m_carried m_carriedMany m_isSorted m_leasts m_heads m_headFrom m_text m_typed m_at m_fault m_orders m_pointsThen m_letters m_numbers m_h) sz) (xQv dC dI (xT cI cZ cB cO) (wM cI cZ cB cO m_ad m_p m_now m_held m_past m_pasts m_refused m_figures m_isLaid m_many m_isMade m_made m_images m_orbits m_chains m_isCarried m_carried m_carriedMany m_isSorted m_leasts m_heads m_headFrom m_text m_typed m_at m_fault m_orders m_pointsThen m_letters m_numbers m_h) (wM cI cZ cB cO m_ad m_p m_now m_held m_past m_pasts m_refused o m_isLaid m_many m_isMade m_made m_images m_orbits m_chains m_isCarried m_carried m_carriedMany m_isSorted m_leasts m_heads m_headFrom m_text m_typed m_at m_fault m_orders m_pointsThen m_letters m_numbers m_h) sz) 0 0 (va_A (wM cI cZ cB cO m_ad m_p m_now m_held m_past m_pasts m_refused m_figures m_isLaid m_many m_isMade m_made m_images m_orbits m_chains m_isCarried m_carried m_carriedMany m_isSorted m_leasts m_heads m_headFrom m_text m_typed m_at m_fault m_orders m_pointsThen m_letters m_numbers m_h) sz) := by
  refine x_met (by decide) (Nat.le_of_ble_eq_true rfl) ?_
  intro p e s m args below meth c R Q A hR hsz hA hQ hin C hw ls hl
  have hx := C.1
  have hb := C.2.1
  have hown := C.2.2.2.1
  have htb := C.2.2.2.2.1
  have hl : lv_has ls 4 [(0, .ref m_ad), (1, .int v1)] := hl
  refine lv_iload_n hx hb dX8_open_0 rfl (lv_at hl 1 rfl) ?_
  refine lv_istore_n (lv' := [(2, .int v1), (0, .ref m_ad), (1, .int v1)]) hx hb dX8_open_1 rfl hl (by decide) rfl (fun ls hl => ?_)
  refine lv_aload_n hx hb dX8_open_2 rfl (lv_at hl 1 rfl) ?_
  refine x_get (ci := 7) C hw inX8 rfl 0 (by decide) lkF_X8_7 rfl 0 rfl rfl dX8_open_3 ?_
  refine lv_iconst (v := (0 : Int32)) hx hb dX8_open_6 (by decide) ?_
  refine x_ialk C hw 1 0 rfl rfl (k := 0) (by decide) (vp_in_iff.mpr (by decide)) dX8_open_7 ?_
  refine lv_iconst (v := (1 : Int32)) hx hb dX8_open_8 (by decide) ?_
  refine lv_isub hx hb dX8_open_9 ?_
  refine lv_istore_n (lv' := [(3, .int ((m_now 0) - (1 : Int32))), (2, .int v1), (0, .ref m_ad), (1, .int v1)]) hx hb dX8_open_10 rfl hl (by decide) rfl (fun ls hl => ?_)
  obtain ⟨z, hr, h⟩ := xn_i h
  refine xL_w (fun (z : (Nat → Int32) × Int32 × Int32) => ∀ (H : Heap) (locs : List Loc) (ls : Array Slot), xWd (dC, dI) A s.heap H locs (wM cI cZ cB cO m_ad m_p m_now m_held m_past m_pasts m_refused z.1 m_isLaid m_many m_isMade m_made m_images m_orbits m_chains m_isCarried m_carried m_carriedMany m_isSorted m_leasts m_heads m_headFrom m_text m_typed m_at m_fault m_orders m_pointsThen m_letters m_numbers m_h) → lv_has ls 4 [(0, .ref m_ad), (2, .int z.2.1), (3, .int z.2.2)] → W p l e R s m args below meth c H locs 0 0 Q (F0 m 11 ls [])) (fun (z : (Nat → Int32)) => ∀ (H : Heap) (locs : List Loc) (ls : Array Slot), xWd (dC, dI) A s.heap H locs (wM cI cZ cB cO m_ad m_p m_now m_held m_past m_pasts m_refused z m_isLaid m_many m_isMade m_made m_images m_orbits m_chains m_isCarried m_carried m_carriedMany m_isSorted m_leasts m_heads m_headFrom m_text m_typed m_at m_fault m_orders m_pointsThen m_letters m_numbers m_h) → lv_has ls 4 [] → W p l e R s m args below meth c H locs 0 0 Q (F0 m 36 ls [])) ?_ hr ?_ _ _ _ hw (lv_sub hl [2, 1, 0] rfl)
  · rintro ⟨m_figures_1, v2_2, v3_3⟩ o h k H locs ls hw hl
    have hw : xWd (dC, dI) A s.heap H locs (wM cI cZ cB cO m_ad m_p m_now m_held m_past m_pasts m_refused m_figures_1 m_isLaid m_many m_isMade m_made m_images m_orbits m_chains m_isCarried m_carried m_carriedMany m_isSorted m_leasts m_heads m_headFrom m_text m_typed m_at m_fault m_orders m_pointsThen m_letters m_numbers m_h) := hw
    have hl : lv_has ls 4 [(0, .ref m_ad), (2, .int v2_2), (3, .int v3_3)] := hl
    refine lv_iload_n hx hb dX8_open_11 rfl (lv_at hl 2 rfl) ?_
    refine lv_if_lt (tgt := 36) hx hb dX8_open_12 (by decide) (fun b1 => ?_) (fun b1 => ?_)
    · replace h := xb_tt b1 h
      obtain rfl := Option.some.inj h
      exact k _ _ _ hw (lv_sub hl [] rfl)
    · replace h := xb_ff b1 h
      refine lv_aload_n hx hb dX8_open_15 rfl (lv_at hl 0 rfl) ?_
      refine x_get (ci := 7) C hw inX8 rfl 5 (by decide) lkF_X8_22 rfl 0 rfl rfl dX8_open_16 ?_
      refine lv_iload_n hx hb dX8_open_19 rfl (lv_at hl 2 rfl) ?_
      refine lv_iload_n hx hb dX8_open_20 rfl (lv_at hl 1 rfl) ?_
      refine lv_bipush (v := (10 : Int32)) hx hb dX8_open_21 (by decide) ?_
      refine lv_irem hx hb dX8_open_23 (by decide) ?_
      obtain ⟨b2, h⟩ := xk_i h
      refine x_iast C hw 5 0 rfl rfl b2 dX8_open_24 (fun H locs hw => ?_)
      have hw : xWd (dC, dI) A s.heap H locs (wM cI cZ cB cO m_ad m_p m_now m_held m_past m_pasts m_refused (upd m_figures_1 v3_3.toNatClampNeg (v2_2 - v2_2 / (10 : Int32) * (10 : Int32))) m_isLaid m_many m_isMade m_made m_images m_orbits m_chains m_isCarried m_carried m_carriedMany m_isSorted m_leasts m_heads m_headFrom m_text m_typed m_at m_fault m_orders m_pointsThen m_letters m_numbers m_h) := hw
      refine lv_iload_n hx hb dX8_open_25 rfl (lv_at hl 1 rfl) ?_
      refine lv_bipush (v := (10 : Int32)) hx hb dX8_open_26 (by decide) ?_
      refine lv_idiv hx hb dX8_open_28 (by decide) ?_
      refine lv_istore_n (lv' := [(2, .int (v2_2 / (10 : Int32))), (0, .ref m_ad), (3, .int v3_3)]) hx hb dX8_open_29 rfl hl (by decide) rfl (fun ls hl => ?_)
      refine lv_iinc (v := (v3_3 + (-1 : Int32))) (lv' := [(3, .int (v3_3 + (-1 : Int32))), (2, .int (v2_2 / (10 : Int32))), (0, .ref m_ad)]) hx hb dX8_open_30 hl (k := 2) rfl (congrArg (fun q => v3_3 + q) (by decide)) (by decide) rfl (fun ls hl => ?_)
      refine lv_goto (tgt := 11) hx hb dX8_open_33 (by decide) ?_
      obtain rfl := Option.some.inj h
      exact k _ _ _ hw (lv_sub hl [2, 1, 0] rfl)
  · obtain ⟨m_figures_4, hz⟩ : ∃ q, q = z := ⟨z, rfl⟩
    subst hz
    intro H locs ls hw hl
    have hw : xWd (dC, dI) A s.heap H locs (wM cI cZ cB cO m_ad m_p m_now m_held m_past m_pasts m_refused m_figures_4 m_isLaid m_many m_isMade m_made m_images m_orbits m_chains m_isCarried m_carried m_carriedMany m_isSorted m_leasts m_heads m_headFrom m_text m_typed m_at m_fault m_orders m_pointsThen m_letters m_numbers m_h) := hw
    have hl : lv_has ls 4 [] := hl
    obtain rfl := Option.some.inj h
    exact x_retv C hQ hA hw dX8_open_36
noncomputable def f_X8_isMove_L2 (m_now : (Nat → Int32)) (m_figures_5 : (Nat → Int32)) (z : Int32 × Int32) : Option ((Int32 × Int32) ⊕ (Int32)) := match z with
  | (v3_6, v4_7) => xb ((m_now 0) ≤ v4_7) (some (.inr v3_6)) (xk (vp_in v4_7 8) (some (.inl ((v3_6 ||| ((1 : Int32) <<< ((m_figures_5 v4_7.toNatClampNeg) &&& 31))), (v4_7 + (1 : Int32))))))
noncomputable def f_X8_isMove_L1 (m_now : (Nat → Int32)) (z : Int32 × Int32) : Option ((Int32 × Int32) ⊕ (Int32)) := match z with
  | (v2_1, v3_2) => xb ((m_now 0) ≤ v3_2) (some (.inr v2_1)) (some (.inl ((v2_1 * (10 : Int32)), (v3_2 + (1 : Int32)))))
noncomputable def f_X8_isMove (m_now : (Nat → Int32)) (m_figures : (Nat → Int32)) (v1 : Int32) : Option ((Nat → Int32) × Int32) := xn (xL (f_X8_isMove_L1 m_now) ((1 : Int32), (0 : Int32))) (fun (v2_3 : Int32) => xn (f_X8_in v1 (0 : Int32) (v2_3 - (1 : Int32))) (fun (r_4 : Int32) => xb (r_4 = 0) (some (m_figures, (0 : Int32))) (xn (f_X8_open m_now m_figures v1) (fun (m_figures_5 : (Nat → Int32)) => xn (xL (f_X8_isMove_L2 m_now m_figures_5) ((0 : Int32), (0 : Int32))) (fun (v3_8 : Int32) => xb (v3_8 = (((1 : Int32) <<< ((m_now 0) &&& 31)) - (1 : Int32))) (some (m_figures_5, (1 : Int32))) (some (m_figures_5, (0 : Int32))))))))
set_option maxHeartbeats 4000000 in
set_option maxRecDepth 100000 in
theorem c_X8_isMove (l : Launch) (dC : Nat → ClassId) (dI : Nat → Nat → Nat) (cI cZ cB cO : ClassId) (m_ad : Nat) (m_p : Nat → Nat) (m_now : (Nat → Int32)) (m_held : (Nat → Int32)) (m_past : (Nat → Int32)) (m_pasts : Int32) (m_refused : (Nat → Int32)) (m_figures : (Nat → Int32)) (m_isLaid : Int32) (m_many : Int32) (m_isMade : (Nat → Int32)) (m_made : (Nat → Int32)) (m_images : (Nat → Int32)) (m_orbits : (Nat → Int32)) (m_chains : (Nat → Int32)) (m_isCarried : (Nat → Int32)) (m_carried : (Nat → Int32)) (m_carriedMany : Int32) (m_isSorted : Int32) (m_leasts : (Nat → Int32)) (m_heads : (Nat → Int32)) (m_headFrom : (Nat → Int32)) (m_text : (Nat → Int32)) (m_typed : Int32) (m_at : Int32) (m_fault : Int32) (m_orders : Int32) (m_pointsThen : Int32) (m_letters : (Nat → Int32)) (m_numbers : (Nat → Int32)) (m_h : Int64) (v1 : Int32) (o : (Nat → Int32) × Int32) (h : f_X8_isMove m_now m_figures v1 = some o) (sz : Nat) : Met l yX8_isMove (xW yX8_isMove cX8_isMove 5 (some .boolean)) { frames := 1, cells := 0, slots := 0, locals := 23 } (xPre dC dI (xT cI cZ cB cO) [.ref m_ad, .int v1] (wM cI cZ cB cO m_ad m_p m_now m_held m_past m_pasts m_refused m_figures m_isLaid m_many m_isMade m_made m_images m_orbits m_chains m_isCarried m_carried m_carriedMany m_isSorted m_leasts m_heads m_headFrom m_text m_typed m_at m_fault m_orders m_pointsThen m_letters m_numbers m_h) sz) (xQi dC dI (xT cI cZ cB cO) o.2 (wM cI cZ cB cO m_ad m_p m_now m_held m_past m_pasts m_refused m_figures m_isLaid m_many m_isMade m_made m_images m_orbits m_chains m_isCarried m_carried m_carriedMany m_isSorted m_leasts m_heads m_headFrom m_text m_typed m_at m_fault m_orders m_pointsThen m_letters m_numbers m_h) (wM cI cZ cB cO m_ad m_p m_now m_held m_past m_pasts m_refused o.1 m_isLaid m_many m_isMade m_made m_images m_orbits m_chains m_isCarried m_carried m_carriedMany m_isSorted m_leasts m_heads m_headFrom m_text m_typed m_at m_fault m_orders m_pointsThen m_letters m_numbers m_h) sz) 0 0 (va_A (wM cI cZ cB cO m_ad m_p m_now m_held m_past m_pasts m_refused m_figures m_isLaid m_many m_isMade m_made m_images m_orbits m_chains m_isCarried m_carried m_carriedMany m_isSorted m_leasts m_heads m_headFrom m_text m_typed m_at m_fault m_orders m_pointsThen m_letters m_numbers m_h) sz) := by
  refine x_met (by decide) (Nat.le_of_ble_eq_true rfl) ?_
  intro p e s m args below meth c R Q A hR hsz hA hQ hin C hw ls hl
  have hx := C.1
  have hb := C.2.1
  have hown := C.2.2.2.1
  have htb := C.2.2.2.2.1
  have hl : lv_has ls 5 [(0, .ref m_ad), (1, .int v1)] := hl
  refine lv_iconst (v := (1 : Int32)) hx hb dX8_isMove_0 (by decide) ?_
  refine lv_istore_n (lv' := [(2, .int (1 : Int32)), (0, .ref m_ad), (1, .int v1)]) hx hb dX8_isMove_1 rfl hl (by decide) rfl (fun ls hl => ?_)
  refine lv_iconst (v := (0 : Int32)) hx hb dX8_isMove_2 (by decide) ?_
  refine lv_istore_n (lv' := [(3, .int (0 : Int32)), (2, .int (1 : Int32)), (0, .ref m_ad), (1, .int v1)]) hx hb dX8_isMove_3 rfl hl (by decide) rfl (fun ls hl => ?_)
  obtain ⟨z, hr, h⟩ := xn_i h
  refine xL_w (fun (z : Int32 × Int32) => ∀ (H : Heap) (locs : List Loc) (ls : Array Slot), xWd (dC, dI) A s.heap H locs (wM cI cZ cB cO m_ad m_p m_now m_held m_past m_pasts m_refused m_figures m_isLaid m_many m_isMade m_made m_images m_orbits m_chains m_isCarried m_carried m_carriedMany m_isSorted m_leasts m_heads m_headFrom m_text m_typed m_at m_fault m_orders m_pointsThen m_letters m_numbers m_h) → lv_has ls 5 [(0, .ref m_ad), (1, .int v1), (2, .int z.1), (3, .int z.2)] → W p l e R s m args below meth c H locs 0 0 Q (F0 m 4 ls [])) (fun (z : Int32) => ∀ (H : Heap) (locs : List Loc) (ls : Array Slot), xWd (dC, dI) A s.heap H locs (wM cI cZ cB cO m_ad m_p m_now m_held m_past m_pasts m_refused m_figures m_isLaid m_many m_isMade m_made m_images m_orbits m_chains m_isCarried m_carried m_carriedMany m_isSorted m_leasts m_heads m_headFrom m_text m_typed m_at m_fault m_orders m_pointsThen m_letters m_numbers m_h) → lv_has ls 5 [(0, .ref m_ad), (1, .int v1), (2, .int z)] → W p l e R s m args below meth c H locs 0 0 Q (F0 m 25 ls [])) ?_ hr ?_ _ _ _ hw (lv_sub hl [2, 3, 1, 0] rfl)
  · rintro ⟨v2_1, v3_2⟩ o h k H locs ls hw hl
    have hw : xWd (dC, dI) A s.heap H locs (wM cI cZ cB cO m_ad m_p m_now m_held m_past m_pasts m_refused m_figures m_isLaid m_many m_isMade m_made m_images m_orbits m_chains m_isCarried m_carried m_carriedMany m_isSorted m_leasts m_heads m_headFrom m_text m_typed m_at m_fault m_orders m_pointsThen m_letters m_numbers m_h) := hw
    have hl : lv_has ls 5 [(0, .ref m_ad), (1, .int v1), (2, .int v2_1), (3, .int v3_2)] := hl
    refine lv_iload_n hx hb dX8_isMove_4 rfl (lv_at hl 3 rfl) ?_
    refine lv_aload_n hx hb dX8_isMove_5 rfl (lv_at hl 0 rfl) ?_
    refine x_get (ci := 7) C hw inX8 rfl 0 (by decide) lkF_X8_7 rfl 0 rfl rfl dX8_isMove_6 ?_
    refine lv_iconst (v := (0 : Int32)) hx hb dX8_isMove_9 (by decide) ?_
    refine x_ialk C hw 1 0 rfl rfl (k := 0) (by decide) (vp_in_iff.mpr (by decide)) dX8_isMove_10 ?_
    refine lv_icmp_ge (tgt := 25) hx hb dX8_isMove_11 (by decide) (fun b1 => ?_) (fun b1 => ?_)
    · replace h := xb_tt b1 h
      obtain rfl := Option.some.inj h
      exact k _ _ _ hw (lv_sub hl [0, 1, 2] rfl)
    · replace h := xb_ff b1 h
      refine lv_iload_n hx hb dX8_isMove_14 rfl (lv_at hl 2 rfl) ?_
      refine lv_bipush (v := (10 : Int32)) hx hb dX8_isMove_15 (by decide) ?_
      refine lv_imul hx hb dX8_isMove_17 ?_
      refine lv_istore_n (lv' := [(2, .int (v2_1 * (10 : Int32))), (0, .ref m_ad), (1, .int v1), (3, .int v3_2)]) hx hb dX8_isMove_18 rfl hl (by decide) rfl (fun ls hl => ?_)
      refine lv_iinc (v := (v3_2 + (1 : Int32))) (lv' := [(3, .int (v3_2 + (1 : Int32))), (2, .int (v2_1 * (10 : Int32))), (0, .ref m_ad), (1, .int v1)]) hx hb dX8_isMove_19 hl (k := 3) rfl (congrArg (fun q => v3_2 + q) (by decide)) (by decide) rfl (fun ls hl => ?_)
      refine lv_goto (tgt := 4) hx hb dX8_isMove_22 (by decide) ?_
      obtain rfl := Option.some.inj h
      exact k _ _ _ hw (lv_sub hl [2, 3, 1, 0] rfl)
  · obtain ⟨v2_3, hz⟩ : ∃ q, q = z := ⟨z, rfl⟩
    subst hz
    intro H locs ls hw hl
    have hw : xWd (dC, dI) A s.heap H locs (wM cI cZ cB cO m_ad m_p m_now m_held m_past m_pasts m_refused m_figures m_isLaid m_many m_isMade m_made m_images m_orbits m_chains m_isCarried m_carried m_carriedMany m_isSorted m_leasts m_heads m_headFrom m_text m_typed m_at m_fault m_orders m_pointsThen m_letters m_numbers m_h) := hw
    have hl : lv_has ls 5 [(0, .ref m_ad), (1, .int v1), (2, .int v2_3)] := hl
    refine lv_iload_n hx hb dX8_isMove_25 rfl (lv_at hl 1 rfl) ?_
    refine lv_iconst (v := (0 : Int32)) hx hb dX8_isMove_26 (by decide) ?_
    refine lv_iload_n hx hb dX8_isMove_27 rfl (lv_at hl 2 rfl) ?_
    refine lv_iconst (v := (1 : Int32)) hx hb dX8_isMove_28 (by decide) ?_
    refine lv_isub hx hb dX8_isMove_29 ?_
    obtain ⟨r_4, q2, h⟩ := xn_i h
    refine x_callSi (As := [.int v1, .int (0 : Int32), .int (v2_3 - (1 : Int32))]) (rest := []) C hw gc_X8_84 ds_X8_in (by rw [hR]; exact Nat.le_of_ble_eq_true rfl) (by rw [hR]; exact Nat.le_of_ble_eq_true rfl) rfl rfl (Nat.zero_le _) (Nat.zero_le _) (c_X8_in l dC dI cI cZ cB cO v1 (0 : Int32) (v2_3 - (1 : Int32)) _ q2 _) [] [0, 1, 2, 3, 4, 5, 6, 7, 8, 9, 10, 11, 12, 13, 14, 15, 16, 17, 18] (by decide) rfl rfl (by decide) (by decide) rfl hl.1 rfl (Nat.le_of_ble_eq_true rfl) dX8_isMove_30 (fun H locs hw => ?_)
    have hw : xWd (dC, dI) A s.heap H locs (wM cI cZ cB cO m_ad m_p m_now m_held m_past m_pasts m_refused m_figures m_isLaid m_many m_isMade m_made m_images m_orbits m_chains m_isCarried m_carried m_carriedMany m_isSorted m_leasts m_heads m_headFrom m_text m_typed m_at m_fault m_orders m_pointsThen m_letters m_numbers m_h) := hw.sub [0, 1, 2, 3, 4, 5, 6, 7, 8, 9, 10, 11, 12, 13, 14, 15, 16, 17, 18] (by decide) rfl
    refine lv_if_ne (tgt := 38) hx hb dX8_isMove_33 (by decide) (fun b3 => ?_) (fun b3 => ?_)
    · replace h := xb_ff b3 h
      refine lv_iconst (v := (0 : Int32)) hx hb dX8_isMove_38 (by decide) ?_
      refine lv_istore_n (lv' := [(3, .int (0 : Int32)), (0, .ref m_ad), (1, .int v1), (2, .int v2_3)]) hx hb dX8_isMove_39 rfl hl (by decide) rfl (fun ls hl => ?_)
      refine lv_aload_n hx hb dX8_isMove_40 rfl (lv_at hl 1 rfl) ?_
      refine lv_iload_n hx hb dX8_isMove_41 rfl (lv_at hl 2 rfl) ?_
      obtain ⟨m_figures_5, q4, h⟩ := xn_i h
      refine x_callVv (As := [.int v1]) (rest := []) C hw gc_X8_88 ⟨rfl, rfl, ds_X8_open, (by rw [hR]; exact Nat.le_of_ble_eq_true rfl), (by rw [hR]; exact Nat.le_of_ble_eq_true rfl), Nat.zero_le _, Nat.zero_le _⟩ (c_X8_open l dC dI cI cZ cB cO m_ad m_p m_now m_held m_past m_pasts m_refused m_figures m_isLaid m_many m_isMade m_made m_images m_orbits m_chains m_isCarried m_carried m_carriedMany m_isSorted m_leasts m_heads m_headFrom m_text m_typed m_at m_fault m_orders m_pointsThen m_letters m_numbers m_h v1 _ q4 _) [0, 1, 2, 3, 4, 5, 6, 7, 8, 9, 10, 11, 12, 13, 14, 15, 16, 17, 18] [] (by decide) rfl rfl (by decide) (by decide) rfl rfl rfl hl.1 rfl (Nat.le_of_ble_eq_true rfl) dX8_isMove_42 (fun H locs hw => ?_)
      have hw : xWd (dC, dI) A s.heap H locs (wM cI cZ cB cO m_ad m_p m_now m_held m_past m_pasts m_refused m_figures_5 m_isLaid m_many m_isMade m_made m_images m_orbits m_chains m_isCarried m_carried m_carriedMany m_isSorted m_leasts m_heads m_headFrom m_text m_typed m_at m_fault m_orders m_pointsThen m_letters m_numbers m_h) := hw
      refine lv_iconst (v := (0 : Int32)) hx hb dX8_isMove_45 (by decide) ?_
      refine lv_istore (lv' := [(4, .int (0 : Int32)), (3, .int (0 : Int32)), (0, .ref m_ad), (1, .int v1), (2, .int v2_3)]) hx hb dX8_isMove_46 hl (by decide) rfl (fun ls hl => ?_)
      obtain ⟨z, hr, h⟩ := xn_i h
      refine xL_w (fun (z : Int32 × Int32) => ∀ (H : Heap) (locs : List Loc) (ls : Array Slot), xWd (dC, dI) A s.heap H locs (wM cI cZ cB cO m_ad m_p m_now m_held m_past m_pasts m_refused m_figures_5 m_isLaid m_many m_isMade m_made m_images m_orbits m_chains m_isCarried m_carried m_carriedMany m_isSorted m_leasts m_heads m_headFrom m_text m_typed m_at m_fault m_orders m_pointsThen m_letters m_numbers m_h) → lv_has ls 5 [(0, .ref m_ad), (3, .int z.1), (4, .int z.2)] → W p l e R s m args below meth c H locs 0 0 Q (F0 m 48 ls [])) (fun (z : Int32) => ∀ (H : Heap) (locs : List Loc) (ls : Array Slot), xWd (dC, dI) A s.heap H locs (wM cI cZ cB cO m_ad m_p m_now m_held m_past m_pasts m_refused m_figures_5 m_isLaid m_many m_isMade m_made m_images m_orbits m_chains m_isCarried m_carried m_carriedMany m_isSorted m_leasts m_heads m_headFrom m_text m_typed m_at m_fault m_orders m_pointsThen m_letters m_numbers m_h) → lv_has ls 5 [(0, .ref m_ad), (3, .int z)] → W p l e R s m args below meth c H locs 0 0 Q (F0 m 77 ls [])) ?_ hr ?_ _ _ _ hw (lv_sub hl [2, 1, 0] rfl)
      · rintro ⟨v3_6, v4_7⟩ o h k H locs ls hw hl
        have hw : xWd (dC, dI) A s.heap H locs (wM cI cZ cB cO m_ad m_p m_now m_held m_past m_pasts m_refused m_figures_5 m_isLaid m_many m_isMade m_made m_images m_orbits m_chains m_isCarried m_carried m_carriedMany m_isSorted m_leasts m_heads m_headFrom m_text m_typed m_at m_fault m_orders m_pointsThen m_letters m_numbers m_h) := hw
        have hl : lv_has ls 5 [(0, .ref m_ad), (3, .int v3_6), (4, .int v4_7)] := hl
        refine lv_iload hx hb dX8_isMove_48 (lv_at hl 2 rfl) ?_
        refine lv_aload_n hx hb dX8_isMove_50 rfl (lv_at hl 0 rfl) ?_
        refine x_get (ci := 7) C hw inX8 rfl 0 (by decide) lkF_X8_7 rfl 0 rfl rfl dX8_isMove_51 ?_
        refine lv_iconst (v := (0 : Int32)) hx hb dX8_isMove_54 (by decide) ?_
        refine x_ialk C hw 1 0 rfl rfl (k := 0) (by decide) (vp_in_iff.mpr (by decide)) dX8_isMove_55 ?_
        refine lv_icmp_ge (tgt := 77) hx hb dX8_isMove_56 (by decide) (fun b5 => ?_) (fun b5 => ?_)
        · replace h := xb_tt b5 h
          obtain rfl := Option.some.inj h
          exact k _ _ _ hw (lv_sub hl [0, 1] rfl)
        · replace h := xb_ff b5 h
          refine lv_iload_n hx hb dX8_isMove_59 rfl (lv_at hl 1 rfl) ?_
          refine lv_iconst (v := (1 : Int32)) hx hb dX8_isMove_60 (by decide) ?_
          refine lv_aload_n hx hb dX8_isMove_61 rfl (lv_at hl 0 rfl) ?_
          refine x_get (ci := 7) C hw inX8 rfl 5 (by decide) lkF_X8_22 rfl 0 rfl rfl dX8_isMove_62 ?_
          refine lv_iload hx hb dX8_isMove_65 (lv_at hl 2 rfl) ?_
          obtain ⟨b6, h⟩ := xk_i h
          refine x_iald C hw 5 0 rfl rfl b6 dX8_isMove_67 ?_
          refine lv_ishl hx hb dX8_isMove_68 ?_
          refine lv_ior hx hb dX8_isMove_69 ?_
          refine lv_istore_n (lv' := [(3, .int (v3_6 ||| ((1 : Int32) <<< ((m_figures_5 v4_7.toNatClampNeg) &&& 31)))), (0, .ref m_ad), (4, .int v4_7)]) hx hb dX8_isMove_70 rfl hl (by decide) rfl (fun ls hl => ?_)
          refine lv_iinc (v := (v4_7 + (1 : Int32))) (lv' := [(4, .int (v4_7 + (1 : Int32))), (3, .int (v3_6 ||| ((1 : Int32) <<< ((m_figures_5 v4_7.toNatClampNeg) &&& 31)))), (0, .ref m_ad)]) hx hb dX8_isMove_71 hl (k := 2) rfl (congrArg (fun q => v4_7 + q) (by decide)) (by decide) rfl (fun ls hl => ?_)
          refine lv_goto (tgt := 48) hx hb dX8_isMove_74 (by decide) ?_
          obtain rfl := Option.some.inj h
          exact k _ _ _ hw (lv_sub hl [2, 1, 0] rfl)
      · obtain ⟨v3_8, hz⟩ : ∃ q, q = z := ⟨z, rfl⟩
        subst hz
        intro H locs ls hw hl
        have hw : xWd (dC, dI) A s.heap H locs (wM cI cZ cB cO m_ad m_p m_now m_held m_past m_pasts m_refused m_figures_5 m_isLaid m_many m_isMade m_made m_images m_orbits m_chains m_isCarried m_carried m_carriedMany m_isSorted m_leasts m_heads m_headFrom m_text m_typed m_at m_fault m_orders m_pointsThen m_letters m_numbers m_h) := hw
        have hl : lv_has ls 5 [(0, .ref m_ad), (3, .int v3_8)] := hl
        refine lv_iload_n hx hb dX8_isMove_77 rfl (lv_at hl 1 rfl) ?_
        refine lv_iconst (v := (1 : Int32)) hx hb dX8_isMove_78 (by decide) ?_
        refine lv_aload_n hx hb dX8_isMove_79 rfl (lv_at hl 0 rfl) ?_
        refine x_get (ci := 7) C hw inX8 rfl 0 (by decide) lkF_X8_7 rfl 0 rfl rfl dX8_isMove_80 ?_
        refine lv_iconst (v := (0 : Int32)) hx hb dX8_isMove_83 (by decide) ?_
        refine x_ialk C hw 1 0 rfl rfl (k := 0) (by decide) (vp_in_iff.mpr (by decide)) dX8_isMove_84 ?_
        refine lv_ishl hx hb dX8_isMove_85 ?_
        refine lv_iconst (v := (1 : Int32)) hx hb dX8_isMove_86 (by decide) ?_
        refine lv_isub hx hb dX8_isMove_87 ?_
        refine lv_icmp_ne (tgt := 95) hx hb dX8_isMove_88 (by decide) (fun b7 => ?_) (fun b7 => ?_)
        · replace h := xb_ff b7 h
          refine lv_iconst (v := (0 : Int32)) hx hb dX8_isMove_95 (by decide) ?_
          obtain rfl := Option.some.inj h
          exact x_retz C hQ hA hw (by decide) dX8_isMove_96
        · replace h := xb_tt b7 h
          refine lv_iconst (v := (1 : Int32)) hx hb dX8_isMove_91 (by decide) ?_
          refine lv_goto (tgt := 96) hx hb dX8_isMove_92 (by decide) ?_
          obtain rfl := Option.some.inj h
          exact x_retz C hQ hA hw (by decide) dX8_isMove_96
    · replace h := xb_tt b3 h
      refine lv_iconst (v := (0 : Int32)) hx hb dX8_isMove_36 (by decide) ?_
      obtain rfl := Option.some.inj h
      exact x_retz C hQ hA hw (by decide) dX8_isMove_37
noncomputable def f_X8_placeOf_L2 (m_now : (Nat → Int32)) (v2_2 : Int32) (m_figures : (Nat → Int32)) (z : Int32 × Int32) : Option ((Int32 × Int32) ⊕ (Int32)) := match z with
  | (v3_4, v4_5) => xb ((m_now 0) ≤ v4_5) (some (.inr v3_4)) (xk (vp_in v4_5 8) (xk (vp_in v2_2 8) (xb ((m_figures v2_2.toNatClampNeg) ≤ (m_figures v4_5.toNatClampNeg)) (some (.inl ((v3_4 + (0 : Int32)), (v4_5 + (1 : Int32))))) (some (.inl ((v3_4 + (1 : Int32)), (v4_5 + (1 : Int32))))))))
noncomputable def f_X8_placeOf_L1 (m_now : (Nat → Int32)) (m_figures : (Nat → Int32)) (z : Int32 × Int32) : Option ((Int32 × Int32) ⊕ (Int32)) := match z with
  | (v1_1, v2_2) => xb ((m_now 0) ≤ v2_2) (some (.inr v1_1)) (xn (xL (f_X8_placeOf_L2 m_now v2_2 m_figures) ((0 : Int32), (v2_2 + (1 : Int32)))) (fun (v3_6 : Int32) => some (.inl (((v1_1 * ((m_now 0) - v2_2)) + v3_6), (v2_2 + (1 : Int32))))))
noncomputable def f_X8_placeOf (m_now : (Nat → Int32)) (m_figures : (Nat → Int32)) : Option (Int32) := xn (xL (f_X8_placeOf_L1 m_now m_figures) ((0 : Int32), (0 : Int32))) (fun (v1_3 : Int32) => some v1_3)
set_option maxHeartbeats 4000000 in
set_option maxRecDepth 100000 in
theorem c_X8_placeOf (l : Launch) (dC : Nat → ClassId) (dI : Nat → Nat → Nat) (cI cZ cB cO : ClassId) (m_ad : Nat) (m_p : Nat → Nat) (m_now : (Nat → Int32)) (m_held : (Nat → Int32)) (m_past : (Nat → Int32)) (m_pasts : Int32) (m_refused : (Nat → Int32)) (m_figures : (Nat → Int32)) (m_isLaid : Int32) (m_many : Int32) (m_isMade : (Nat → Int32)) (m_made : (Nat → Int32)) (m_images : (Nat → Int32)) (m_orbits : (Nat → Int32)) (m_chains : (Nat → Int32)) (m_isCarried : (Nat → Int32)) (m_carried : (Nat → Int32)) (m_carriedMany : Int32) (m_isSorted : Int32) (m_leasts : (Nat → Int32)) (m_heads : (Nat → Int32)) (m_headFrom : (Nat → Int32)) (m_text : (Nat → Int32)) (m_typed : Int32) (m_at : Int32) (m_fault : Int32) (m_orders : Int32) (m_pointsThen : Int32) (m_letters : (Nat → Int32)) (m_numbers : (Nat → Int32)) (m_h : Int64) (o : Int32) (h : f_X8_placeOf m_now m_figures = some o) (sz : Nat) : Met l yX8_placeOf (xW yX8_placeOf cX8_placeOf 5 (some .int)) { frames := 0, cells := 0, slots := 0, locals := 0 } (xPre dC dI (xT cI cZ cB cO) [.ref m_ad] (wM cI cZ cB cO m_ad m_p m_now m_held m_past m_pasts m_refused m_figures m_isLaid m_many m_isMade m_made m_images m_orbits m_chains m_isCarried m_carried m_carriedMany m_isSorted m_leasts m_heads m_headFrom m_text m_typed m_at m_fault m_orders m_pointsThen m_letters m_numbers m_h) sz) (xQi dC dI (xT cI cZ cB cO) o (wM cI cZ cB cO m_ad m_p m_now m_held m_past m_pasts m_refused m_figures m_isLaid m_many m_isMade m_made m_images m_orbits m_chains m_isCarried m_carried m_carriedMany m_isSorted m_leasts m_heads m_headFrom m_text m_typed m_at m_fault m_orders m_pointsThen m_letters m_numbers m_h) (wM cI cZ cB cO m_ad m_p m_now m_held m_past m_pasts m_refused m_figures m_isLaid m_many m_isMade m_made m_images m_orbits m_chains m_isCarried m_carried m_carriedMany m_isSorted m_leasts m_heads m_headFrom m_text m_typed m_at m_fault m_orders m_pointsThen m_letters m_numbers m_h) sz) 0 0 (va_A (wM cI cZ cB cO m_ad m_p m_now m_held m_past m_pasts m_refused m_figures m_isLaid m_many m_isMade m_made m_images m_orbits m_chains m_isCarried m_carried m_carriedMany m_isSorted m_leasts m_heads m_headFrom m_text m_typed m_at m_fault m_orders m_pointsThen m_letters m_numbers m_h) sz) := by
  refine x_met (by decide) (Nat.le_of_ble_eq_true rfl) ?_
  intro p e s m args below meth c R Q A hR hsz hA hQ hin C hw ls hl
  have hx := C.1
  have hb := C.2.1
  have hown := C.2.2.2.1
  have htb := C.2.2.2.2.1
  have hl : lv_has ls 5 [(0, .ref m_ad)] := hl
  refine lv_iconst (v := (0 : Int32)) hx hb dX8_placeOf_0 (by decide) ?_
  refine lv_istore_n (lv' := [(1, .int (0 : Int32)), (0, .ref m_ad)]) hx hb dX8_placeOf_1 rfl hl (by decide) rfl (fun ls hl => ?_)
  refine lv_iconst (v := (0 : Int32)) hx hb dX8_placeOf_2 (by decide) ?_
  refine lv_istore_n (lv' := [(2, .int (0 : Int32)), (1, .int (0 : Int32)), (0, .ref m_ad)]) hx hb dX8_placeOf_3 rfl hl (by decide) rfl (fun ls hl => ?_)
  obtain ⟨z, hr, h⟩ := xn_i h
  refine xL_w (fun (z : Int32 × Int32) => ∀ (H : Heap) (locs : List Loc) (ls : Array Slot), xWd (dC, dI) A s.heap H locs (wM cI cZ cB cO m_ad m_p m_now m_held m_past m_pasts m_refused m_figures m_isLaid m_many m_isMade m_made m_images m_orbits m_chains m_isCarried m_carried m_carriedMany m_isSorted m_leasts m_heads m_headFrom m_text m_typed m_at m_fault m_orders m_pointsThen m_letters m_numbers m_h) → lv_has ls 5 [(0, .ref m_ad), (1, .int z.1), (2, .int z.2)] → W p l e R s m args below meth c H locs 0 0 Q (F0 m 4 ls [])) (fun (z : Int32) => ∀ (H : Heap) (locs : List Loc) (ls : Array Slot), xWd (dC, dI) A s.heap H locs (wM cI cZ cB cO m_ad m_p m_now m_held m_past m_pasts m_refused m_figures m_isLaid m_many m_isMade m_made m_images m_orbits m_chains m_isCarried m_carried m_carriedMany m_isSorted m_leasts m_heads m_headFrom m_text m_typed m_at m_fault m_orders m_pointsThen m_letters m_numbers m_h) → lv_has ls 5 [(1, .int z)] → W p l e R s m args below meth c H locs 0 0 Q (F0 m 81 ls [])) ?_ hr ?_ _ _ _ hw (lv_sub hl [2, 1, 0] rfl)
  · rintro ⟨v1_1, v2_2⟩ o h k H locs ls hw hl
    have hw : xWd (dC, dI) A s.heap H locs (wM cI cZ cB cO m_ad m_p m_now m_held m_past m_pasts m_refused m_figures m_isLaid m_many m_isMade m_made m_images m_orbits m_chains m_isCarried m_carried m_carriedMany m_isSorted m_leasts m_heads m_headFrom m_text m_typed m_at m_fault m_orders m_pointsThen m_letters m_numbers m_h) := hw
    have hl : lv_has ls 5 [(0, .ref m_ad), (1, .int v1_1), (2, .int v2_2)] := hl
    refine lv_iload_n hx hb dX8_placeOf_4 rfl (lv_at hl 2 rfl) ?_
    refine lv_aload_n hx hb dX8_placeOf_5 rfl (lv_at hl 0 rfl) ?_
    refine x_get (ci := 7) C hw inX8 rfl 0 (by decide) lkF_X8_7 rfl 0 rfl rfl dX8_placeOf_6 ?_
    refine lv_iconst (v := (0 : Int32)) hx hb dX8_placeOf_9 (by decide) ?_
    refine x_ialk C hw 1 0 rfl rfl (k := 0) (by decide) (vp_in_iff.mpr (by decide)) dX8_placeOf_10 ?_
    refine lv_icmp_ge (tgt := 81) hx hb dX8_placeOf_11 (by decide) (fun b1 => ?_) (fun b1 => ?_)
    · replace h := xb_tt b1 h
      obtain rfl := Option.some.inj h
      exact k _ _ _ hw (lv_sub hl [1] rfl)
    · replace h := xb_ff b1 h
      refine lv_iconst (v := (0 : Int32)) hx hb dX8_placeOf_14 (by decide) ?_
      refine lv_istore_n (lv' := [(3, .int (0 : Int32)), (0, .ref m_ad), (1, .int v1_1), (2, .int v2_2)]) hx hb dX8_placeOf_15 rfl hl (by decide) rfl (fun ls hl => ?_)
      refine lv_iload_n hx hb dX8_placeOf_16 rfl (lv_at hl 3 rfl) ?_
      refine lv_iconst (v := (1 : Int32)) hx hb dX8_placeOf_17 (by decide) ?_
      refine lv_iadd hx hb dX8_placeOf_18 ?_
      refine lv_istore (lv' := [(4, .int (v2_2 + (1 : Int32))), (3, .int (0 : Int32)), (0, .ref m_ad), (1, .int v1_1), (2, .int v2_2)]) hx hb dX8_placeOf_19 hl (by decide) rfl (fun ls hl => ?_)
      obtain ⟨z, hr, h⟩ := xn_i h
      refine xL_w (fun (z : Int32 × Int32) => ∀ (H : Heap) (locs : List Loc) (ls : Array Slot), xWd (dC, dI) A s.heap H locs (wM cI cZ cB cO m_ad m_p m_now m_held m_past m_pasts m_refused m_figures m_isLaid m_many m_isMade m_made m_images m_orbits m_chains m_isCarried m_carried m_carriedMany m_isSorted m_leasts m_heads m_headFrom m_text m_typed m_at m_fault m_orders m_pointsThen m_letters m_numbers m_h) → lv_has ls 5 [(0, .ref m_ad), (1, .int v1_1), (2, .int v2_2), (3, .int z.1), (4, .int z.2)] → W p l e R s m args below meth c H locs 0 0 Q (F0 m 21 ls [])) (fun (z : Int32) => ∀ (H : Heap) (locs : List Loc) (ls : Array Slot), xWd (dC, dI) A s.heap H locs (wM cI cZ cB cO m_ad m_p m_now m_held m_past m_pasts m_refused m_figures m_isLaid m_many m_isMade m_made m_images m_orbits m_chains m_isCarried m_carried m_carriedMany m_isSorted m_leasts m_heads m_headFrom m_text m_typed m_at m_fault m_orders m_pointsThen m_letters m_numbers m_h) → lv_has ls 5 [(0, .ref m_ad), (1, .int v1_1), (2, .int v2_2), (3, .int z)] → W p l e R s m args below meth c H locs 0 0 Q (F0 m 62 ls [])) ?_ hr ?_ _ _ _ hw (lv_sub hl [2, 3, 4, 1, 0] rfl)
      · rintro ⟨v3_4, v4_5⟩ o h k H locs ls hw hl
        have hw : xWd (dC, dI) A s.heap H locs (wM cI cZ cB cO m_ad m_p m_now m_held m_past m_pasts m_refused m_figures m_isLaid m_many m_isMade m_made m_images m_orbits m_chains m_isCarried m_carried m_carriedMany m_isSorted m_leasts m_heads m_headFrom m_text m_typed m_at m_fault m_orders m_pointsThen m_letters m_numbers m_h) := hw
        have hl : lv_has ls 5 [(0, .ref m_ad), (1, .int v1_1), (2, .int v2_2), (3, .int v3_4), (4, .int v4_5)] := hl
        refine lv_iload hx hb dX8_placeOf_21 (lv_at hl 4 rfl) ?_
        refine lv_aload_n hx hb dX8_placeOf_23 rfl (lv_at hl 0 rfl) ?_
        refine x_get (ci := 7) C hw inX8 rfl 0 (by decide) lkF_X8_7 rfl 0 rfl rfl dX8_placeOf_24 ?_
        refine lv_iconst (v := (0 : Int32)) hx hb dX8_placeOf_27 (by decide) ?_
        refine x_ialk C hw 1 0 rfl rfl (k := 0) (by decide) (vp_in_iff.mpr (by decide)) dX8_placeOf_28 ?_
        refine lv_icmp_ge (tgt := 62) hx hb dX8_placeOf_29 (by decide) (fun b2 => ?_) (fun b2 => ?_)
        · replace h := xb_tt b2 h
          obtain rfl := Option.some.inj h
          exact k _ _ _ hw (lv_sub hl [0, 1, 2, 3] rfl)
        · replace h := xb_ff b2 h
          refine lv_iload_n hx hb dX8_placeOf_32 rfl (lv_at hl 3 rfl) ?_
          refine lv_aload_n hx hb dX8_placeOf_33 rfl (lv_at hl 0 rfl) ?_
          refine x_get (ci := 7) C hw inX8 rfl 5 (by decide) lkF_X8_22 rfl 0 rfl rfl dX8_placeOf_34 ?_
          refine lv_iload hx hb dX8_placeOf_37 (lv_at hl 4 rfl) ?_
          obtain ⟨b3, h⟩ := xk_i h
          refine x_iald C hw 5 0 rfl rfl b3 dX8_placeOf_39 ?_
          refine lv_aload_n hx hb dX8_placeOf_40 rfl (lv_at hl 0 rfl) ?_
          refine x_get (ci := 7) C hw inX8 rfl 5 (by decide) lkF_X8_22 rfl 0 rfl rfl dX8_placeOf_41 ?_
          refine lv_iload_n hx hb dX8_placeOf_44 rfl (lv_at hl 2 rfl) ?_
          obtain ⟨b4, h⟩ := xk_i h
          refine x_iald C hw 5 0 rfl rfl b4 dX8_placeOf_45 ?_
          refine lv_icmp_ge (tgt := 53) hx hb dX8_placeOf_46 (by decide) (fun b5 => ?_) (fun b5 => ?_)
          · replace h := xb_tt b5 h
            refine lv_iconst (v := (0 : Int32)) hx hb dX8_placeOf_53 (by decide) ?_
            refine lv_iadd hx hb dX8_placeOf_54 ?_
            refine lv_istore_n (lv' := [(3, .int (v3_4 + (0 : Int32))), (0, .ref m_ad), (1, .int v1_1), (2, .int v2_2), (4, .int v4_5)]) hx hb dX8_placeOf_55 rfl hl (by decide) rfl (fun ls hl => ?_)
            refine lv_iinc (v := (v4_5 + (1 : Int32))) (lv' := [(4, .int (v4_5 + (1 : Int32))), (3, .int (v3_4 + (0 : Int32))), (0, .ref m_ad), (1, .int v1_1), (2, .int v2_2)]) hx hb dX8_placeOf_56 hl (k := 4) rfl (congrArg (fun q => v4_5 + q) (by decide)) (by decide) rfl (fun ls hl => ?_)
            refine lv_goto (tgt := 21) hx hb dX8_placeOf_59 (by decide) ?_
            obtain rfl := Option.some.inj h
            exact k _ _ _ hw (lv_sub hl [2, 3, 4, 1, 0] rfl)
          · replace h := xb_ff b5 h
            refine lv_iconst (v := (1 : Int32)) hx hb dX8_placeOf_49 (by decide) ?_
            refine lv_goto (tgt := 54) hx hb dX8_placeOf_50 (by decide) ?_
            refine lv_iadd hx hb dX8_placeOf_54 ?_
            refine lv_istore_n (lv' := [(3, .int (v3_4 + (1 : Int32))), (0, .ref m_ad), (1, .int v1_1), (2, .int v2_2), (4, .int v4_5)]) hx hb dX8_placeOf_55 rfl hl (by decide) rfl (fun ls hl => ?_)
            refine lv_iinc (v := (v4_5 + (1 : Int32))) (lv' := [(4, .int (v4_5 + (1 : Int32))), (3, .int (v3_4 + (1 : Int32))), (0, .ref m_ad), (1, .int v1_1), (2, .int v2_2)]) hx hb dX8_placeOf_56 hl (k := 4) rfl (congrArg (fun q => v4_5 + q) (by decide)) (by decide) rfl (fun ls hl => ?_)
            refine lv_goto (tgt := 21) hx hb dX8_placeOf_59 (by decide) ?_
            obtain rfl := Option.some.inj h
            exact k _ _ _ hw (lv_sub hl [2, 3, 4, 1, 0] rfl)
      · obtain ⟨v3_6, hz⟩ : ∃ q, q = z := ⟨z, rfl⟩
        subst hz
        intro H locs ls hw hl
        have hw : xWd (dC, dI) A s.heap H locs (wM cI cZ cB cO m_ad m_p m_now m_held m_past m_pasts m_refused m_figures m_isLaid m_many m_isMade m_made m_images m_orbits m_chains m_isCarried m_carried m_carriedMany m_isSorted m_leasts m_heads m_headFrom m_text m_typed m_at m_fault m_orders m_pointsThen m_letters m_numbers m_h) := hw
        have hl : lv_has ls 5 [(0, .ref m_ad), (1, .int v1_1), (2, .int v2_2), (3, .int v3_6)] := hl
        refine lv_iload_n hx hb dX8_placeOf_62 rfl (lv_at hl 1 rfl) ?_
        refine lv_aload_n hx hb dX8_placeOf_63 rfl (lv_at hl 0 rfl) ?_
        refine x_get (ci := 7) C hw inX8 rfl 0 (by decide) lkF_X8_7 rfl 0 rfl rfl dX8_placeOf_64 ?_
        refine lv_iconst (v := (0 : Int32)) hx hb dX8_placeOf_67 (by decide) ?_
        refine x_ialk C hw 1 0 rfl rfl (k := 0) (by decide) (vp_in_iff.mpr (by decide)) dX8_placeOf_68 ?_
        refine lv_iload_n hx hb dX8_placeOf_69 rfl (lv_at hl 2 rfl) ?_
        refine lv_isub hx hb dX8_placeOf_70 ?_
        refine lv_imul hx hb dX8_placeOf_71 ?_
        refine lv_iload_n hx hb dX8_placeOf_72 rfl (lv_at hl 3 rfl) ?_
        refine lv_iadd hx hb dX8_placeOf_73 ?_
        refine lv_istore_n (lv' := [(1, .int ((v1_1 * ((m_now 0) - v2_2)) + v3_6)), (0, .ref m_ad), (2, .int v2_2), (3, .int v3_6)]) hx hb dX8_placeOf_74 rfl hl (by decide) rfl (fun ls hl => ?_)
        refine lv_iinc (v := (v2_2 + (1 : Int32))) (lv' := [(2, .int (v2_2 + (1 : Int32))), (1, .int ((v1_1 * ((m_now 0) - v2_2)) + v3_6)), (0, .ref m_ad), (3, .int v3_6)]) hx hb dX8_placeOf_75 hl (k := 2) rfl (congrArg (fun q => v2_2 + q) (by decide)) (by decide) rfl (fun ls hl => ?_)
        refine lv_goto (tgt := 4) hx hb dX8_placeOf_78 (by decide) ?_
        obtain rfl := Option.some.inj h
        exact k _ _ _ hw (lv_sub hl [2, 1, 0] rfl)
  · obtain ⟨v1_3, hz⟩ : ∃ q, q = z := ⟨z, rfl⟩
    subst hz
    intro H locs ls hw hl
    have hw : xWd (dC, dI) A s.heap H locs (wM cI cZ cB cO m_ad m_p m_now m_held m_past m_pasts m_refused m_figures m_isLaid m_many m_isMade m_made m_images m_orbits m_chains m_isCarried m_carried m_carriedMany m_isSorted m_leasts m_heads m_headFrom m_text m_typed m_at m_fault m_orders m_pointsThen m_letters m_numbers m_h) := hw
    have hl : lv_has ls 5 [(1, .int v1_3)] := hl
    refine lv_iload_n hx hb dX8_placeOf_81 rfl (lv_at hl 0 rfl) ?_
    obtain rfl := Option.some.inj h
    exact x_reti C hQ hA hw dX8_placeOf_82
noncomputable def f_X8_codeAt_L3 (m_now : (Nat → Int32)) (v3_6 : Int32) (z : (Nat → Int32) × Int32) : Option (((Nat → Int32) × Int32) ⊕ ((Nat → Int32))) := match z with
  | (m_figures_8, v4_9) => xb ((m_now 0) ≤ v4_9) (some (.inr m_figures_8)) (xk (vp_in v4_9 8) (xk (vp_in v3_6 8) (xb ((m_figures_8 v4_9.toNatClampNeg) < (m_figures_8 v3_6.toNatClampNeg)) (some (.inl ((upd m_figures_8 v4_9.toNatClampNeg ((m_figures_8 v4_9.toNatClampNeg) + (0 : Int32))), (v4_9 + (1 : Int32))))) (some (.inl ((upd m_figures_8 v4_9.toNatClampNeg ((m_figures_8 v4_9.toNatClampNeg) + (1 : Int32))), (v4_9 + (1 : Int32))))))))
noncomputable def f_X8_codeAt_L4 (m_now : (Nat → Int32)) (m_figures_7 : (Nat → Int32)) (z : Int32 × Int32) : Option ((Int32 × Int32) ⊕ (Int32)) := match z with
  | (v3_11, v4_12) => xb ((m_now 0) ≤ v4_12) (some (.inr v3_11)) (xk (vp_in v4_12 8) (some (.inl ((((10 : Int32) * v3_11) + (m_figures_7 v4_12.toNatClampNeg)), (v4_12 + (1 : Int32))))))
noncomputable def f_X8_codeAt_L2 (m_now : (Nat → Int32)) (z : (Nat → Int32) × Int32) : Option (((Nat → Int32) × Int32) ⊕ ((Nat → Int32))) := match z with
  | (m_figures_5, v3_6) => xb (v3_6 < 0) (some (.inr m_figures_5)) (xn (xL (f_X8_codeAt_L3 m_now v3_6) (m_figures_5, (v3_6 + (1 : Int32)))) (fun (m_figures_10 : (Nat → Int32)) => some (.inl (m_figures_10, (v3_6 + (-1 : Int32))))))
noncomputable def f_X8_codeAt_L1 (m_now : (Nat → Int32)) (z : (Nat → Int32) × Int32 × Int32) : Option (((Nat → Int32) × Int32 × Int32) ⊕ ((Nat → Int32))) := match z with
  | (m_figures_1, v2_2, v3_3) => xb (v3_3 < 0) (some (.inr m_figures_1)) (xk (¬ ((m_now 0) - v3_3) = 0) (xk (vp_in v3_3 8) (some (.inl ((upd m_figures_1 v3_3.toNatClampNeg (v2_2 - v2_2 / ((m_now 0) - v3_3) * ((m_now 0) - v3_3))), (v2_2 / ((m_now 0) - v3_3)), (v3_3 + (-1 : Int32)))))))
noncomputable def f_X8_codeAt (m_now : (Nat → Int32)) (m_figures : (Nat → Int32)) (v1 : Int32) : Option ((Nat → Int32) × Int32) := xn (xL (f_X8_codeAt_L1 m_now) (m_figures, v1, ((m_now 0) - (1 : Int32)))) (fun (m_figures_4 : (Nat → Int32)) => xn (xL (f_X8_codeAt_L2 m_now) (m_figures_4, ((m_now 0) - (2 : Int32)))) (fun (m_figures_7 : (Nat → Int32)) => xn (xL (f_X8_codeAt_L4 m_now m_figures_7) ((0 : Int32), (0 : Int32))) (fun (v3_13 : Int32) => some (m_figures_7, v3_13))))
set_option maxHeartbeats 4000000 in
set_option maxRecDepth 100000 in
theorem c_X8_codeAt (l : Launch) (dC : Nat → ClassId) (dI : Nat → Nat → Nat) (cI cZ cB cO : ClassId) (m_ad : Nat) (m_p : Nat → Nat) (m_now : (Nat → Int32)) (m_held : (Nat → Int32)) (m_past : (Nat → Int32)) (m_pasts : Int32) (m_refused : (Nat → Int32)) (m_figures : (Nat → Int32)) (m_isLaid : Int32) (m_many : Int32) (m_isMade : (Nat → Int32)) (m_made : (Nat → Int32)) (m_images : (Nat → Int32)) (m_orbits : (Nat → Int32)) (m_chains : (Nat → Int32)) (m_isCarried : (Nat → Int32)) (m_carried : (Nat → Int32)) (m_carriedMany : Int32) (m_isSorted : Int32) (m_leasts : (Nat → Int32)) (m_heads : (Nat → Int32)) (m_headFrom : (Nat → Int32)) (m_text : (Nat → Int32)) (m_typed : Int32) (m_at : Int32) (m_fault : Int32) (m_orders : Int32) (m_pointsThen : Int32) (m_letters : (Nat → Int32)) (m_numbers : (Nat → Int32)) (m_h : Int64) (v1 : Int32) (o : (Nat → Int32) × Int32) (h : f_X8_codeAt m_now m_figures v1 = some o) (sz : Nat) : Met l yX8_codeAt (xW yX8_codeAt cX8_codeAt 5 (some .int)) { frames := 0, cells := 0, slots := 0, locals := 0 } (xPre dC dI (xT cI cZ cB cO) [.ref m_ad, .int v1] (wM cI cZ cB cO m_ad m_p m_now m_held m_past m_pasts m_refused m_figures m_isLaid m_many m_isMade m_made m_images m_orbits m_chains m_isCarried m_carried m_carriedMany m_isSorted m_leasts m_heads m_headFrom m_text m_typed m_at m_fault m_orders m_pointsThen m_letters m_numbers m_h) sz) (xQi dC dI (xT cI cZ cB cO) o.2 (wM cI cZ cB cO m_ad m_p m_now m_held m_past m_pasts m_refused m_figures m_isLaid m_many m_isMade m_made m_images m_orbits m_chains m_isCarried m_carried m_carriedMany m_isSorted m_leasts m_heads m_headFrom m_text m_typed m_at m_fault m_orders m_pointsThen m_letters m_numbers m_h) (wM cI cZ cB cO m_ad m_p m_now m_held m_past m_pasts m_refused o.1 m_isLaid m_many m_isMade m_made m_images m_orbits m_chains m_isCarried m_carried m_carriedMany m_isSorted m_leasts m_heads m_headFrom m_text m_typed m_at m_fault m_orders m_pointsThen m_letters m_numbers m_h) sz) 0 0 (va_A (wM cI cZ cB cO m_ad m_p m_now m_held m_past m_pasts m_refused m_figures m_isLaid m_many m_isMade m_made m_images m_orbits m_chains m_isCarried m_carried m_carriedMany m_isSorted m_leasts m_heads m_headFrom m_text m_typed m_at m_fault m_orders m_pointsThen m_letters m_numbers m_h) sz) := by
  refine x_met (by decide) (Nat.le_of_ble_eq_true rfl) ?_
  intro p e s m args below meth c R Q A hR hsz hA hQ hin C hw ls hl
  have hx := C.1
  have hb := C.2.1
  have hown := C.2.2.2.1
  have htb := C.2.2.2.2.1
  have hl : lv_has ls 5 [(0, .ref m_ad), (1, .int v1)] := hl
  refine lv_iload_n hx hb dX8_codeAt_0 rfl (lv_at hl 1 rfl) ?_
  refine lv_istore_n (lv' := [(2, .int v1), (0, .ref m_ad), (1, .int v1)]) hx hb dX8_codeAt_1 rfl hl (by decide) rfl (fun ls hl => ?_)
  refine lv_aload_n hx hb dX8_codeAt_2 rfl (lv_at hl 1 rfl) ?_
  refine x_get (ci := 7) C hw inX8 rfl 0 (by decide) lkF_X8_7 rfl 0 rfl rfl dX8_codeAt_3 ?_
  refine lv_iconst (v := (0 : Int32)) hx hb dX8_codeAt_6 (by decide) ?_
  refine x_ialk C hw 1 0 rfl rfl (k := 0) (by decide) (vp_in_iff.mpr (by decide)) dX8_codeAt_7 ?_
  refine lv_iconst (v := (1 : Int32)) hx hb dX8_codeAt_8 (by decide) ?_
  refine lv_isub hx hb dX8_codeAt_9 ?_
  refine lv_istore_n (lv' := [(3, .int ((m_now 0) - (1 : Int32))), (2, .int v1), (0, .ref m_ad), (1, .int v1)]) hx hb dX8_codeAt_10 rfl hl (by decide) rfl (fun ls hl => ?_)
  obtain ⟨z, hr, h⟩ := xn_i h
  refine xL_w (fun (z : (Nat → Int32) × Int32 × Int32) => ∀ (H : Heap) (locs : List Loc) (ls : Array Slot), xWd (dC, dI) A s.heap H locs (wM cI cZ cB cO m_ad m_p m_now m_held m_past m_pasts m_refused z.1 m_isLaid m_many m_isMade m_made m_images m_orbits m_chains m_isCarried m_carried m_carriedMany m_isSorted m_leasts m_heads m_headFrom m_text m_typed m_at m_fault m_orders m_pointsThen m_letters m_numbers m_h) → lv_has ls 5 [(0, .ref m_ad), (2, .int z.2.1), (3, .int z.2.2)] → W p l e R s m args below meth c H locs 0 0 Q (F0 m 11 ls [])) (fun (z : (Nat → Int32)) => ∀ (H : Heap) (locs : List Loc) (ls : Array Slot), xWd (dC, dI) A s.heap H locs (wM cI cZ cB cO m_ad m_p m_now m_held m_past m_pasts m_refused z m_isLaid m_many m_isMade m_made m_images m_orbits m_chains m_isCarried m_carried m_carriedMany m_isSorted m_leasts m_heads m_headFrom m_text m_typed m_at m_fault m_orders m_pointsThen m_letters m_numbers m_h) → lv_has ls 5 [(0, .ref m_ad)] → W p l e R s m args below meth c H locs 0 0 Q (F0 m 48 ls [])) ?_ hr ?_ _ _ _ hw (lv_sub hl [2, 1, 0] rfl)
  · rintro ⟨m_figures_1, v2_2, v3_3⟩ o h k H locs ls hw hl
    have hw : xWd (dC, dI) A s.heap H locs (wM cI cZ cB cO m_ad m_p m_now m_held m_past m_pasts m_refused m_figures_1 m_isLaid m_many m_isMade m_made m_images m_orbits m_chains m_isCarried m_carried m_carriedMany m_isSorted m_leasts m_heads m_headFrom m_text m_typed m_at m_fault m_orders m_pointsThen m_letters m_numbers m_h) := hw
    have hl : lv_has ls 5 [(0, .ref m_ad), (2, .int v2_2), (3, .int v3_3)] := hl
    refine lv_iload_n hx hb dX8_codeAt_11 rfl (lv_at hl 2 rfl) ?_
    refine lv_if_lt (tgt := 48) hx hb dX8_codeAt_12 (by decide) (fun b1 => ?_) (fun b1 => ?_)
    · replace h := xb_tt b1 h
      obtain rfl := Option.some.inj h
      exact k _ _ _ hw (lv_sub hl [0] rfl)
    · replace h := xb_ff b1 h
      refine lv_aload_n hx hb dX8_codeAt_15 rfl (lv_at hl 0 rfl) ?_
      refine x_get (ci := 7) C hw inX8 rfl 5 (by decide) lkF_X8_22 rfl 0 rfl rfl dX8_codeAt_16 ?_
      refine lv_iload_n hx hb dX8_codeAt_19 rfl (lv_at hl 2 rfl) ?_
      refine lv_iload_n hx hb dX8_codeAt_20 rfl (lv_at hl 1 rfl) ?_
      refine lv_aload_n hx hb dX8_codeAt_21 rfl (lv_at hl 0 rfl) ?_
      refine x_get (ci := 7) C hw inX8 rfl 0 (by decide) lkF_X8_7 rfl 0 rfl rfl dX8_codeAt_22 ?_
      refine lv_iconst (v := (0 : Int32)) hx hb dX8_codeAt_25 (by decide) ?_
      refine x_ialk C hw 1 0 rfl rfl (k := 0) (by decide) (vp_in_iff.mpr (by decide)) dX8_codeAt_26 ?_
      refine lv_iload_n hx hb dX8_codeAt_27 rfl (lv_at hl 2 rfl) ?_
      refine lv_isub hx hb dX8_codeAt_28 ?_
      obtain ⟨b2, h⟩ := xk_i h
      refine lv_irem hx hb dX8_codeAt_29 b2 ?_
      obtain ⟨b3, h⟩ := xk_i h
      refine x_iast C hw 5 0 rfl rfl b3 dX8_codeAt_30 (fun H locs hw => ?_)
      have hw : xWd (dC, dI) A s.heap H locs (wM cI cZ cB cO m_ad m_p m_now m_held m_past m_pasts m_refused (upd m_figures_1 v3_3.toNatClampNeg (v2_2 - v2_2 / ((m_now 0) - v3_3) * ((m_now 0) - v3_3))) m_isLaid m_many m_isMade m_made m_images m_orbits m_chains m_isCarried m_carried m_carriedMany m_isSorted m_leasts m_heads m_headFrom m_text m_typed m_at m_fault m_orders m_pointsThen m_letters m_numbers m_h) := hw
      refine lv_iload_n hx hb dX8_codeAt_31 rfl (lv_at hl 1 rfl) ?_
      refine lv_aload_n hx hb dX8_codeAt_32 rfl (lv_at hl 0 rfl) ?_
      refine x_get (ci := 7) C hw inX8 rfl 0 (by decide) lkF_X8_7 rfl 0 rfl rfl dX8_codeAt_33 ?_
      refine lv_iconst (v := (0 : Int32)) hx hb dX8_codeAt_36 (by decide) ?_
      refine x_ialk C hw 1 0 rfl rfl (k := 0) (by decide) (vp_in_iff.mpr (by decide)) dX8_codeAt_37 ?_
      refine lv_iload_n hx hb dX8_codeAt_38 rfl (lv_at hl 2 rfl) ?_
      refine lv_isub hx hb dX8_codeAt_39 ?_
      refine lv_idiv hx hb dX8_codeAt_40 b2 ?_
      refine lv_istore_n (lv' := [(2, .int (v2_2 / ((m_now 0) - v3_3))), (0, .ref m_ad), (3, .int v3_3)]) hx hb dX8_codeAt_41 rfl hl (by decide) rfl (fun ls hl => ?_)
      refine lv_iinc (v := (v3_3 + (-1 : Int32))) (lv' := [(3, .int (v3_3 + (-1 : Int32))), (2, .int (v2_2 / ((m_now 0) - v3_3))), (0, .ref m_ad)]) hx hb dX8_codeAt_42 hl (k := 2) rfl (congrArg (fun q => v3_3 + q) (by decide)) (by decide) rfl (fun ls hl => ?_)
      refine lv_goto (tgt := 11) hx hb dX8_codeAt_45 (by decide) ?_
      obtain rfl := Option.some.inj h
      exact k _ _ _ hw (lv_sub hl [2, 1, 0] rfl)
  · obtain ⟨m_figures_4, hz⟩ : ∃ q, q = z := ⟨z, rfl⟩
    subst hz
    intro H locs ls hw hl
    have hw : xWd (dC, dI) A s.heap H locs (wM cI cZ cB cO m_ad m_p m_now m_held m_past m_pasts m_refused m_figures_4 m_isLaid m_many m_isMade m_made m_images m_orbits m_chains m_isCarried m_carried m_carriedMany m_isSorted m_leasts m_heads m_headFrom m_text m_typed m_at m_fault m_orders m_pointsThen m_letters m_numbers m_h) := hw
    have hl : lv_has ls 5 [(0, .ref m_ad)] := hl
    refine lv_aload_n hx hb dX8_codeAt_48 rfl (lv_at hl 0 rfl) ?_
    refine x_get (ci := 7) C hw inX8 rfl 0 (by decide) lkF_X8_7 rfl 0 rfl rfl dX8_codeAt_49 ?_
    refine lv_iconst (v := (0 : Int32)) hx hb dX8_codeAt_52 (by decide) ?_
    refine x_ialk C hw 1 0 rfl rfl (k := 0) (by decide) (vp_in_iff.mpr (by decide)) dX8_codeAt_53 ?_
    refine lv_iconst (v := (2 : Int32)) hx hb dX8_codeAt_54 (by decide) ?_
    refine lv_isub hx hb dX8_codeAt_55 ?_
    refine lv_istore_n (lv' := [(3, .int ((m_now 0) - (2 : Int32))), (0, .ref m_ad)]) hx hb dX8_codeAt_56 rfl hl (by decide) rfl (fun ls hl => ?_)
    obtain ⟨z, hr, h⟩ := xn_i h
    refine xL_w (fun (z : (Nat → Int32) × Int32) => ∀ (H : Heap) (locs : List Loc) (ls : Array Slot), xWd (dC, dI) A s.heap H locs (wM cI cZ cB cO m_ad m_p m_now m_held m_past m_pasts m_refused z.1 m_isLaid m_many m_isMade m_made m_images m_orbits m_chains m_isCarried m_carried m_carriedMany m_isSorted m_leasts m_heads m_headFrom m_text m_typed m_at m_fault m_orders m_pointsThen m_letters m_numbers m_h) → lv_has ls 5 [(0, .ref m_ad), (3, .int z.2)] → W p l e R s m args below meth c H locs 0 0 Q (F0 m 57 ls [])) (fun (z : (Nat → Int32)) => ∀ (H : Heap) (locs : List Loc) (ls : Array Slot), xWd (dC, dI) A s.heap H locs (wM cI cZ cB cO m_ad m_p m_now m_held m_past m_pasts m_refused z m_isLaid m_many m_isMade m_made m_images m_orbits m_chains m_isCarried m_carried m_carriedMany m_isSorted m_leasts m_heads m_headFrom m_text m_typed m_at m_fault m_orders m_pointsThen m_letters m_numbers m_h) → lv_has ls 5 [(0, .ref m_ad)] → W p l e R s m args below meth c H locs 0 0 Q (F0 m 120 ls [])) ?_ hr ?_ _ _ _ hw (lv_sub hl [1, 0] rfl)
    · rintro ⟨m_figures_5, v3_6⟩ o h k H locs ls hw hl
      have hw : xWd (dC, dI) A s.heap H locs (wM cI cZ cB cO m_ad m_p m_now m_held m_past m_pasts m_refused m_figures_5 m_isLaid m_many m_isMade m_made m_images m_orbits m_chains m_isCarried m_carried m_carriedMany m_isSorted m_leasts m_heads m_headFrom m_text m_typed m_at m_fault m_orders m_pointsThen m_letters m_numbers m_h) := hw
      have hl : lv_has ls 5 [(0, .ref m_ad), (3, .int v3_6)] := hl
      refine lv_iload_n hx hb dX8_codeAt_57 rfl (lv_at hl 1 rfl) ?_
      refine lv_if_lt (tgt := 120) hx hb dX8_codeAt_58 (by decide) (fun b4 => ?_) (fun b4 => ?_)
      · replace h := xb_tt b4 h
        obtain rfl := Option.some.inj h
        exact k _ _ _ hw (lv_sub hl [0] rfl)
      · replace h := xb_ff b4 h
        refine lv_iload_n hx hb dX8_codeAt_61 rfl (lv_at hl 1 rfl) ?_
        refine lv_iconst (v := (1 : Int32)) hx hb dX8_codeAt_62 (by decide) ?_
        refine lv_iadd hx hb dX8_codeAt_63 ?_
        refine lv_istore (lv' := [(4, .int (v3_6 + (1 : Int32))), (0, .ref m_ad), (3, .int v3_6)]) hx hb dX8_codeAt_64 hl (by decide) rfl (fun ls hl => ?_)
        obtain ⟨z, hr, h⟩ := xn_i h
        refine xL_w (fun (z : (Nat → Int32) × Int32) => ∀ (H : Heap) (locs : List Loc) (ls : Array Slot), xWd (dC, dI) A s.heap H locs (wM cI cZ cB cO m_ad m_p m_now m_held m_past m_pasts m_refused z.1 m_isLaid m_many m_isMade m_made m_images m_orbits m_chains m_isCarried m_carried m_carriedMany m_isSorted m_leasts m_heads m_headFrom m_text m_typed m_at m_fault m_orders m_pointsThen m_letters m_numbers m_h) → lv_has ls 5 [(0, .ref m_ad), (3, .int v3_6), (4, .int z.2)] → W p l e R s m args below meth c H locs 0 0 Q (F0 m 66 ls [])) (fun (z : (Nat → Int32)) => ∀ (H : Heap) (locs : List Loc) (ls : Array Slot), xWd (dC, dI) A s.heap H locs (wM cI cZ cB cO m_ad m_p m_now m_held m_past m_pasts m_refused z m_isLaid m_many m_isMade m_made m_images m_orbits m_chains m_isCarried m_carried m_carriedMany m_isSorted m_leasts m_heads m_headFrom m_text m_typed m_at m_fault m_orders m_pointsThen m_letters m_numbers m_h) → lv_has ls 5 [(0, .ref m_ad), (3, .int v3_6)] → W p l e R s m args below meth c H locs 0 0 Q (F0 m 114 ls [])) ?_ hr ?_ _ _ _ hw (lv_sub hl [1, 2, 0] rfl)
        · rintro ⟨m_figures_8, v4_9⟩ o h k H locs ls hw hl
          have hw : xWd (dC, dI) A s.heap H locs (wM cI cZ cB cO m_ad m_p m_now m_held m_past m_pasts m_refused m_figures_8 m_isLaid m_many m_isMade m_made m_images m_orbits m_chains m_isCarried m_carried m_carriedMany m_isSorted m_leasts m_heads m_headFrom m_text m_typed m_at m_fault m_orders m_pointsThen m_letters m_numbers m_h) := hw
          have hl : lv_has ls 5 [(0, .ref m_ad), (3, .int v3_6), (4, .int v4_9)] := hl
          refine lv_iload hx hb dX8_codeAt_66 (lv_at hl 2 rfl) ?_
          refine lv_aload_n hx hb dX8_codeAt_68 rfl (lv_at hl 0 rfl) ?_
          refine x_get (ci := 7) C hw inX8 rfl 0 (by decide) lkF_X8_7 rfl 0 rfl rfl dX8_codeAt_69 ?_
          refine lv_iconst (v := (0 : Int32)) hx hb dX8_codeAt_72 (by decide) ?_
          refine x_ialk C hw 1 0 rfl rfl (k := 0) (by decide) (vp_in_iff.mpr (by decide)) dX8_codeAt_73 ?_
          refine lv_icmp_ge (tgt := 114) hx hb dX8_codeAt_74 (by decide) (fun b5 => ?_) (fun b5 => ?_)
          · replace h := xb_tt b5 h
            obtain rfl := Option.some.inj h
            exact k _ _ _ hw (lv_sub hl [0, 1] rfl)
          · replace h := xb_ff b5 h
            refine lv_aload_n hx hb dX8_codeAt_77 rfl (lv_at hl 0 rfl) ?_
            refine x_get (ci := 7) C hw inX8 rfl 5 (by decide) lkF_X8_22 rfl 0 rfl rfl dX8_codeAt_78 ?_
            refine lv_iload hx hb dX8_codeAt_81 (lv_at hl 2 rfl) ?_
            refine lv_dup2_11 hx hb dX8_codeAt_83 rfl rfl ?_
            obtain ⟨b6, h⟩ := xk_i h
            refine x_iald C hw 5 0 rfl rfl b6 dX8_codeAt_84 ?_
            refine lv_aload_n hx hb dX8_codeAt_85 rfl (lv_at hl 0 rfl) ?_
            refine x_get (ci := 7) C hw inX8 rfl 5 (by decide) lkF_X8_22 rfl 0 rfl rfl dX8_codeAt_86 ?_
            refine lv_iload hx hb dX8_codeAt_89 (lv_at hl 2 rfl) ?_
            refine x_iald C hw 5 0 rfl rfl b6 dX8_codeAt_91 ?_
            refine lv_aload_n hx hb dX8_codeAt_92 rfl (lv_at hl 0 rfl) ?_
            refine x_get (ci := 7) C hw inX8 rfl 5 (by decide) lkF_X8_22 rfl 0 rfl rfl dX8_codeAt_93 ?_
            refine lv_iload_n hx hb dX8_codeAt_96 rfl (lv_at hl 1 rfl) ?_
            obtain ⟨b7, h⟩ := xk_i h
            refine x_iald C hw 5 0 rfl rfl b7 dX8_codeAt_97 ?_
            refine lv_icmp_lt (tgt := 105) hx hb dX8_codeAt_98 (by decide) (fun b8 => ?_) (fun b8 => ?_)
            · replace h := xb_tt b8 h
              refine lv_iconst (v := (0 : Int32)) hx hb dX8_codeAt_105 (by decide) ?_
              refine lv_iadd hx hb dX8_codeAt_106 ?_
              refine x_iast C hw 5 0 rfl rfl b6 dX8_codeAt_107 (fun H locs hw => ?_)
              have hw : xWd (dC, dI) A s.heap H locs (wM cI cZ cB cO m_ad m_p m_now m_held m_past m_pasts m_refused (upd m_figures_8 v4_9.toNatClampNeg ((m_figures_8 v4_9.toNatClampNeg) + (0 : Int32))) m_isLaid m_many m_isMade m_made m_images m_orbits m_chains m_isCarried m_carried m_carriedMany m_isSorted m_leasts m_heads m_headFrom m_text m_typed m_at m_fault m_orders m_pointsThen m_letters m_numbers m_h) := hw
              refine lv_iinc (v := (v4_9 + (1 : Int32))) (lv' := [(4, .int (v4_9 + (1 : Int32))), (0, .ref m_ad), (3, .int v3_6)]) hx hb dX8_codeAt_108 hl (k := 2) rfl (congrArg (fun q => v4_9 + q) (by decide)) (by decide) rfl (fun ls hl => ?_)
              refine lv_goto (tgt := 66) hx hb dX8_codeAt_111 (by decide) ?_
              obtain rfl := Option.some.inj h
              exact k _ _ _ hw (lv_sub hl [1, 2, 0] rfl)
            · replace h := xb_ff b8 h
              refine lv_iconst (v := (1 : Int32)) hx hb dX8_codeAt_101 (by decide) ?_
              refine lv_goto (tgt := 106) hx hb dX8_codeAt_102 (by decide) ?_
              refine lv_iadd hx hb dX8_codeAt_106 ?_
              refine x_iast C hw 5 0 rfl rfl b6 dX8_codeAt_107 (fun H locs hw => ?_)
              have hw : xWd (dC, dI) A s.heap H locs (wM cI cZ cB cO m_ad m_p m_now m_held m_past m_pasts m_refused (upd m_figures_8 v4_9.toNatClampNeg ((m_figures_8 v4_9.toNatClampNeg) + (1 : Int32))) m_isLaid m_many m_isMade m_made m_images m_orbits m_chains m_isCarried m_carried m_carriedMany m_isSorted m_leasts m_heads m_headFrom m_text m_typed m_at m_fault m_orders m_pointsThen m_letters m_numbers m_h) := hw
              refine lv_iinc (v := (v4_9 + (1 : Int32))) (lv' := [(4, .int (v4_9 + (1 : Int32))), (0, .ref m_ad), (3, .int v3_6)]) hx hb dX8_codeAt_108 hl (k := 2) rfl (congrArg (fun q => v4_9 + q) (by decide)) (by decide) rfl (fun ls hl => ?_)
              refine lv_goto (tgt := 66) hx hb dX8_codeAt_111 (by decide) ?_
              obtain rfl := Option.some.inj h
              exact k _ _ _ hw (lv_sub hl [1, 2, 0] rfl)
        · obtain ⟨m_figures_10, hz⟩ : ∃ q, q = z := ⟨z, rfl⟩
          subst hz
          intro H locs ls hw hl
          have hw : xWd (dC, dI) A s.heap H locs (wM cI cZ cB cO m_ad m_p m_now m_held m_past m_pasts m_refused m_figures_10 m_isLaid m_many m_isMade m_made m_images m_orbits m_chains m_isCarried m_carried m_carriedMany m_isSorted m_leasts m_heads m_headFrom m_text m_typed m_at m_fault m_orders m_pointsThen m_letters m_numbers m_h) := hw
          have hl : lv_has ls 5 [(0, .ref m_ad), (3, .int v3_6)] := hl
          refine lv_iinc (v := (v3_6 + (-1 : Int32))) (lv' := [(3, .int (v3_6 + (-1 : Int32))), (0, .ref m_ad)]) hx hb dX8_codeAt_114 hl (k := 1) rfl (congrArg (fun q => v3_6 + q) (by decide)) (by decide) rfl (fun ls hl => ?_)
          refine lv_goto (tgt := 57) hx hb dX8_codeAt_117 (by decide) ?_
          obtain rfl := Option.some.inj h
          exact k _ _ _ hw (lv_sub hl [1, 0] rfl)
    · obtain ⟨m_figures_7, hz⟩ : ∃ q, q = z := ⟨z, rfl⟩
      subst hz
      intro H locs ls hw hl
      have hw : xWd (dC, dI) A s.heap H locs (wM cI cZ cB cO m_ad m_p m_now m_held m_past m_pasts m_refused m_figures_7 m_isLaid m_many m_isMade m_made m_images m_orbits m_chains m_isCarried m_carried m_carriedMany m_isSorted m_leasts m_heads m_headFrom m_text m_typed m_at m_fault m_orders m_pointsThen m_letters m_numbers m_h) := hw
      have hl : lv_has ls 5 [(0, .ref m_ad)] := hl
      refine lv_iconst (v := (0 : Int32)) hx hb dX8_codeAt_120 (by decide) ?_
      refine lv_istore_n (lv' := [(3, .int (0 : Int32)), (0, .ref m_ad)]) hx hb dX8_codeAt_121 rfl hl (by decide) rfl (fun ls hl => ?_)
      refine lv_iconst (v := (0 : Int32)) hx hb dX8_codeAt_122 (by decide) ?_
      refine lv_istore (lv' := [(4, .int (0 : Int32)), (3, .int (0 : Int32)), (0, .ref m_ad)]) hx hb dX8_codeAt_123 hl (by decide) rfl (fun ls hl => ?_)
      obtain ⟨z, hr, h⟩ := xn_i h
      refine xL_w (fun (z : Int32 × Int32) => ∀ (H : Heap) (locs : List Loc) (ls : Array Slot), xWd (dC, dI) A s.heap H locs (wM cI cZ cB cO m_ad m_p m_now m_held m_past m_pasts m_refused m_figures_7 m_isLaid m_many m_isMade m_made m_images m_orbits m_chains m_isCarried m_carried m_carriedMany m_isSorted m_leasts m_heads m_headFrom m_text m_typed m_at m_fault m_orders m_pointsThen m_letters m_numbers m_h) → lv_has ls 5 [(0, .ref m_ad), (3, .int z.1), (4, .int z.2)] → W p l e R s m args below meth c H locs 0 0 Q (F0 m 125 ls [])) (fun (z : Int32) => ∀ (H : Heap) (locs : List Loc) (ls : Array Slot), xWd (dC, dI) A s.heap H locs (wM cI cZ cB cO m_ad m_p m_now m_held m_past m_pasts m_refused m_figures_7 m_isLaid m_many m_isMade m_made m_images m_orbits m_chains m_isCarried m_carried m_carriedMany m_isSorted m_leasts m_heads m_headFrom m_text m_typed m_at m_fault m_orders m_pointsThen m_letters m_numbers m_h) → lv_has ls 5 [(3, .int z)] → W p l e R s m args below meth c H locs 0 0 Q (F0 m 155 ls [])) ?_ hr ?_ _ _ _ hw (lv_sub hl [2, 1, 0] rfl)
      · rintro ⟨v3_11, v4_12⟩ o h k H locs ls hw hl
        have hw : xWd (dC, dI) A s.heap H locs (wM cI cZ cB cO m_ad m_p m_now m_held m_past m_pasts m_refused m_figures_7 m_isLaid m_many m_isMade m_made m_images m_orbits m_chains m_isCarried m_carried m_carriedMany m_isSorted m_leasts m_heads m_headFrom m_text m_typed m_at m_fault m_orders m_pointsThen m_letters m_numbers m_h) := hw
        have hl : lv_has ls 5 [(0, .ref m_ad), (3, .int v3_11), (4, .int v4_12)] := hl
        refine lv_iload hx hb dX8_codeAt_125 (lv_at hl 2 rfl) ?_
        refine lv_aload_n hx hb dX8_codeAt_127 rfl (lv_at hl 0 rfl) ?_
        refine x_get (ci := 7) C hw inX8 rfl 0 (by decide) lkF_X8_7 rfl 0 rfl rfl dX8_codeAt_128 ?_
        refine lv_iconst (v := (0 : Int32)) hx hb dX8_codeAt_131 (by decide) ?_
        refine x_ialk C hw 1 0 rfl rfl (k := 0) (by decide) (vp_in_iff.mpr (by decide)) dX8_codeAt_132 ?_
        refine lv_icmp_ge (tgt := 155) hx hb dX8_codeAt_133 (by decide) (fun b9 => ?_) (fun b9 => ?_)
        · replace h := xb_tt b9 h
          obtain rfl := Option.some.inj h
          exact k _ _ _ hw (lv_sub hl [1] rfl)
        · replace h := xb_ff b9 h
          refine lv_bipush (v := (10 : Int32)) hx hb dX8_codeAt_136 (by decide) ?_
          refine lv_iload_n hx hb dX8_codeAt_138 rfl (lv_at hl 1 rfl) ?_
          refine lv_imul hx hb dX8_codeAt_139 ?_
          refine lv_aload_n hx hb dX8_codeAt_140 rfl (lv_at hl 0 rfl) ?_
          refine x_get (ci := 7) C hw inX8 rfl 5 (by decide) lkF_X8_22 rfl 0 rfl rfl dX8_codeAt_141 ?_
          refine lv_iload hx hb dX8_codeAt_144 (lv_at hl 2 rfl) ?_
          obtain ⟨b10, h⟩ := xk_i h
          refine x_iald C hw 5 0 rfl rfl b10 dX8_codeAt_146 ?_
          refine lv_iadd hx hb dX8_codeAt_147 ?_
          refine lv_istore_n (lv' := [(3, .int (((10 : Int32) * v3_11) + (m_figures_7 v4_12.toNatClampNeg))), (0, .ref m_ad), (4, .int v4_12)]) hx hb dX8_codeAt_148 rfl hl (by decide) rfl (fun ls hl => ?_)
          refine lv_iinc (v := (v4_12 + (1 : Int32))) (lv' := [(4, .int (v4_12 + (1 : Int32))), (3, .int (((10 : Int32) * v3_11) + (m_figures_7 v4_12.toNatClampNeg))), (0, .ref m_ad)]) hx hb dX8_codeAt_149 hl (k := 2) rfl (congrArg (fun q => v4_12 + q) (by decide)) (by decide) rfl (fun ls hl => ?_)
          refine lv_goto (tgt := 125) hx hb dX8_codeAt_152 (by decide) ?_
          obtain rfl := Option.some.inj h
          exact k _ _ _ hw (lv_sub hl [2, 1, 0] rfl)
      · obtain ⟨v3_13, hz⟩ : ∃ q, q = z := ⟨z, rfl⟩
        subst hz
        intro H locs ls hw hl
        have hw : xWd (dC, dI) A s.heap H locs (wM cI cZ cB cO m_ad m_p m_now m_held m_past m_pasts m_refused m_figures_7 m_isLaid m_many m_isMade m_made m_images m_orbits m_chains m_isCarried m_carried m_carriedMany m_isSorted m_leasts m_heads m_headFrom m_text m_typed m_at m_fault m_orders m_pointsThen m_letters m_numbers m_h) := hw
        have hl : lv_has ls 5 [(3, .int v3_13)] := hl
        refine lv_iload_n hx hb dX8_codeAt_155 rfl (lv_at hl 0 rfl) ?_
        obtain rfl := Option.some.inj h
        exact x_reti C hQ hA hw dX8_codeAt_156
noncomputable def f_X8_doPoints (m_now : (Nat → Int32)) (m_isLaid : Int32) (m_isSorted : Int32) (v1 : Int32) : Option ((Nat → Int32) × Int32 × Int32 × Int32) := xn (f_X8_in v1 (1 : Int32) (8 : Int32)) (fun (r_1 : Int32) => xb (r_1 = 0) (some (m_now, m_isLaid, m_isSorted, (-2 : Int32))) (some ((upd (upd m_now 0 v1) 1 (0 : Int32)), (0 : Int32), (0 : Int32), (m_now 0))))
set_option maxHeartbeats 4000000 in
set_option maxRecDepth 100000 in
theorem c_X8_doPoints (l : Launch) (dC : Nat → ClassId) (dI : Nat → Nat → Nat) (cI cZ cB cO : ClassId) (m_ad : Nat) (m_p : Nat → Nat) (m_now : (Nat → Int32)) (m_held : (Nat → Int32)) (m_past : (Nat → Int32)) (m_pasts : Int32) (m_refused : (Nat → Int32)) (m_figures : (Nat → Int32)) (m_isLaid : Int32) (m_many : Int32) (m_isMade : (Nat → Int32)) (m_made : (Nat → Int32)) (m_images : (Nat → Int32)) (m_orbits : (Nat → Int32)) (m_chains : (Nat → Int32)) (m_isCarried : (Nat → Int32)) (m_carried : (Nat → Int32)) (m_carriedMany : Int32) (m_isSorted : Int32) (m_leasts : (Nat → Int32)) (m_heads : (Nat → Int32)) (m_headFrom : (Nat → Int32)) (m_text : (Nat → Int32)) (m_typed : Int32) (m_at : Int32) (m_fault : Int32) (m_orders : Int32) (m_pointsThen : Int32) (m_letters : (Nat → Int32)) (m_numbers : (Nat → Int32)) (m_h : Int64) (v1 : Int32) (o : (Nat → Int32) × Int32 × Int32 × Int32) (h : f_X8_doPoints m_now m_isLaid m_isSorted v1 = some o) (sz : Nat) : Met l yX8_doPoints (xW yX8_doPoints cX8_doPoints 3 (some .int)) { frames := 1, cells := 0, slots := 0, locals := 22 } (xPre dC dI (xT cI cZ cB cO) [.ref m_ad, .int v1] (wM cI cZ cB cO m_ad m_p m_now m_held m_past m_pasts m_refused m_figures m_isLaid m_many m_isMade m_made m_images m_orbits m_chains m_isCarried m_carried m_carriedMany m_isSorted m_leasts m_heads m_headFrom m_text m_typed m_at m_fault m_orders m_pointsThen m_letters m_numbers m_h) sz) (xQi dC dI (xT cI cZ cB cO) o.2.2.2 (wM cI cZ cB cO m_ad m_p m_now m_held m_past m_pasts m_refused m_figures m_isLaid m_many m_isMade m_made m_images m_orbits m_chains m_isCarried m_carried m_carriedMany m_isSorted m_leasts m_heads m_headFrom m_text m_typed m_at m_fault m_orders m_pointsThen m_letters m_numbers m_h) (wM cI cZ cB cO m_ad m_p o.1 m_held m_past m_pasts m_refused m_figures o.2.1 m_many m_isMade m_made m_images m_orbits m_chains m_isCarried m_carried m_carriedMany o.2.2.1 m_leasts m_heads m_headFrom m_text m_typed m_at m_fault m_orders m_pointsThen m_letters m_numbers m_h) sz) 0 0 (va_A (wM cI cZ cB cO m_ad m_p m_now m_held m_past m_pasts m_refused m_figures m_isLaid m_many m_isMade m_made m_images m_orbits m_chains m_isCarried m_carried m_carriedMany m_isSorted m_leasts m_heads m_headFrom m_text m_typed m_at m_fault m_orders m_pointsThen m_letters m_numbers m_h) sz) := by
  refine x_met (by decide) (Nat.le_of_ble_eq_true rfl) ?_
  intro p e s m args below meth c R Q A hR hsz hA hQ hin C hw ls hl
  have hx := C.1
  have hb := C.2.1
  have hown := C.2.2.2.1
  have htb := C.2.2.2.2.1
  have hl : lv_has ls 3 [(0, .ref m_ad), (1, .int v1)] := hl
  refine lv_iload_n hx hb dX8_doPoints_0 rfl (lv_at hl 1 rfl) ?_
  refine lv_iconst (v := (1 : Int32)) hx hb dX8_doPoints_1 (by decide) ?_
  refine lv_bipush (v := (8 : Int32)) hx hb dX8_doPoints_2 (by decide) ?_
  obtain ⟨r_1, q1, h⟩ := xn_i h
  refine x_callSi (As := [.int v1, .int (1 : Int32), .int (8 : Int32)]) (rest := []) C hw gc_X8_84 ds_X8_in (by rw [hR]; exact Nat.le_of_ble_eq_true rfl) (by rw [hR]; exact Nat.le_of_ble_eq_true rfl) rfl rfl (Nat.zero_le _) (Nat.zero_le _) (c_X8_in l dC dI cI cZ cB cO v1 (1 : Int32) (8 : Int32) _ q1 _) [] [0, 1, 2, 3, 4, 5, 6, 7, 8, 9, 10, 11, 12, 13, 14, 15, 16, 17, 18] (by decide) rfl rfl (by decide) (by decide) rfl hl.1 rfl (Nat.le_of_ble_eq_true rfl) dX8_doPoints_4 (fun H locs hw => ?_)
  have hw : xWd (dC, dI) A s.heap H locs (wM cI cZ cB cO m_ad m_p m_now m_held m_past m_pasts m_refused m_figures m_isLaid m_many m_isMade m_made m_images m_orbits m_chains m_isCarried m_carried m_carriedMany m_isSorted m_leasts m_heads m_headFrom m_text m_typed m_at m_fault m_orders m_pointsThen m_letters m_numbers m_h) := hw.sub [0, 1, 2, 3, 4, 5, 6, 7, 8, 9, 10, 11, 12, 13, 14, 15, 16, 17, 18] (by decide) rfl
  refine lv_if_ne (tgt := 13) hx hb dX8_doPoints_7 (by decide) (fun b2 => ?_) (fun b2 => ?_)
  · replace h := xb_ff b2 h
    refine lv_aload_n hx hb dX8_doPoints_13 rfl (lv_at hl 0 rfl) ?_
    refine x_get (ci := 7) C hw inX8 rfl 0 (by decide) lkF_X8_7 rfl 0 rfl rfl dX8_doPoints_14 ?_
    refine lv_iconst (v := (0 : Int32)) hx hb dX8_doPoints_17 (by decide) ?_
    refine x_ialk C hw 1 0 rfl rfl (k := 0) (by decide) (vp_in_iff.mpr (by decide)) dX8_doPoints_18 ?_
    refine lv_istore_n (lv' := [(2, .int (m_now 0)), (0, .ref m_ad), (1, .int v1)]) hx hb dX8_doPoints_19 rfl hl (by decide) rfl (fun ls hl => ?_)
    refine lv_aload_n hx hb dX8_doPoints_20 rfl (lv_at hl 1 rfl) ?_
    refine x_get (ci := 7) C hw inX8 rfl 0 (by decide) lkF_X8_7 rfl 0 rfl rfl dX8_doPoints_21 ?_
    refine lv_iconst (v := (0 : Int32)) hx hb dX8_doPoints_24 (by decide) ?_
    refine lv_iload_n hx hb dX8_doPoints_25 rfl (lv_at hl 2 rfl) ?_
    refine x_iask C hw 1 0 rfl rfl (k := 0) (by decide) (vp_in_iff.mpr (by decide)) dX8_doPoints_26 (fun H locs hw => ?_)
    have hw : xWd (dC, dI) A s.heap H locs (wM cI cZ cB cO m_ad m_p (upd m_now 0 v1) m_held m_past m_pasts m_refused m_figures m_isLaid m_many m_isMade m_made m_images m_orbits m_chains m_isCarried m_carried m_carriedMany m_isSorted m_leasts m_heads m_headFrom m_text m_typed m_at m_fault m_orders m_pointsThen m_letters m_numbers m_h) := hw
    refine lv_aload_n hx hb dX8_doPoints_27 rfl (lv_at hl 1 rfl) ?_
    refine x_get (ci := 7) C hw inX8 rfl 0 (by decide) lkF_X8_7 rfl 0 rfl rfl dX8_doPoints_28 ?_
    refine lv_iconst (v := (1 : Int32)) hx hb dX8_doPoints_31 (by decide) ?_
    refine lv_iconst (v := (0 : Int32)) hx hb dX8_doPoints_32 (by decide) ?_
    refine x_iask C hw 1 0 rfl rfl (k := 1) (by decide) (vp_in_iff.mpr (by decide)) dX8_doPoints_33 (fun H locs hw => ?_)
    have hw : xWd (dC, dI) A s.heap H locs (wM cI cZ cB cO m_ad m_p (upd (upd m_now 0 v1) 1 (0 : Int32)) m_held m_past m_pasts m_refused m_figures m_isLaid m_many m_isMade m_made m_images m_orbits m_chains m_isCarried m_carried m_carriedMany m_isSorted m_leasts m_heads m_headFrom m_text m_typed m_at m_fault m_orders m_pointsThen m_letters m_numbers m_h) := hw
    refine lv_aload_n hx hb dX8_doPoints_34 rfl (lv_at hl 1 rfl) ?_
    refine lv_iconst (v := (0 : Int32)) hx hb dX8_doPoints_35 (by decide) ?_
    refine x_put (ci := 7) C hw inX8 tyX8 tyX8_ok nmX8 rfl 6 (by decide) lkF_X8_77 rfl rfl 0 rfl rfl rfl (Nat.le_of_ble_eq_true rfl) dX8_doPoints_36 (fun H locs hw => ?_)
    have hw : xWd (dC, dI) A s.heap H locs (wM cI cZ cB cO m_ad m_p (upd (upd m_now 0 v1) 1 (0 : Int32)) m_held m_past m_pasts m_refused m_figures (0 : Int32) m_many m_isMade m_made m_images m_orbits m_chains m_isCarried m_carried m_carriedMany m_isSorted m_leasts m_heads m_headFrom m_text m_typed m_at m_fault m_orders m_pointsThen m_letters m_numbers m_h) := hw
    refine lv_aload_n hx hb dX8_doPoints_39 rfl (lv_at hl 1 rfl) ?_
    refine lv_iconst (v := (0 : Int32)) hx hb dX8_doPoints_40 (by decide) ?_
    refine x_put (ci := 7) C hw inX8 tyX8 tyX8_ok nmX8 rfl 16 (by decide) lkF_X8_81 rfl rfl 0 rfl rfl rfl (Nat.le_of_ble_eq_true rfl) dX8_doPoints_41 (fun H locs hw => ?_)
    have hw : xWd (dC, dI) A s.heap H locs (wM cI cZ cB cO m_ad m_p (upd (upd m_now 0 v1) 1 (0 : Int32)) m_held m_past m_pasts m_refused m_figures (0 : Int32) m_many m_isMade m_made m_images m_orbits m_chains m_isCarried m_carried m_carriedMany (0 : Int32) m_leasts m_heads m_headFrom m_text m_typed m_at m_fault m_orders m_pointsThen m_letters m_numbers m_h) := hw
    refine lv_iload_n hx hb dX8_doPoints_44 rfl (lv_at hl 0 rfl) ?_
    obtain rfl := Option.some.inj h
    exact x_reti C hQ hA hw dX8_doPoints_45
  · replace h := xb_tt b2 h
    refine lv_bipush (v := (-2 : Int32)) hx hb dX8_doPoints_10 (by decide) ?_
    obtain rfl := Option.some.inj h
    exact x_reti C hQ hA hw dX8_doPoints_12
noncomputable def f_X8_doMoves (m_now : (Nat → Int32)) (m_figures : (Nat → Int32)) (m_isLaid : Int32) (m_isSorted : Int32) (v1 : Int32) : Option ((Nat → Int32) × (Nat → Int32) × Int32 × Int32 × Int32) := xn (f_X8_isMove m_now m_figures v1) (fun (z : (Nat → Int32) × Int32) => match z with | (m_figures_1, r_2) => xb (r_2 = 0) (some (m_now, m_figures_1, m_isLaid, m_isSorted, (-2 : Int32))) (xb ((m_now 1) = (3 : Int32)) (some (m_now, m_figures_1, m_isLaid, m_isSorted, (-4 : Int32))) (xk (vp_in ((2 : Int32) + (m_now 1)) 5) (some ((upd (upd m_now ((2 : Int32) + (m_now 1)).toNatClampNeg v1) 1 (((upd m_now ((2 : Int32) + (m_now 1)).toNatClampNeg v1) 1) + (1 : Int32))), m_figures_1, (0 : Int32), (0 : Int32), (((upd (upd m_now ((2 : Int32) + (m_now 1)).toNatClampNeg v1) 1 (((upd m_now ((2 : Int32) + (m_now 1)).toNatClampNeg v1) 1) + (1 : Int32))) 1) - (1 : Int32)))))))
set_option maxHeartbeats 4000000 in
set_option maxRecDepth 100000 in
theorem c_X8_doMoves (l : Launch) (dC : Nat → ClassId) (dI : Nat → Nat → Nat) (cI cZ cB cO : ClassId) (m_ad : Nat) (m_p : Nat → Nat) (m_now : (Nat → Int32)) (m_held : (Nat → Int32)) (m_past : (Nat → Int32)) (m_pasts : Int32) (m_refused : (Nat → Int32)) (m_figures : (Nat → Int32)) (m_isLaid : Int32) (m_many : Int32) (m_isMade : (Nat → Int32)) (m_made : (Nat → Int32)) (m_images : (Nat → Int32)) (m_orbits : (Nat → Int32)) (m_chains : (Nat → Int32)) (m_isCarried : (Nat → Int32)) (m_carried : (Nat → Int32)) (m_carriedMany : Int32) (m_isSorted : Int32) (m_leasts : (Nat → Int32)) (m_heads : (Nat → Int32)) (m_headFrom : (Nat → Int32)) (m_text : (Nat → Int32)) (m_typed : Int32) (m_at : Int32) (m_fault : Int32) (m_orders : Int32) (m_pointsThen : Int32) (m_letters : (Nat → Int32)) (m_numbers : (Nat → Int32)) (m_h : Int64) (v1 : Int32) (o : (Nat → Int32) × (Nat → Int32) × Int32 × Int32 × Int32) (h : f_X8_doMoves m_now m_figures m_isLaid m_isSorted v1 = some o) (sz : Nat) : Met l yX8_doMoves (xW yX8_doMoves cX8_doMoves 2 (some .int)) { frames := 2, cells := 0, slots := 0, locals := 47 } (xPre dC dI (xT cI cZ cB cO) [.ref m_ad, .int v1] (wM cI cZ cB cO m_ad m_p m_now m_held m_past m_pasts m_refused m_figures m_isLaid m_many m_isMade m_made m_images m_orbits m_chains m_isCarried m_carried m_carriedMany m_isSorted m_leasts m_heads m_headFrom m_text m_typed m_at m_fault m_orders m_pointsThen m_letters m_numbers m_h) sz) (xQi dC dI (xT cI cZ cB cO) o.2.2.2.2 (wM cI cZ cB cO m_ad m_p m_now m_held m_past m_pasts m_refused m_figures m_isLaid m_many m_isMade m_made m_images m_orbits m_chains m_isCarried m_carried m_carriedMany m_isSorted m_leasts m_heads m_headFrom m_text m_typed m_at m_fault m_orders m_pointsThen m_letters m_numbers m_h) (wM cI cZ cB cO m_ad m_p o.1 m_held m_past m_pasts m_refused o.2.1 o.2.2.1 m_many m_isMade m_made m_images m_orbits m_chains m_isCarried m_carried m_carriedMany o.2.2.2.1 m_leasts m_heads m_headFrom m_text m_typed m_at m_fault m_orders m_pointsThen m_letters m_numbers m_h) sz) 0 0 (va_A (wM cI cZ cB cO m_ad m_p m_now m_held m_past m_pasts m_refused m_figures m_isLaid m_many m_isMade m_made m_images m_orbits m_chains m_isCarried m_carried m_carriedMany m_isSorted m_leasts m_heads m_headFrom m_text m_typed m_at m_fault m_orders m_pointsThen m_letters m_numbers m_h) sz) := by
  refine x_met (by decide) (Nat.le_of_ble_eq_true rfl) ?_
  intro p e s m args below meth c R Q A hR hsz hA hQ hin C hw ls hl
  have hx := C.1
  have hb := C.2.1
  have hown := C.2.2.2.1
  have htb := C.2.2.2.2.1
  have hl : lv_has ls 2 [(0, .ref m_ad), (1, .int v1)] := hl
  refine lv_aload_n hx hb dX8_doMoves_0 rfl (lv_at hl 0 rfl) ?_
  refine lv_iload_n hx hb dX8_doMoves_1 rfl (lv_at hl 1 rfl) ?_
  obtain ⟨⟨m_figures_1, r_2⟩, q1, h⟩ := xn_i h
  refine x_callVi (As := [.int v1]) (rest := []) C hw gc_X8_92 ⟨rfl, rfl, ds_X8_isMove, (by rw [hR]; exact Nat.le_of_ble_eq_true rfl), (by rw [hR]; exact Nat.le_of_ble_eq_true rfl), Nat.zero_le _, Nat.zero_le _⟩ (c_X8_isMove l dC dI cI cZ cB cO m_ad m_p m_now m_held m_past m_pasts m_refused m_figures m_isLaid m_many m_isMade m_made m_images m_orbits m_chains m_isCarried m_carried m_carriedMany m_isSorted m_leasts m_heads m_headFrom m_text m_typed m_at m_fault m_orders m_pointsThen m_letters m_numbers m_h v1 _ q1 _) [0, 1, 2, 3, 4, 5, 6, 7, 8, 9, 10, 11, 12, 13, 14, 15, 16, 17, 18] [] (by decide) rfl rfl (by decide) (by decide) rfl rfl rfl hl.1 rfl (Nat.le_of_ble_eq_true rfl) dX8_doMoves_2 (fun H locs hw => ?_)
  have hw : xWd (dC, dI) A s.heap H locs (wM cI cZ cB cO m_ad m_p m_now m_held m_past m_pasts m_refused m_figures_1 m_isLaid m_many m_isMade m_made m_images m_orbits m_chains m_isCarried m_carried m_carriedMany m_isSorted m_leasts m_heads m_headFrom m_text m_typed m_at m_fault m_orders m_pointsThen m_letters m_numbers m_h) := hw
  refine lv_if_ne (tgt := 11) hx hb dX8_doMoves_5 (by decide) (fun b2 => ?_) (fun b2 => ?_)
  · replace h := xb_ff b2 h
    refine lv_aload_n hx hb dX8_doMoves_11 rfl (lv_at hl 0 rfl) ?_
    refine x_get (ci := 7) C hw inX8 rfl 0 (by decide) lkF_X8_7 rfl 0 rfl rfl dX8_doMoves_12 ?_
    refine lv_iconst (v := (1 : Int32)) hx hb dX8_doMoves_15 (by decide) ?_
    refine x_ialk C hw 1 0 rfl rfl (k := 1) (by decide) (vp_in_iff.mpr (by decide)) dX8_doMoves_16 ?_
    refine lv_iconst (v := (3 : Int32)) hx hb dX8_doMoves_17 (by decide) ?_
    refine lv_icmp_ne (tgt := 24) hx hb dX8_doMoves_18 (by decide) (fun b3 => ?_) (fun b3 => ?_)
    · replace h := xb_ff b3 h
      refine lv_aload_n hx hb dX8_doMoves_24 rfl (lv_at hl 0 rfl) ?_
      refine x_get (ci := 7) C hw inX8 rfl 0 (by decide) lkF_X8_7 rfl 0 rfl rfl dX8_doMoves_25 ?_
      refine lv_iconst (v := (2 : Int32)) hx hb dX8_doMoves_28 (by decide) ?_
      refine lv_aload_n hx hb dX8_doMoves_29 rfl (lv_at hl 0 rfl) ?_
      refine x_get (ci := 7) C hw inX8 rfl 0 (by decide) lkF_X8_7 rfl 0 rfl rfl dX8_doMoves_30 ?_
      refine lv_iconst (v := (1 : Int32)) hx hb dX8_doMoves_33 (by decide) ?_
      refine x_ialk C hw 1 0 rfl rfl (k := 1) (by decide) (vp_in_iff.mpr (by decide)) dX8_doMoves_34 ?_
      refine lv_iadd hx hb dX8_doMoves_35 ?_
      refine lv_iload_n hx hb dX8_doMoves_36 rfl (lv_at hl 1 rfl) ?_
      obtain ⟨b4, h⟩ := xk_i h
      refine x_iast C hw 1 0 rfl rfl b4 dX8_doMoves_37 (fun H locs hw => ?_)
      have hw : xWd (dC, dI) A s.heap H locs (wM cI cZ cB cO m_ad m_p (upd m_now ((2 : Int32) + (m_now 1)).toNatClampNeg v1) m_held m_past m_pasts m_refused m_figures_1 m_isLaid m_many m_isMade m_made m_images m_orbits m_chains m_isCarried m_carried m_carriedMany m_isSorted m_leasts m_heads m_headFrom m_text m_typed m_at m_fault m_orders m_pointsThen m_letters m_numbers m_h) := hw
      refine lv_aload_n hx hb dX8_doMoves_38 rfl (lv_at hl 0 rfl) ?_
      refine x_get (ci := 7) C hw inX8 rfl 0 (by decide) lkF_X8_7 rfl 0 rfl rfl dX8_doMoves_39 ?_
      refine lv_iconst (v := (1 : Int32)) hx hb dX8_doMoves_42 (by decide) ?_
      refine lv_dup2_11 hx hb dX8_doMoves_43 rfl rfl ?_
      refine x_ialk C hw 1 0 rfl rfl (k := 1) (by decide) (vp_in_iff.mpr (by decide)) dX8_doMoves_44 ?_
      refine lv_iconst (v := (1 : Int32)) hx hb dX8_doMoves_45 (by decide) ?_
      refine lv_iadd hx hb dX8_doMoves_46 ?_
      refine x_iask C hw 1 0 rfl rfl (k := 1) (by decide) (vp_in_iff.mpr (by decide)) dX8_doMoves_47 (fun H locs hw => ?_)
      have hw : xWd (dC, dI) A s.heap H locs (wM cI cZ cB cO m_ad m_p (upd (upd m_now ((2 : Int32) + (m_now 1)).toNatClampNeg v1) 1 (((upd m_now ((2 : Int32) + (m_now 1)).toNatClampNeg v1) 1) + (1 : Int32))) m_held m_past m_pasts m_refused m_figures_1 m_isLaid m_many m_isMade m_made m_images m_orbits m_chains m_isCarried m_carried m_carriedMany m_isSorted m_leasts m_heads m_headFrom m_text m_typed m_at m_fault m_orders m_pointsThen m_letters m_numbers m_h) := hw
      refine lv_aload_n hx hb dX8_doMoves_48 rfl (lv_at hl 0 rfl) ?_
      refine lv_iconst (v := (0 : Int32)) hx hb dX8_doMoves_49 (by decide) ?_
      refine x_put (ci := 7) C hw inX8 tyX8 tyX8_ok nmX8 rfl 6 (by decide) lkF_X8_77 rfl rfl 0 rfl rfl rfl (Nat.le_of_ble_eq_true rfl) dX8_doMoves_50 (fun H locs hw => ?_)
      have hw : xWd (dC, dI) A s.heap H locs (wM cI cZ cB cO m_ad m_p (upd (upd m_now ((2 : Int32) + (m_now 1)).toNatClampNeg v1) 1 (((upd m_now ((2 : Int32) + (m_now 1)).toNatClampNeg v1) 1) + (1 : Int32))) m_held m_past m_pasts m_refused m_figures_1 (0 : Int32) m_many m_isMade m_made m_images m_orbits m_chains m_isCarried m_carried m_carriedMany m_isSorted m_leasts m_heads m_headFrom m_text m_typed m_at m_fault m_orders m_pointsThen m_letters m_numbers m_h) := hw
      refine lv_aload_n hx hb dX8_doMoves_53 rfl (lv_at hl 0 rfl) ?_
      refine lv_iconst (v := (0 : Int32)) hx hb dX8_doMoves_54 (by decide) ?_
      refine x_put (ci := 7) C hw inX8 tyX8 tyX8_ok nmX8 rfl 16 (by decide) lkF_X8_81 rfl rfl 0 rfl rfl rfl (Nat.le_of_ble_eq_true rfl) dX8_doMoves_55 (fun H locs hw => ?_)
      have hw : xWd (dC, dI) A s.heap H locs (wM cI cZ cB cO m_ad m_p (upd (upd m_now ((2 : Int32) + (m_now 1)).toNatClampNeg v1) 1 (((upd m_now ((2 : Int32) + (m_now 1)).toNatClampNeg v1) 1) + (1 : Int32))) m_held m_past m_pasts m_refused m_figures_1 (0 : Int32) m_many m_isMade m_made m_images m_orbits m_chains m_isCarried m_carried m_carriedMany (0 : Int32) m_leasts m_heads m_headFrom m_text m_typed m_at m_fault m_orders m_pointsThen m_letters m_numbers m_h) := hw
      refine lv_aload_n hx hb dX8_doMoves_58 rfl (lv_at hl 0 rfl) ?_
      refine x_get (ci := 7) C hw inX8 rfl 0 (by decide) lkF_X8_7 rfl 0 rfl rfl dX8_doMoves_59 ?_
      refine lv_iconst (v := (1 : Int32)) hx hb dX8_doMoves_62 (by decide) ?_
      refine x_ialk C hw 1 0 rfl rfl (k := 1) (by decide) (vp_in_iff.mpr (by decide)) dX8_doMoves_63 ?_
      refine lv_iconst (v := (1 : Int32)) hx hb dX8_doMoves_64 (by decide) ?_
      refine lv_isub hx hb dX8_doMoves_65 ?_
      obtain rfl := Option.some.inj h
      exact x_reti C hQ hA hw dX8_doMoves_66
    · replace h := xb_tt b3 h
      refine lv_bipush (v := (-4 : Int32)) hx hb dX8_doMoves_21 (by decide) ?_
      obtain rfl := Option.some.inj h
      exact x_reti C hQ hA hw dX8_doMoves_23
  · replace h := xb_tt b2 h
    refine lv_bipush (v := (-2 : Int32)) hx hb dX8_doMoves_8 (by decide) ?_
    obtain rfl := Option.some.inj h
    exact x_reti C hQ hA hw dX8_doMoves_10
noncomputable def f_X8_doDrops_L1  (z : (Nat → Int32) × Int32) : Option (((Nat → Int32) × Int32) ⊕ ((Nat → Int32))) := match z with
  | (m_now_2, v2_3) => xb ((m_now_2 1) ≤ v2_3) (some (.inr m_now_2)) (xk (vp_in ((3 : Int32) + v2_3) 5) (xk (vp_in ((2 : Int32) + v2_3) 5) (some (.inl ((upd m_now_2 ((2 : Int32) + v2_3).toNatClampNeg (m_now_2 ((3 : Int32) + v2_3).toNatClampNeg)), (v2_3 + (1 : Int32)))))))
noncomputable def f_X8_doDrops (m_now : (Nat → Int32)) (m_isLaid : Int32) (m_isSorted : Int32) (v1 : Int32) : Option ((Nat → Int32) × Int32 × Int32 × Int32) := xn (f_X8_in v1 (0 : Int32) ((m_now 1) - (1 : Int32))) (fun (r_1 : Int32) => xb (r_1 = 0) (some (m_now, m_isLaid, m_isSorted, (-2 : Int32))) (xn (xL f_X8_doDrops_L1 ((upd m_now 1 ((m_now 1) - (1 : Int32))), v1)) (fun (m_now_4 : (Nat → Int32)) => some (m_now_4, (0 : Int32), (0 : Int32), (m_now_4 1)))))
set_option maxHeartbeats 4000000 in
set_option maxRecDepth 100000 in
theorem c_X8_doDrops (l : Launch) (dC : Nat → ClassId) (dI : Nat → Nat → Nat) (cI cZ cB cO : ClassId) (m_ad : Nat) (m_p : Nat → Nat) (m_now : (Nat → Int32)) (m_held : (Nat → Int32)) (m_past : (Nat → Int32)) (m_pasts : Int32) (m_refused : (Nat → Int32)) (m_figures : (Nat → Int32)) (m_isLaid : Int32) (m_many : Int32) (m_isMade : (Nat → Int32)) (m_made : (Nat → Int32)) (m_images : (Nat → Int32)) (m_orbits : (Nat → Int32)) (m_chains : (Nat → Int32)) (m_isCarried : (Nat → Int32)) (m_carried : (Nat → Int32)) (m_carriedMany : Int32) (m_isSorted : Int32) (m_leasts : (Nat → Int32)) (m_heads : (Nat → Int32)) (m_headFrom : (Nat → Int32)) (m_text : (Nat → Int32)) (m_typed : Int32) (m_at : Int32) (m_fault : Int32) (m_orders : Int32) (m_pointsThen : Int32) (m_letters : (Nat → Int32)) (m_numbers : (Nat → Int32)) (m_h : Int64) (v1 : Int32) (o : (Nat → Int32) × Int32 × Int32 × Int32) (h : f_X8_doDrops m_now m_isLaid m_isSorted v1 = some o) (sz : Nat) : Met l yX8_doDrops (xW yX8_doDrops cX8_doDrops 3 (some .int)) { frames := 1, cells := 0, slots := 0, locals := 22 } (xPre dC dI (xT cI cZ cB cO) [.ref m_ad, .int v1] (wM cI cZ cB cO m_ad m_p m_now m_held m_past m_pasts m_refused m_figures m_isLaid m_many m_isMade m_made m_images m_orbits m_chains m_isCarried m_carried m_carriedMany m_isSorted m_leasts m_heads m_headFrom m_text m_typed m_at m_fault m_orders m_pointsThen m_letters m_numbers m_h) sz) (xQi dC dI (xT cI cZ cB cO) o.2.2.2 (wM cI cZ cB cO m_ad m_p m_now m_held m_past m_pasts m_refused m_figures m_isLaid m_many m_isMade m_made m_images m_orbits m_chains m_isCarried m_carried m_carriedMany m_isSorted m_leasts m_heads m_headFrom m_text m_typed m_at m_fault m_orders m_pointsThen m_letters m_numbers m_h) (wM cI cZ cB cO m_ad m_p o.1 m_held m_past m_pasts m_refused m_figures o.2.1 m_many m_isMade m_made m_images m_orbits m_chains m_isCarried m_carried m_carriedMany o.2.2.1 m_leasts m_heads m_headFrom m_text m_typed m_at m_fault m_orders m_pointsThen m_letters m_numbers m_h) sz) 0 0 (va_A (wM cI cZ cB cO m_ad m_p m_now m_held m_past m_pasts m_refused m_figures m_isLaid m_many m_isMade m_made m_images m_orbits m_chains m_isCarried m_carried m_carriedMany m_isSorted m_leasts m_heads m_headFrom m_text m_typed m_at m_fault m_orders m_pointsThen m_letters m_numbers m_h) sz) := by
  refine x_met (by decide) (Nat.le_of_ble_eq_true rfl) ?_
  intro p e s m args below meth c R Q A hR hsz hA hQ hin C hw ls hl
  have hx := C.1
  have hb := C.2.1
  have hown := C.2.2.2.1
  have htb := C.2.2.2.2.1
  have hl : lv_has ls 3 [(0, .ref m_ad), (1, .int v1)] := hl
  refine lv_iload_n hx hb dX8_doDrops_0 rfl (lv_at hl 1 rfl) ?_
  refine lv_iconst (v := (0 : Int32)) hx hb dX8_doDrops_1 (by decide) ?_
  refine lv_aload_n hx hb dX8_doDrops_2 rfl (lv_at hl 0 rfl) ?_
  refine x_get (ci := 7) C hw inX8 rfl 0 (by decide) lkF_X8_7 rfl 0 rfl rfl dX8_doDrops_3 ?_
  refine lv_iconst (v := (1 : Int32)) hx hb dX8_doDrops_6 (by decide) ?_
  refine x_ialk C hw 1 0 rfl rfl (k := 1) (by decide) (vp_in_iff.mpr (by decide)) dX8_doDrops_7 ?_
  refine lv_iconst (v := (1 : Int32)) hx hb dX8_doDrops_8 (by decide) ?_
  refine lv_isub hx hb dX8_doDrops_9 ?_
  obtain ⟨r_1, q1, h⟩ := xn_i h
  refine x_callSi (As := [.int v1, .int (0 : Int32), .int ((m_now 1) - (1 : Int32))]) (rest := []) C hw gc_X8_84 ds_X8_in (by rw [hR]; exact Nat.le_of_ble_eq_true rfl) (by rw [hR]; exact Nat.le_of_ble_eq_true rfl) rfl rfl (Nat.zero_le _) (Nat.zero_le _) (c_X8_in l dC dI cI cZ cB cO v1 (0 : Int32) ((m_now 1) - (1 : Int32)) _ q1 _) [] [0, 1, 2, 3, 4, 5, 6, 7, 8, 9, 10, 11, 12, 13, 14, 15, 16, 17, 18] (by decide) rfl rfl (by decide) (by decide) rfl hl.1 rfl (Nat.le_of_ble_eq_true rfl) dX8_doDrops_10 (fun H locs hw => ?_)
  have hw : xWd (dC, dI) A s.heap H locs (wM cI cZ cB cO m_ad m_p m_now m_held m_past m_pasts m_refused m_figures m_isLaid m_many m_isMade m_made m_images m_orbits m_chains m_isCarried m_carried m_carriedMany m_isSorted m_leasts m_heads m_headFrom m_text m_typed m_at m_fault m_orders m_pointsThen m_letters m_numbers m_h) := hw.sub [0, 1, 2, 3, 4, 5, 6, 7, 8, 9, 10, 11, 12, 13, 14, 15, 16, 17, 18] (by decide) rfl
  refine lv_if_ne (tgt := 19) hx hb dX8_doDrops_13 (by decide) (fun b2 => ?_) (fun b2 => ?_)
  · replace h := xb_ff b2 h
    refine lv_aload_n hx hb dX8_doDrops_19 rfl (lv_at hl 0 rfl) ?_
    refine x_get (ci := 7) C hw inX8 rfl 0 (by decide) lkF_X8_7 rfl 0 rfl rfl dX8_doDrops_20 ?_
    refine lv_iconst (v := (1 : Int32)) hx hb dX8_doDrops_23 (by decide) ?_
    refine lv_dup2_11 hx hb dX8_doDrops_24 rfl rfl ?_
    refine x_ialk C hw 1 0 rfl rfl (k := 1) (by decide) (vp_in_iff.mpr (by decide)) dX8_doDrops_25 ?_
    refine lv_iconst (v := (1 : Int32)) hx hb dX8_doDrops_26 (by decide) ?_
    refine lv_isub hx hb dX8_doDrops_27 ?_
    refine x_iask C hw 1 0 rfl rfl (k := 1) (by decide) (vp_in_iff.mpr (by decide)) dX8_doDrops_28 (fun H locs hw => ?_)
    have hw : xWd (dC, dI) A s.heap H locs (wM cI cZ cB cO m_ad m_p (upd m_now 1 ((m_now 1) - (1 : Int32))) m_held m_past m_pasts m_refused m_figures m_isLaid m_many m_isMade m_made m_images m_orbits m_chains m_isCarried m_carried m_carriedMany m_isSorted m_leasts m_heads m_headFrom m_text m_typed m_at m_fault m_orders m_pointsThen m_letters m_numbers m_h) := hw
    refine lv_iload_n hx hb dX8_doDrops_29 rfl (lv_at hl 1 rfl) ?_
    refine lv_istore_n (lv' := [(2, .int v1), (0, .ref m_ad), (1, .int v1)]) hx hb dX8_doDrops_30 rfl hl (by decide) rfl (fun ls hl => ?_)
    obtain ⟨z, hr, h⟩ := xn_i h
    refine xL_w (fun (z : (Nat → Int32) × Int32) => ∀ (H : Heap) (locs : List Loc) (ls : Array Slot), xWd (dC, dI) A s.heap H locs (wM cI cZ cB cO m_ad m_p z.1 m_held m_past m_pasts m_refused m_figures m_isLaid m_many m_isMade m_made m_images m_orbits m_chains m_isCarried m_carried m_carriedMany m_isSorted m_leasts m_heads m_headFrom m_text m_typed m_at m_fault m_orders m_pointsThen m_letters m_numbers m_h) → lv_has ls 3 [(0, .ref m_ad), (2, .int z.2)] → W p l e R s m args below meth c H locs 0 0 Q (F0 m 31 ls [])) (fun (z : (Nat → Int32)) => ∀ (H : Heap) (locs : List Loc) (ls : Array Slot), xWd (dC, dI) A s.heap H locs (wM cI cZ cB cO m_ad m_p z m_held m_past m_pasts m_refused m_figures m_isLaid m_many m_isMade m_made m_images m_orbits m_chains m_isCarried m_carried m_carriedMany m_isSorted m_leasts m_heads m_headFrom m_text m_typed m_at m_fault m_orders m_pointsThen m_letters m_numbers m_h) → lv_has ls 3 [(0, .ref m_ad)] → W p l e R s m args below meth c H locs 0 0 Q (F0 m 63 ls [])) ?_ hr ?_ _ _ _ hw (lv_sub hl [1, 0] rfl)
    · rintro ⟨m_now_2, v2_3⟩ o h k H locs ls hw hl
      have hw : xWd (dC, dI) A s.heap H locs (wM cI cZ cB cO m_ad m_p m_now_2 m_held m_past m_pasts m_refused m_figures m_isLaid m_many m_isMade m_made m_images m_orbits m_chains m_isCarried m_carried m_carriedMany m_isSorted m_leasts m_heads m_headFrom m_text m_typed m_at m_fault m_orders m_pointsThen m_letters m_numbers m_h) := hw
      have hl : lv_has ls 3 [(0, .ref m_ad), (2, .int v2_3)] := hl
      refine lv_iload_n hx hb dX8_doDrops_31 rfl (lv_at hl 1 rfl) ?_
      refine lv_aload_n hx hb dX8_doDrops_32 rfl (lv_at hl 0 rfl) ?_
      refine x_get (ci := 7) C hw inX8 rfl 0 (by decide) lkF_X8_7 rfl 0 rfl rfl dX8_doDrops_33 ?_
      refine lv_iconst (v := (1 : Int32)) hx hb dX8_doDrops_36 (by decide) ?_
      refine x_ialk C hw 1 0 rfl rfl (k := 1) (by decide) (vp_in_iff.mpr (by decide)) dX8_doDrops_37 ?_
      refine lv_icmp_ge (tgt := 63) hx hb dX8_doDrops_38 (by decide) (fun b3 => ?_) (fun b3 => ?_)
      · replace h := xb_tt b3 h
        obtain rfl := Option.some.inj h
        exact k _ _ _ hw (lv_sub hl [0] rfl)
      · replace h := xb_ff b3 h
        refine lv_aload_n hx hb dX8_doDrops_41 rfl (lv_at hl 0 rfl) ?_
        refine x_get (ci := 7) C hw inX8 rfl 0 (by decide) lkF_X8_7 rfl 0 rfl rfl dX8_doDrops_42 ?_
        refine lv_iconst (v := (2 : Int32)) hx hb dX8_doDrops_45 (by decide) ?_
        refine lv_iload_n hx hb dX8_doDrops_46 rfl (lv_at hl 1 rfl) ?_
        refine lv_iadd hx hb dX8_doDrops_47 ?_
        refine lv_aload_n hx hb dX8_doDrops_48 rfl (lv_at hl 0 rfl) ?_
        refine x_get (ci := 7) C hw inX8 rfl 0 (by decide) lkF_X8_7 rfl 0 rfl rfl dX8_doDrops_49 ?_
        refine lv_iconst (v := (3 : Int32)) hx hb dX8_doDrops_52 (by decide) ?_
        refine lv_iload_n hx hb dX8_doDrops_53 rfl (lv_at hl 1 rfl) ?_
        refine lv_iadd hx hb dX8_doDrops_54 ?_
        obtain ⟨b4, h⟩ := xk_i h
        refine x_iald C hw 1 0 rfl rfl b4 dX8_doDrops_55 ?_
        obtain ⟨b5, h⟩ := xk_i h
        refine x_iast C hw 1 0 rfl rfl b5 dX8_doDrops_56 (fun H locs hw => ?_)
        have hw : xWd (dC, dI) A s.heap H locs (wM cI cZ cB cO m_ad m_p (upd m_now_2 ((2 : Int32) + v2_3).toNatClampNeg (m_now_2 ((3 : Int32) + v2_3).toNatClampNeg)) m_held m_past m_pasts m_refused m_figures m_isLaid m_many m_isMade m_made m_images m_orbits m_chains m_isCarried m_carried m_carriedMany m_isSorted m_leasts m_heads m_headFrom m_text m_typed m_at m_fault m_orders m_pointsThen m_letters m_numbers m_h) := hw
        refine lv_iinc (v := (v2_3 + (1 : Int32))) (lv' := [(2, .int (v2_3 + (1 : Int32))), (0, .ref m_ad)]) hx hb dX8_doDrops_57 hl (k := 1) rfl (congrArg (fun q => v2_3 + q) (by decide)) (by decide) rfl (fun ls hl => ?_)
        refine lv_goto (tgt := 31) hx hb dX8_doDrops_60 (by decide) ?_
        obtain rfl := Option.some.inj h
        exact k _ _ _ hw (lv_sub hl [1, 0] rfl)
    · obtain ⟨m_now_4, hz⟩ : ∃ q, q = z := ⟨z, rfl⟩
      subst hz
      intro H locs ls hw hl
      have hw : xWd (dC, dI) A s.heap H locs (wM cI cZ cB cO m_ad m_p m_now_4 m_held m_past m_pasts m_refused m_figures m_isLaid m_many m_isMade m_made m_images m_orbits m_chains m_isCarried m_carried m_carriedMany m_isSorted m_leasts m_heads m_headFrom m_text m_typed m_at m_fault m_orders m_pointsThen m_letters m_numbers m_h) := hw
      have hl : lv_has ls 3 [(0, .ref m_ad)] := hl
      refine lv_aload_n hx hb dX8_doDrops_63 rfl (lv_at hl 0 rfl) ?_
      refine lv_iconst (v := (0 : Int32)) hx hb dX8_doDrops_64 (by decide) ?_
      refine x_put (ci := 7) C hw inX8 tyX8 tyX8_ok nmX8 rfl 6 (by decide) lkF_X8_77 rfl rfl 0 rfl rfl rfl (Nat.le_of_ble_eq_true rfl) dX8_doDrops_65 (fun H locs hw => ?_)
      have hw : xWd (dC, dI) A s.heap H locs (wM cI cZ cB cO m_ad m_p m_now_4 m_held m_past m_pasts m_refused m_figures (0 : Int32) m_many m_isMade m_made m_images m_orbits m_chains m_isCarried m_carried m_carriedMany m_isSorted m_leasts m_heads m_headFrom m_text m_typed m_at m_fault m_orders m_pointsThen m_letters m_numbers m_h) := hw
      refine lv_aload_n hx hb dX8_doDrops_68 rfl (lv_at hl 0 rfl) ?_
      refine lv_iconst (v := (0 : Int32)) hx hb dX8_doDrops_69 (by decide) ?_
      refine x_put (ci := 7) C hw inX8 tyX8 tyX8_ok nmX8 rfl 16 (by decide) lkF_X8_81 rfl rfl 0 rfl rfl rfl (Nat.le_of_ble_eq_true rfl) dX8_doDrops_70 (fun H locs hw => ?_)
      have hw : xWd (dC, dI) A s.heap H locs (wM cI cZ cB cO m_ad m_p m_now_4 m_held m_past m_pasts m_refused m_figures (0 : Int32) m_many m_isMade m_made m_images m_orbits m_chains m_isCarried m_carried m_carriedMany (0 : Int32) m_leasts m_heads m_headFrom m_text m_typed m_at m_fault m_orders m_pointsThen m_letters m_numbers m_h) := hw
      refine lv_aload_n hx hb dX8_doDrops_73 rfl (lv_at hl 0 rfl) ?_
      refine x_get (ci := 7) C hw inX8 rfl 0 (by decide) lkF_X8_7 rfl 0 rfl rfl dX8_doDrops_74 ?_
      refine lv_iconst (v := (1 : Int32)) hx hb dX8_doDrops_77 (by decide) ?_
      refine x_ialk C hw 1 0 rfl rfl (k := 1) (by decide) (vp_in_iff.mpr (by decide)) dX8_doDrops_78 ?_
      obtain rfl := Option.some.inj h
      exact x_reti C hQ hA hw dX8_doDrops_79
  · replace h := xb_tt b2 h
    refine lv_bipush (v := (-2 : Int32)) hx hb dX8_doDrops_16 (by decide) ?_
    obtain rfl := Option.some.inj h
    exact x_reti C hQ hA hw dX8_doDrops_18
noncomputable def f_X8_points (m_now : (Nat → Int32)) (m_held : (Nat → Int32)) (m_past : (Nat → Int32)) (m_pasts : Int32) (m_refused : (Nat → Int32)) (m_isLaid : Int32) (m_isSorted : Int32) (v1 : Int32) : Option ((Nat → Int32) × (Nat → Int32) × (Nat → Int32) × Int32 × (Nat → Int32) × Int32 × Int32 × Int32) := xn (f_X8_hold m_now m_held) (fun (m_held_1 : (Nat → Int32)) => xn (f_X8_doPoints m_now m_isLaid m_isSorted v1) (fun (z : (Nat → Int32) × Int32 × Int32 × Int32) => match z with | (m_now_2, m_isLaid_3, m_isSorted_4, r_5) => xn (f_X8_ends m_held_1 m_past m_pasts m_refused r_5) (fun (z : (Nat → Int32) × Int32 × (Nat → Int32) × Int32) => match z with | (m_past_6, m_pasts_7, m_refused_8, r_9) => some (m_now_2, m_held_1, m_past_6, m_pasts_7, m_refused_8, m_isLaid_3, m_isSorted_4, r_9))))
set_option maxHeartbeats 4000000 in
set_option maxRecDepth 100000 in
theorem c_X8_points (l : Launch) (dC : Nat → ClassId) (dI : Nat → Nat → Nat) (cI cZ cB cO : ClassId) (m_ad : Nat) (m_p : Nat → Nat) (m_now : (Nat → Int32)) (m_held : (Nat → Int32)) (m_past : (Nat → Int32)) (m_pasts : Int32) (m_refused : (Nat → Int32)) (m_figures : (Nat → Int32)) (m_isLaid : Int32) (m_many : Int32) (m_isMade : (Nat → Int32)) (m_made : (Nat → Int32)) (m_images : (Nat → Int32)) (m_orbits : (Nat → Int32)) (m_chains : (Nat → Int32)) (m_isCarried : (Nat → Int32)) (m_carried : (Nat → Int32)) (m_carriedMany : Int32) (m_isSorted : Int32) (m_leasts : (Nat → Int32)) (m_heads : (Nat → Int32)) (m_headFrom : (Nat → Int32)) (m_text : (Nat → Int32)) (m_typed : Int32) (m_at : Int32) (m_fault : Int32) (m_orders : Int32) (m_pointsThen : Int32) (m_letters : (Nat → Int32)) (m_numbers : (Nat → Int32)) (m_h : Int64) (v1 : Int32) (o : (Nat → Int32) × (Nat → Int32) × (Nat → Int32) × Int32 × (Nat → Int32) × Int32 × Int32 × Int32) (h : f_X8_points m_now m_held m_past m_pasts m_refused m_isLaid m_isSorted v1 = some o) (sz : Nat) : Met l yX8_points (xW yX8_points cX8_points 2 (some .int)) { frames := 2, cells := 0, slots := 0, locals := 44 } (xPre dC dI (xT cI cZ cB cO) [.ref m_ad, .int v1] (wM cI cZ cB cO m_ad m_p m_now m_held m_past m_pasts m_refused m_figures m_isLaid m_many m_isMade m_made m_images m_orbits m_chains m_isCarried m_carried m_carriedMany m_isSorted m_leasts m_heads m_headFrom m_text m_typed m_at m_fault m_orders m_pointsThen m_letters m_numbers m_h) sz) (xQi dC dI (xT cI cZ cB cO) o.2.2.2.2.2.2.2 (wM cI cZ cB cO m_ad m_p m_now m_held m_past m_pasts m_refused m_figures m_isLaid m_many m_isMade m_made m_images m_orbits m_chains m_isCarried m_carried m_carriedMany m_isSorted m_leasts m_heads m_headFrom m_text m_typed m_at m_fault m_orders m_pointsThen m_letters m_numbers m_h) (wM cI cZ cB cO m_ad m_p o.1 o.2.1 o.2.2.1 o.2.2.2.1 o.2.2.2.2.1 m_figures o.2.2.2.2.2.1 m_many m_isMade m_made m_images m_orbits m_chains m_isCarried m_carried m_carriedMany o.2.2.2.2.2.2.1 m_leasts m_heads m_headFrom m_text m_typed m_at m_fault m_orders m_pointsThen m_letters m_numbers m_h) sz) 0 0 (va_A (wM cI cZ cB cO m_ad m_p m_now m_held m_past m_pasts m_refused m_figures m_isLaid m_many m_isMade m_made m_images m_orbits m_chains m_isCarried m_carried m_carriedMany m_isSorted m_leasts m_heads m_headFrom m_text m_typed m_at m_fault m_orders m_pointsThen m_letters m_numbers m_h) sz) := by
  refine x_met (by decide) (Nat.le_of_ble_eq_true rfl) ?_
  intro p e s m args below meth c R Q A hR hsz hA hQ hin C hw ls hl
  have hx := C.1
  have hb := C.2.1
  have hown := C.2.2.2.1
  have htb := C.2.2.2.2.1
  have hl : lv_has ls 2 [(0, .ref m_ad), (1, .int v1)] := hl
  refine lv_aload_n hx hb dX8_points_0 rfl (lv_at hl 0 rfl) ?_
  obtain ⟨m_held_1, q1, h⟩ := xn_i h
  refine x_callVv (As := []) (rest := []) C hw gc_X8_96 ⟨rfl, rfl, ds_X8_hold, (by rw [hR]; exact Nat.le_of_ble_eq_true rfl), (by rw [hR]; exact Nat.le_of_ble_eq_true rfl), Nat.zero_le _, Nat.zero_le _⟩ (c_X8_hold l dC dI cI cZ cB cO m_ad m_p m_now m_held m_past m_pasts m_refused m_figures m_isLaid m_many m_isMade m_made m_images m_orbits m_chains m_isCarried m_carried m_carriedMany m_isSorted m_leasts m_heads m_headFrom m_text m_typed m_at m_fault m_orders m_pointsThen m_letters m_numbers m_h _ q1 _) [0, 1, 2, 3, 4, 5, 6, 7, 8, 9, 10, 11, 12, 13, 14, 15, 16, 17, 18] [] (by decide) rfl rfl (by decide) (by decide) rfl rfl rfl hl.1 rfl (Nat.le_of_ble_eq_true rfl) dX8_points_1 (fun H locs hw => ?_)
  have hw : xWd (dC, dI) A s.heap H locs (wM cI cZ cB cO m_ad m_p m_now m_held_1 m_past m_pasts m_refused m_figures m_isLaid m_many m_isMade m_made m_images m_orbits m_chains m_isCarried m_carried m_carriedMany m_isSorted m_leasts m_heads m_headFrom m_text m_typed m_at m_fault m_orders m_pointsThen m_letters m_numbers m_h) := hw
  refine lv_aload_n hx hb dX8_points_4 rfl (lv_at hl 0 rfl) ?_
  refine lv_aload_n hx hb dX8_points_5 rfl (lv_at hl 0 rfl) ?_
  refine lv_iload_n hx hb dX8_points_6 rfl (lv_at hl 1 rfl) ?_
  obtain ⟨⟨m_now_2, m_isLaid_3, m_isSorted_4, r_5⟩, q2, h⟩ := xn_i h
  refine x_callVi (As := [.int v1]) (rest := [.ref m_ad]) C hw gc_X8_99 ⟨rfl, rfl, ds_X8_doPoints, (by rw [hR]; exact Nat.le_of_ble_eq_true rfl), (by rw [hR]; exact Nat.le_of_ble_eq_true rfl), Nat.zero_le _, Nat.zero_le _⟩ (c_X8_doPoints l dC dI cI cZ cB cO m_ad m_p m_now m_held_1 m_past m_pasts m_refused m_figures m_isLaid m_many m_isMade m_made m_images m_orbits m_chains m_isCarried m_carried m_carriedMany m_isSorted m_leasts m_heads m_headFrom m_text m_typed m_at m_fault m_orders m_pointsThen m_letters m_numbers m_h v1 _ q2 _) [0, 1, 2, 3, 4, 5, 6, 7, 8, 9, 10, 11, 12, 13, 14, 15, 16, 17, 18] [] (by decide) rfl rfl (by decide) (by decide) rfl rfl rfl hl.1 rfl (Nat.le_of_ble_eq_true rfl) dX8_points_7 (fun H locs hw => ?_)
  have hw : xWd (dC, dI) A s.heap H locs (wM cI cZ cB cO m_ad m_p m_now_2 m_held_1 m_past m_pasts m_refused m_figures m_isLaid_3 m_many m_isMade m_made m_images m_orbits m_chains m_isCarried m_carried m_carriedMany m_isSorted_4 m_leasts m_heads m_headFrom m_text m_typed m_at m_fault m_orders m_pointsThen m_letters m_numbers m_h) := hw
  obtain ⟨⟨m_past_6, m_pasts_7, m_refused_8, r_9⟩, q3, h⟩ := xn_i h
  refine x_callVi (As := [.int r_5]) (rest := []) C hw gc_X8_102 ⟨rfl, rfl, ds_X8_ends, (by rw [hR]; exact Nat.le_of_ble_eq_true rfl), (by rw [hR]; exact Nat.le_of_ble_eq_true rfl), Nat.zero_le _, Nat.zero_le _⟩ (c_X8_ends l dC dI cI cZ cB cO m_ad m_p m_now_2 m_held_1 m_past m_pasts m_refused m_figures m_isLaid_3 m_many m_isMade m_made m_images m_orbits m_chains m_isCarried m_carried m_carriedMany m_isSorted_4 m_leasts m_heads m_headFrom m_text m_typed m_at m_fault m_orders m_pointsThen m_letters m_numbers m_h r_5 _ q3 _) [0, 1, 2, 3, 4, 5, 6, 7, 8, 9, 10, 11, 12, 13, 14, 15, 16, 17, 18] [] (by decide) rfl rfl (by decide) (by decide) rfl rfl rfl hl.1 rfl (Nat.le_of_ble_eq_true rfl) dX8_points_10 (fun H locs hw => ?_)
  have hw : xWd (dC, dI) A s.heap H locs (wM cI cZ cB cO m_ad m_p m_now_2 m_held_1 m_past_6 m_pasts_7 m_refused_8 m_figures m_isLaid_3 m_many m_isMade m_made m_images m_orbits m_chains m_isCarried m_carried m_carriedMany m_isSorted_4 m_leasts m_heads m_headFrom m_text m_typed m_at m_fault m_orders m_pointsThen m_letters m_numbers m_h) := hw
  obtain rfl := Option.some.inj h
  exact x_reti C hQ hA hw dX8_points_13
noncomputable def f_X8_moves (m_now : (Nat → Int32)) (m_held : (Nat → Int32)) (m_past : (Nat → Int32)) (m_pasts : Int32) (m_refused : (Nat → Int32)) (m_figures : (Nat → Int32)) (m_isLaid : Int32) (m_isSorted : Int32) (v1 : Int32) : Option ((Nat → Int32) × (Nat → Int32) × (Nat → Int32) × Int32 × (Nat → Int32) × (Nat → Int32) × Int32 × Int32 × Int32) := xn (f_X8_hold m_now m_held) (fun (m_held_1 : (Nat → Int32)) => xn (f_X8_doMoves m_now m_figures m_isLaid m_isSorted v1) (fun (z : (Nat → Int32) × (Nat → Int32) × Int32 × Int32 × Int32) => match z with | (m_now_2, m_figures_3, m_isLaid_4, m_isSorted_5, r_6) => xn (f_X8_ends m_held_1 m_past m_pasts m_refused r_6) (fun (z : (Nat → Int32) × Int32 × (Nat → Int32) × Int32) => match z with | (m_past_7, m_pasts_8, m_refused_9, r_10) => some (m_now_2, m_held_1, m_past_7, m_pasts_8, m_refused_9, m_figures_3, m_isLaid_4, m_isSorted_5, r_10))))
set_option maxHeartbeats 4000000 in
set_option maxRecDepth 100000 in
theorem c_X8_moves (l : Launch) (dC : Nat → ClassId) (dI : Nat → Nat → Nat) (cI cZ cB cO : ClassId) (m_ad : Nat) (m_p : Nat → Nat) (m_now : (Nat → Int32)) (m_held : (Nat → Int32)) (m_past : (Nat → Int32)) (m_pasts : Int32) (m_refused : (Nat → Int32)) (m_figures : (Nat → Int32)) (m_isLaid : Int32) (m_many : Int32) (m_isMade : (Nat → Int32)) (m_made : (Nat → Int32)) (m_images : (Nat → Int32)) (m_orbits : (Nat → Int32)) (m_chains : (Nat → Int32)) (m_isCarried : (Nat → Int32)) (m_carried : (Nat → Int32)) (m_carriedMany : Int32) (m_isSorted : Int32) (m_leasts : (Nat → Int32)) (m_heads : (Nat → Int32)) (m_headFrom : (Nat → Int32)) (m_text : (Nat → Int32)) (m_typed : Int32) (m_at : Int32) (m_fault : Int32) (m_orders : Int32) (m_pointsThen : Int32) (m_letters : (Nat → Int32)) (m_numbers : (Nat → Int32)) (m_h : Int64) (v1 : Int32) (o : (Nat → Int32) × (Nat → Int32) × (Nat → Int32) × Int32 × (Nat → Int32) × (Nat → Int32) × Int32 × Int32 × Int32) (h : f_X8_moves m_now m_held m_past m_pasts m_refused m_figures m_isLaid m_isSorted v1 = some o) (sz : Nat) : Met l yX8_moves (xW yX8_moves cX8_moves 2 (some .int)) { frames := 3, cells := 0, slots := 0, locals := 68 } (xPre dC dI (xT cI cZ cB cO) [.ref m_ad, .int v1] (wM cI cZ cB cO m_ad m_p m_now m_held m_past m_pasts m_refused m_figures m_isLaid m_many m_isMade m_made m_images m_orbits m_chains m_isCarried m_carried m_carriedMany m_isSorted m_leasts m_heads m_headFrom m_text m_typed m_at m_fault m_orders m_pointsThen m_letters m_numbers m_h) sz) (xQi dC dI (xT cI cZ cB cO) o.2.2.2.2.2.2.2.2 (wM cI cZ cB cO m_ad m_p m_now m_held m_past m_pasts m_refused m_figures m_isLaid m_many m_isMade m_made m_images m_orbits m_chains m_isCarried m_carried m_carriedMany m_isSorted m_leasts m_heads m_headFrom m_text m_typed m_at m_fault m_orders m_pointsThen m_letters m_numbers m_h) (wM cI cZ cB cO m_ad m_p o.1 o.2.1 o.2.2.1 o.2.2.2.1 o.2.2.2.2.1 o.2.2.2.2.2.1 o.2.2.2.2.2.2.1 m_many m_isMade m_made m_images m_orbits m_chains m_isCarried m_carried m_carriedMany o.2.2.2.2.2.2.2.1 m_leasts m_heads m_headFrom m_text m_typed m_at m_fault m_orders m_pointsThen m_letters m_numbers m_h) sz) 0 0 (va_A (wM cI cZ cB cO m_ad m_p m_now m_held m_past m_pasts m_refused m_figures m_isLaid m_many m_isMade m_made m_images m_orbits m_chains m_isCarried m_carried m_carriedMany m_isSorted m_leasts m_heads m_headFrom m_text m_typed m_at m_fault m_orders m_pointsThen m_letters m_numbers m_h) sz) := by
  refine x_met (by decide) (Nat.le_of_ble_eq_true rfl) ?_
  intro p e s m args below meth c R Q A hR hsz hA hQ hin C hw ls hl
  have hx := C.1
  have hb := C.2.1
  have hown := C.2.2.2.1
  have htb := C.2.2.2.2.1
  have hl : lv_has ls 2 [(0, .ref m_ad), (1, .int v1)] := hl
  refine lv_aload_n hx hb dX8_moves_0 rfl (lv_at hl 0 rfl) ?_
  obtain ⟨m_held_1, q1, h⟩ := xn_i h
  refine x_callVv (As := []) (rest := []) C hw gc_X8_96 ⟨rfl, rfl, ds_X8_hold, (by rw [hR]; exact Nat.le_of_ble_eq_true rfl), (by rw [hR]; exact Nat.le_of_ble_eq_true rfl), Nat.zero_le _, Nat.zero_le _⟩ (c_X8_hold l dC dI cI cZ cB cO m_ad m_p m_now m_held m_past m_pasts m_refused m_figures m_isLaid m_many m_isMade m_made m_images m_orbits m_chains m_isCarried m_carried m_carriedMany m_isSorted m_leasts m_heads m_headFrom m_text m_typed m_at m_fault m_orders m_pointsThen m_letters m_numbers m_h _ q1 _) [0, 1, 2, 3, 4, 5, 6, 7, 8, 9, 10, 11, 12, 13, 14, 15, 16, 17, 18] [] (by decide) rfl rfl (by decide) (by decide) rfl rfl rfl hl.1 rfl (Nat.le_of_ble_eq_true rfl) dX8_moves_1 (fun H locs hw => ?_)
  have hw : xWd (dC, dI) A s.heap H locs (wM cI cZ cB cO m_ad m_p m_now m_held_1 m_past m_pasts m_refused m_figures m_isLaid m_many m_isMade m_made m_images m_orbits m_chains m_isCarried m_carried m_carriedMany m_isSorted m_leasts m_heads m_headFrom m_text m_typed m_at m_fault m_orders m_pointsThen m_letters m_numbers m_h) := hw
  refine lv_aload_n hx hb dX8_moves_4 rfl (lv_at hl 0 rfl) ?_
  refine lv_aload_n hx hb dX8_moves_5 rfl (lv_at hl 0 rfl) ?_
  refine lv_iload_n hx hb dX8_moves_6 rfl (lv_at hl 1 rfl) ?_
  obtain ⟨⟨m_now_2, m_figures_3, m_isLaid_4, m_isSorted_5, r_6⟩, q2, h⟩ := xn_i h
  refine x_callVi (As := [.int v1]) (rest := [.ref m_ad]) C hw gc_X8_105 ⟨rfl, rfl, ds_X8_doMoves, (by rw [hR]; exact Nat.le_of_ble_eq_true rfl), (by rw [hR]; exact Nat.le_of_ble_eq_true rfl), Nat.zero_le _, Nat.zero_le _⟩ (c_X8_doMoves l dC dI cI cZ cB cO m_ad m_p m_now m_held_1 m_past m_pasts m_refused m_figures m_isLaid m_many m_isMade m_made m_images m_orbits m_chains m_isCarried m_carried m_carriedMany m_isSorted m_leasts m_heads m_headFrom m_text m_typed m_at m_fault m_orders m_pointsThen m_letters m_numbers m_h v1 _ q2 _) [0, 1, 2, 3, 4, 5, 6, 7, 8, 9, 10, 11, 12, 13, 14, 15, 16, 17, 18] [] (by decide) rfl rfl (by decide) (by decide) rfl rfl rfl hl.1 rfl (Nat.le_of_ble_eq_true rfl) dX8_moves_7 (fun H locs hw => ?_)
  have hw : xWd (dC, dI) A s.heap H locs (wM cI cZ cB cO m_ad m_p m_now_2 m_held_1 m_past m_pasts m_refused m_figures_3 m_isLaid_4 m_many m_isMade m_made m_images m_orbits m_chains m_isCarried m_carried m_carriedMany m_isSorted_5 m_leasts m_heads m_headFrom m_text m_typed m_at m_fault m_orders m_pointsThen m_letters m_numbers m_h) := hw
  obtain ⟨⟨m_past_7, m_pasts_8, m_refused_9, r_10⟩, q3, h⟩ := xn_i h
  refine x_callVi (As := [.int r_6]) (rest := []) C hw gc_X8_102 ⟨rfl, rfl, ds_X8_ends, (by rw [hR]; exact Nat.le_of_ble_eq_true rfl), (by rw [hR]; exact Nat.le_of_ble_eq_true rfl), Nat.zero_le _, Nat.zero_le _⟩ (c_X8_ends l dC dI cI cZ cB cO m_ad m_p m_now_2 m_held_1 m_past m_pasts m_refused m_figures_3 m_isLaid_4 m_many m_isMade m_made m_images m_orbits m_chains m_isCarried m_carried m_carriedMany m_isSorted_5 m_leasts m_heads m_headFrom m_text m_typed m_at m_fault m_orders m_pointsThen m_letters m_numbers m_h r_6 _ q3 _) [0, 1, 2, 3, 4, 5, 6, 7, 8, 9, 10, 11, 12, 13, 14, 15, 16, 17, 18] [] (by decide) rfl rfl (by decide) (by decide) rfl rfl rfl hl.1 rfl (Nat.le_of_ble_eq_true rfl) dX8_moves_10 (fun H locs hw => ?_)
  have hw : xWd (dC, dI) A s.heap H locs (wM cI cZ cB cO m_ad m_p m_now_2 m_held_1 m_past_7 m_pasts_8 m_refused_9 m_figures_3 m_isLaid_4 m_many m_isMade m_made m_images m_orbits m_chains m_isCarried m_carried m_carriedMany m_isSorted_5 m_leasts m_heads m_headFrom m_text m_typed m_at m_fault m_orders m_pointsThen m_letters m_numbers m_h) := hw
  obtain rfl := Option.some.inj h
  exact x_reti C hQ hA hw dX8_moves_13
noncomputable def f_X8_drops (m_now : (Nat → Int32)) (m_held : (Nat → Int32)) (m_past : (Nat → Int32)) (m_pasts : Int32) (m_refused : (Nat → Int32)) (m_isLaid : Int32) (m_isSorted : Int32) (v1 : Int32) : Option ((Nat → Int32) × (Nat → Int32) × (Nat → Int32) × Int32 × (Nat → Int32) × Int32 × Int32 × Int32) := xn (f_X8_hold m_now m_held) (fun (m_held_1 : (Nat → Int32)) => xn (f_X8_doDrops m_now m_isLaid m_isSorted v1) (fun (z : (Nat → Int32) × Int32 × Int32 × Int32) => match z with | (m_now_2, m_isLaid_3, m_isSorted_4, r_5) => xn (f_X8_ends m_held_1 m_past m_pasts m_refused r_5) (fun (z : (Nat → Int32) × Int32 × (Nat → Int32) × Int32) => match z with | (m_past_6, m_pasts_7, m_refused_8, r_9) => some (m_now_2, m_held_1, m_past_6, m_pasts_7, m_refused_8, m_isLaid_3, m_isSorted_4, r_9))))
set_option maxHeartbeats 4000000 in
set_option maxRecDepth 100000 in
theorem c_X8_drops (l : Launch) (dC : Nat → ClassId) (dI : Nat → Nat → Nat) (cI cZ cB cO : ClassId) (m_ad : Nat) (m_p : Nat → Nat) (m_now : (Nat → Int32)) (m_held : (Nat → Int32)) (m_past : (Nat → Int32)) (m_pasts : Int32) (m_refused : (Nat → Int32)) (m_figures : (Nat → Int32)) (m_isLaid : Int32) (m_many : Int32) (m_isMade : (Nat → Int32)) (m_made : (Nat → Int32)) (m_images : (Nat → Int32)) (m_orbits : (Nat → Int32)) (m_chains : (Nat → Int32)) (m_isCarried : (Nat → Int32)) (m_carried : (Nat → Int32)) (m_carriedMany : Int32) (m_isSorted : Int32) (m_leasts : (Nat → Int32)) (m_heads : (Nat → Int32)) (m_headFrom : (Nat → Int32)) (m_text : (Nat → Int32)) (m_typed : Int32) (m_at : Int32) (m_fault : Int32) (m_orders : Int32) (m_pointsThen : Int32) (m_letters : (Nat → Int32)) (m_numbers : (Nat → Int32)) (m_h : Int64) (v1 : Int32) (o : (Nat → Int32) × (Nat → Int32) × (Nat → Int32) × Int32 × (Nat → Int32) × Int32 × Int32 × Int32) (h : f_X8_drops m_now m_held m_past m_pasts m_refused m_isLaid m_isSorted v1 = some o) (sz : Nat) : Met l yX8_drops (xW yX8_drops cX8_drops 2 (some .int)) { frames := 2, cells := 0, slots := 0, locals := 44 } (xPre dC dI (xT cI cZ cB cO) [.ref m_ad, .int v1] (wM cI cZ cB cO m_ad m_p m_now m_held m_past m_pasts m_refused m_figures m_isLaid m_many m_isMade m_made m_images m_orbits m_chains m_isCarried m_carried m_carriedMany m_isSorted m_leasts m_heads m_headFrom m_text m_typed m_at m_fault m_orders m_pointsThen m_letters m_numbers m_h) sz) (xQi dC dI (xT cI cZ cB cO) o.2.2.2.2.2.2.2 (wM cI cZ cB cO m_ad m_p m_now m_held m_past m_pasts m_refused m_figures m_isLaid m_many m_isMade m_made m_images m_orbits m_chains m_isCarried m_carried m_carriedMany m_isSorted m_leasts m_heads m_headFrom m_text m_typed m_at m_fault m_orders m_pointsThen m_letters m_numbers m_h) (wM cI cZ cB cO m_ad m_p o.1 o.2.1 o.2.2.1 o.2.2.2.1 o.2.2.2.2.1 m_figures o.2.2.2.2.2.1 m_many m_isMade m_made m_images m_orbits m_chains m_isCarried m_carried m_carriedMany o.2.2.2.2.2.2.1 m_leasts m_heads m_headFrom m_text m_typed m_at m_fault m_orders m_pointsThen m_letters m_numbers m_h) sz) 0 0 (va_A (wM cI cZ cB cO m_ad m_p m_now m_held m_past m_pasts m_refused m_figures m_isLaid m_many m_isMade m_made m_images m_orbits m_chains m_isCarried m_carried m_carriedMany m_isSorted m_leasts m_heads m_headFrom m_text m_typed m_at m_fault m_orders m_pointsThen m_letters m_numbers m_h) sz) := by
  refine x_met (by decide) (Nat.le_of_ble_eq_true rfl) ?_
  intro p e s m args below meth c R Q A hR hsz hA hQ hin C hw ls hl
  have hx := C.1
  have hb := C.2.1
  have hown := C.2.2.2.1
  have htb := C.2.2.2.2.1
  have hl : lv_has ls 2 [(0, .ref m_ad), (1, .int v1)] := hl
  refine lv_aload_n hx hb dX8_drops_0 rfl (lv_at hl 0 rfl) ?_
  obtain ⟨m_held_1, q1, h⟩ := xn_i h
  refine x_callVv (As := []) (rest := []) C hw gc_X8_96 ⟨rfl, rfl, ds_X8_hold, (by rw [hR]; exact Nat.le_of_ble_eq_true rfl), (by rw [hR]; exact Nat.le_of_ble_eq_true rfl), Nat.zero_le _, Nat.zero_le _⟩ (c_X8_hold l dC dI cI cZ cB cO m_ad m_p m_now m_held m_past m_pasts m_refused m_figures m_isLaid m_many m_isMade m_made m_images m_orbits m_chains m_isCarried m_carried m_carriedMany m_isSorted m_leasts m_heads m_headFrom m_text m_typed m_at m_fault m_orders m_pointsThen m_letters m_numbers m_h _ q1 _) [0, 1, 2, 3, 4, 5, 6, 7, 8, 9, 10, 11, 12, 13, 14, 15, 16, 17, 18] [] (by decide) rfl rfl (by decide) (by decide) rfl rfl rfl hl.1 rfl (Nat.le_of_ble_eq_true rfl) dX8_drops_1 (fun H locs hw => ?_)
  have hw : xWd (dC, dI) A s.heap H locs (wM cI cZ cB cO m_ad m_p m_now m_held_1 m_past m_pasts m_refused m_figures m_isLaid m_many m_isMade m_made m_images m_orbits m_chains m_isCarried m_carried m_carriedMany m_isSorted m_leasts m_heads m_headFrom m_text m_typed m_at m_fault m_orders m_pointsThen m_letters m_numbers m_h) := hw
  refine lv_aload_n hx hb dX8_drops_4 rfl (lv_at hl 0 rfl) ?_
  refine lv_aload_n hx hb dX8_drops_5 rfl (lv_at hl 0 rfl) ?_
  refine lv_iload_n hx hb dX8_drops_6 rfl (lv_at hl 1 rfl) ?_
  obtain ⟨⟨m_now_2, m_isLaid_3, m_isSorted_4, r_5⟩, q2, h⟩ := xn_i h
  refine x_callVi (As := [.int v1]) (rest := [.ref m_ad]) C hw gc_X8_108 ⟨rfl, rfl, ds_X8_doDrops, (by rw [hR]; exact Nat.le_of_ble_eq_true rfl), (by rw [hR]; exact Nat.le_of_ble_eq_true rfl), Nat.zero_le _, Nat.zero_le _⟩ (c_X8_doDrops l dC dI cI cZ cB cO m_ad m_p m_now m_held_1 m_past m_pasts m_refused m_figures m_isLaid m_many m_isMade m_made m_images m_orbits m_chains m_isCarried m_carried m_carriedMany m_isSorted m_leasts m_heads m_headFrom m_text m_typed m_at m_fault m_orders m_pointsThen m_letters m_numbers m_h v1 _ q2 _) [0, 1, 2, 3, 4, 5, 6, 7, 8, 9, 10, 11, 12, 13, 14, 15, 16, 17, 18] [] (by decide) rfl rfl (by decide) (by decide) rfl rfl rfl hl.1 rfl (Nat.le_of_ble_eq_true rfl) dX8_drops_7 (fun H locs hw => ?_)
  have hw : xWd (dC, dI) A s.heap H locs (wM cI cZ cB cO m_ad m_p m_now_2 m_held_1 m_past m_pasts m_refused m_figures m_isLaid_3 m_many m_isMade m_made m_images m_orbits m_chains m_isCarried m_carried m_carriedMany m_isSorted_4 m_leasts m_heads m_headFrom m_text m_typed m_at m_fault m_orders m_pointsThen m_letters m_numbers m_h) := hw
  obtain ⟨⟨m_past_6, m_pasts_7, m_refused_8, r_9⟩, q3, h⟩ := xn_i h
  refine x_callVi (As := [.int r_5]) (rest := []) C hw gc_X8_102 ⟨rfl, rfl, ds_X8_ends, (by rw [hR]; exact Nat.le_of_ble_eq_true rfl), (by rw [hR]; exact Nat.le_of_ble_eq_true rfl), Nat.zero_le _, Nat.zero_le _⟩ (c_X8_ends l dC dI cI cZ cB cO m_ad m_p m_now_2 m_held_1 m_past m_pasts m_refused m_figures m_isLaid_3 m_many m_isMade m_made m_images m_orbits m_chains m_isCarried m_carried m_carriedMany m_isSorted_4 m_leasts m_heads m_headFrom m_text m_typed m_at m_fault m_orders m_pointsThen m_letters m_numbers m_h r_5 _ q3 _) [0, 1, 2, 3, 4, 5, 6, 7, 8, 9, 10, 11, 12, 13, 14, 15, 16, 17, 18] [] (by decide) rfl rfl (by decide) (by decide) rfl rfl rfl hl.1 rfl (Nat.le_of_ble_eq_true rfl) dX8_drops_10 (fun H locs hw => ?_)
  have hw : xWd (dC, dI) A s.heap H locs (wM cI cZ cB cO m_ad m_p m_now_2 m_held_1 m_past_6 m_pasts_7 m_refused_8 m_figures m_isLaid_3 m_many m_isMade m_made m_images m_orbits m_chains m_isCarried m_carried m_carriedMany m_isSorted_4 m_leasts m_heads m_headFrom m_text m_typed m_at m_fault m_orders m_pointsThen m_letters m_numbers m_h) := hw
  obtain rfl := Option.some.inj h
  exact x_reti C hQ hA hw dX8_drops_13
noncomputable def f_X8_mark (m_many : Int32) (m_isMade : (Nat → Int32)) (m_made : (Nat → Int32)) (v1 : Int32) : Option (Int32 × (Nat → Int32) × (Nat → Int32)) := xk (vp_in v1 40320) (xb ((m_isMade v1.toNatClampNeg) = 0) (xk (vp_in m_many 40320) (some ((m_many + (1 : Int32)), (upd m_isMade v1.toNatClampNeg (1 : Int32)), (upd m_made m_many.toNatClampNeg v1)))) (some (m_many, m_isMade, m_made)))
set_option maxHeartbeats 4000000 in
set_option maxRecDepth 100000 in
theorem c_X8_mark (l : Launch) (dC : Nat → ClassId) (dI : Nat → Nat → Nat) (cI cZ cB cO : ClassId) (m_ad : Nat) (m_p : Nat → Nat) (m_now : (Nat → Int32)) (m_held : (Nat → Int32)) (m_past : (Nat → Int32)) (m_pasts : Int32) (m_refused : (Nat → Int32)) (m_figures : (Nat → Int32)) (m_isLaid : Int32) (m_many : Int32) (m_isMade : (Nat → Int32)) (m_made : (Nat → Int32)) (m_images : (Nat → Int32)) (m_orbits : (Nat → Int32)) (m_chains : (Nat → Int32)) (m_isCarried : (Nat → Int32)) (m_carried : (Nat → Int32)) (m_carriedMany : Int32) (m_isSorted : Int32) (m_leasts : (Nat → Int32)) (m_heads : (Nat → Int32)) (m_headFrom : (Nat → Int32)) (m_text : (Nat → Int32)) (m_typed : Int32) (m_at : Int32) (m_fault : Int32) (m_orders : Int32) (m_pointsThen : Int32) (m_letters : (Nat → Int32)) (m_numbers : (Nat → Int32)) (m_h : Int64) (v1 : Int32) (o : Int32 × (Nat → Int32) × (Nat → Int32)) (h : f_X8_mark m_many m_isMade m_made v1 = some o) (sz : Nat) : Met l yX8_mark (xW yX8_mark cX8_mark 2 none) { frames := 0, cells := 0, slots := 0, locals := 0 } (xPre dC dI (xT cI cZ cB cO) [.ref m_ad, .int v1] (wM cI cZ cB cO m_ad m_p m_now m_held m_past m_pasts m_refused m_figures m_isLaid m_many m_isMade m_made m_images m_orbits m_chains m_isCarried m_carried m_carriedMany m_isSorted m_leasts m_heads m_headFrom m_text m_typed m_at m_fault m_orders m_pointsThen m_letters m_numbers m_h) sz) (xQv dC dI (xT cI cZ cB cO) (wM cI cZ cB cO m_ad m_p m_now m_held m_past m_pasts m_refused m_figures m_isLaid m_many m_isMade m_made m_images m_orbits m_chains m_isCarried m_carried m_carriedMany m_isSorted m_leasts m_heads m_headFrom m_text m_typed m_at m_fault m_orders m_pointsThen m_letters m_numbers m_h) (wM cI cZ cB cO m_ad m_p m_now m_held m_past m_pasts m_refused m_figures m_isLaid o.1 o.2.1 o.2.2 m_images m_orbits m_chains m_isCarried m_carried m_carriedMany m_isSorted m_leasts m_heads m_headFrom m_text m_typed m_at m_fault m_orders m_pointsThen m_letters m_numbers m_h) sz) 0 0 (va_A (wM cI cZ cB cO m_ad m_p m_now m_held m_past m_pasts m_refused m_figures m_isLaid m_many m_isMade m_made m_images m_orbits m_chains m_isCarried m_carried m_carriedMany m_isSorted m_leasts m_heads m_headFrom m_text m_typed m_at m_fault m_orders m_pointsThen m_letters m_numbers m_h) sz) := by
  refine x_met (by decide) (Nat.le_of_ble_eq_true rfl) ?_
  intro p e s m args below meth c R Q A hR hsz hA hQ hin C hw ls hl
  have hx := C.1
  have hb := C.2.1
  have hown := C.2.2.2.1
  have htb := C.2.2.2.2.1
  have hl : lv_has ls 2 [(0, .ref m_ad), (1, .int v1)] := hl
  refine lv_aload_n hx hb dX8_mark_0 rfl (lv_at hl 0 rfl) ?_
  refine x_get (ci := 7) C hw inX8 rfl 8 (by decide) lkF_X8_26 rfl 0 rfl rfl dX8_mark_1 ?_
  refine lv_iload_n hx hb dX8_mark_4 rfl (lv_at hl 1 rfl) ?_
  obtain ⟨b1, h⟩ := xk_i h
  refine x_zald C hw 6 1 rfl rfl b1 dX8_mark_5 ?_
  refine lv_if_ne (tgt := 36) hx hb dX8_mark_6 (by decide) (fun b2 => ?_) (fun b2 => ?_)
  · replace h := xb_ff b2 h
    obtain rfl := Option.some.inj h
    exact x_retv C hQ hA hw dX8_mark_36
  · replace h := xb_tt b2 h
    refine lv_aload_n hx hb dX8_mark_9 rfl (lv_at hl 0 rfl) ?_
    refine x_get (ci := 7) C hw inX8 rfl 8 (by decide) lkF_X8_26 rfl 0 rfl rfl dX8_mark_10 ?_
    refine lv_iload_n hx hb dX8_mark_13 rfl (lv_at hl 1 rfl) ?_
    refine lv_iconst (v := (1 : Int32)) hx hb dX8_mark_14 (by decide) ?_
    refine x_zast C hw 6 1 rfl rfl rfl b1 dX8_mark_15 (fun H locs hw => ?_)
    have hw : xWd (dC, dI) A s.heap H locs (wM cI cZ cB cO m_ad m_p m_now m_held m_past m_pasts m_refused m_figures m_isLaid m_many (upd m_isMade v1.toNatClampNeg (1 : Int32)) m_made m_images m_orbits m_chains m_isCarried m_carried m_carriedMany m_isSorted m_leasts m_heads m_headFrom m_text m_typed m_at m_fault m_orders m_pointsThen m_letters m_numbers m_h) := hw
    refine lv_aload_n hx hb dX8_mark_16 rfl (lv_at hl 0 rfl) ?_
    refine x_get (ci := 7) C hw inX8 rfl 9 (by decide) lkF_X8_30 rfl 0 rfl rfl dX8_mark_17 ?_
    refine lv_aload_n hx hb dX8_mark_20 rfl (lv_at hl 0 rfl) ?_
    refine x_get (ci := 7) C hw inX8 rfl 7 (by decide) lkF_X8_111 rfl 0 rfl rfl dX8_mark_21 ?_
    refine lv_iload_n hx hb dX8_mark_24 rfl (lv_at hl 1 rfl) ?_
    obtain ⟨b3, h⟩ := xk_i h
    refine x_iast C hw 7 0 rfl rfl b3 dX8_mark_25 (fun H locs hw => ?_)
    have hw : xWd (dC, dI) A s.heap H locs (wM cI cZ cB cO m_ad m_p m_now m_held m_past m_pasts m_refused m_figures m_isLaid m_many (upd m_isMade v1.toNatClampNeg (1 : Int32)) (upd m_made m_many.toNatClampNeg v1) m_images m_orbits m_chains m_isCarried m_carried m_carriedMany m_isSorted m_leasts m_heads m_headFrom m_text m_typed m_at m_fault m_orders m_pointsThen m_letters m_numbers m_h) := hw
    refine lv_aload_n hx hb dX8_mark_26 rfl (lv_at hl 0 rfl) ?_
    refine lv_dup hx hb dX8_mark_27 rfl ?_
    refine x_get (ci := 7) C hw inX8 rfl 7 (by decide) lkF_X8_111 rfl 0 rfl rfl dX8_mark_28 ?_
    refine lv_iconst (v := (1 : Int32)) hx hb dX8_mark_31 (by decide) ?_
    refine lv_iadd hx hb dX8_mark_32 ?_
    refine x_put (ci := 7) C hw inX8 tyX8 tyX8_ok nmX8 rfl 7 (by decide) lkF_X8_111 rfl rfl 0 rfl rfl rfl (Nat.le_of_ble_eq_true rfl) dX8_mark_33 (fun H locs hw => ?_)
    have hw : xWd (dC, dI) A s.heap H locs (wM cI cZ cB cO m_ad m_p m_now m_held m_past m_pasts m_refused m_figures m_isLaid (m_many + (1 : Int32)) (upd m_isMade v1.toNatClampNeg (1 : Int32)) (upd m_made m_many.toNatClampNeg v1) m_images m_orbits m_chains m_isCarried m_carried m_carriedMany m_isSorted m_leasts m_heads m_headFrom m_text m_typed m_at m_fault m_orders m_pointsThen m_letters m_numbers m_h) := hw
    obtain rfl := Option.some.inj h
    exact x_retv C hQ hA hw dX8_mark_36
noncomputable def f_X8_sortMade_L1 (m_isMade : (Nat → Int32)) (z : (Nat → Int32) × Int32 × Int32) : Option (((Nat → Int32) × Int32 × Int32) ⊕ ((Nat → Int32))) := match z with
  | (m_made_1, v1_2, v2_3) => xb ((40320 : Int32) ≤ v2_3) (some (.inr m_made_1)) (xk (vp_in v2_3 40320) (xb ((m_isMade v2_3.toNatClampNeg) = 0) (some (.inl (m_made_1, v1_2, (v2_3 + (1 : Int32))))) (xk (vp_in v1_2 40320) (some (.inl ((upd m_made_1 v1_2.toNatClampNeg v2_3), (v1_2 + (1 : Int32)), (v2_3 + (1 : Int32))))))))
noncomputable def f_X8_sortMade (m_isMade : (Nat → Int32)) (m_made : (Nat → Int32)) : Option ((Nat → Int32)) := xn (xL (f_X8_sortMade_L1 m_isMade) (m_made, (0 : Int32), (0 : Int32))) (fun (m_made_4 : (Nat → Int32)) => some m_made_4)
set_option maxHeartbeats 4000000 in
set_option maxRecDepth 100000 in
theorem c_X8_sortMade (l : Launch) (dC : Nat → ClassId) (dI : Nat → Nat → Nat) (cI cZ cB cO : ClassId) (m_ad : Nat) (m_p : Nat → Nat) (m_now : (Nat → Int32)) (m_held : (Nat → Int32)) (m_past : (Nat → Int32)) (m_pasts : Int32) (m_refused : (Nat → Int32)) (m_figures : (Nat → Int32)) (m_isLaid : Int32) (m_many : Int32) (m_isMade : (Nat → Int32)) (m_made : (Nat → Int32)) (m_images : (Nat → Int32)) (m_orbits : (Nat → Int32)) (m_chains : (Nat → Int32)) (m_isCarried : (Nat → Int32)) (m_carried : (Nat → Int32)) (m_carriedMany : Int32) (m_isSorted : Int32) (m_leasts : (Nat → Int32)) (m_heads : (Nat → Int32)) (m_headFrom : (Nat → Int32)) (m_text : (Nat → Int32)) (m_typed : Int32) (m_at : Int32) (m_fault : Int32) (m_orders : Int32) (m_pointsThen : Int32) (m_letters : (Nat → Int32)) (m_numbers : (Nat → Int32)) (m_h : Int64) (o : (Nat → Int32)) (h : f_X8_sortMade m_isMade m_made = some o) (sz : Nat) : Met l yX8_sortMade (xW yX8_sortMade cX8_sortMade 3 none) { frames := 0, cells := 0, slots := 0, locals := 0 } (xPre dC dI (xT cI cZ cB cO) [.ref m_ad] (wM cI cZ cB cO m_ad m_p m_now m_held m_past m_pasts m_refused m_figures m_isLaid m_many m_isMade m_made m_images m_orbits m_chains m_isCarried m_carried m_carriedMany m_isSorted m_leasts m_heads m_headFrom m_text m_typed m_at m_fault m_orders m_pointsThen m_letters m_numbers m_h) sz) (xQv dC dI (xT cI cZ cB cO) (wM cI cZ cB cO m_ad m_p m_now m_held m_past m_pasts m_refused m_figures m_isLaid m_many m_isMade m_made m_images m_orbits m_chains m_isCarried m_carried m_carriedMany m_isSorted m_leasts m_heads m_headFrom m_text m_typed m_at m_fault m_orders m_pointsThen m_letters m_numbers m_h) (wM cI cZ cB cO m_ad m_p m_now m_held m_past m_pasts m_refused m_figures m_isLaid m_many m_isMade o m_images m_orbits m_chains m_isCarried m_carried m_carriedMany m_isSorted m_leasts m_heads m_headFrom m_text m_typed m_at m_fault m_orders m_pointsThen m_letters m_numbers m_h) sz) 0 0 (va_A (wM cI cZ cB cO m_ad m_p m_now m_held m_past m_pasts m_refused m_figures m_isLaid m_many m_isMade m_made m_images m_orbits m_chains m_isCarried m_carried m_carriedMany m_isSorted m_leasts m_heads m_headFrom m_text m_typed m_at m_fault m_orders m_pointsThen m_letters m_numbers m_h) sz) := by
  refine x_met (by decide) (Nat.le_of_ble_eq_true rfl) ?_
  intro p e s m args below meth c R Q A hR hsz hA hQ hin C hw ls hl
  have hx := C.1
  have hb := C.2.1
  have hown := C.2.2.2.1
  have htb := C.2.2.2.2.1
  have hl : lv_has ls 3 [(0, .ref m_ad)] := hl
  refine lv_iconst (v := (0 : Int32)) hx hb dX8_sortMade_0 (by decide) ?_
  refine lv_istore_n (lv' := [(1, .int (0 : Int32)), (0, .ref m_ad)]) hx hb dX8_sortMade_1 rfl hl (by decide) rfl (fun ls hl => ?_)
  refine lv_iconst (v := (0 : Int32)) hx hb dX8_sortMade_2 (by decide) ?_
  refine lv_istore_n (lv' := [(2, .int (0 : Int32)), (1, .int (0 : Int32)), (0, .ref m_ad)]) hx hb dX8_sortMade_3 rfl hl (by decide) rfl (fun ls hl => ?_)
  obtain ⟨z, hr, h⟩ := xn_i h
  refine xL_w (fun (z : (Nat → Int32) × Int32 × Int32) => ∀ (H : Heap) (locs : List Loc) (ls : Array Slot), xWd (dC, dI) A s.heap H locs (wM cI cZ cB cO m_ad m_p m_now m_held m_past m_pasts m_refused m_figures m_isLaid m_many m_isMade z.1 m_images m_orbits m_chains m_isCarried m_carried m_carriedMany m_isSorted m_leasts m_heads m_headFrom m_text m_typed m_at m_fault m_orders m_pointsThen m_letters m_numbers m_h) → lv_has ls 3 [(0, .ref m_ad), (1, .int z.2.1), (2, .int z.2.2)] → W p l e R s m args below meth c H locs 0 0 Q (F0 m 4 ls [])) (fun (z : (Nat → Int32)) => ∀ (H : Heap) (locs : List Loc) (ls : Array Slot), xWd (dC, dI) A s.heap H locs (wM cI cZ cB cO m_ad m_p m_now m_held m_past m_pasts m_refused m_figures m_isLaid m_many m_isMade z m_images m_orbits m_chains m_isCarried m_carried m_carriedMany m_isSorted m_leasts m_heads m_headFrom m_text m_typed m_at m_fault m_orders m_pointsThen m_letters m_numbers m_h) → lv_has ls 3 [] → W p l e R s m args below meth c H locs 0 0 Q (F0 m 35 ls [])) ?_ hr ?_ _ _ _ hw (lv_sub hl [2, 1, 0] rfl)
  · rintro ⟨m_made_1, v1_2, v2_3⟩ o h k H locs ls hw hl
    have hw : xWd (dC, dI) A s.heap H locs (wM cI cZ cB cO m_ad m_p m_now m_held m_past m_pasts m_refused m_figures m_isLaid m_many m_isMade m_made_1 m_images m_orbits m_chains m_isCarried m_carried m_carriedMany m_isSorted m_leasts m_heads m_headFrom m_text m_typed m_at m_fault m_orders m_pointsThen m_letters m_numbers m_h) := hw
    have hl : lv_has ls 3 [(0, .ref m_ad), (1, .int v1_2), (2, .int v2_3)] := hl
    refine lv_iload_n hx hb dX8_sortMade_4 rfl (lv_at hl 2 rfl) ?_
    refine lv_ldc hx hb hown (htb _ kI_X8_25) dX8_sortMade_5 ?_
    refine lv_icmp_ge (tgt := 35) hx hb dX8_sortMade_7 (by decide) (fun b1 => ?_) (fun b1 => ?_)
    · replace h := xb_tt b1 h
      obtain rfl := Option.some.inj h
      exact k _ _ _ hw (lv_sub hl [] rfl)
    · replace h := xb_ff b1 h
      refine lv_aload_n hx hb dX8_sortMade_10 rfl (lv_at hl 0 rfl) ?_
      refine x_get (ci := 7) C hw inX8 rfl 8 (by decide) lkF_X8_26 rfl 0 rfl rfl dX8_sortMade_11 ?_
      refine lv_iload_n hx hb dX8_sortMade_14 rfl (lv_at hl 2 rfl) ?_
      obtain ⟨b2, h⟩ := xk_i h
      refine x_zald C hw 6 1 rfl rfl b2 dX8_sortMade_15 ?_
      refine lv_if_eq (tgt := 29) hx hb dX8_sortMade_16 (by decide) (fun b3 => ?_) (fun b3 => ?_)
      · replace h := xb_tt b3 h
        refine lv_iinc (v := (v2_3 + (1 : Int32))) (lv' := [(2, .int (v2_3 + (1 : Int32))), (0, .ref m_ad), (1, .int v1_2)]) hx hb dX8_sortMade_29 hl (k := 2) rfl (congrArg (fun q => v2_3 + q) (by decide)) (by decide) rfl (fun ls hl => ?_)
        refine lv_goto (tgt := 4) hx hb dX8_sortMade_32 (by decide) ?_
        obtain rfl := Option.some.inj h
        exact k _ _ _ hw (lv_sub hl [1, 2, 0] rfl)
      · replace h := xb_ff b3 h
        refine lv_aload_n hx hb dX8_sortMade_19 rfl (lv_at hl 0 rfl) ?_
        refine x_get (ci := 7) C hw inX8 rfl 9 (by decide) lkF_X8_30 rfl 0 rfl rfl dX8_sortMade_20 ?_
        refine lv_iload_n hx hb dX8_sortMade_23 rfl (lv_at hl 1 rfl) ?_
        refine lv_iload_n hx hb dX8_sortMade_24 rfl (lv_at hl 2 rfl) ?_
        obtain ⟨b4, h⟩ := xk_i h
        refine x_iast C hw 7 0 rfl rfl b4 dX8_sortMade_25 (fun H locs hw => ?_)
        have hw : xWd (dC, dI) A s.heap H locs (wM cI cZ cB cO m_ad m_p m_now m_held m_past m_pasts m_refused m_figures m_isLaid m_many m_isMade (upd m_made_1 v1_2.toNatClampNeg v2_3) m_images m_orbits m_chains m_isCarried m_carried m_carriedMany m_isSorted m_leasts m_heads m_headFrom m_text m_typed m_at m_fault m_orders m_pointsThen m_letters m_numbers m_h) := hw
        refine lv_iinc (v := (v1_2 + (1 : Int32))) (lv' := [(1, .int (v1_2 + (1 : Int32))), (0, .ref m_ad), (2, .int v2_3)]) hx hb dX8_sortMade_26 hl (k := 1) rfl (congrArg (fun q => v1_2 + q) (by decide)) (by decide) rfl (fun ls hl => ?_)
        refine lv_iinc (v := (v2_3 + (1 : Int32))) (lv' := [(2, .int (v2_3 + (1 : Int32))), (1, .int (v1_2 + (1 : Int32))), (0, .ref m_ad)]) hx hb dX8_sortMade_29 hl (k := 2) rfl (congrArg (fun q => v2_3 + q) (by decide)) (by decide) rfl (fun ls hl => ?_)
        refine lv_goto (tgt := 4) hx hb dX8_sortMade_32 (by decide) ?_
        obtain rfl := Option.some.inj h
        exact k _ _ _ hw (lv_sub hl [2, 1, 0] rfl)
  · obtain ⟨m_made_4, hz⟩ : ∃ q, q = z := ⟨z, rfl⟩
    subst hz
    intro H locs ls hw hl
    have hw : xWd (dC, dI) A s.heap H locs (wM cI cZ cB cO m_ad m_p m_now m_held m_past m_pasts m_refused m_figures m_isLaid m_many m_isMade m_made_4 m_images m_orbits m_chains m_isCarried m_carried m_carriedMany m_isSorted m_leasts m_heads m_headFrom m_text m_typed m_at m_fault m_orders m_pointsThen m_letters m_numbers m_h) := hw
    have hl : lv_has ls 3 [] := hl
    obtain rfl := Option.some.inj h
    exact x_retv C hQ hA hw dX8_sortMade_35
noncomputable def f_X8_findChains_L3 (m_now : (Nat → Int32)) (m_figures_13 : (Nat → Int32)) (z : (Nat → Int32) × (Nat → Int32) × Int32 × Int32) : Option (((Nat → Int32) × (Nat → Int32) × Int32 × Int32) ⊕ ((Nat → Int32) × (Nat → Int32))) := match z with
  | (m_orbits_15, m_chains_16, v2_17, v3_18) => xb ((m_now 0) ≤ v3_18) (some (.inr (m_orbits_15, m_chains_16))) (xk (vp_in v3_18 8) (xn (xb (v2_17 = 0) (some ((0 : Int32))) (some (((1 : Int32) <<< ((m_figures_13 v3_18.toNatClampNeg) &&& 31))))) (fun (t_21 : Int32) => xb (v2_17 = 0) (some (.inl ((upd m_orbits_15 v3_18.toNatClampNeg ((m_orbits_15 v3_18.toNatClampNeg) ||| ((1 : Int32) <<< ((m_figures_13 v3_18.toNatClampNeg) &&& 31)))), (upd m_chains_16 v3_18.toNatClampNeg ((m_chains_16 v3_18.toNatClampNeg) ||| t_21)), (0 : Int32), (v3_18 + (1 : Int32))))) (xb ((m_figures_13 v3_18.toNatClampNeg) = v3_18) (some (.inl ((upd m_orbits_15 v3_18.toNatClampNeg ((m_orbits_15 v3_18.toNatClampNeg) ||| ((1 : Int32) <<< ((m_figures_13 v3_18.toNatClampNeg) &&& 31)))), (upd m_chains_16 v3_18.toNatClampNeg ((m_chains_16 v3_18.toNatClampNeg) ||| t_21)), (1 : Int32), (v3_18 + (1 : Int32))))) (some (.inl ((upd m_orbits_15 v3_18.toNatClampNeg ((m_orbits_15 v3_18.toNatClampNeg) ||| ((1 : Int32) <<< ((m_figures_13 v3_18.toNatClampNeg) &&& 31)))), (upd m_chains_16 v3_18.toNatClampNeg ((m_chains_16 v3_18.toNatClampNeg) ||| t_21)), (0 : Int32), (v3_18 + (1 : Int32)))))))))
noncomputable def f_X8_findChains_L2 (m_many : Int32) (m_now : (Nat → Int32)) (m_made : (Nat → Int32)) (z : (Nat → Int32) × (Nat → Int32) × (Nat → Int32) × Int32) : Option (((Nat → Int32) × (Nat → Int32) × (Nat → Int32) × Int32) ⊕ ((Nat → Int32) × (Nat → Int32) × (Nat → Int32))) := match z with
  | (m_figures_6, m_orbits_7, m_chains_8, v1_9) => xb (m_many ≤ v1_9) (some (.inr (m_figures_6, m_orbits_7, m_chains_8))) (xk (vp_in v1_9 40320) (xn (f_X8_codeAt m_now m_figures_6 (m_made v1_9.toNatClampNeg)) (fun (z : (Nat → Int32) × Int32) => match z with | (m_figures_13, r_14) => xn (xL (f_X8_findChains_L3 m_now m_figures_13) (m_orbits_7, m_chains_8, (1 : Int32), (0 : Int32))) (fun (z : (Nat → Int32) × (Nat → Int32)) => match z with | (m_orbits_19, m_chains_20) => some (.inl (m_figures_13, m_orbits_19, m_chains_20, (v1_9 + (1 : Int32))))))))
noncomputable def f_X8_findChains_L1  (z : (Nat → Int32) × (Nat → Int32) × Int32) : Option (((Nat → Int32) × (Nat → Int32) × Int32) ⊕ ((Nat → Int32) × (Nat → Int32))) := match z with
  | (m_orbits_1, m_chains_2, v1_3) => xb ((8 : Int32) ≤ v1_3) (some (.inr (m_orbits_1, m_chains_2))) (xk (vp_in v1_3 8) (some (.inl ((upd m_orbits_1 v1_3.toNatClampNeg (0 : Int32)), (upd m_chains_2 v1_3.toNatClampNeg (0 : Int32)), (v1_3 + (1 : Int32))))))
noncomputable def f_X8_findChains (m_now : (Nat → Int32)) (m_figures : (Nat → Int32)) (m_many : Int32) (m_made : (Nat → Int32)) (m_orbits : (Nat → Int32)) (m_chains : (Nat → Int32)) : Option ((Nat → Int32) × (Nat → Int32) × (Nat → Int32)) := xn (xL f_X8_findChains_L1 (m_orbits, m_chains, (0 : Int32))) (fun (z : (Nat → Int32) × (Nat → Int32)) => match z with | (m_orbits_4, m_chains_5) => xn (xL (f_X8_findChains_L2 m_many m_now m_made) (m_figures, m_orbits_4, m_chains_5, (0 : Int32))) (fun (z : (Nat → Int32) × (Nat → Int32) × (Nat → Int32)) => match z with | (m_figures_10, m_orbits_11, m_chains_12) => some (m_figures_10, m_orbits_11, m_chains_12)))
set_option maxHeartbeats 4000000 in
set_option maxRecDepth 100000 in
theorem c_X8_findChains (l : Launch) (dC : Nat → ClassId) (dI : Nat → Nat → Nat) (cI cZ cB cO : ClassId) (m_ad : Nat) (m_p : Nat → Nat) (m_now : (Nat → Int32)) (m_held : (Nat → Int32)) (m_past : (Nat → Int32)) (m_pasts : Int32) (m_refused : (Nat → Int32)) (m_figures : (Nat → Int32)) (m_isLaid : Int32) (m_many : Int32) (m_isMade : (Nat → Int32)) (m_made : (Nat → Int32)) (m_images : (Nat → Int32)) (m_orbits : (Nat → Int32)) (m_chains : (Nat → Int32)) (m_isCarried : (Nat → Int32)) (m_carried : (Nat → Int32)) (m_carriedMany : Int32) (m_isSorted : Int32) (m_leasts : (Nat → Int32)) (m_heads : (Nat → Int32)) (m_headFrom : (Nat → Int32)) (m_text : (Nat → Int32)) (m_typed : Int32) (m_at : Int32) (m_fault : Int32) (m_orders : Int32) (m_pointsThen : Int32) (m_letters : (Nat → Int32)) (m_numbers : (Nat → Int32)) (m_h : Int64) (o : (Nat → Int32) × (Nat → Int32) × (Nat → Int32)) (h : f_X8_findChains m_now m_figures m_many m_made m_orbits m_chains = some o) (sz : Nat) : Met l yX8_findChains (xW yX8_findChains cX8_findChains 4 none) { frames := 1, cells := 0, slots := 0, locals := 24 } (xPre dC dI (xT cI cZ cB cO) [.ref m_ad] (wM cI cZ cB cO m_ad m_p m_now m_held m_past m_pasts m_refused m_figures m_isLaid m_many m_isMade m_made m_images m_orbits m_chains m_isCarried m_carried m_carriedMany m_isSorted m_leasts m_heads m_headFrom m_text m_typed m_at m_fault m_orders m_pointsThen m_letters m_numbers m_h) sz) (xQv dC dI (xT cI cZ cB cO) (wM cI cZ cB cO m_ad m_p m_now m_held m_past m_pasts m_refused m_figures m_isLaid m_many m_isMade m_made m_images m_orbits m_chains m_isCarried m_carried m_carriedMany m_isSorted m_leasts m_heads m_headFrom m_text m_typed m_at m_fault m_orders m_pointsThen m_letters m_numbers m_h) (wM cI cZ cB cO m_ad m_p m_now m_held m_past m_pasts m_refused o.1 m_isLaid m_many m_isMade m_made m_images o.2.1 o.2.2 m_isCarried m_carried m_carriedMany m_isSorted m_leasts m_heads m_headFrom m_text m_typed m_at m_fault m_orders m_pointsThen m_letters m_numbers m_h) sz) 0 0 (va_A (wM cI cZ cB cO m_ad m_p m_now m_held m_past m_pasts m_refused m_figures m_isLaid m_many m_isMade m_made m_images m_orbits m_chains m_isCarried m_carried m_carriedMany m_isSorted m_leasts m_heads m_headFrom m_text m_typed m_at m_fault m_orders m_pointsThen m_letters m_numbers m_h) sz) := by
  refine x_met (by decide) (Nat.le_of_ble_eq_true rfl) ?_
  intro p e s m args below meth c R Q A hR hsz hA hQ hin C hw ls hl
  have hx := C.1
  have hb := C.2.1
  have hown := C.2.2.2.1
  have htb := C.2.2.2.2.1
  have hl : lv_has ls 4 [(0, .ref m_ad)] := hl
  refine lv_iconst (v := (0 : Int32)) hx hb dX8_findChains_0 (by decide) ?_
  refine lv_istore_n (lv' := [(1, .int (0 : Int32)), (0, .ref m_ad)]) hx hb dX8_findChains_1 rfl hl (by decide) rfl (fun ls hl => ?_)
  obtain ⟨z, hr, h⟩ := xn_i h
  refine xL_w (fun (z : (Nat → Int32) × (Nat → Int32) × Int32) => ∀ (H : Heap) (locs : List Loc) (ls : Array Slot), xWd (dC, dI) A s.heap H locs (wM cI cZ cB cO m_ad m_p m_now m_held m_past m_pasts m_refused m_figures m_isLaid m_many m_isMade m_made m_images z.1 z.2.1 m_isCarried m_carried m_carriedMany m_isSorted m_leasts m_heads m_headFrom m_text m_typed m_at m_fault m_orders m_pointsThen m_letters m_numbers m_h) → lv_has ls 4 [(0, .ref m_ad), (1, .int z.2.2)] → W p l e R s m args below meth c H locs 0 0 Q (F0 m 2 ls [])) (fun (z : (Nat → Int32) × (Nat → Int32)) => ∀ (H : Heap) (locs : List Loc) (ls : Array Slot), xWd (dC, dI) A s.heap H locs (wM cI cZ cB cO m_ad m_p m_now m_held m_past m_pasts m_refused m_figures m_isLaid m_many m_isMade m_made m_images z.1 z.2 m_isCarried m_carried m_carriedMany m_isSorted m_leasts m_heads m_headFrom m_text m_typed m_at m_fault m_orders m_pointsThen m_letters m_numbers m_h) → lv_has ls 4 [(0, .ref m_ad)] → W p l e R s m args below meth c H locs 0 0 Q (F0 m 28 ls [])) ?_ hr ?_ _ _ _ hw (lv_sub hl [1, 0] rfl)
  · rintro ⟨m_orbits_1, m_chains_2, v1_3⟩ o h k H locs ls hw hl
    have hw : xWd (dC, dI) A s.heap H locs (wM cI cZ cB cO m_ad m_p m_now m_held m_past m_pasts m_refused m_figures m_isLaid m_many m_isMade m_made m_images m_orbits_1 m_chains_2 m_isCarried m_carried m_carriedMany m_isSorted m_leasts m_heads m_headFrom m_text m_typed m_at m_fault m_orders m_pointsThen m_letters m_numbers m_h) := hw
    have hl : lv_has ls 4 [(0, .ref m_ad), (1, .int v1_3)] := hl
    refine lv_iload_n hx hb dX8_findChains_2 rfl (lv_at hl 1 rfl) ?_
    refine lv_bipush (v := (8 : Int32)) hx hb dX8_findChains_3 (by decide) ?_
    refine lv_icmp_ge (tgt := 28) hx hb dX8_findChains_5 (by decide) (fun b1 => ?_) (fun b1 => ?_)
    · replace h := xb_tt b1 h
      obtain rfl := Option.some.inj h
      exact k _ _ _ hw (lv_sub hl [0] rfl)
    · replace h := xb_ff b1 h
      refine lv_aload_n hx hb dX8_findChains_8 rfl (lv_at hl 0 rfl) ?_
      refine x_get (ci := 7) C hw inX8 rfl 11 (by decide) lkF_X8_36 rfl 0 rfl rfl dX8_findChains_9 ?_
      refine lv_iload_n hx hb dX8_findChains_12 rfl (lv_at hl 1 rfl) ?_
      refine lv_iconst (v := (0 : Int32)) hx hb dX8_findChains_13 (by decide) ?_
      obtain ⟨b2, h⟩ := xk_i h
      refine x_iast C hw 9 0 rfl rfl b2 dX8_findChains_14 (fun H locs hw => ?_)
      have hw : xWd (dC, dI) A s.heap H locs (wM cI cZ cB cO m_ad m_p m_now m_held m_past m_pasts m_refused m_figures m_isLaid m_many m_isMade m_made m_images (upd m_orbits_1 v1_3.toNatClampNeg (0 : Int32)) m_chains_2 m_isCarried m_carried m_carriedMany m_isSorted m_leasts m_heads m_headFrom m_text m_typed m_at m_fault m_orders m_pointsThen m_letters m_numbers m_h) := hw
      refine lv_aload_n hx hb dX8_findChains_15 rfl (lv_at hl 0 rfl) ?_
      refine x_get (ci := 7) C hw inX8 rfl 12 (by decide) lkF_X8_39 rfl 0 rfl rfl dX8_findChains_16 ?_
      refine lv_iload_n hx hb dX8_findChains_19 rfl (lv_at hl 1 rfl) ?_
      refine lv_iconst (v := (0 : Int32)) hx hb dX8_findChains_20 (by decide) ?_
      refine x_iast C hw 10 0 rfl rfl b2 dX8_findChains_21 (fun H locs hw => ?_)
      have hw : xWd (dC, dI) A s.heap H locs (wM cI cZ cB cO m_ad m_p m_now m_held m_past m_pasts m_refused m_figures m_isLaid m_many m_isMade m_made m_images (upd m_orbits_1 v1_3.toNatClampNeg (0 : Int32)) (upd m_chains_2 v1_3.toNatClampNeg (0 : Int32)) m_isCarried m_carried m_carriedMany m_isSorted m_leasts m_heads m_headFrom m_text m_typed m_at m_fault m_orders m_pointsThen m_letters m_numbers m_h) := hw
      refine lv_iinc (v := (v1_3 + (1 : Int32))) (lv' := [(1, .int (v1_3 + (1 : Int32))), (0, .ref m_ad)]) hx hb dX8_findChains_22 hl (k := 1) rfl (congrArg (fun q => v1_3 + q) (by decide)) (by decide) rfl (fun ls hl => ?_)
      refine lv_goto (tgt := 2) hx hb dX8_findChains_25 (by decide) ?_
      obtain rfl := Option.some.inj h
      exact k _ _ _ hw (lv_sub hl [1, 0] rfl)
  · obtain ⟨m_orbits_4, m_chains_5⟩ := z
    intro H locs ls hw hl
    have hw : xWd (dC, dI) A s.heap H locs (wM cI cZ cB cO m_ad m_p m_now m_held m_past m_pasts m_refused m_figures m_isLaid m_many m_isMade m_made m_images m_orbits_4 m_chains_5 m_isCarried m_carried m_carriedMany m_isSorted m_leasts m_heads m_headFrom m_text m_typed m_at m_fault m_orders m_pointsThen m_letters m_numbers m_h) := hw
    have hl : lv_has ls 4 [(0, .ref m_ad)] := hl
    refine lv_iconst (v := (0 : Int32)) hx hb dX8_findChains_28 (by decide) ?_
    refine lv_istore_n (lv' := [(1, .int (0 : Int32)), (0, .ref m_ad)]) hx hb dX8_findChains_29 rfl hl (by decide) rfl (fun ls hl => ?_)
    obtain ⟨z, hr, h⟩ := xn_i h
    refine xL_w (fun (z : (Nat → Int32) × (Nat → Int32) × (Nat → Int32) × Int32) => ∀ (H : Heap) (locs : List Loc) (ls : Array Slot), xWd (dC, dI) A s.heap H locs (wM cI cZ cB cO m_ad m_p m_now m_held m_past m_pasts m_refused z.1 m_isLaid m_many m_isMade m_made m_images z.2.1 z.2.2.1 m_isCarried m_carried m_carriedMany m_isSorted m_leasts m_heads m_headFrom m_text m_typed m_at m_fault m_orders m_pointsThen m_letters m_numbers m_h) → lv_has ls 4 [(0, .ref m_ad), (1, .int z.2.2.2)] → W p l e R s m args below meth c H locs 0 0 Q (F0 m 30 ls [])) (fun (z : (Nat → Int32) × (Nat → Int32) × (Nat → Int32)) => ∀ (H : Heap) (locs : List Loc) (ls : Array Slot), xWd (dC, dI) A s.heap H locs (wM cI cZ cB cO m_ad m_p m_now m_held m_past m_pasts m_refused z.1 m_isLaid m_many m_isMade m_made m_images z.2.1 z.2.2 m_isCarried m_carried m_carriedMany m_isSorted m_leasts m_heads m_headFrom m_text m_typed m_at m_fault m_orders m_pointsThen m_letters m_numbers m_h) → lv_has ls 4 [] → W p l e R s m args below meth c H locs 0 0 Q (F0 m 137 ls [])) ?_ hr ?_ _ _ _ hw (lv_sub hl [1, 0] rfl)
    · rintro ⟨m_figures_6, m_orbits_7, m_chains_8, v1_9⟩ o h k H locs ls hw hl
      have hw : xWd (dC, dI) A s.heap H locs (wM cI cZ cB cO m_ad m_p m_now m_held m_past m_pasts m_refused m_figures_6 m_isLaid m_many m_isMade m_made m_images m_orbits_7 m_chains_8 m_isCarried m_carried m_carriedMany m_isSorted m_leasts m_heads m_headFrom m_text m_typed m_at m_fault m_orders m_pointsThen m_letters m_numbers m_h) := hw
      have hl : lv_has ls 4 [(0, .ref m_ad), (1, .int v1_9)] := hl
      refine lv_iload_n hx hb dX8_findChains_30 rfl (lv_at hl 1 rfl) ?_
      refine lv_aload_n hx hb dX8_findChains_31 rfl (lv_at hl 0 rfl) ?_
      refine x_get (ci := 7) C hw inX8 rfl 7 (by decide) lkF_X8_111 rfl 0 rfl rfl dX8_findChains_32 ?_
      refine lv_icmp_ge (tgt := 137) hx hb dX8_findChains_35 (by decide) (fun b3 => ?_) (fun b3 => ?_)
      · replace h := xb_tt b3 h
        obtain rfl := Option.some.inj h
        exact k _ _ _ hw (lv_sub hl [] rfl)
      · replace h := xb_ff b3 h
        refine lv_aload_n hx hb dX8_findChains_38 rfl (lv_at hl 0 rfl) ?_
        refine lv_aload_n hx hb dX8_findChains_39 rfl (lv_at hl 0 rfl) ?_
        refine x_get (ci := 7) C hw inX8 rfl 9 (by decide) lkF_X8_30 rfl 0 rfl rfl dX8_findChains_40 ?_
        refine lv_iload_n hx hb dX8_findChains_43 rfl (lv_at hl 1 rfl) ?_
        obtain ⟨b4, h⟩ := xk_i h
        refine x_iald C hw 7 0 rfl rfl b4 dX8_findChains_44 ?_
        obtain ⟨⟨m_figures_13, r_14⟩, q5, h⟩ := xn_i h
        refine x_callVi (As := [.int (m_made v1_9.toNatClampNeg)]) (rest := []) C hw gc_X8_117 ⟨rfl, rfl, ds_X8_codeAt, (by rw [hR]; exact Nat.le_of_ble_eq_true rfl), (by rw [hR]; exact Nat.le_of_ble_eq_true rfl), Nat.zero_le _, Nat.zero_le _⟩ (c_X8_codeAt l dC dI cI cZ cB cO m_ad m_p m_now m_held m_past m_pasts m_refused m_figures_6 m_isLaid m_many m_isMade m_made m_images m_orbits_7 m_chains_8 m_isCarried m_carried m_carriedMany m_isSorted m_leasts m_heads m_headFrom m_text m_typed m_at m_fault m_orders m_pointsThen m_letters m_numbers m_h (m_made v1_9.toNatClampNeg) _ q5 _) [0, 1, 2, 3, 4, 5, 6, 7, 8, 9, 10, 11, 12, 13, 14, 15, 16, 17, 18] [] (by decide) rfl rfl (by decide) (by decide) rfl rfl rfl hl.1 rfl (Nat.le_of_ble_eq_true rfl) dX8_findChains_45 (fun H locs hw => ?_)
        have hw : xWd (dC, dI) A s.heap H locs (wM cI cZ cB cO m_ad m_p m_now m_held m_past m_pasts m_refused m_figures_13 m_isLaid m_many m_isMade m_made m_images m_orbits_7 m_chains_8 m_isCarried m_carried m_carriedMany m_isSorted m_leasts m_heads m_headFrom m_text m_typed m_at m_fault m_orders m_pointsThen m_letters m_numbers m_h) := hw
        refine lv_pop hx hb dX8_findChains_48 rfl ?_
        refine lv_iconst (v := (1 : Int32)) hx hb dX8_findChains_49 (by decide) ?_
        refine lv_istore_n (lv' := [(2, .int (1 : Int32)), (0, .ref m_ad), (1, .int v1_9)]) hx hb dX8_findChains_50 rfl hl (by decide) rfl (fun ls hl => ?_)
        refine lv_iconst (v := (0 : Int32)) hx hb dX8_findChains_51 (by decide) ?_
        refine lv_istore_n (lv' := [(3, .int (0 : Int32)), (2, .int (1 : Int32)), (0, .ref m_ad), (1, .int v1_9)]) hx hb dX8_findChains_52 rfl hl (by decide) rfl (fun ls hl => ?_)
        obtain ⟨z, hr, h⟩ := xn_i h
        refine xL_w (fun (z : (Nat → Int32) × (Nat → Int32) × Int32 × Int32) => ∀ (H : Heap) (locs : List Loc) (ls : Array Slot), xWd (dC, dI) A s.heap H locs (wM cI cZ cB cO m_ad m_p m_now m_held m_past m_pasts m_refused m_figures_13 m_isLaid m_many m_isMade m_made m_images z.1 z.2.1 m_isCarried m_carried m_carriedMany m_isSorted m_leasts m_heads m_headFrom m_text m_typed m_at m_fault m_orders m_pointsThen m_letters m_numbers m_h) → lv_has ls 4 [(0, .ref m_ad), (1, .int v1_9), (2, .int z.2.2.1), (3, .int z.2.2.2)] → W p l e R s m args below meth c H locs 0 0 Q (F0 m 53 ls [])) (fun (z : (Nat → Int32) × (Nat → Int32)) => ∀ (H : Heap) (locs : List Loc) (ls : Array Slot), xWd (dC, dI) A s.heap H locs (wM cI cZ cB cO m_ad m_p m_now m_held m_past m_pasts m_refused m_figures_13 m_isLaid m_many m_isMade m_made m_images z.1 z.2 m_isCarried m_carried m_carriedMany m_isSorted m_leasts m_heads m_headFrom m_text m_typed m_at m_fault m_orders m_pointsThen m_letters m_numbers m_h) → lv_has ls 4 [(0, .ref m_ad), (1, .int v1_9)] → W p l e R s m args below meth c H locs 0 0 Q (F0 m 131 ls [])) ?_ hr ?_ _ _ _ hw (lv_sub hl [2, 3, 1, 0] rfl)
        · rintro ⟨m_orbits_15, m_chains_16, v2_17, v3_18⟩ o h k H locs ls hw hl
          have hw : xWd (dC, dI) A s.heap H locs (wM cI cZ cB cO m_ad m_p m_now m_held m_past m_pasts m_refused m_figures_13 m_isLaid m_many m_isMade m_made m_images m_orbits_15 m_chains_16 m_isCarried m_carried m_carriedMany m_isSorted m_leasts m_heads m_headFrom m_text m_typed m_at m_fault m_orders m_pointsThen m_letters m_numbers m_h) := hw
          have hl : lv_has ls 4 [(0, .ref m_ad), (1, .int v1_9), (2, .int v2_17), (3, .int v3_18)] := hl
          refine lv_iload_n hx hb dX8_findChains_53 rfl (lv_at hl 3 rfl) ?_
          refine lv_aload_n hx hb dX8_findChains_54 rfl (lv_at hl 0 rfl) ?_
          refine x_get (ci := 7) C hw inX8 rfl 0 (by decide) lkF_X8_7 rfl 0 rfl rfl dX8_findChains_55 ?_
          refine lv_iconst (v := (0 : Int32)) hx hb dX8_findChains_58 (by decide) ?_
          refine x_ialk C hw 1 0 rfl rfl (k := 0) (by decide) (vp_in_iff.mpr (by decide)) dX8_findChains_59 ?_
          refine lv_icmp_ge (tgt := 131) hx hb dX8_findChains_60 (by decide) (fun b6 => ?_) (fun b6 => ?_)
          · replace h := xb_tt b6 h
            obtain rfl := Option.some.inj h
            exact k _ _ _ hw (lv_sub hl [0, 1] rfl)
          · replace h := xb_ff b6 h
            refine lv_aload_n hx hb dX8_findChains_63 rfl (lv_at hl 0 rfl) ?_
            refine x_get (ci := 7) C hw inX8 rfl 11 (by decide) lkF_X8_36 rfl 0 rfl rfl dX8_findChains_64 ?_
            refine lv_iload_n hx hb dX8_findChains_67 rfl (lv_at hl 3 rfl) ?_
            refine lv_dup2_11 hx hb dX8_findChains_68 rfl rfl ?_
            obtain ⟨b7, h⟩ := xk_i h
            refine x_iald C hw 9 0 rfl rfl b7 dX8_findChains_69 ?_
            refine lv_iconst (v := (1 : Int32)) hx hb dX8_findChains_70 (by decide) ?_
            refine lv_aload_n hx hb dX8_findChains_71 rfl (lv_at hl 0 rfl) ?_
            refine x_get (ci := 7) C hw inX8 rfl 5 (by decide) lkF_X8_22 rfl 0 rfl rfl dX8_findChains_72 ?_
            refine lv_iload_n hx hb dX8_findChains_75 rfl (lv_at hl 3 rfl) ?_
            refine x_iald C hw 5 0 rfl rfl b7 dX8_findChains_76 ?_
            refine lv_ishl hx hb dX8_findChains_77 ?_
            refine lv_ior hx hb dX8_findChains_78 ?_
            refine x_iast C hw 9 0 rfl rfl b7 dX8_findChains_79 (fun H locs hw => ?_)
            have hw : xWd (dC, dI) A s.heap H locs (wM cI cZ cB cO m_ad m_p m_now m_held m_past m_pasts m_refused m_figures_13 m_isLaid m_many m_isMade m_made m_images (upd m_orbits_15 v3_18.toNatClampNeg ((m_orbits_15 v3_18.toNatClampNeg) ||| ((1 : Int32) <<< ((m_figures_13 v3_18.toNatClampNeg) &&& 31)))) m_chains_16 m_isCarried m_carried m_carriedMany m_isSorted m_leasts m_heads m_headFrom m_text m_typed m_at m_fault m_orders m_pointsThen m_letters m_numbers m_h) := hw
            refine lv_aload_n hx hb dX8_findChains_80 rfl (lv_at hl 0 rfl) ?_
            refine x_get (ci := 7) C hw inX8 rfl 12 (by decide) lkF_X8_39 rfl 0 rfl rfl dX8_findChains_81 ?_
            refine lv_iload_n hx hb dX8_findChains_84 rfl (lv_at hl 3 rfl) ?_
            refine lv_dup2_11 hx hb dX8_findChains_85 rfl rfl ?_
            refine x_iald C hw 10 0 rfl rfl b7 dX8_findChains_86 ?_
            refine lv_iload_n hx hb dX8_findChains_87 rfl (lv_at hl 2 rfl) ?_
            obtain ⟨z, hj, h⟩ := xn_i h
            have k : ∀ (H : Heap) (locs : List Loc) (ls : Array Slot), xWd (dC, dI) A s.heap H locs (wM cI cZ cB cO m_ad m_p m_now m_held m_past m_pasts m_refused m_figures_13 m_isLaid m_many m_isMade m_made m_images (upd m_orbits_15 v3_18.toNatClampNeg ((m_orbits_15 v3_18.toNatClampNeg) ||| ((1 : Int32) <<< ((m_figures_13 v3_18.toNatClampNeg) &&& 31)))) m_chains_16 m_isCarried m_carried m_carriedMany m_isSorted m_leasts m_heads m_headFrom m_text m_typed m_at m_fault m_orders m_pointsThen m_letters m_numbers m_h) → lv_has ls 4 [(0, .ref m_ad), (1, .int v1_9), (2, .int v2_17), (3, .int v3_18)] → W p l e R s m args below meth c H locs 0 0 Q (F0 m 103 ls [.int z, .int (m_chains_16 v3_18.toNatClampNeg), .int v3_18, .ref (m_p 12)]) := by
              obtain ⟨t_21, hz⟩ : ∃ q, q = z := ⟨z, rfl⟩
              subst hz
              intro H locs ls hw hl
              refine lv_ior hx hb dX8_findChains_103 ?_
              refine x_iast C hw 10 0 rfl rfl b7 dX8_findChains_104 (fun H locs hw => ?_)
              have hw : xWd (dC, dI) A s.heap H locs (wM cI cZ cB cO m_ad m_p m_now m_held m_past m_pasts m_refused m_figures_13 m_isLaid m_many m_isMade m_made m_images (upd m_orbits_15 v3_18.toNatClampNeg ((m_orbits_15 v3_18.toNatClampNeg) ||| ((1 : Int32) <<< ((m_figures_13 v3_18.toNatClampNeg) &&& 31)))) (upd m_chains_16 v3_18.toNatClampNeg ((m_chains_16 v3_18.toNatClampNeg) ||| t_21)) m_isCarried m_carried m_carriedMany m_isSorted m_leasts m_heads m_headFrom m_text m_typed m_at m_fault m_orders m_pointsThen m_letters m_numbers m_h) := hw
              refine lv_iload_n hx hb dX8_findChains_105 rfl (lv_at hl 2 rfl) ?_
              refine lv_if_eq (tgt := 123) hx hb dX8_findChains_106 (by decide) (fun b9 => ?_) (fun b9 => ?_)
              · replace h := xb_tt b9 h
                refine lv_iconst (v := (0 : Int32)) hx hb dX8_findChains_123 (by decide) ?_
                refine lv_istore_n (lv' := [(2, .int (0 : Int32)), (0, .ref m_ad), (1, .int v1_9), (3, .int v3_18)]) hx hb dX8_findChains_124 rfl hl (by decide) rfl (fun ls hl => ?_)
                refine lv_iinc (v := (v3_18 + (1 : Int32))) (lv' := [(3, .int (v3_18 + (1 : Int32))), (2, .int (0 : Int32)), (0, .ref m_ad), (1, .int v1_9)]) hx hb dX8_findChains_125 hl (k := 3) rfl (congrArg (fun q => v3_18 + q) (by decide)) (by decide) rfl (fun ls hl => ?_)
                refine lv_goto (tgt := 53) hx hb dX8_findChains_128 (by decide) ?_
                obtain rfl := Option.some.inj h
                exact k _ _ _ hw (lv_sub hl [2, 3, 1, 0] rfl)
              · replace h := xb_ff b9 h
                refine lv_aload_n hx hb dX8_findChains_109 rfl (lv_at hl 0 rfl) ?_
                refine x_get (ci := 7) C hw inX8 rfl 5 (by decide) lkF_X8_22 rfl 0 rfl rfl dX8_findChains_110 ?_
                refine lv_iload_n hx hb dX8_findChains_113 rfl (lv_at hl 3 rfl) ?_
                refine x_iald C hw 5 0 rfl rfl b7 dX8_findChains_114 ?_
                refine lv_iload_n hx hb dX8_findChains_115 rfl (lv_at hl 3 rfl) ?_
                refine lv_icmp_ne (tgt := 123) hx hb dX8_findChains_116 (by decide) (fun b10 => ?_) (fun b10 => ?_)
                · replace h := xb_ff b10 h
                  refine lv_iconst (v := (0 : Int32)) hx hb dX8_findChains_123 (by decide) ?_
                  refine lv_istore_n (lv' := [(2, .int (0 : Int32)), (0, .ref m_ad), (1, .int v1_9), (3, .int v3_18)]) hx hb dX8_findChains_124 rfl hl (by decide) rfl (fun ls hl => ?_)
                  refine lv_iinc (v := (v3_18 + (1 : Int32))) (lv' := [(3, .int (v3_18 + (1 : Int32))), (2, .int (0 : Int32)), (0, .ref m_ad), (1, .int v1_9)]) hx hb dX8_findChains_125 hl (k := 3) rfl (congrArg (fun q => v3_18 + q) (by decide)) (by decide) rfl (fun ls hl => ?_)
                  refine lv_goto (tgt := 53) hx hb dX8_findChains_128 (by decide) ?_
                  obtain rfl := Option.some.inj h
                  exact k _ _ _ hw (lv_sub hl [2, 3, 1, 0] rfl)
                · replace h := xb_tt b10 h
                  refine lv_iconst (v := (1 : Int32)) hx hb dX8_findChains_119 (by decide) ?_
                  refine lv_goto (tgt := 124) hx hb dX8_findChains_120 (by decide) ?_
                  refine lv_istore_n (lv' := [(2, .int (1 : Int32)), (0, .ref m_ad), (1, .int v1_9), (3, .int v3_18)]) hx hb dX8_findChains_124 rfl hl (by decide) rfl (fun ls hl => ?_)
                  refine lv_iinc (v := (v3_18 + (1 : Int32))) (lv' := [(3, .int (v3_18 + (1 : Int32))), (2, .int (1 : Int32)), (0, .ref m_ad), (1, .int v1_9)]) hx hb dX8_findChains_125 hl (k := 3) rfl (congrArg (fun q => v3_18 + q) (by decide)) (by decide) rfl (fun ls hl => ?_)
                  refine lv_goto (tgt := 53) hx hb dX8_findChains_128 (by decide) ?_
                  obtain rfl := Option.some.inj h
                  exact k _ _ _ hw (lv_sub hl [2, 3, 1, 0] rfl)
            clear h
            have h := hj
            clear hj
            refine lv_if_eq (tgt := 102) hx hb dX8_findChains_88 (by decide) (fun b8 => ?_) (fun b8 => ?_)
            · replace h := xb_tt b8 h
              refine lv_iconst (v := (0 : Int32)) hx hb dX8_findChains_102 (by decide) ?_
              obtain rfl := Option.some.inj h
              exact k _ _ _ hw (lv_sub hl [0, 1, 2, 3] rfl)
            · replace h := xb_ff b8 h
              refine lv_iconst (v := (1 : Int32)) hx hb dX8_findChains_91 (by decide) ?_
              refine lv_aload_n hx hb dX8_findChains_92 rfl (lv_at hl 0 rfl) ?_
              refine x_get (ci := 7) C hw inX8 rfl 5 (by decide) lkF_X8_22 rfl 0 rfl rfl dX8_findChains_93 ?_
              refine lv_iload_n hx hb dX8_findChains_96 rfl (lv_at hl 3 rfl) ?_
              refine x_iald C hw 5 0 rfl rfl b7 dX8_findChains_97 ?_
              refine lv_ishl hx hb dX8_findChains_98 ?_
              refine lv_goto (tgt := 103) hx hb dX8_findChains_99 (by decide) ?_
              obtain rfl := Option.some.inj h
              exact k _ _ _ hw (lv_sub hl [0, 1, 2, 3] rfl)
        · obtain ⟨m_orbits_19, m_chains_20⟩ := z
          intro H locs ls hw hl
          have hw : xWd (dC, dI) A s.heap H locs (wM cI cZ cB cO m_ad m_p m_now m_held m_past m_pasts m_refused m_figures_13 m_isLaid m_many m_isMade m_made m_images m_orbits_19 m_chains_20 m_isCarried m_carried m_carriedMany m_isSorted m_leasts m_heads m_headFrom m_text m_typed m_at m_fault m_orders m_pointsThen m_letters m_numbers m_h) := hw
          have hl : lv_has ls 4 [(0, .ref m_ad), (1, .int v1_9)] := hl
          refine lv_iinc (v := (v1_9 + (1 : Int32))) (lv' := [(1, .int (v1_9 + (1 : Int32))), (0, .ref m_ad)]) hx hb dX8_findChains_131 hl (k := 1) rfl (congrArg (fun q => v1_9 + q) (by decide)) (by decide) rfl (fun ls hl => ?_)
          refine lv_goto (tgt := 30) hx hb dX8_findChains_134 (by decide) ?_
          obtain rfl := Option.some.inj h
          exact k _ _ _ hw (lv_sub hl [1, 0] rfl)
    · obtain ⟨m_figures_10, m_orbits_11, m_chains_12⟩ := z
      intro H locs ls hw hl
      have hw : xWd (dC, dI) A s.heap H locs (wM cI cZ cB cO m_ad m_p m_now m_held m_past m_pasts m_refused m_figures_10 m_isLaid m_many m_isMade m_made m_images m_orbits_11 m_chains_12 m_isCarried m_carried m_carriedMany m_isSorted m_leasts m_heads m_headFrom m_text m_typed m_at m_fault m_orders m_pointsThen m_letters m_numbers m_h) := hw
      have hl : lv_has ls 4 [] := hl
      obtain rfl := Option.some.inj h
      exact x_retv C hQ hA hw dX8_findChains_137
